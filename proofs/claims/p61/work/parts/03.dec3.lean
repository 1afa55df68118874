theorem dL_stall_35 : decode cL_stall 35 = .ok (.iload_n 2, 1) := by decide +kernel
theorem dL_stall_36 : decode cL_stall 36 = .ok (.invokevirtual 84, 3) := by decide +kernel
theorem dL_stall_39 : decode cL_stall 39 = .ok (.ifCond .eq 7, 3) := by decide +kernel
theorem dL_stall_42 : decode cL_stall 42 = .ok (.iconst 1, 1) := by decide +kernel
theorem dL_stall_43 : decode cL_stall 43 = .ok (.goto 99, 3) := by decide +kernel
theorem dL_stall_46 : decode cL_stall 46 = .ok (.iconst 0, 1) := by decide +kernel
theorem dL_stall_47 : decode cL_stall 47 = .ok (.goto 95, 3) := by decide +kernel
theorem dL_stall_50 : decode cL_stall 50 = .ok (.iload_n 1, 1) := by decide +kernel
theorem dL_stall_51 : decode cL_stall 51 = .ok (.bipush 15, 2) := by decide +kernel
theorem dL_stall_53 : decode cL_stall 53 = .ok (.if_icmp .ne 11, 3) := by decide +kernel
theorem dL_stall_56 : decode cL_stall 56 = .ok (.aload_n 0, 1) := by decide +kernel
theorem dL_stall_57 : decode cL_stall 57 = .ok (.iload_n 2, 1) := by decide +kernel
theorem dL_stall_58 : decode cL_stall 58 = .ok (.invokevirtual 87, 3) := by decide +kernel
theorem dL_stall_61 : decode cL_stall 61 = .ok (.goto 81, 3) := by decide +kernel
theorem dL_stall_64 : decode cL_stall 64 = .ok (.iload_n 1, 1) := by decide +kernel
theorem dL_stall_65 : decode cL_stall 65 = .ok (.bipush 16, 2) := by decide +kernel
theorem dL_stall_67 : decode cL_stall 67 = .ok (.if_icmp .ne 11, 3) := by decide +kernel
theorem dL_stall_70 : decode cL_stall 70 = .ok (.aload_n 0, 1) := by decide +kernel
theorem dL_stall_71 : decode cL_stall 71 = .ok (.iload_n 2, 1) := by decide +kernel
theorem dL_stall_72 : decode cL_stall 72 = .ok (.invokevirtual 90, 3) := by decide +kernel
theorem dL_stall_75 : decode cL_stall 75 = .ok (.goto 67, 3) := by decide +kernel
theorem dL_stall_78 : decode cL_stall 78 = .ok (.iload_n 1, 1) := by decide +kernel
theorem dL_stall_79 : decode cL_stall 79 = .ok (.bipush 17, 2) := by decide +kernel
theorem dL_stall_81 : decode cL_stall 81 = .ok (.if_icmp .ne 11, 3) := by decide +kernel
theorem dL_stall_84 : decode cL_stall 84 = .ok (.aload_n 0, 1) := by decide +kernel
theorem dL_stall_85 : decode cL_stall 85 = .ok (.iload_n 2, 1) := by decide +kernel
theorem dL_stall_86 : decode cL_stall 86 = .ok (.invokevirtual 93, 3) := by decide +kernel
theorem dL_stall_89 : decode cL_stall 89 = .ok (.goto 53, 3) := by decide +kernel
theorem dL_stall_92 : decode cL_stall 92 = .ok (.iload_n 1, 1) := by decide +kernel
theorem dL_stall_93 : decode cL_stall 93 = .ok (.bipush 18, 2) := by decide +kernel
theorem dL_stall_95 : decode cL_stall 95 = .ok (.if_icmp .ne 11, 3) := by decide +kernel
theorem dL_stall_98 : decode cL_stall 98 = .ok (.aload_n 0, 1) := by decide +kernel
theorem dL_stall_99 : decode cL_stall 99 = .ok (.iload_n 2, 1) := by decide +kernel
theorem dL_stall_100 : decode cL_stall 100 = .ok (.invokevirtual 96, 3) := by decide +kernel
theorem dL_stall_103 : decode cL_stall 103 = .ok (.goto 39, 3) := by decide +kernel
theorem dL_stall_106 : decode cL_stall 106 = .ok (.iload_n 1, 1) := by decide +kernel
theorem dL_stall_107 : decode cL_stall 107 = .ok (.bipush 19, 2) := by decide +kernel
theorem dL_stall_109 : decode cL_stall 109 = .ok (.if_icmp .ne 11, 3) := by decide +kernel
theorem dL_stall_112 : decode cL_stall 112 = .ok (.aload_n 0, 1) := by decide +kernel
theorem dL_stall_113 : decode cL_stall 113 = .ok (.iload_n 2, 1) := by decide +kernel
theorem dL_stall_114 : decode cL_stall 114 = .ok (.invokevirtual 99, 3) := by decide +kernel
theorem dL_stall_117 : decode cL_stall 117 = .ok (.goto 25, 3) := by decide +kernel
theorem dL_stall_120 : decode cL_stall 120 = .ok (.iload_n 1, 1) := by decide +kernel
theorem dL_stall_121 : decode cL_stall 121 = .ok (.bipush 20, 2) := by decide +kernel
theorem dL_stall_123 : decode cL_stall 123 = .ok (.if_icmp .ne 11, 3) := by decide +kernel
theorem dL_stall_126 : decode cL_stall 126 = .ok (.aload_n 0, 1) := by decide +kernel
theorem dL_stall_127 : decode cL_stall 127 = .ok (.iload_n 2, 1) := by decide +kernel
theorem dL_stall_128 : decode cL_stall 128 = .ok (.invokevirtual 102, 3) := by decide +kernel
theorem dL_stall_131 : decode cL_stall 131 = .ok (.goto 11, 3) := by decide +kernel
theorem dL_stall_134 : decode cL_stall 134 = .ok (.aload_n 0, 1) := by decide +kernel
theorem dL_stall_135 : decode cL_stall 135 = .ok (.iload_n 2, 1) := by decide +kernel
theorem dL_stall_136 : decode cL_stall 136 = .ok (.iload_n 3, 1) := by decide +kernel
theorem dL_stall_137 : decode cL_stall 137 = .ok (.iload 4, 2) := by decide +kernel
theorem dL_stall_139 : decode cL_stall 139 = .ok (.invokevirtual 105, 3) := by decide +kernel
theorem dL_stall_142 : decode cL_stall 142 = .ok (.ireturn, 1) := by decide +kernel
theorem dL_child_0 : decode cL_child 0 = .ok (.iload_n 1, 1) := by decide +kernel
theorem dL_child_1 : decode cL_child 1 = .ok (.bipush 22, 2) := by decide +kernel
theorem dL_child_3 : decode cL_child 3 = .ok (.if_icmp .ne 19, 3) := by decide +kernel
theorem dL_child_6 : decode cL_child 6 = .ok (.aload_n 0, 1) := by decide +kernel
theorem dL_child_7 : decode cL_child 7 = .ok (.iload_n 2, 1) := by decide +kernel
theorem dL_child_8 : decode cL_child 8 = .ok (.invokevirtual 108, 3) := by decide +kernel
theorem dL_child_11 : decode cL_child 11 = .ok (.ifCond .eq 7, 3) := by decide +kernel
theorem dL_child_14 : decode cL_child 14 = .ok (.iconst 1, 1) := by decide +kernel
theorem dL_child_15 : decode cL_child 15 = .ok (.goto 132, 3) := by decide +kernel
theorem dL_child_18 : decode cL_child 18 = .ok (.iconst 0, 1) := by decide +kernel
theorem dL_child_19 : decode cL_child 19 = .ok (.goto 128, 3) := by decide +kernel
theorem dL_child_22 : decode cL_child 22 = .ok (.iload_n 1, 1) := by decide +kernel
theorem dL_child_23 : decode cL_child 23 = .ok (.bipush 23, 2) := by decide +kernel
theorem dL_child_25 : decode cL_child 25 = .ok (.if_icmp .ne 11, 3) := by decide +kernel
theorem dL_child_28 : decode cL_child 28 = .ok (.aload_n 0, 1) := by decide +kernel
theorem dL_child_29 : decode cL_child 29 = .ok (.iload_n 2, 1) := by decide +kernel
theorem dL_child_30 : decode cL_child 30 = .ok (.invokevirtual 111, 3) := by decide +kernel
theorem dL_child_33 : decode cL_child 33 = .ok (.goto 114, 3) := by decide +kernel
theorem dL_child_36 : decode cL_child 36 = .ok (.iload_n 1, 1) := by decide +kernel
theorem dL_child_37 : decode cL_child 37 = .ok (.bipush 24, 2) := by decide +kernel
theorem dL_child_39 : decode cL_child 39 = .ok (.if_icmp .ne 11, 3) := by decide +kernel
theorem dL_child_42 : decode cL_child 42 = .ok (.aload_n 0, 1) := by decide +kernel
theorem dL_child_43 : decode cL_child 43 = .ok (.iload_n 2, 1) := by decide +kernel
theorem dL_child_44 : decode cL_child 44 = .ok (.invokevirtual 114, 3) := by decide +kernel
theorem dL_child_47 : decode cL_child 47 = .ok (.goto 100, 3) := by decide +kernel
theorem dL_child_50 : decode cL_child 50 = .ok (.iload_n 1, 1) := by decide +kernel
theorem dL_child_51 : decode cL_child 51 = .ok (.bipush 25, 2) := by decide +kernel
theorem dL_child_53 : decode cL_child 53 = .ok (.if_icmp .ne 11, 3) := by decide +kernel
theorem dL_child_56 : decode cL_child 56 = .ok (.aload_n 0, 1) := by decide +kernel
theorem dL_child_57 : decode cL_child 57 = .ok (.iload_n 2, 1) := by decide +kernel
theorem dL_child_58 : decode cL_child 58 = .ok (.invokevirtual 117, 3) := by decide +kernel
theorem dL_child_61 : decode cL_child 61 = .ok (.goto 86, 3) := by decide +kernel
theorem dL_child_64 : decode cL_child 64 = .ok (.iload_n 1, 1) := by decide +kernel
theorem dL_child_65 : decode cL_child 65 = .ok (.bipush 26, 2) := by decide +kernel
theorem dL_child_67 : decode cL_child 67 = .ok (.if_icmp .ne 19, 3) := by decide +kernel
theorem dL_child_70 : decode cL_child 70 = .ok (.aload_n 0, 1) := by decide +kernel
theorem dL_child_71 : decode cL_child 71 = .ok (.iload_n 2, 1) := by decide +kernel
theorem dL_child_72 : decode cL_child 72 = .ok (.invokevirtual 120, 3) := by decide +kernel
theorem dL_child_75 : decode cL_child 75 = .ok (.ifCond .eq 7, 3) := by decide +kernel
theorem dL_child_78 : decode cL_child 78 = .ok (.iconst 1, 1) := by decide +kernel
theorem dL_child_79 : decode cL_child 79 = .ok (.goto 68, 3) := by decide +kernel
theorem dL_child_82 : decode cL_child 82 = .ok (.iconst 0, 1) := by decide +kernel
theorem dL_child_83 : decode cL_child 83 = .ok (.goto 64, 3) := by decide +kernel
theorem dL_child_86 : decode cL_child 86 = .ok (.iload_n 1, 1) := by decide +kernel
theorem dL_child_87 : decode cL_child 87 = .ok (.bipush 27, 2) := by decide +kernel
theorem dL_child_89 : decode cL_child 89 = .ok (.if_icmp .ne 11, 3) := by decide +kernel
theorem dL_child_92 : decode cL_child 92 = .ok (.aload_n 0, 1) := by decide +kernel
theorem dL_child_93 : decode cL_child 93 = .ok (.iload_n 2, 1) := by decide +kernel
theorem dL_child_94 : decode cL_child 94 = .ok (.invokevirtual 123, 3) := by decide +kernel
theorem dL_child_97 : decode cL_child 97 = .ok (.goto 50, 3) := by decide +kernel
theorem dL_child_100 : decode cL_child 100 = .ok (.iload_n 1, 1) := by decide +kernel
theorem dL_child_101 : decode cL_child 101 = .ok (.bipush 28, 2) := by decide +kernel
theorem dL_child_103 : decode cL_child 103 = .ok (.if_icmp .ne 11, 3) := by decide +kernel
theorem dL_child_106 : decode cL_child 106 = .ok (.aload_n 0, 1) := by decide +kernel
theorem dL_child_107 : decode cL_child 107 = .ok (.iload_n 2, 1) := by decide +kernel
theorem dL_child_108 : decode cL_child 108 = .ok (.invokevirtual 126, 3) := by decide +kernel
theorem dL_child_111 : decode cL_child 111 = .ok (.goto 36, 3) := by decide +kernel
theorem dL_child_114 : decode cL_child 114 = .ok (.iload_n 1, 1) := by decide +kernel
theorem dL_child_115 : decode cL_child 115 = .ok (.bipush 29, 2) := by decide +kernel
theorem dL_child_117 : decode cL_child 117 = .ok (.if_icmp .ne 11, 3) := by decide +kernel
theorem dL_child_120 : decode cL_child 120 = .ok (.aload_n 0, 1) := by decide +kernel
theorem dL_child_121 : decode cL_child 121 = .ok (.iload_n 2, 1) := by decide +kernel
theorem dL_child_122 : decode cL_child 122 = .ok (.invokevirtual 129, 3) := by decide +kernel
theorem dL_child_125 : decode cL_child 125 = .ok (.goto 22, 3) := by decide +kernel
theorem dL_child_128 : decode cL_child 128 = .ok (.iload_n 1, 1) := by decide +kernel
theorem dL_child_129 : decode cL_child 129 = .ok (.bipush 30, 2) := by decide +kernel
theorem dL_child_131 : decode cL_child 131 = .ok (.if_icmp .ne 11, 3) := by decide +kernel
theorem dL_child_134 : decode cL_child 134 = .ok (.aload_n 0, 1) := by decide +kernel
theorem dL_child_135 : decode cL_child 135 = .ok (.iload_n 2, 1) := by decide +kernel
theorem dL_child_136 : decode cL_child 136 = .ok (.invokevirtual 132, 3) := by decide +kernel
theorem dL_child_139 : decode cL_child 139 = .ok (.goto 8, 3) := by decide +kernel
theorem dL_child_142 : decode cL_child 142 = .ok (.aload_n 0, 1) := by decide +kernel
theorem dL_child_143 : decode cL_child 143 = .ok (.iload_n 2, 1) := by decide +kernel
theorem dL_child_144 : decode cL_child 144 = .ok (.invokevirtual 135, 3) := by decide +kernel
theorem dL_child_147 : decode cL_child 147 = .ok (.ireturn, 1) := by decide +kernel
theorem dL_rest_0 : decode cL_rest 0 = .ok (.iload_n 1, 1) := by decide +kernel
theorem dL_rest_1 : decode cL_rest 1 = .ok (.bipush 32, 2) := by decide +kernel
theorem dL_rest_3 : decode cL_rest 3 = .ok (.if_icmp .ne 11, 3) := by decide +kernel
theorem dL_rest_6 : decode cL_rest 6 = .ok (.aload_n 0, 1) := by decide +kernel
theorem dL_rest_7 : decode cL_rest 7 = .ok (.iload_n 2, 1) := by decide +kernel
theorem dL_rest_8 : decode cL_rest 8 = .ok (.invokevirtual 138, 3) := by decide +kernel
theorem dL_rest_11 : decode cL_rest 11 = .ok (.goto 77, 3) := by decide +kernel
theorem dL_rest_14 : decode cL_rest 14 = .ok (.iload_n 1, 1) := by decide +kernel
theorem dL_rest_15 : decode cL_rest 15 = .ok (.bipush 33, 2) := by decide +kernel
theorem dL_rest_17 : decode cL_rest 17 = .ok (.if_icmp .ne 11, 3) := by decide +kernel
theorem dL_rest_20 : decode cL_rest 20 = .ok (.aload_n 0, 1) := by decide +kernel
theorem dL_rest_21 : decode cL_rest 21 = .ok (.iload_n 2, 1) := by decide +kernel
theorem dL_rest_22 : decode cL_rest 22 = .ok (.invokevirtual 141, 3) := by decide +kernel
theorem dL_rest_25 : decode cL_rest 25 = .ok (.goto 63, 3) := by decide +kernel
theorem dL_rest_28 : decode cL_rest 28 = .ok (.iload_n 1, 1) := by decide +kernel
theorem dL_rest_29 : decode cL_rest 29 = .ok (.bipush 34, 2) := by decide +kernel
theorem dL_rest_31 : decode cL_rest 31 = .ok (.if_icmp .ne 12, 3) := by decide +kernel
theorem dL_rest_34 : decode cL_rest 34 = .ok (.aload_n 0, 1) := by decide +kernel
theorem dL_rest_35 : decode cL_rest 35 = .ok (.iload_n 2, 1) := by decide +kernel
theorem dL_rest_36 : decode cL_rest 36 = .ok (.iload_n 3, 1) := by decide +kernel
theorem dL_rest_37 : decode cL_rest 37 = .ok (.invokevirtual 144, 3) := by decide +kernel
theorem dL_rest_40 : decode cL_rest 40 = .ok (.goto 48, 3) := by decide +kernel
theorem dL_rest_43 : decode cL_rest 43 = .ok (.iload_n 1, 1) := by decide +kernel
theorem dL_rest_44 : decode cL_rest 44 = .ok (.bipush 35, 2) := by decide +kernel
theorem dL_rest_46 : decode cL_rest 46 = .ok (.if_icmp .ne 12, 3) := by decide +kernel
theorem dL_rest_49 : decode cL_rest 49 = .ok (.aload_n 0, 1) := by decide +kernel
theorem dL_rest_50 : decode cL_rest 50 = .ok (.iload_n 2, 1) := by decide +kernel
theorem dL_rest_51 : decode cL_rest 51 = .ok (.i2c, 1) := by decide +kernel
theorem dL_rest_52 : decode cL_rest 52 = .ok (.invokevirtual 147, 3) := by decide +kernel
theorem dL_rest_55 : decode cL_rest 55 = .ok (.goto 33, 3) := by decide +kernel
theorem dL_rest_58 : decode cL_rest 58 = .ok (.iload_n 1, 1) := by decide +kernel
theorem dL_rest_59 : decode cL_rest 59 = .ok (.bipush 36, 2) := by decide +kernel
theorem dL_rest_61 : decode cL_rest 61 = .ok (.if_icmp .ne 10, 3) := by decide +kernel
theorem dL_rest_64 : decode cL_rest 64 = .ok (.aload_n 0, 1) := by decide +kernel
theorem dL_rest_65 : decode cL_rest 65 = .ok (.invokevirtual 151, 3) := by decide +kernel
theorem dL_rest_68 : decode cL_rest 68 = .ok (.goto 20, 3) := by decide +kernel
theorem dL_rest_71 : decode cL_rest 71 = .ok (.iload_n 1, 1) := by decide +kernel
theorem dL_rest_72 : decode cL_rest 72 = .ok (.bipush 37, 2) := by decide +kernel
theorem dL_rest_74 : decode cL_rest 74 = .ok (.if_icmp .ne 10, 3) := by decide +kernel
theorem dL_rest_77 : decode cL_rest 77 = .ok (.aload_n 0, 1) := by decide +kernel
theorem dL_rest_78 : decode cL_rest 78 = .ok (.invokevirtual 154, 3) := by decide +kernel
theorem dL_rest_81 : decode cL_rest 81 = .ok (.goto 7, 3) := by decide +kernel
theorem dL_rest_84 : decode cL_rest 84 = .ok (.aload_n 0, 1) := by decide +kernel
theorem dL_rest_85 : decode cL_rest 85 = .ok (.invokevirtual 157, 3) := by decide +kernel
theorem dL_rest_88 : decode cL_rest 88 = .ok (.ireturn, 1) := by decide +kernel
theorem dL_seen_0 : decode cL_seen 0 = .ok (.ldc2_w 160, 3) := by decide +kernel
theorem dL_seen_3 : decode cL_seen 3 = .ok (.lstore_n 1, 1) := by decide +kernel
theorem dL_seen_4 : decode cL_seen 4 = .ok (.ldc2_w 162, 3) := by decide +kernel
theorem dL_seen_7 : decode cL_seen 7 = .ok (.ldc2_w 162, 3) := by decide +kernel
theorem dL_seen_10 : decode cL_seen 10 = .ok (.ldc2_w 162, 3) := by decide +kernel
theorem dL_seen_13 : decode cL_seen 13 = .ok (.ldc2_w 162, 3) := by decide +kernel
theorem dL_seen_16 : decode cL_seen 16 = .ok (.ldc2_w 162, 3) := by decide +kernel
theorem dL_seen_19 : decode cL_seen 19 = .ok (.lload_n 1, 1) := by decide +kernel
theorem dL_seen_20 : decode cL_seen 20 = .ok (.lmul, 1) := by decide +kernel
theorem dL_seen_21 : decode cL_seen 21 = .ok (.aload_n 0, 1) := by decide +kernel
theorem dL_seen_22 : decode cL_seen 22 = .ok (.invokevirtual 164, 3) := by decide +kernel
theorem dL_seen_25 : decode cL_seen 25 = .ok (.i2l, 1) := by decide +kernel
theorem dL_seen_26 : decode cL_seen 26 = .ok (.ladd, 1) := by decide +kernel
theorem dL_seen_27 : decode cL_seen 27 = .ok (.lmul, 1) := by decide +kernel
theorem dL_seen_28 : decode cL_seen 28 = .ok (.aload_n 0, 1) := by decide +kernel
theorem dL_seen_29 : decode cL_seen 29 = .ok (.invokevirtual 167, 3) := by decide +kernel
theorem dL_seen_32 : decode cL_seen 32 = .ok (.i2l, 1) := by decide +kernel
theorem dL_seen_33 : decode cL_seen 33 = .ok (.ladd, 1) := by decide +kernel
theorem dL_seen_34 : decode cL_seen 34 = .ok (.lmul, 1) := by decide +kernel
theorem dL_seen_35 : decode cL_seen 35 = .ok (.aload_n 0, 1) := by decide +kernel
theorem dL_seen_36 : decode cL_seen 36 = .ok (.invokevirtual 170, 3) := by decide +kernel
theorem dL_seen_39 : decode cL_seen 39 = .ok (.i2l, 1) := by decide +kernel
theorem dL_seen_40 : decode cL_seen 40 = .ok (.ladd, 1) := by decide +kernel
theorem dL_seen_41 : decode cL_seen 41 = .ok (.lmul, 1) := by decide +kernel
theorem dL_seen_42 : decode cL_seen 42 = .ok (.aload_n 0, 1) := by decide +kernel
theorem dL_seen_43 : decode cL_seen 43 = .ok (.invokevirtual 173, 3) := by decide +kernel
theorem dL_seen_46 : decode cL_seen 46 = .ok (.i2l, 1) := by decide +kernel
theorem dL_seen_47 : decode cL_seen 47 = .ok (.ladd, 1) := by decide +kernel
theorem dL_seen_48 : decode cL_seen 48 = .ok (.lmul, 1) := by decide +kernel
theorem dL_seen_49 : decode cL_seen 49 = .ok (.aload_n 0, 1) := by decide +kernel
theorem dL_seen_50 : decode cL_seen 50 = .ok (.invokevirtual 176, 3) := by decide +kernel
theorem dL_seen_53 : decode cL_seen 53 = .ok (.i2l, 1) := by decide +kernel
theorem dL_seen_54 : decode cL_seen 54 = .ok (.ladd, 1) := by decide +kernel
theorem dL_seen_55 : decode cL_seen 55 = .ok (.lstore_n 1, 1) := by decide +kernel
theorem dL_seen_56 : decode cL_seen 56 = .ok (.ldc2_w 162, 3) := by decide +kernel
theorem dL_seen_59 : decode cL_seen 59 = .ok (.ldc2_w 162, 3) := by decide +kernel
theorem dL_seen_62 : decode cL_seen 62 = .ok (.ldc2_w 162, 3) := by decide +kernel
theorem dL_seen_65 : decode cL_seen 65 = .ok (.ldc2_w 162, 3) := by decide +kernel
theorem dL_seen_68 : decode cL_seen 68 = .ok (.lload_n 1, 1) := by decide +kernel
theorem dL_seen_69 : decode cL_seen 69 = .ok (.lmul, 1) := by decide +kernel
theorem dL_seen_70 : decode cL_seen 70 = .ok (.aload_n 0, 1) := by decide +kernel
theorem dL_seen_71 : decode cL_seen 71 = .ok (.invokevirtual 179, 3) := by decide +kernel
theorem dL_seen_74 : decode cL_seen 74 = .ok (.i2l, 1) := by decide +kernel
theorem dL_seen_75 : decode cL_seen 75 = .ok (.ladd, 1) := by decide +kernel
theorem dL_seen_76 : decode cL_seen 76 = .ok (.lmul, 1) := by decide +kernel
theorem dL_seen_77 : decode cL_seen 77 = .ok (.aload_n 0, 1) := by decide +kernel
theorem dL_seen_78 : decode cL_seen 78 = .ok (.invokevirtual 182, 3) := by decide +kernel
theorem dL_seen_81 : decode cL_seen 81 = .ok (.i2l, 1) := by decide +kernel
theorem dL_seen_82 : decode cL_seen 82 = .ok (.ladd, 1) := by decide +kernel
theorem dL_seen_83 : decode cL_seen 83 = .ok (.lmul, 1) := by decide +kernel
theorem dL_seen_84 : decode cL_seen 84 = .ok (.aload_n 0, 1) := by decide +kernel
theorem dL_seen_85 : decode cL_seen 85 = .ok (.invokevirtual 185, 3) := by decide +kernel
theorem dL_seen_88 : decode cL_seen 88 = .ok (.i2l, 1) := by decide +kernel
theorem dL_seen_89 : decode cL_seen 89 = .ok (.ladd, 1) := by decide +kernel
theorem dL_seen_90 : decode cL_seen 90 = .ok (.lmul, 1) := by decide +kernel
theorem dL_seen_91 : decode cL_seen 91 = .ok (.aload_n 0, 1) := by decide +kernel
theorem dL_seen_92 : decode cL_seen 92 = .ok (.invokevirtual 188, 3) := by decide +kernel
theorem dL_seen_95 : decode cL_seen 95 = .ok (.i2l, 1) := by decide +kernel
theorem dL_seen_96 : decode cL_seen 96 = .ok (.ladd, 1) := by decide +kernel
theorem dL_seen_97 : decode cL_seen 97 = .ok (.lstore_n 1, 1) := by decide +kernel
theorem dL_seen_98 : decode cL_seen 98 = .ok (.iconst 0, 1) := by decide +kernel
theorem dL_seen_99 : decode cL_seen 99 = .ok (.istore_n 3, 1) := by decide +kernel
theorem dL_seen_100 : decode cL_seen 100 = .ok (.iload_n 3, 1) := by decide +kernel
theorem dL_seen_101 : decode cL_seen 101 = .ok (.aload_n 0, 1) := by decide +kernel
theorem dL_seen_102 : decode cL_seen 102 = .ok (.invokevirtual 185, 3) := by decide +kernel
theorem dL_seen_105 : decode cL_seen 105 = .ok (.if_icmp .ge 81, 3) := by decide +kernel
theorem dL_seen_108 : decode cL_seen 108 = .ok (.bipush 12, 2) := by decide +kernel
theorem dL_seen_110 : decode cL_seen 110 = .ok (.istore 4, 2) := by decide +kernel
theorem dL_seen_112 : decode cL_seen 112 = .ok (.iload 4, 2) := by decide +kernel
theorem dL_seen_114 : decode cL_seen 114 = .ok (.bipush 21, 2) := by decide +kernel
theorem dL_seen_116 : decode cL_seen 116 = .ok (.if_icmp .ge 27, 3) := by decide +kernel
theorem dL_seen_119 : decode cL_seen 119 = .ok (.ldc2_w 162, 3) := by decide +kernel
theorem dL_seen_122 : decode cL_seen 122 = .ok (.lload_n 1, 1) := by decide +kernel
theorem dL_seen_123 : decode cL_seen 123 = .ok (.lmul, 1) := by decide +kernel
theorem dL_seen_124 : decode cL_seen 124 = .ok (.aload_n 0, 1) := by decide +kernel
theorem dL_seen_125 : decode cL_seen 125 = .ok (.iload 4, 2) := by decide +kernel
theorem dL_seen_127 : decode cL_seen 127 = .ok (.iload_n 3, 1) := by decide +kernel
theorem dL_seen_128 : decode cL_seen 128 = .ok (.iconst 0, 1) := by decide +kernel
theorem dL_seen_129 : decode cL_seen 129 = .ok (.iconst 0, 1) := by decide +kernel
theorem dL_seen_130 : decode cL_seen 130 = .ok (.iconst 0, 1) := by decide +kernel
theorem dL_seen_131 : decode cL_seen 131 = .ok (.invokestatic 191, 3) := by decide +kernel
theorem dL_seen_134 : decode cL_seen 134 = .ok (.i2l, 1) := by decide +kernel
theorem dL_seen_135 : decode cL_seen 135 = .ok (.ladd, 1) := by decide +kernel
theorem dL_seen_136 : decode cL_seen 136 = .ok (.lstore_n 1, 1) := by decide +kernel
theorem dL_seen_137 : decode cL_seen 137 = .ok (.iinc 4 1, 3) := by decide +kernel
theorem dL_seen_140 : decode cL_seen 140 = .ok (.goto (-28), 3) := by decide +kernel
theorem dL_seen_143 : decode cL_seen 143 = .ok (.iconst 0, 1) := by decide +kernel
theorem dL_seen_144 : decode cL_seen 144 = .ok (.istore 4, 2) := by decide +kernel
theorem dL_seen_146 : decode cL_seen 146 = .ok (.iload 4, 2) := by decide +kernel
theorem dL_seen_148 : decode cL_seen 148 = .ok (.bipush 16, 2) := by decide +kernel
theorem dL_seen_150 : decode cL_seen 150 = .ok (.if_icmp .ge 30, 3) := by decide +kernel
theorem dL_seen_153 : decode cL_seen 153 = .ok (.ldc2_w 162, 3) := by decide +kernel
theorem dL_seen_156 : decode cL_seen 156 = .ok (.lload_n 1, 1) := by decide +kernel
theorem dL_seen_157 : decode cL_seen 157 = .ok (.lmul, 1) := by decide +kernel
theorem dL_seen_158 : decode cL_seen 158 = .ok (.aload_n 0, 1) := by decide +kernel
theorem dL_seen_159 : decode cL_seen 159 = .ok (.iload_n 3, 1) := by decide +kernel
theorem dL_seen_160 : decode cL_seen 160 = .ok (.iload 4, 2) := by decide +kernel
theorem dL_seen_162 : decode cL_seen 162 = .ok (.iconst 4, 1) := by decide +kernel
theorem dL_seen_163 : decode cL_seen 163 = .ok (.idiv, 1) := by decide +kernel
theorem dL_seen_164 : decode cL_seen 164 = .ok (.iload 4, 2) := by decide +kernel
theorem dL_seen_166 : decode cL_seen 166 = .ok (.iconst 4, 1) := by decide +kernel
theorem dL_seen_167 : decode cL_seen 167 = .ok (.irem, 1) := by decide +kernel
theorem dL_seen_168 : decode cL_seen 168 = .ok (.invokevirtual 105, 3) := by decide +kernel
theorem dL_seen_171 : decode cL_seen 171 = .ok (.i2l, 1) := by decide +kernel
theorem dL_seen_172 : decode cL_seen 172 = .ok (.ladd, 1) := by decide +kernel
theorem dL_seen_173 : decode cL_seen 173 = .ok (.lstore_n 1, 1) := by decide +kernel
theorem dL_seen_174 : decode cL_seen 174 = .ok (.iinc 4 1, 3) := by decide +kernel
theorem dL_seen_177 : decode cL_seen 177 = .ok (.goto (-31), 3) := by decide +kernel
theorem dL_seen_180 : decode cL_seen 180 = .ok (.iinc 3 1, 3) := by decide +kernel
theorem dL_seen_183 : decode cL_seen 183 = .ok (.goto (-83), 3) := by decide +kernel
theorem dL_seen_186 : decode cL_seen 186 = .ok (.iconst 0, 1) := by decide +kernel
theorem dL_seen_187 : decode cL_seen 187 = .ok (.istore_n 3, 1) := by decide +kernel
theorem dL_seen_188 : decode cL_seen 188 = .ok (.iload_n 3, 1) := by decide +kernel
theorem dL_seen_189 : decode cL_seen 189 = .ok (.aload_n 0, 1) := by decide +kernel
theorem dL_seen_190 : decode cL_seen 190 = .ok (.invokevirtual 188, 3) := by decide +kernel
theorem dL_seen_193 : decode cL_seen 193 = .ok (.if_icmp .ge 44, 3) := by decide +kernel
theorem dL_seen_196 : decode cL_seen 196 = .ok (.bipush 22, 2) := by decide +kernel
theorem dL_seen_198 : decode cL_seen 198 = .ok (.istore 4, 2) := by decide +kernel
theorem dL_seen_200 : decode cL_seen 200 = .ok (.iload 4, 2) := by decide +kernel
theorem dL_seen_202 : decode cL_seen 202 = .ok (.bipush 29, 2) := by decide +kernel
theorem dL_seen_204 : decode cL_seen 204 = .ok (.if_icmp .ge 27, 3) := by decide +kernel
theorem dL_seen_207 : decode cL_seen 207 = .ok (.ldc2_w 162, 3) := by decide +kernel
theorem dL_seen_210 : decode cL_seen 210 = .ok (.lload_n 1, 1) := by decide +kernel
theorem dL_seen_211 : decode cL_seen 211 = .ok (.lmul, 1) := by decide +kernel
theorem dL_seen_212 : decode cL_seen 212 = .ok (.aload_n 0, 1) := by decide +kernel
theorem dL_seen_213 : decode cL_seen 213 = .ok (.iload 4, 2) := by decide +kernel
theorem dL_seen_215 : decode cL_seen 215 = .ok (.iload_n 3, 1) := by decide +kernel
theorem dL_seen_216 : decode cL_seen 216 = .ok (.iconst 0, 1) := by decide +kernel
theorem dL_seen_217 : decode cL_seen 217 = .ok (.iconst 0, 1) := by decide +kernel
theorem dL_seen_218 : decode cL_seen 218 = .ok (.iconst 0, 1) := by decide +kernel
theorem dL_seen_219 : decode cL_seen 219 = .ok (.invokestatic 191, 3) := by decide +kernel
theorem dL_seen_222 : decode cL_seen 222 = .ok (.i2l, 1) := by decide +kernel
theorem dL_seen_223 : decode cL_seen 223 = .ok (.ladd, 1) := by decide +kernel
theorem dL_seen_224 : decode cL_seen 224 = .ok (.lstore_n 1, 1) := by decide +kernel
theorem dL_seen_225 : decode cL_seen 225 = .ok (.iinc 4 1, 3) := by decide +kernel
theorem dL_seen_228 : decode cL_seen 228 = .ok (.goto (-28), 3) := by decide +kernel
theorem dL_seen_231 : decode cL_seen 231 = .ok (.iinc 3 1, 3) := by decide +kernel
theorem dL_seen_234 : decode cL_seen 234 = .ok (.goto (-46), 3) := by decide +kernel
theorem dL_seen_237 : decode cL_seen 237 = .ok (.iconst 0, 1) := by decide +kernel
theorem dL_seen_238 : decode cL_seen 238 = .ok (.istore_n 3, 1) := by decide +kernel
theorem dL_seen_239 : decode cL_seen 239 = .ok (.iload_n 3, 1) := by decide +kernel
theorem dL_seen_240 : decode cL_seen 240 = .ok (.bipush 10, 2) := by decide +kernel
theorem dL_seen_242 : decode cL_seen 242 = .ok (.if_icmp .ge 22, 3) := by decide +kernel
theorem dL_seen_245 : decode cL_seen 245 = .ok (.ldc2_w 162, 3) := by decide +kernel
theorem dL_seen_248 : decode cL_seen 248 = .ok (.lload_n 1, 1) := by decide +kernel
theorem dL_seen_249 : decode cL_seen 249 = .ok (.lmul, 1) := by decide +kernel
theorem dL_seen_250 : decode cL_seen 250 = .ok (.aload_n 0, 1) := by decide +kernel
theorem dL_seen_251 : decode cL_seen 251 = .ok (.iload_n 3, 1) := by decide +kernel
theorem dL_seen_252 : decode cL_seen 252 = .ok (.invokevirtual 141, 3) := by decide +kernel
theorem dL_seen_255 : decode cL_seen 255 = .ok (.i2l, 1) := by decide +kernel
theorem dL_seen_256 : decode cL_seen 256 = .ok (.ladd, 1) := by decide +kernel
theorem dL_seen_257 : decode cL_seen 257 = .ok (.lstore_n 1, 1) := by decide +kernel
theorem dL_seen_258 : decode cL_seen 258 = .ok (.iinc 3 1, 3) := by decide +kernel
theorem dL_seen_261 : decode cL_seen 261 = .ok (.goto (-22), 3) := by decide +kernel
theorem dL_seen_264 : decode cL_seen 264 = .ok (.iconst 0, 1) := by decide +kernel
theorem dL_seen_265 : decode cL_seen 265 = .ok (.istore_n 3, 1) := by decide +kernel
theorem dL_seen_266 : decode cL_seen 266 = .ok (.iload_n 3, 1) := by decide +kernel
theorem dL_seen_267 : decode cL_seen 267 = .ok (.iconst 4, 1) := by decide +kernel
theorem dL_seen_268 : decode cL_seen 268 = .ok (.if_icmp .ge 22, 3) := by decide +kernel
theorem dL_seen_271 : decode cL_seen 271 = .ok (.ldc2_w 162, 3) := by decide +kernel
theorem dL_seen_274 : decode cL_seen 274 = .ok (.lload_n 1, 1) := by decide +kernel
theorem dL_seen_275 : decode cL_seen 275 = .ok (.lmul, 1) := by decide +kernel
theorem dL_seen_276 : decode cL_seen 276 = .ok (.aload_n 0, 1) := by decide +kernel
theorem dL_seen_277 : decode cL_seen 277 = .ok (.iload_n 3, 1) := by decide +kernel
theorem dL_seen_278 : decode cL_seen 278 = .ok (.invokevirtual 138, 3) := by decide +kernel
theorem dL_seen_281 : decode cL_seen 281 = .ok (.i2l, 1) := by decide +kernel
theorem dL_seen_282 : decode cL_seen 282 = .ok (.ladd, 1) := by decide +kernel
theorem dL_seen_283 : decode cL_seen 283 = .ok (.lstore_n 1, 1) := by decide +kernel
theorem dL_seen_284 : decode cL_seen 284 = .ok (.iinc 3 1, 3) := by decide +kernel
theorem dL_seen_287 : decode cL_seen 287 = .ok (.goto (-21), 3) := by decide +kernel
theorem dL_seen_290 : decode cL_seen 290 = .ok (.lload_n 1, 1) := by decide +kernel
theorem dL_seen_291 : decode cL_seen 291 = .ok (.lreturn, 1) := by decide +kernel
theorem dL_far_0 : decode cL_far 0 = .ok (.iload_n 0, 1) := by decide +kernel
theorem dL_far_1 : decode cL_far 1 = .ok (.ifCond .ne 9, 3) := by decide +kernel
theorem dL_far_4 : decode cL_far 4 = .ok (.iload_n 1, 1) := by decide +kernel
theorem dL_far_5 : decode cL_far 5 = .ok (.iconst 1, 1) := by decide +kernel
theorem dL_far_6 : decode cL_far 6 = .ok (.isub, 1) := by decide +kernel
theorem dL_far_7 : decode cL_far 7 = .ok (.goto 26, 3) := by decide +kernel
theorem dL_far_10 : decode cL_far 10 = .ok (.iload_n 0, 1) := by decide +kernel
theorem dL_far_11 : decode cL_far 11 = .ok (.iconst 1, 1) := by decide +kernel
theorem dL_far_12 : decode cL_far 12 = .ok (.if_icmp .ne 9, 3) := by decide +kernel
theorem dL_far_15 : decode cL_far 15 = .ok (.iload_n 2, 1) := by decide +kernel
theorem dL_far_16 : decode cL_far 16 = .ok (.iconst 1, 1) := by decide +kernel
theorem dL_far_17 : decode cL_far 17 = .ok (.iadd, 1) := by decide +kernel
theorem dL_far_18 : decode cL_far 18 = .ok (.goto 15, 3) := by decide +kernel
theorem dL_far_21 : decode cL_far 21 = .ok (.iload_n 0, 1) := by decide +kernel
theorem dL_far_22 : decode cL_far 22 = .ok (.iconst 2, 1) := by decide +kernel
theorem dL_far_23 : decode cL_far 23 = .ok (.if_icmp .ne 8, 3) := by decide +kernel
theorem dL_far_26 : decode cL_far 26 = .ok (.ldc 194, 2) := by decide +kernel
theorem dL_far_28 : decode cL_far 28 = .ok (.goto 5, 3) := by decide +kernel
theorem dL_far_31 : decode cL_far 31 = .ok (.ldc 7, 2) := by decide +kernel
theorem dL_far_33 : decode cL_far 33 = .ok (.ireturn, 1) := by decide +kernel
theorem dL_refusesOne_0 : decode cL_refusesOne 0 = .ok (.iload_n 1, 1) := by decide +kernel
theorem dL_refusesOne_1 : decode cL_refusesOne 1 = .ok (.iconst 0, 1) := by decide +kernel
theorem dL_refusesOne_2 : decode cL_refusesOne 2 = .ok (.aload_n 0, 1) := by decide +kernel
theorem dL_refusesOne_3 : decode cL_refusesOne 3 = .ok (.invokevirtual 185, 3) := by decide +kernel
theorem dL_refusesOne_6 : decode cL_refusesOne 6 = .ok (.iconst 1, 1) := by decide +kernel
theorem dL_refusesOne_7 : decode cL_refusesOne 7 = .ok (.isub, 1) := by decide +kernel
theorem dL_refusesOne_8 : decode cL_refusesOne 8 = .ok (.invokestatic 195, 3) := by decide +kernel
theorem dL_refusesOne_11 : decode cL_refusesOne 11 = .ok (.istore_n 2, 1) := by decide +kernel
theorem dL_refusesOne_12 : decode cL_refusesOne 12 = .ok (.iload_n 1, 1) := by decide +kernel
theorem dL_refusesOne_13 : decode cL_refusesOne 13 = .ok (.iconst 0, 1) := by decide +kernel
theorem dL_refusesOne_14 : decode cL_refusesOne 14 = .ok (.iconst 3, 1) := by decide +kernel
theorem dL_refusesOne_15 : decode cL_refusesOne 15 = .ok (.invokestatic 195, 3) := by decide +kernel
theorem dL_refusesOne_18 : decode cL_refusesOne 18 = .ok (.istore_n 3, 1) := by decide +kernel
theorem dL_refusesOne_19 : decode cL_refusesOne 19 = .ok (.aload_n 0, 1) := by decide +kernel
theorem dL_refusesOne_20 : decode cL_refusesOne 20 = .ok (.iconst 0, 1) := by decide +kernel
theorem dL_refusesOne_21 : decode cL_refusesOne 21 = .ok (.iload_n 1, 1) := by decide +kernel
theorem dL_refusesOne_22 : decode cL_refusesOne 22 = .ok (.iconst 0, 1) := by decide +kernel
theorem dL_refusesOne_23 : decode cL_refusesOne 23 = .ok (.bipush 11, 2) := by decide +kernel
theorem dL_refusesOne_25 : decode cL_refusesOne 25 = .ok (.invokestatic 195, 3) := by decide +kernel
theorem dL_refusesOne_28 : decode cL_refusesOne 28 = .ok (.iconst 0, 1) := by decide +kernel
theorem dL_refusesOne_29 : decode cL_refusesOne 29 = .ok (.iconst 0, 1) := by decide +kernel
theorem dL_refusesOne_30 : decode cL_refusesOne 30 = .ok (.iconst 0, 1) := by decide +kernel
theorem dL_refusesOne_31 : decode cL_refusesOne 31 = .ok (.invokestatic 191, 3) := by decide +kernel
theorem dL_refusesOne_34 : decode cL_refusesOne 34 = .ok (.sipush (-2011), 3) := by decide +kernel
theorem dL_refusesOne_37 : decode cL_refusesOne 37 = .ok (.if_icmp .ne 331, 3) := by decide +kernel
theorem dL_refusesOne_40 : decode cL_refusesOne 40 = .ok (.aload_n 0, 1) := by decide +kernel
theorem dL_refusesOne_41 : decode cL_refusesOne 41 = .ok (.iconst 0, 1) := by decide +kernel
theorem dL_refusesOne_42 : decode cL_refusesOne 42 = .ok (.iconst 0, 1) := by decide +kernel
theorem dL_refusesOne_43 : decode cL_refusesOne 43 = .ok (.iload_n 1, 1) := by decide +kernel
theorem dL_refusesOne_44 : decode cL_refusesOne 44 = .ok (.iconst 0, 1) := by decide +kernel
theorem dL_refusesOne_45 : decode cL_refusesOne 45 = .ok (.iconst 4, 1) := by decide +kernel
theorem dL_refusesOne_46 : decode cL_refusesOne 46 = .ok (.invokestatic 195, 3) := by decide +kernel
theorem dL_refusesOne_49 : decode cL_refusesOne 49 = .ok (.iconst 0, 1) := by decide +kernel
theorem dL_refusesOne_50 : decode cL_refusesOne 50 = .ok (.iconst 0, 1) := by decide +kernel
theorem dL_refusesOne_51 : decode cL_refusesOne 51 = .ok (.invokestatic 191, 3) := by decide +kernel
theorem dL_refusesOne_54 : decode cL_refusesOne 54 = .ok (.sipush (-2011), 3) := by decide +kernel
theorem dL_refusesOne_57 : decode cL_refusesOne 57 = .ok (.if_icmp .ne 311, 3) := by decide +kernel
theorem dL_refusesOne_60 : decode cL_refusesOne 60 = .ok (.aload_n 0, 1) := by decide +kernel
theorem dL_refusesOne_61 : decode cL_refusesOne 61 = .ok (.iconst 0, 1) := by decide +kernel
theorem dL_refusesOne_62 : decode cL_refusesOne 62 = .ok (.bipush 11, 2) := by decide +kernel
theorem dL_refusesOne_64 : decode cL_refusesOne 64 = .ok (.iconst 4, 1) := by decide +kernel
theorem dL_refusesOne_65 : decode cL_refusesOne 65 = .ok (.iload_n 1, 1) := by decide +kernel
theorem dL_refusesOne_66 : decode cL_refusesOne 66 = .ok (.iconst 1, 1) := by decide +kernel
theorem dL_refusesOne_67 : decode cL_refusesOne 67 = .ok (.bipush 9, 2) := by decide +kernel
theorem dL_refusesOne_69 : decode cL_refusesOne 69 = .ok (.invokestatic 195, 3) := by decide +kernel
theorem dL_refusesOne_72 : decode cL_refusesOne 72 = .ok (.iconst 1, 1) := by decide +kernel
theorem dL_refusesOne_73 : decode cL_refusesOne 73 = .ok (.invokestatic 191, 3) := by decide +kernel
theorem dL_refusesOne_76 : decode cL_refusesOne 76 = .ok (.sipush (-2012), 3) := by decide +kernel
theorem dL_refusesOne_79 : decode cL_refusesOne 79 = .ok (.if_icmp .ne 289, 3) := by decide +kernel
theorem dL_refusesOne_82 : decode cL_refusesOne 82 = .ok (.aload_n 0, 1) := by decide +kernel
theorem dL_refusesOne_83 : decode cL_refusesOne 83 = .ok (.bipush 7, 2) := by decide +kernel
theorem dL_refusesOne_85 : decode cL_refusesOne 85 = .ok (.bipush 100, 2) := by decide +kernel
theorem dL_refusesOne_87 : decode cL_refusesOne 87 = .ok (.iload_n 1, 1) := by decide +kernel
theorem dL_refusesOne_88 : decode cL_refusesOne 88 = .ok (.iconst 0, 1) := by decide +kernel
theorem dL_refusesOne_89 : decode cL_refusesOne 89 = .ok (.iconst 4, 1) := by decide +kernel
theorem dL_refusesOne_90 : decode cL_refusesOne 90 = .ok (.invokestatic 195, 3) := by decide +kernel
theorem dL_refusesOne_93 : decode cL_refusesOne 93 = .ok (.iconst 0, 1) := by decide +kernel
theorem dL_refusesOne_94 : decode cL_refusesOne 94 = .ok (.iconst 0, 1) := by decide +kernel
theorem dL_refusesOne_95 : decode cL_refusesOne 95 = .ok (.invokestatic 191, 3) := by decide +kernel
theorem dL_refusesOne_98 : decode cL_refusesOne 98 = .ok (.sipush (-2011), 3) := by decide +kernel
theorem dL_refusesOne_101 : decode cL_refusesOne 101 = .ok (.if_icmp .ne 267, 3) := by decide +kernel
theorem dL_refusesOne_104 : decode cL_refusesOne 104 = .ok (.aload_n 0, 1) := by decide +kernel
theorem dL_refusesOne_105 : decode cL_refusesOne 105 = .ok (.bipush 7, 2) := by decide +kernel
theorem dL_refusesOne_107 : decode cL_refusesOne 107 = .ok (.bipush 100, 2) := by decide +kernel
theorem dL_refusesOne_109 : decode cL_refusesOne 109 = .ok (.iconst 0, 1) := by decide +kernel
theorem dL_refusesOne_110 : decode cL_refusesOne 110 = .ok (.iload_n 3, 1) := by decide +kernel
theorem dL_refusesOne_111 : decode cL_refusesOne 111 = .ok (.iconst 0, 1) := by decide +kernel
theorem dL_refusesOne_112 : decode cL_refusesOne 112 = .ok (.invokestatic 191, 3) := by decide +kernel
theorem dL_refusesOne_115 : decode cL_refusesOne 115 = .ok (.sipush (-2011), 3) := by decide +kernel
theorem dL_refusesOne_118 : decode cL_refusesOne 118 = .ok (.if_icmp .ne 250, 3) := by decide +kernel
theorem dL_refusesOne_121 : decode cL_refusesOne 121 = .ok (.aload_n 0, 1) := by decide +kernel
theorem dL_refusesOne_122 : decode cL_refusesOne 122 = .ok (.bipush 7, 2) := by decide +kernel
theorem dL_refusesOne_124 : decode cL_refusesOne 124 = .ok (.iload_n 1, 1) := by decide +kernel
theorem dL_refusesOne_125 : decode cL_refusesOne 125 = .ok (.iconst 0, 1) := by decide +kernel
theorem dL_refusesOne_126 : decode cL_refusesOne 126 = .ok (.bipush 99, 2) := by decide +kernel
theorem dL_refusesOne_128 : decode cL_refusesOne 128 = .ok (.invokestatic 195, 3) := by decide +kernel
theorem dL_refusesOne_131 : decode cL_refusesOne 131 = .ok (.iconst 4, 1) := by decide +kernel
theorem dL_refusesOne_132 : decode cL_refusesOne 132 = .ok (.iconst 3, 1) := by decide +kernel
theorem dL_refusesOne_133 : decode cL_refusesOne 133 = .ok (.iconst 0, 1) := by decide +kernel
theorem dL_refusesOne_134 : decode cL_refusesOne 134 = .ok (.invokestatic 191, 3) := by decide +kernel
theorem dL_refusesOne_137 : decode cL_refusesOne 137 = .ok (.sipush (-2012), 3) := by decide +kernel
theorem dL_refusesOne_140 : decode cL_refusesOne 140 = .ok (.if_icmp .ne 228, 3) := by decide +kernel
theorem dL_refusesOne_143 : decode cL_refusesOne 143 = .ok (.aload_n 0, 1) := by decide +kernel
theorem dL_refusesOne_144 : decode cL_refusesOne 144 = .ok (.bipush 8, 2) := by decide +kernel
theorem dL_refusesOne_146 : decode cL_refusesOne 146 = .ok (.iload_n 1, 1) := by decide +kernel
theorem dL_refusesOne_147 : decode cL_refusesOne 147 = .ok (.iconst 0, 1) := by decide +kernel
theorem dL_refusesOne_148 : decode cL_refusesOne 148 = .ok (.bipush 9, 2) := by decide +kernel
theorem dL_refusesOne_150 : decode cL_refusesOne 150 = .ok (.invokestatic 195, 3) := by decide +kernel
theorem dL_refusesOne_153 : decode cL_refusesOne 153 = .ok (.bipush 10, 2) := by decide +kernel
theorem dL_refusesOne_155 : decode cL_refusesOne 155 = .ok (.iconst 0, 1) := by decide +kernel
theorem dL_refusesOne_156 : decode cL_refusesOne 156 = .ok (.iconst 0, 1) := by decide +kernel
theorem dL_refusesOne_157 : decode cL_refusesOne 157 = .ok (.invokestatic 191, 3) := by decide +kernel
theorem dL_refusesOne_160 : decode cL_refusesOne 160 = .ok (.sipush (-2011), 3) := by decide +kernel
theorem dL_refusesOne_163 : decode cL_refusesOne 163 = .ok (.if_icmp .ne 205, 3) := by decide +kernel
theorem dL_refusesOne_166 : decode cL_refusesOne 166 = .ok (.aload_n 0, 1) := by decide +kernel
theorem dL_refusesOne_167 : decode cL_refusesOne 167 = .ok (.bipush 8, 2) := by decide +kernel
theorem dL_refusesOne_169 : decode cL_refusesOne 169 = .ok (.bipush 9, 2) := by decide +kernel
theorem dL_refusesOne_171 : decode cL_refusesOne 171 = .ok (.iload_n 1, 1) := by decide +kernel
theorem dL_refusesOne_172 : decode cL_refusesOne 172 = .ok (.iconst 0, 1) := by decide +kernel
theorem dL_refusesOne_173 : decode cL_refusesOne 173 = .ok (.bipush 9, 2) := by decide +kernel
theorem dL_refusesOne_175 : decode cL_refusesOne 175 = .ok (.invokestatic 195, 3) := by decide +kernel
theorem dL_refusesOne_178 : decode cL_refusesOne 178 = .ok (.iconst 0, 1) := by decide +kernel
theorem dL_refusesOne_179 : decode cL_refusesOne 179 = .ok (.iconst 0, 1) := by decide +kernel
theorem dL_refusesOne_180 : decode cL_refusesOne 180 = .ok (.invokestatic 191, 3) := by decide +kernel
theorem dL_refusesOne_183 : decode cL_refusesOne 183 = .ok (.sipush (-2012), 3) := by decide +kernel
theorem dL_refusesOne_186 : decode cL_refusesOne 186 = .ok (.if_icmp .ne 182, 3) := by decide +kernel
theorem dL_refusesOne_189 : decode cL_refusesOne 189 = .ok (.aload_n 0, 1) := by decide +kernel
theorem dL_refusesOne_190 : decode cL_refusesOne 190 = .ok (.bipush 9, 2) := by decide +kernel
theorem dL_refusesOne_192 : decode cL_refusesOne 192 = .ok (.iload_n 1, 1) := by decide +kernel
theorem dL_refusesOne_193 : decode cL_refusesOne 193 = .ok (.iconst 1, 1) := by decide +kernel
theorem dL_refusesOne_194 : decode cL_refusesOne 194 = .ok (.bipush 40, 2) := by decide +kernel
theorem dL_refusesOne_196 : decode cL_refusesOne 196 = .ok (.invokestatic 195, 3) := by decide +kernel
theorem dL_refusesOne_199 : decode cL_refusesOne 199 = .ok (.iconst 0, 1) := by decide +kernel
theorem dL_refusesOne_200 : decode cL_refusesOne 200 = .ok (.iconst 0, 1) := by decide +kernel
theorem dL_refusesOne_201 : decode cL_refusesOne 201 = .ok (.iconst 0, 1) := by decide +kernel
theorem dL_refusesOne_202 : decode cL_refusesOne 202 = .ok (.invokestatic 191, 3) := by decide +kernel
theorem dL_refusesOne_205 : decode cL_refusesOne 205 = .ok (.sipush (-2012), 3) := by decide +kernel
theorem dL_refusesOne_208 : decode cL_refusesOne 208 = .ok (.if_icmp .ne 160, 3) := by decide +kernel
theorem dL_refusesOne_211 : decode cL_refusesOne 211 = .ok (.aload_n 0, 1) := by decide +kernel
theorem dL_refusesOne_212 : decode cL_refusesOne 212 = .ok (.bipush 30, 2) := by decide +kernel
theorem dL_refusesOne_214 : decode cL_refusesOne 214 = .ok (.iload_n 1, 1) := by decide +kernel
theorem dL_refusesOne_215 : decode cL_refusesOne 215 = .ok (.iconst 0, 1) := by decide +kernel
theorem dL_refusesOne_216 : decode cL_refusesOne 216 = .ok (.bipush 11, 2) := by decide +kernel
theorem dL_refusesOne_218 : decode cL_refusesOne 218 = .ok (.invokestatic 195, 3) := by decide +kernel
theorem dL_refusesOne_221 : decode cL_refusesOne 221 = .ok (.iconst 0, 1) := by decide +kernel
theorem dL_refusesOne_222 : decode cL_refusesOne 222 = .ok (.iconst 0, 1) := by decide +kernel
theorem dL_refusesOne_223 : decode cL_refusesOne 223 = .ok (.iconst 0, 1) := by decide +kernel
theorem dL_refusesOne_224 : decode cL_refusesOne 224 = .ok (.invokestatic 191, 3) := by decide +kernel
theorem dL_refusesOne_227 : decode cL_refusesOne 227 = .ok (.sipush (-2011), 3) := by decide +kernel
theorem dL_refusesOne_230 : decode cL_refusesOne 230 = .ok (.if_icmp .ne 138, 3) := by decide +kernel
theorem dL_refusesOne_233 : decode cL_refusesOne 233 = .ok (.aload_n 0, 1) := by decide +kernel
theorem dL_refusesOne_234 : decode cL_refusesOne 234 = .ok (.bipush 31, 2) := by decide +kernel
theorem dL_refusesOne_236 : decode cL_refusesOne 236 = .ok (.iload_n 1, 1) := by decide +kernel
theorem dL_refusesOne_237 : decode cL_refusesOne 237 = .ok (.iconst 0, 1) := by decide +kernel
theorem dL_refusesOne_238 : decode cL_refusesOne 238 = .ok (.bipush 11, 2) := by decide +kernel
theorem dL_refusesOne_240 : decode cL_refusesOne 240 = .ok (.invokestatic 195, 3) := by decide +kernel
theorem dL_refusesOne_243 : decode cL_refusesOne 243 = .ok (.iconst 0, 1) := by decide +kernel
theorem dL_refusesOne_244 : decode cL_refusesOne 244 = .ok (.iconst 0, 1) := by decide +kernel
theorem dL_refusesOne_245 : decode cL_refusesOne 245 = .ok (.iconst 0, 1) := by decide +kernel
theorem dL_refusesOne_246 : decode cL_refusesOne 246 = .ok (.invokestatic 191, 3) := by decide +kernel
theorem dL_refusesOne_249 : decode cL_refusesOne 249 = .ok (.sipush (-2011), 3) := by decide +kernel
theorem dL_refusesOne_252 : decode cL_refusesOne 252 = .ok (.if_icmp .ne 116, 3) := by decide +kernel
theorem dL_refusesOne_255 : decode cL_refusesOne 255 = .ok (.aload_n 0, 1) := by decide +kernel
theorem dL_refusesOne_256 : decode cL_refusesOne 256 = .ok (.bipush 32, 2) := by decide +kernel
theorem dL_refusesOne_258 : decode cL_refusesOne 258 = .ok (.iload_n 3, 1) := by decide +kernel
theorem dL_refusesOne_259 : decode cL_refusesOne 259 = .ok (.iconst 0, 1) := by decide +kernel
theorem dL_refusesOne_260 : decode cL_refusesOne 260 = .ok (.iconst 0, 1) := by decide +kernel
theorem dL_refusesOne_261 : decode cL_refusesOne 261 = .ok (.iconst 0, 1) := by decide +kernel
theorem dL_refusesOne_262 : decode cL_refusesOne 262 = .ok (.invokestatic 191, 3) := by decide +kernel
theorem dL_refusesOne_265 : decode cL_refusesOne 265 = .ok (.sipush (-2011), 3) := by decide +kernel
theorem dL_refusesOne_268 : decode cL_refusesOne 268 = .ok (.if_icmp .ne 100, 3) := by decide +kernel
theorem dL_refusesOne_271 : decode cL_refusesOne 271 = .ok (.aload_n 0, 1) := by decide +kernel
theorem dL_refusesOne_272 : decode cL_refusesOne 272 = .ok (.bipush 33, 2) := by decide +kernel
theorem dL_refusesOne_274 : decode cL_refusesOne 274 = .ok (.iload_n 1, 1) := by decide +kernel
theorem dL_refusesOne_275 : decode cL_refusesOne 275 = .ok (.iconst 0, 1) := by decide +kernel
theorem dL_refusesOne_276 : decode cL_refusesOne 276 = .ok (.bipush 9, 2) := by decide +kernel
theorem dL_refusesOne_278 : decode cL_refusesOne 278 = .ok (.invokestatic 195, 3) := by decide +kernel
theorem dL_refusesOne_281 : decode cL_refusesOne 281 = .ok (.iconst 0, 1) := by decide +kernel
theorem dL_refusesOne_282 : decode cL_refusesOne 282 = .ok (.iconst 0, 1) := by decide +kernel
theorem dL_refusesOne_283 : decode cL_refusesOne 283 = .ok (.iconst 0, 1) := by decide +kernel
theorem dL_refusesOne_284 : decode cL_refusesOne 284 = .ok (.invokestatic 191, 3) := by decide +kernel
theorem dL_refusesOne_287 : decode cL_refusesOne 287 = .ok (.sipush (-2011), 3) := by decide +kernel
theorem dL_refusesOne_290 : decode cL_refusesOne 290 = .ok (.if_icmp .ne 78, 3) := by decide +kernel
theorem dL_refusesOne_293 : decode cL_refusesOne 293 = .ok (.aload_n 0, 1) := by decide +kernel
theorem dL_refusesOne_294 : decode cL_refusesOne 294 = .ok (.bipush 34, 2) := by decide +kernel
theorem dL_refusesOne_296 : decode cL_refusesOne 296 = .ok (.iload_n 1, 1) := by decide +kernel
theorem dL_refusesOne_297 : decode cL_refusesOne 297 = .ok (.iconst 0, 1) := by decide +kernel
theorem dL_refusesOne_298 : decode cL_refusesOne 298 = .ok (.iconst 4, 1) := by decide +kernel
theorem dL_refusesOne_299 : decode cL_refusesOne 299 = .ok (.invokestatic 195, 3) := by decide +kernel
theorem dL_refusesOne_302 : decode cL_refusesOne 302 = .ok (.iconst 0, 1) := by decide +kernel
theorem dL_refusesOne_303 : decode cL_refusesOne 303 = .ok (.iconst 0, 1) := by decide +kernel
theorem dL_refusesOne_304 : decode cL_refusesOne 304 = .ok (.iconst 0, 1) := by decide +kernel
theorem dL_refusesOne_305 : decode cL_refusesOne 305 = .ok (.invokestatic 191, 3) := by decide +kernel
theorem dL_refusesOne_308 : decode cL_refusesOne 308 = .ok (.sipush (-2011), 3) := by decide +kernel
theorem dL_refusesOne_311 : decode cL_refusesOne 311 = .ok (.if_icmp .ne 57, 3) := by decide +kernel
theorem dL_refusesOne_314 : decode cL_refusesOne 314 = .ok (.aload_n 0, 1) := by decide +kernel
theorem dL_refusesOne_315 : decode cL_refusesOne 315 = .ok (.bipush 34, 2) := by decide +kernel
theorem dL_refusesOne_317 : decode cL_refusesOne 317 = .ok (.iconst 4, 1) := by decide +kernel
theorem dL_refusesOne_318 : decode cL_refusesOne 318 = .ok (.iload_n 1, 1) := by decide +kernel
theorem dL_refusesOne_319 : decode cL_refusesOne 319 = .ok (.iconst 1, 1) := by decide +kernel
theorem dL_refusesOne_320 : decode cL_refusesOne 320 = .ok (.bipush 9, 2) := by decide +kernel
theorem dL_refusesOne_322 : decode cL_refusesOne 322 = .ok (.invokestatic 195, 3) := by decide +kernel
theorem dL_refusesOne_325 : decode cL_refusesOne 325 = .ok (.iconst 0, 1) := by decide +kernel
theorem dL_refusesOne_326 : decode cL_refusesOne 326 = .ok (.iconst 0, 1) := by decide +kernel
theorem dL_refusesOne_327 : decode cL_refusesOne 327 = .ok (.invokestatic 191, 3) := by decide +kernel
theorem dL_refusesOne_330 : decode cL_refusesOne 330 = .ok (.sipush (-2012), 3) := by decide +kernel
theorem dL_refusesOne_333 : decode cL_refusesOne 333 = .ok (.if_icmp .ne 35, 3) := by decide +kernel
theorem dL_refusesOne_336 : decode cL_refusesOne 336 = .ok (.aload_n 0, 1) := by decide +kernel
theorem dL_refusesOne_337 : decode cL_refusesOne 337 = .ok (.bipush 36, 2) := by decide +kernel
theorem dL_refusesOne_339 : decode cL_refusesOne 339 = .ok (.iconst 0, 1) := by decide +kernel
theorem dL_refusesOne_340 : decode cL_refusesOne 340 = .ok (.iconst 0, 1) := by decide +kernel
theorem dL_refusesOne_341 : decode cL_refusesOne 341 = .ok (.iconst 0, 1) := by decide +kernel
theorem dL_refusesOne_342 : decode cL_refusesOne 342 = .ok (.iconst 0, 1) := by decide +kernel
theorem dL_refusesOne_343 : decode cL_refusesOne 343 = .ok (.invokestatic 191, 3) := by decide +kernel
theorem dL_refusesOne_346 : decode cL_refusesOne 346 = .ok (.sipush (-2013), 3) := by decide +kernel
theorem dL_refusesOne_349 : decode cL_refusesOne 349 = .ok (.if_icmp .ne 19, 3) := by decide +kernel
theorem dL_refusesOne_352 : decode cL_refusesOne 352 = .ok (.aload_n 0, 1) := by decide +kernel
theorem dL_refusesOne_353 : decode cL_refusesOne 353 = .ok (.bipush 37, 2) := by decide +kernel
theorem dL_refusesOne_355 : decode cL_refusesOne 355 = .ok (.iconst 0, 1) := by decide +kernel
theorem dL_refusesOne_356 : decode cL_refusesOne 356 = .ok (.iconst 0, 1) := by decide +kernel
theorem dL_refusesOne_357 : decode cL_refusesOne 357 = .ok (.iconst 0, 1) := by decide +kernel
theorem dL_refusesOne_358 : decode cL_refusesOne 358 = .ok (.iconst 0, 1) := by decide +kernel
theorem dL_refusesOne_359 : decode cL_refusesOne 359 = .ok (.invokestatic 191, 3) := by decide +kernel
theorem dL_refusesOne_362 : decode cL_refusesOne 362 = .ok (.sipush (-2013), 3) := by decide +kernel
theorem dL_refusesOne_365 : decode cL_refusesOne 365 = .ok (.if_icmp .eq 5, 3) := by decide +kernel
theorem dL_refusesOne_368 : decode cL_refusesOne 368 = .ok (.iconst 0, 1) := by decide +kernel
theorem dL_refusesOne_369 : decode cL_refusesOne 369 = .ok (.ireturn, 1) := by decide +kernel
theorem dL_refusesOne_370 : decode cL_refusesOne 370 = .ok (.iconst 1, 1) := by decide +kernel
theorem dL_refusesOne_371 : decode cL_refusesOne 371 = .ok (.istore 4, 2) := by decide +kernel
theorem dL_refusesOne_373 : decode cL_refusesOne 373 = .ok (.iload 4, 2) := by decide +kernel
theorem dL_refusesOne_375 : decode cL_refusesOne 375 = .ok (.bipush 7, 2) := by decide +kernel
theorem dL_refusesOne_377 : decode cL_refusesOne 377 = .ok (.if_icmp .ge 27, 3) := by decide +kernel
theorem dL_refusesOne_380 : decode cL_refusesOne 380 = .ok (.aload_n 0, 1) := by decide +kernel
theorem dL_refusesOne_381 : decode cL_refusesOne 381 = .ok (.iload 4, 2) := by decide +kernel
theorem dL_refusesOne_383 : decode cL_refusesOne 383 = .ok (.iload_n 2, 1) := by decide +kernel
theorem dL_refusesOne_384 : decode cL_refusesOne 384 = .ok (.iconst 0, 1) := by decide +kernel
theorem dL_refusesOne_385 : decode cL_refusesOne 385 = .ok (.iconst 0, 1) := by decide +kernel
theorem dL_refusesOne_386 : decode cL_refusesOne 386 = .ok (.iconst 0, 1) := by decide +kernel
theorem dL_refusesOne_387 : decode cL_refusesOne 387 = .ok (.invokestatic 191, 3) := by decide +kernel
theorem dL_refusesOne_390 : decode cL_refusesOne 390 = .ok (.sipush (-2011), 3) := by decide +kernel
theorem dL_refusesOne_393 : decode cL_refusesOne 393 = .ok (.if_icmp .eq 5, 3) := by decide +kernel
theorem dL_refusesOne_396 : decode cL_refusesOne 396 = .ok (.iconst 0, 1) := by decide +kernel
theorem dL_refusesOne_397 : decode cL_refusesOne 397 = .ok (.ireturn, 1) := by decide +kernel
theorem dL_refusesOne_398 : decode cL_refusesOne 398 = .ok (.iinc 4 1, 3) := by decide +kernel
theorem dL_refusesOne_401 : decode cL_refusesOne 401 = .ok (.goto (-28), 3) := by decide +kernel
theorem dL_refusesOne_404 : decode cL_refusesOne 404 = .ok (.bipush 12, 2) := by decide +kernel
theorem dL_refusesOne_406 : decode cL_refusesOne 406 = .ok (.istore 4, 2) := by decide +kernel
theorem dL_refusesOne_408 : decode cL_refusesOne 408 = .ok (.iload 4, 2) := by decide +kernel
theorem dL_refusesOne_410 : decode cL_refusesOne 410 = .ok (.bipush 22, 2) := by decide +kernel
theorem dL_refusesOne_412 : decode cL_refusesOne 412 = .ok (.if_icmp .ge 27, 3) := by decide +kernel
theorem dL_refusesOne_415 : decode cL_refusesOne 415 = .ok (.aload_n 0, 1) := by decide +kernel
theorem dL_refusesOne_416 : decode cL_refusesOne 416 = .ok (.iload 4, 2) := by decide +kernel
theorem dL_refusesOne_418 : decode cL_refusesOne 418 = .ok (.iload_n 2, 1) := by decide +kernel
theorem dL_refusesOne_419 : decode cL_refusesOne 419 = .ok (.iconst 0, 1) := by decide +kernel
theorem dL_refusesOne_420 : decode cL_refusesOne 420 = .ok (.iconst 0, 1) := by decide +kernel
theorem dL_refusesOne_421 : decode cL_refusesOne 421 = .ok (.iconst 0, 1) := by decide +kernel
theorem dL_refusesOne_422 : decode cL_refusesOne 422 = .ok (.invokestatic 191, 3) := by decide +kernel
theorem dL_refusesOne_425 : decode cL_refusesOne 425 = .ok (.sipush (-2011), 3) := by decide +kernel
theorem dL_refusesOne_428 : decode cL_refusesOne 428 = .ok (.if_icmp .eq 5, 3) := by decide +kernel
theorem dL_refusesOne_431 : decode cL_refusesOne 431 = .ok (.iconst 0, 1) := by decide +kernel
theorem dL_refusesOne_432 : decode cL_refusesOne 432 = .ok (.ireturn, 1) := by decide +kernel
theorem dL_refusesOne_433 : decode cL_refusesOne 433 = .ok (.iinc 4 1, 3) := by decide +kernel
theorem dL_refusesOne_436 : decode cL_refusesOne 436 = .ok (.goto (-28), 3) := by decide +kernel
theorem dL_refusesOne_439 : decode cL_refusesOne 439 = .ok (.bipush 22, 2) := by decide +kernel
theorem dL_refusesOne_441 : decode cL_refusesOne 441 = .ok (.istore 4, 2) := by decide +kernel
theorem dL_refusesOne_443 : decode cL_refusesOne 443 = .ok (.iload 4, 2) := by decide +kernel
theorem dL_refusesOne_445 : decode cL_refusesOne 445 = .ok (.bipush 30, 2) := by decide +kernel
theorem dL_refusesOne_447 : decode cL_refusesOne 447 = .ok (.if_icmp .ge 37, 3) := by decide +kernel
theorem dL_refusesOne_450 : decode cL_refusesOne 450 = .ok (.aload_n 0, 1) := by decide +kernel
theorem dL_refusesOne_451 : decode cL_refusesOne 451 = .ok (.iload 4, 2) := by decide +kernel
theorem dL_refusesOne_453 : decode cL_refusesOne 453 = .ok (.iload_n 1, 1) := by decide +kernel
theorem dL_refusesOne_454 : decode cL_refusesOne 454 = .ok (.iconst 0, 1) := by decide +kernel
theorem dL_refusesOne_455 : decode cL_refusesOne 455 = .ok (.aload_n 0, 1) := by decide +kernel
theorem dL_refusesOne_456 : decode cL_refusesOne 456 = .ok (.invokevirtual 188, 3) := by decide +kernel
theorem dL_refusesOne_459 : decode cL_refusesOne 459 = .ok (.iconst 1, 1) := by decide +kernel
theorem dL_refusesOne_460 : decode cL_refusesOne 460 = .ok (.isub, 1) := by decide +kernel
theorem dL_refusesOne_461 : decode cL_refusesOne 461 = .ok (.invokestatic 195, 3) := by decide +kernel
theorem dL_refusesOne_464 : decode cL_refusesOne 464 = .ok (.iconst 0, 1) := by decide +kernel
theorem dL_refusesOne_465 : decode cL_refusesOne 465 = .ok (.iconst 0, 1) := by decide +kernel
theorem dL_refusesOne_466 : decode cL_refusesOne 466 = .ok (.iconst 0, 1) := by decide +kernel
theorem dL_refusesOne_467 : decode cL_refusesOne 467 = .ok (.invokestatic 191, 3) := by decide +kernel
theorem dL_refusesOne_470 : decode cL_refusesOne 470 = .ok (.sipush (-2011), 3) := by decide +kernel
theorem dL_refusesOne_473 : decode cL_refusesOne 473 = .ok (.if_icmp .eq 5, 3) := by decide +kernel
theorem dL_refusesOne_476 : decode cL_refusesOne 476 = .ok (.iconst 0, 1) := by decide +kernel
theorem dL_refusesOne_477 : decode cL_refusesOne 477 = .ok (.ireturn, 1) := by decide +kernel
theorem dL_refusesOne_478 : decode cL_refusesOne 478 = .ok (.iinc 4 1, 3) := by decide +kernel
theorem dL_refusesOne_481 : decode cL_refusesOne 481 = .ok (.goto (-38), 3) := by decide +kernel
theorem dL_refusesOne_484 : decode cL_refusesOne 484 = .ok (.aload_n 0, 1) := by decide +kernel
theorem dL_refusesOne_485 : decode cL_refusesOne 485 = .ok (.invokevirtual 185, 3) := by decide +kernel
theorem dL_refusesOne_488 : decode cL_refusesOne 488 = .ok (.ifCond .eq 128, 3) := by decide +kernel
theorem dL_refusesOne_491 : decode cL_refusesOne 491 = .ok (.aload_n 0, 1) := by decide +kernel
theorem dL_refusesOne_492 : decode cL_refusesOne 492 = .ok (.iconst 2, 1) := by decide +kernel
theorem dL_refusesOne_493 : decode cL_refusesOne 493 = .ok (.iconst 0, 1) := by decide +kernel
theorem dL_refusesOne_494 : decode cL_refusesOne 494 = .ok (.iload_n 1, 1) := by decide +kernel
theorem dL_refusesOne_495 : decode cL_refusesOne 495 = .ok (.iconst 1, 1) := by decide +kernel
theorem dL_refusesOne_496 : decode cL_refusesOne 496 = .ok (.bipush 9, 2) := by decide +kernel
theorem dL_refusesOne_498 : decode cL_refusesOne 498 = .ok (.invokestatic 195, 3) := by decide +kernel
theorem dL_refusesOne_501 : decode cL_refusesOne 501 = .ok (.iconst 0, 1) := by decide +kernel
theorem dL_refusesOne_502 : decode cL_refusesOne 502 = .ok (.iconst 0, 1) := by decide +kernel
theorem dL_refusesOne_503 : decode cL_refusesOne 503 = .ok (.invokestatic 191, 3) := by decide +kernel
theorem dL_refusesOne_506 : decode cL_refusesOne 506 = .ok (.sipush (-2012), 3) := by decide +kernel
theorem dL_refusesOne_509 : decode cL_refusesOne 509 = .ok (.if_icmp .ne 111, 3) := by decide +kernel
theorem dL_refusesOne_512 : decode cL_refusesOne 512 = .ok (.aload_n 0, 1) := by decide +kernel
theorem dL_refusesOne_513 : decode cL_refusesOne 513 = .ok (.iconst 4, 1) := by decide +kernel
theorem dL_refusesOne_514 : decode cL_refusesOne 514 = .ok (.iconst 0, 1) := by decide +kernel
theorem dL_refusesOne_515 : decode cL_refusesOne 515 = .ok (.iload_n 3, 1) := by decide +kernel
theorem dL_refusesOne_516 : decode cL_refusesOne 516 = .ok (.iconst 0, 1) := by decide +kernel
theorem dL_refusesOne_517 : decode cL_refusesOne 517 = .ok (.iconst 0, 1) := by decide +kernel
theorem dL_refusesOne_518 : decode cL_refusesOne 518 = .ok (.invokestatic 191, 3) := by decide +kernel
theorem dL_refusesOne_521 : decode cL_refusesOne 521 = .ok (.sipush (-2011), 3) := by decide +kernel
theorem dL_refusesOne_524 : decode cL_refusesOne 524 = .ok (.if_icmp .ne 96, 3) := by decide +kernel
theorem dL_refusesOne_527 : decode cL_refusesOne 527 = .ok (.aload_n 0, 1) := by decide +kernel
theorem dL_refusesOne_528 : decode cL_refusesOne 528 = .ok (.iconst 4, 1) := by decide +kernel
theorem dL_refusesOne_529 : decode cL_refusesOne 529 = .ok (.iconst 0, 1) := by decide +kernel
theorem dL_refusesOne_530 : decode cL_refusesOne 530 = .ok (.iconst 0, 1) := by decide +kernel
theorem dL_refusesOne_531 : decode cL_refusesOne 531 = .ok (.iload_n 3, 1) := by decide +kernel
theorem dL_refusesOne_532 : decode cL_refusesOne 532 = .ok (.iconst 0, 1) := by decide +kernel
theorem dL_refusesOne_533 : decode cL_refusesOne 533 = .ok (.invokestatic 191, 3) := by decide +kernel
theorem dL_refusesOne_536 : decode cL_refusesOne 536 = .ok (.sipush (-2011), 3) := by decide +kernel
theorem dL_refusesOne_539 : decode cL_refusesOne 539 = .ok (.if_icmp .ne 81, 3) := by decide +kernel
theorem dL_refusesOne_542 : decode cL_refusesOne 542 = .ok (.aload_n 0, 1) := by decide +kernel
theorem dL_refusesOne_543 : decode cL_refusesOne 543 = .ok (.iconst 4, 1) := by decide +kernel
theorem dL_refusesOne_544 : decode cL_refusesOne 544 = .ok (.iconst 0, 1) := by decide +kernel
theorem dL_refusesOne_545 : decode cL_refusesOne 545 = .ok (.iconst 3, 1) := by decide +kernel
theorem dL_refusesOne_546 : decode cL_refusesOne 546 = .ok (.iconst 3, 1) := by decide +kernel
theorem dL_refusesOne_547 : decode cL_refusesOne 547 = .ok (.iload_n 1, 1) := by decide +kernel
theorem dL_refusesOne_548 : decode cL_refusesOne 548 = .ok (.iconst 1, 1) := by decide +kernel
theorem dL_refusesOne_549 : decode cL_refusesOne 549 = .ok (.bipush 40, 2) := by decide +kernel
theorem dL_refusesOne_551 : decode cL_refusesOne 551 = .ok (.invokestatic 195, 3) := by decide +kernel
theorem dL_refusesOne_554 : decode cL_refusesOne 554 = .ok (.invokestatic 191, 3) := by decide +kernel
theorem dL_refusesOne_557 : decode cL_refusesOne 557 = .ok (.sipush (-2012), 3) := by decide +kernel
theorem dL_refusesOne_560 : decode cL_refusesOne 560 = .ok (.if_icmp .ne 60, 3) := by decide +kernel
theorem dL_refusesOne_563 : decode cL_refusesOne 563 = .ok (.aload_n 0, 1) := by decide +kernel
theorem dL_refusesOne_564 : decode cL_refusesOne 564 = .ok (.iconst 5, 1) := by decide +kernel
theorem dL_refusesOne_565 : decode cL_refusesOne 565 = .ok (.iconst 0, 1) := by decide +kernel
theorem dL_refusesOne_566 : decode cL_refusesOne 566 = .ok (.iload_n 1, 1) := by decide +kernel
theorem dL_refusesOne_567 : decode cL_refusesOne 567 = .ok (.iconst 1, 1) := by decide +kernel
theorem dL_refusesOne_568 : decode cL_refusesOne 568 = .ok (.bipush 99, 2) := by decide +kernel
theorem dL_refusesOne_570 : decode cL_refusesOne 570 = .ok (.invokestatic 195, 3) := by decide +kernel
theorem dL_refusesOne_573 : decode cL_refusesOne 573 = .ok (.iconst 0, 1) := by decide +kernel
theorem dL_refusesOne_574 : decode cL_refusesOne 574 = .ok (.iconst 0, 1) := by decide +kernel
theorem dL_refusesOne_575 : decode cL_refusesOne 575 = .ok (.invokestatic 191, 3) := by decide +kernel
theorem dL_refusesOne_578 : decode cL_refusesOne 578 = .ok (.sipush (-2012), 3) := by decide +kernel
theorem dL_refusesOne_581 : decode cL_refusesOne 581 = .ok (.if_icmp .ne 39, 3) := by decide +kernel
theorem dL_refusesOne_584 : decode cL_refusesOne 584 = .ok (.aload_n 0, 1) := by decide +kernel
theorem dL_refusesOne_585 : decode cL_refusesOne 585 = .ok (.bipush 21, 2) := by decide +kernel
theorem dL_refusesOne_587 : decode cL_refusesOne 587 = .ok (.iconst 0, 1) := by decide +kernel
theorem dL_refusesOne_588 : decode cL_refusesOne 588 = .ok (.iload_n 3, 1) := by decide +kernel
theorem dL_refusesOne_589 : decode cL_refusesOne 589 = .ok (.iconst 0, 1) := by decide +kernel
theorem dL_refusesOne_590 : decode cL_refusesOne 590 = .ok (.iconst 0, 1) := by decide +kernel
theorem dL_refusesOne_591 : decode cL_refusesOne 591 = .ok (.invokestatic 191, 3) := by decide +kernel
theorem dL_refusesOne_594 : decode cL_refusesOne 594 = .ok (.sipush (-2011), 3) := by decide +kernel
theorem dL_refusesOne_597 : decode cL_refusesOne 597 = .ok (.if_icmp .ne 23, 3) := by decide +kernel
theorem dL_refusesOne_600 : decode cL_refusesOne 600 = .ok (.aload_n 0, 1) := by decide +kernel
theorem dL_refusesOne_601 : decode cL_refusesOne 601 = .ok (.bipush 21, 2) := by decide +kernel
theorem dL_refusesOne_603 : decode cL_refusesOne 603 = .ok (.iconst 0, 1) := by decide +kernel
theorem dL_refusesOne_604 : decode cL_refusesOne 604 = .ok (.iconst 0, 1) := by decide +kernel
theorem dL_refusesOne_605 : decode cL_refusesOne 605 = .ok (.iload_n 3, 1) := by decide +kernel
theorem dL_refusesOne_606 : decode cL_refusesOne 606 = .ok (.iconst 0, 1) := by decide +kernel
theorem dL_refusesOne_607 : decode cL_refusesOne 607 = .ok (.invokestatic 191, 3) := by decide +kernel
theorem dL_refusesOne_610 : decode cL_refusesOne 610 = .ok (.sipush (-2011), 3) := by decide +kernel
theorem dL_refusesOne_613 : decode cL_refusesOne 613 = .ok (.if_icmp .ne 7, 3) := by decide +kernel
theorem dL_refusesOne_616 : decode cL_refusesOne 616 = .ok (.iconst 1, 1) := by decide +kernel
theorem dL_refusesOne_617 : decode cL_refusesOne 617 = .ok (.goto 4, 3) := by decide +kernel
theorem dL_refusesOne_620 : decode cL_refusesOne 620 = .ok (.iconst 0, 1) := by decide +kernel
theorem dL_refusesOne_621 : decode cL_refusesOne 621 = .ok (.ireturn, 1) := by decide +kernel
theorem dL_refused_0 : decode cL_refused 0 = .ok (.aload_n 0, 1) := by decide +kernel
theorem dL_refused_1 : decode cL_refused 1 = .ok (.invokestatic 198, 3) := by decide +kernel
theorem dL_refused_4 : decode cL_refused 4 = .ok (.lstore_n 1, 1) := by decide +kernel
theorem dL_refused_5 : decode cL_refused 5 = .ok (.aload_n 0, 1) := by decide +kernel
theorem dL_refused_6 : decode cL_refused 6 = .ok (.invokevirtual 202, 3) := by decide +kernel
theorem dL_refused_9 : decode cL_refused 9 = .ok (.istore_n 3, 1) := by decide +kernel
theorem dL_refused_10 : decode cL_refused 10 = .ok (.iconst 0, 1) := by decide +kernel
theorem dL_refused_11 : decode cL_refused 11 = .ok (.istore 4, 2) := by decide +kernel
theorem dL_refused_13 : decode cL_refused 13 = .ok (.iload 4, 2) := by decide +kernel
theorem dL_refused_15 : decode cL_refused 15 = .ok (.iconst 4, 1) := by decide +kernel
theorem dL_refused_16 : decode cL_refused 16 = .ok (.if_icmp .ge 20, 3) := by decide +kernel
theorem dL_refused_19 : decode cL_refused 19 = .ok (.aload_n 0, 1) := by decide +kernel
theorem dL_refused_20 : decode cL_refused 20 = .ok (.iload 4, 2) := by decide +kernel
theorem dL_refused_22 : decode cL_refused 22 = .ok (.invokestatic 205, 3) := by decide +kernel
theorem dL_refused_25 : decode cL_refused 25 = .ok (.ifCond .ne 5, 3) := by decide +kernel
theorem dL_refused_28 : decode cL_refused 28 = .ok (.iconst 0, 1) := by decide +kernel
theorem dL_refused_29 : decode cL_refused 29 = .ok (.ireturn, 1) := by decide +kernel
theorem dL_refused_30 : decode cL_refused 30 = .ok (.iinc 4 1, 3) := by decide +kernel
theorem dL_refused_33 : decode cL_refused 33 = .ok (.goto (-20), 3) := by decide +kernel
theorem dL_refused_36 : decode cL_refused 36 = .ok (.aload_n 0, 1) := by decide +kernel
theorem dL_refused_37 : decode cL_refused 37 = .ok (.invokestatic 198, 3) := by decide +kernel
theorem dL_refused_40 : decode cL_refused 40 = .ok (.lload_n 1, 1) := by decide +kernel
theorem dL_refused_41 : decode cL_refused 41 = .ok (.lcmp, 1) := by decide +kernel
theorem dL_refused_42 : decode cL_refused 42 = .ok (.ifCond .ne 22, 3) := by decide +kernel
theorem dL_refused_45 : decode cL_refused 45 = .ok (.aload_n 0, 1) := by decide +kernel
theorem dL_refused_46 : decode cL_refused 46 = .ok (.invokevirtual 202, 3) := by decide +kernel
theorem dL_refused_49 : decode cL_refused 49 = .ok (.iload_n 3, 1) := by decide +kernel
theorem dL_refused_50 : decode cL_refused 50 = .ok (.if_icmp .ne 14, 3) := by decide +kernel
theorem dL_refused_53 : decode cL_refused 53 = .ok (.aload_n 0, 1) := by decide +kernel
theorem dL_refused_54 : decode cL_refused 54 = .ok (.invokevirtual 209, 3) := by decide +kernel
theorem dL_refused_57 : decode cL_refused 57 = .ok (.ifCond .ne 7, 3) := by decide +kernel
theorem dL_refused_60 : decode cL_refused 60 = .ok (.iconst 1, 1) := by decide +kernel
theorem dL_refused_61 : decode cL_refused 61 = .ok (.goto 4, 3) := by decide +kernel
theorem dL_refused_64 : decode cL_refused 64 = .ok (.iconst 0, 1) := by decide +kernel
theorem dL_refused_65 : decode cL_refused 65 = .ok (.ireturn, 1) := by decide +kernel
theorem dL_is_0 : decode cL_is 0 = .ok (.aload_n 0, 1) := by decide +kernel
theorem dL_is_1 : decode cL_is 1 = .ok (.iload_n 1, 1) := by decide +kernel
theorem dL_is_2 : decode cL_is 2 = .ok (.invokevirtual 111, 3) := by decide +kernel
theorem dL_is_5 : decode cL_is 5 = .ok (.iload_n 2, 1) := by decide +kernel
theorem dL_is_6 : decode cL_is 6 = .ok (.if_icmp .ne 65, 3) := by decide +kernel
theorem dL_is_9 : decode cL_is 9 = .ok (.aload_n 0, 1) := by decide +kernel
theorem dL_is_10 : decode cL_is 10 = .ok (.iload_n 1, 1) := by decide +kernel
theorem dL_is_11 : decode cL_is 11 = .ok (.invokevirtual 114, 3) := by decide +kernel
theorem dL_is_14 : decode cL_is 14 = .ok (.iload_n 3, 1) := by decide +kernel
theorem dL_is_15 : decode cL_is 15 = .ok (.if_icmp .ne 56, 3) := by decide +kernel
theorem dL_is_18 : decode cL_is 18 = .ok (.aload_n 0, 1) := by decide +kernel
theorem dL_is_19 : decode cL_is 19 = .ok (.iload_n 1, 1) := by decide +kernel
theorem dL_is_20 : decode cL_is 20 = .ok (.invokevirtual 117, 3) := by decide +kernel
theorem dL_is_23 : decode cL_is 23 = .ok (.iload 4, 2) := by decide +kernel
theorem dL_is_25 : decode cL_is 25 = .ok (.if_icmp .ne 46, 3) := by decide +kernel
theorem dL_is_28 : decode cL_is 28 = .ok (.aload_n 0, 1) := by decide +kernel
theorem dL_is_29 : decode cL_is 29 = .ok (.iload_n 1, 1) := by decide +kernel
theorem dL_is_30 : decode cL_is 30 = .ok (.invokevirtual 123, 3) := by decide +kernel
theorem dL_is_33 : decode cL_is 33 = .ok (.iload 5, 2) := by decide +kernel
theorem dL_is_35 : decode cL_is 35 = .ok (.if_icmp .ne 36, 3) := by decide +kernel
theorem dL_is_38 : decode cL_is 38 = .ok (.aload_n 0, 1) := by decide +kernel
theorem dL_is_39 : decode cL_is 39 = .ok (.iload_n 1, 1) := by decide +kernel
theorem dL_is_40 : decode cL_is 40 = .ok (.invokevirtual 126, 3) := by decide +kernel
theorem dL_is_43 : decode cL_is 43 = .ok (.iload 6, 2) := by decide +kernel
theorem dL_is_45 : decode cL_is 45 = .ok (.if_icmp .ne 26, 3) := by decide +kernel
theorem dL_is_48 : decode cL_is 48 = .ok (.aload_n 0, 1) := by decide +kernel
theorem dL_is_49 : decode cL_is 49 = .ok (.iload_n 1, 1) := by decide +kernel
theorem dL_is_50 : decode cL_is 50 = .ok (.invokevirtual 108, 3) := by decide +kernel
theorem dL_is_53 : decode cL_is 53 = .ok (.iload 4, 2) := by decide +kernel
theorem dL_is_55 : decode cL_is 55 = .ok (.iconst (-1), 1) := by decide +kernel
theorem dL_is_56 : decode cL_is 56 = .ok (.if_icmp .eq 7, 3) := by decide +kernel
theorem dL_is_59 : decode cL_is 59 = .ok (.iconst 1, 1) := by decide +kernel
theorem dL_is_60 : decode cL_is 60 = .ok (.goto 4, 3) := by decide +kernel
theorem dL_is_63 : decode cL_is 63 = .ok (.iconst 0, 1) := by decide +kernel
theorem dL_is_64 : decode cL_is 64 = .ok (.if_icmp .ne 7, 3) := by decide +kernel
theorem dL_is_67 : decode cL_is 67 = .ok (.iconst 1, 1) := by decide +kernel
theorem dL_is_68 : decode cL_is 68 = .ok (.goto 4, 3) := by decide +kernel
theorem dL_is_71 : decode cL_is 71 = .ok (.iconst 0, 1) := by decide +kernel
theorem dL_is_72 : decode cL_is 72 = .ok (.ireturn, 1) := by decide +kernel
theorem dL_rains_0 : decode cL_rains 0 = .ok (.iconst 0, 1) := by decide +kernel
theorem dL_rains_1 : decode cL_rains 1 = .ok (.istore_n 2, 1) := by decide +kernel
theorem dL_rains_2 : decode cL_rains 2 = .ok (.iload_n 2, 1) := by decide +kernel
theorem dL_rains_3 : decode cL_rains 3 = .ok (.bipush 10, 2) := by decide +kernel
theorem dL_rains_5 : decode cL_rains 5 = .ok (.if_icmp .ge 20, 3) := by decide +kernel
theorem dL_rains_8 : decode cL_rains 8 = .ok (.aload_n 0, 1) := by decide +kernel
theorem dL_rains_9 : decode cL_rains 9 = .ok (.iload_n 2, 1) := by decide +kernel
theorem dL_rains_10 : decode cL_rains 10 = .ok (.iload_n 1, 1) := by decide +kernel
theorem dL_rains_11 : decode cL_rains 11 = .ok (.invokevirtual 65, 3) := by decide +kernel
theorem dL_rains_14 : decode cL_rains 14 = .ok (.ifCond .eq 5, 3) := by decide +kernel
theorem dL_rains_17 : decode cL_rains 17 = .ok (.iconst 0, 1) := by decide +kernel
theorem dL_rains_18 : decode cL_rains 18 = .ok (.ireturn, 1) := by decide +kernel
theorem dL_rains_19 : decode cL_rains 19 = .ok (.iinc 2 1, 3) := by decide +kernel
theorem dL_rains_22 : decode cL_rains 22 = .ok (.goto (-20), 3) := by decide +kernel
theorem dL_rains_25 : decode cL_rains 25 = .ok (.aload_n 0, 1) := by decide +kernel
theorem dL_rains_26 : decode cL_rains 26 = .ok (.invokevirtual 212, 3) := by decide +kernel
theorem dL_rains_29 : decode cL_rains 29 = .ok (.ifCond .ne 7, 3) := by decide +kernel
theorem dL_rains_32 : decode cL_rains 32 = .ok (.iconst 1, 1) := by decide +kernel
theorem dL_rains_33 : decode cL_rains 33 = .ok (.goto 4, 3) := by decide +kernel
theorem dL_rains_36 : decode cL_rains 36 = .ok (.iconst 0, 1) := by decide +kernel
theorem dL_rains_37 : decode cL_rains 37 = .ok (.ireturn, 1) := by decide +kernel
theorem dL_days_0 : decode cL_days 0 = .ok (.new 34, 3) := by decide +kernel
theorem dL_days_3 : decode cL_days 3 = .ok (.dup, 1) := by decide +kernel
theorem dL_days_4 : decode cL_days 4 = .ok (.invokespecial 216, 3) := by decide +kernel
theorem dL_days_7 : decode cL_days 7 = .ok (.astore_n 0, 1) := by decide +kernel
theorem dL_days_8 : decode cL_days 8 = .ok (.aload_n 0, 1) := by decide +kernel
theorem dL_days_9 : decode cL_days 9 = .ok (.bipush 10, 2) := by decide +kernel
theorem dL_days_11 : decode cL_days 11 = .ok (.iconst 0, 1) := by decide +kernel
theorem dL_days_12 : decode cL_days 12 = .ok (.iconst 0, 1) := by decide +kernel
theorem dL_days_13 : decode cL_days 13 = .ok (.iconst 0, 1) := by decide +kernel
theorem dL_days_14 : decode cL_days 14 = .ok (.iconst 0, 1) := by decide +kernel
theorem dL_days_15 : decode cL_days 15 = .ok (.invokestatic 191, 3) := by decide +kernel
theorem dL_days_18 : decode cL_days 18 = .ok (.sipush (-2013), 3) := by decide +kernel
theorem dL_days_21 : decode cL_days 21 = .ok (.if_icmp .ne 337, 3) := by decide +kernel
theorem dL_days_24 : decode cL_days 24 = .ok (.aload_n 0, 1) := by decide +kernel
theorem dL_days_25 : decode cL_days 25 = .ok (.bipush 11, 2) := by decide +kernel
theorem dL_days_27 : decode cL_days 27 = .ok (.iconst 0, 1) := by decide +kernel
theorem dL_days_28 : decode cL_days 28 = .ok (.iconst 0, 1) := by decide +kernel
theorem dL_days_29 : decode cL_days 29 = .ok (.iconst 0, 1) := by decide +kernel
theorem dL_days_30 : decode cL_days 30 = .ok (.iconst 0, 1) := by decide +kernel
theorem dL_days_31 : decode cL_days 31 = .ok (.invokestatic 191, 3) := by decide +kernel
theorem dL_days_34 : decode cL_days 34 = .ok (.sipush (-2013), 3) := by decide +kernel
theorem dL_days_37 : decode cL_days 37 = .ok (.if_icmp .ne 321, 3) := by decide +kernel
theorem dL_days_40 : decode cL_days 40 = .ok (.aload_n 0, 1) := by decide +kernel
theorem dL_days_41 : decode cL_days 41 = .ok (.invokevirtual 164, 3) := by decide +kernel
theorem dL_days_44 : decode cL_days 44 = .ok (.sipush 500, 3) := by decide +kernel
theorem dL_days_47 : decode cL_days 47 = .ok (.if_icmp .ne 311, 3) := by decide +kernel
theorem dL_days_50 : decode cL_days 50 = .ok (.aload_n 0, 1) := by decide +kernel
theorem dL_days_51 : decode cL_days 51 = .ok (.invokevirtual 217, 3) := by decide +kernel
theorem dL_days_54 : decode cL_days 54 = .ok (.sipush 500, 3) := by decide +kernel
theorem dL_days_57 : decode cL_days 57 = .ok (.if_icmp .ne 301, 3) := by decide +kernel
theorem dL_days_60 : decode cL_days 60 = .ok (.aload_n 0, 1) := by decide +kernel
theorem dL_days_61 : decode cL_days 61 = .ok (.invokevirtual 220, 3) := by decide +kernel
theorem dL_days_64 : decode cL_days 64 = .ok (.iconst (-1), 1) := by decide +kernel
theorem dL_days_65 : decode cL_days 65 = .ok (.if_icmp .ne 293, 3) := by decide +kernel
theorem dL_days_68 : decode cL_days 68 = .ok (.aload_n 0, 1) := by decide +kernel
theorem dL_days_69 : decode cL_days 69 = .ok (.invokevirtual 212, 3) := by decide +kernel
theorem dL_days_72 : decode cL_days 72 = .ok (.ifCond .eq 286, 3) := by decide +kernel
theorem dL_days_75 : decode cL_days 75 = .ok (.aload_n 0, 1) := by decide +kernel
theorem dL_days_76 : decode cL_days 76 = .ok (.bipush 11, 2) := by decide +kernel
theorem dL_days_78 : decode cL_days 78 = .ok (.invokevirtual 132, 3) := by decide +kernel
theorem dL_days_81 : decode cL_days 81 = .ok (.iconst (-1), 1) := by decide +kernel
theorem dL_days_82 : decode cL_days 82 = .ok (.if_icmp .ne 276, 3) := by decide +kernel
theorem dL_days_85 : decode cL_days 85 = .ok (.aload_n 0, 1) := by decide +kernel
theorem dL_days_86 : decode cL_days 86 = .ok (.invokestatic 223, 3) := by decide +kernel
theorem dL_days_89 : decode cL_days 89 = .ok (.ifCond .eq 269, 3) := by decide +kernel
theorem dL_days_92 : decode cL_days 92 = .ok (.aload_n 0, 1) := by decide +kernel
theorem dL_days_93 : decode cL_days 93 = .ok (.iconst 5, 1) := by decide +kernel
theorem dL_days_94 : decode cL_days 94 = .ok (.invokestatic 227, 3) := by decide +kernel
theorem dL_days_97 : decode cL_days 97 = .ok (.ifCond .eq 261, 3) := by decide +kernel
theorem dL_days_100 : decode cL_days 100 = .ok (.aload_n 0, 1) := by decide +kernel
theorem dL_days_101 : decode cL_days 101 = .ok (.iconst 0, 1) := by decide +kernel
theorem dL_days_102 : decode cL_days 102 = .ok (.iconst 1, 1) := by decide +kernel
theorem dL_days_103 : decode cL_days 103 = .ok (.invokevirtual 144, 3) := by decide +kernel
theorem dL_days_106 : decode cL_days 106 = .ok (.ifCond .ne 252, 3) := by decide +kernel
theorem dL_days_109 : decode cL_days 109 = .ok (.aload_n 0, 1) := by decide +kernel
theorem dL_days_110 : decode cL_days 110 = .ok (.invokevirtual 230, 3) := by decide +kernel
theorem dL_days_113 : decode cL_days 113 = .ok (.ifCond .ne 245, 3) := by decide +kernel
theorem dL_days_116 : decode cL_days 116 = .ok (.aload_n 0, 1) := by decide +kernel
theorem dL_days_117 : decode cL_days 117 = .ok (.bipush 20, 2) := by decide +kernel
theorem dL_days_119 : decode cL_days 119 = .ok (.iconst 3, 1) := by decide +kernel
theorem dL_days_120 : decode cL_days 120 = .ok (.iconst 1, 1) := by decide +kernel
theorem dL_days_121 : decode cL_days 121 = .ok (.invokevirtual 61, 3) := by decide +kernel
theorem dL_days_124 : decode cL_days 124 = .ok (.ifCond .ne 234, 3) := by decide +kernel
theorem dL_days_127 : decode cL_days 127 = .ok (.aload_n 0, 1) := by decide +kernel
theorem dL_days_128 : decode cL_days 128 = .ok (.iconst 0, 1) := by decide +kernel
theorem dL_days_129 : decode cL_days 129 = .ok (.bipush 20, 2) := by decide +kernel
theorem dL_days_131 : decode cL_days 131 = .ok (.bipush 60, 2) := by decide +kernel
theorem dL_days_133 : decode cL_days 133 = .ok (.iconst 0, 1) := by decide +kernel
theorem dL_days_134 : decode cL_days 134 = .ok (.iconst 0, 1) := by decide +kernel
theorem dL_days_135 : decode cL_days 135 = .ok (.iconst 2, 1) := by decide +kernel
theorem dL_days_136 : decode cL_days 136 = .ok (.invokestatic 233, 3) := by decide +kernel
theorem dL_days_139 : decode cL_days 139 = .ok (.ifCond .eq 219, 3) := by decide +kernel
theorem dL_days_142 : decode cL_days 142 = .ok (.aload_n 0, 1) := by decide +kernel
theorem dL_days_143 : decode cL_days 143 = .ok (.iconst 0, 1) := by decide +kernel
theorem dL_days_144 : decode cL_days 144 = .ok (.iconst 4, 1) := by decide +kernel
theorem dL_days_145 : decode cL_days 145 = .ok (.iconst 3, 1) := by decide +kernel
theorem dL_days_146 : decode cL_days 146 = .ok (.iconst 1, 1) := by decide +kernel
theorem dL_days_147 : decode cL_days 147 = .ok (.invokevirtual 33, 3) := by decide +kernel
theorem dL_days_150 : decode cL_days 150 = .ok (.ifCond .ne 208, 3) := by decide +kernel
theorem dL_days_153 : decode cL_days 153 = .ok (.aload_n 0, 1) := by decide +kernel
theorem dL_days_154 : decode cL_days 154 = .ok (.invokevirtual 164, 3) := by decide +kernel
theorem dL_days_157 : decode cL_days 157 = .ok (.sipush 450, 3) := by decide +kernel
theorem dL_days_160 : decode cL_days 160 = .ok (.if_icmp .ne 198, 3) := by decide +kernel
theorem dL_days_163 : decode cL_days 163 = .ok (.aload_n 0, 1) := by decide +kernel
theorem dL_days_164 : decode cL_days 164 = .ok (.iconst 1, 1) := by decide +kernel
theorem dL_days_165 : decode cL_days 165 = .ok (.iconst 3, 1) := by decide +kernel
theorem dL_days_166 : decode cL_days 166 = .ok (.iconst 2, 1) := by decide +kernel
theorem dL_days_167 : decode cL_days 167 = .ok (.iconst 0, 1) := by decide +kernel
theorem dL_days_168 : decode cL_days 168 = .ok (.invokevirtual 33, 3) := by decide +kernel
theorem dL_days_171 : decode cL_days 171 = .ok (.iconst 1, 1) := by decide +kernel
theorem dL_days_172 : decode cL_days 172 = .ok (.if_icmp .ne 186, 3) := by decide +kernel
theorem dL_days_175 : decode cL_days 175 = .ok (.aload_n 0, 1) := by decide +kernel
theorem dL_days_176 : decode cL_days 176 = .ok (.iconst 0, 1) := by decide +kernel
theorem dL_days_177 : decode cL_days 177 = .ok (.iconst 1, 1) := by decide +kernel
theorem dL_days_178 : decode cL_days 178 = .ok (.iconst 0, 1) := by decide +kernel
theorem dL_days_179 : decode cL_days 179 = .ok (.iconst 1, 1) := by decide +kernel
theorem dL_days_180 : decode cL_days 180 = .ok (.iconst 0, 1) := by decide +kernel
theorem dL_days_181 : decode cL_days 181 = .ok (.invokestatic 191, 3) := by decide +kernel
theorem dL_days_184 : decode cL_days 184 = .ok (.sipush (-2013), 3) := by decide +kernel
theorem dL_days_187 : decode cL_days 187 = .ok (.if_icmp .ne 171, 3) := by decide +kernel
theorem dL_days_190 : decode cL_days 190 = .ok (.aload_n 0, 1) := by decide +kernel
theorem dL_days_191 : decode cL_days 191 = .ok (.iconst 4, 1) := by decide +kernel
theorem dL_days_192 : decode cL_days 192 = .ok (.iconst 1, 1) := by decide +kernel
theorem dL_days_193 : decode cL_days 193 = .ok (.iconst 0, 1) := by decide +kernel
theorem dL_days_194 : decode cL_days 194 = .ok (.iconst 1, 1) := by decide +kernel
theorem dL_days_195 : decode cL_days 195 = .ok (.iconst 1, 1) := by decide +kernel
theorem dL_days_196 : decode cL_days 196 = .ok (.invokestatic 191, 3) := by decide +kernel
theorem dL_days_199 : decode cL_days 199 = .ok (.sipush (-2013), 3) := by decide +kernel
theorem dL_days_202 : decode cL_days 202 = .ok (.if_icmp .ne 156, 3) := by decide +kernel
theorem dL_days_205 : decode cL_days 205 = .ok (.aload_n 0, 1) := by decide +kernel
theorem dL_days_206 : decode cL_days 206 = .ok (.iconst 1, 1) := by decide +kernel
theorem dL_days_207 : decode cL_days 207 = .ok (.bipush 20, 2) := by decide +kernel
theorem dL_days_209 : decode cL_days 209 = .ok (.invokevirtual 55, 3) := by decide +kernel
theorem dL_days_212 : decode cL_days 212 = .ok (.bipush 20, 2) := by decide +kernel
theorem dL_days_214 : decode cL_days 214 = .ok (.if_icmp .ne 144, 3) := by decide +kernel
theorem dL_days_217 : decode cL_days 217 = .ok (.aload_n 0, 1) := by decide +kernel
theorem dL_days_218 : decode cL_days 218 = .ok (.iconst 1, 1) := by decide +kernel
theorem dL_days_219 : decode cL_days 219 = .ok (.iconst 0, 1) := by decide +kernel
theorem dL_days_220 : decode cL_days 220 = .ok (.iconst 1, 1) := by decide +kernel
theorem dL_days_221 : decode cL_days 221 = .ok (.iconst 2, 1) := by decide +kernel
theorem dL_days_222 : decode cL_days 222 = .ok (.invokevirtual 51, 3) := by decide +kernel
theorem dL_days_225 : decode cL_days 225 = .ok (.bipush 18, 2) := by decide +kernel
theorem dL_days_227 : decode cL_days 227 = .ok (.if_icmp .ne 131, 3) := by decide +kernel
theorem dL_days_230 : decode cL_days 230 = .ok (.aload_n 0, 1) := by decide +kernel
theorem dL_days_231 : decode cL_days 231 = .ok (.iconst 1, 1) := by decide +kernel
theorem dL_days_232 : decode cL_days 232 = .ok (.iconst 0, 1) := by decide +kernel
theorem dL_days_233 : decode cL_days 233 = .ok (.iconst 3, 1) := by decide +kernel
theorem dL_days_234 : decode cL_days 234 = .ok (.iconst 1, 1) := by decide +kernel
theorem dL_days_235 : decode cL_days 235 = .ok (.invokevirtual 51, 3) := by decide +kernel
theorem dL_days_238 : decode cL_days 238 = .ok (.bipush 17, 2) := by decide +kernel
theorem dL_days_240 : decode cL_days 240 = .ok (.if_icmp .ne 118, 3) := by decide +kernel
theorem dL_days_243 : decode cL_days 243 = .ok (.aload_n 0, 1) := by decide +kernel
theorem dL_days_244 : decode cL_days 244 = .ok (.iconst 1, 1) := by decide +kernel
theorem dL_days_245 : decode cL_days 245 = .ok (.invokevirtual 99, 3) := by decide +kernel
theorem dL_days_248 : decode cL_days 248 = .ok (.iconst 3, 1) := by decide +kernel
theorem dL_days_249 : decode cL_days 249 = .ok (.if_icmp .ne 109, 3) := by decide +kernel
theorem dL_days_252 : decode cL_days 252 = .ok (.aload_n 0, 1) := by decide +kernel
theorem dL_days_253 : decode cL_days 253 = .ok (.iconst 1, 1) := by decide +kernel
theorem dL_days_254 : decode cL_days 254 = .ok (.invokevirtual 102, 3) := by decide +kernel
theorem dL_days_257 : decode cL_days 257 = .ok (.ifCond .ne 101, 3) := by decide +kernel
theorem dL_days_260 : decode cL_days 260 = .ok (.aload_n 0, 1) := by decide +kernel
theorem dL_days_261 : decode cL_days 261 = .ok (.iconst 0, 1) := by decide +kernel
theorem dL_days_262 : decode cL_days 262 = .ok (.invokevirtual 102, 3) := by decide +kernel
theorem dL_days_265 : decode cL_days 265 = .ok (.iconst (-1), 1) := by decide +kernel
theorem dL_days_266 : decode cL_days 266 = .ok (.if_icmp .ne 92, 3) := by decide +kernel
theorem dL_days_269 : decode cL_days 269 = .ok (.aload_n 0, 1) := by decide +kernel
theorem dL_days_270 : decode cL_days 270 = .ok (.iconst 1, 1) := by decide +kernel
theorem dL_days_271 : decode cL_days 271 = .ok (.invokevirtual 96, 3) := by decide +kernel
theorem dL_days_274 : decode cL_days 274 = .ok (.iconst 1, 1) := by decide +kernel
theorem dL_days_275 : decode cL_days 275 = .ok (.if_icmp .ne 83, 3) := by decide +kernel
theorem dL_days_278 : decode cL_days 278 = .ok (.aload_n 0, 1) := by decide +kernel
theorem dL_days_279 : decode cL_days 279 = .ok (.iconst 0, 1) := by decide +kernel
theorem dL_days_280 : decode cL_days 280 = .ok (.invokevirtual 96, 3) := by decide +kernel
theorem dL_days_283 : decode cL_days 283 = .ok (.iconst (-1), 1) := by decide +kernel
theorem dL_days_284 : decode cL_days 284 = .ok (.if_icmp .ne 74, 3) := by decide +kernel
theorem dL_days_287 : decode cL_days 287 = .ok (.aload_n 0, 1) := by decide +kernel
theorem dL_days_288 : decode cL_days 288 = .ok (.iconst 0, 1) := by decide +kernel
theorem dL_days_289 : decode cL_days 289 = .ok (.invokevirtual 93, 3) := by decide +kernel
theorem dL_days_292 : decode cL_days 292 = .ok (.bipush 8, 2) := by decide +kernel
theorem dL_days_294 : decode cL_days 294 = .ok (.if_icmp .ne 64, 3) := by decide +kernel
theorem dL_days_297 : decode cL_days 297 = .ok (.aload_n 0, 1) := by decide +kernel
theorem dL_days_298 : decode cL_days 298 = .ok (.iconst 1, 1) := by decide +kernel
theorem dL_days_299 : decode cL_days 299 = .ok (.invokevirtual 93, 3) := by decide +kernel
theorem dL_days_302 : decode cL_days 302 = .ok (.bipush 7, 2) := by decide +kernel
theorem dL_days_304 : decode cL_days 304 = .ok (.if_icmp .ne 54, 3) := by decide +kernel
theorem dL_days_307 : decode cL_days 307 = .ok (.aload_n 0, 1) := by decide +kernel
theorem dL_days_308 : decode cL_days 308 = .ok (.iconst 0, 1) := by decide +kernel
theorem dL_days_309 : decode cL_days 309 = .ok (.invokevirtual 129, 3) := by decide +kernel
theorem dL_days_312 : decode cL_days 312 = .ok (.bipush 31, 2) := by decide +kernel
theorem dL_days_314 : decode cL_days 314 = .ok (.if_icmp .ne 44, 3) := by decide +kernel
theorem dL_days_317 : decode cL_days 317 = .ok (.aload_n 0, 1) := by decide +kernel
theorem dL_days_318 : decode cL_days 318 = .ok (.invokevirtual 230, 3) := by decide +kernel
theorem dL_days_321 : decode cL_days 321 = .ok (.bipush 20, 2) := by decide +kernel
theorem dL_days_323 : decode cL_days 323 = .ok (.if_icmp .ne 35, 3) := by decide +kernel
theorem dL_days_326 : decode cL_days 326 = .ok (.aload_n 0, 1) := by decide +kernel
theorem dL_days_327 : decode cL_days 327 = .ok (.iconst 0, 1) := by decide +kernel
theorem dL_days_328 : decode cL_days 328 = .ok (.bipush 20, 2) := by decide +kernel
theorem dL_days_330 : decode cL_days 330 = .ok (.bipush 60, 2) := by decide +kernel
theorem dL_days_332 : decode cL_days 332 = .ok (.iconst 0, 1) := by decide +kernel
theorem dL_days_333 : decode cL_days 333 = .ok (.iconst 0, 1) := by decide +kernel
theorem dL_days_334 : decode cL_days 334 = .ok (.iconst 0, 1) := by decide +kernel
theorem dL_days_335 : decode cL_days 335 = .ok (.invokestatic 233, 3) := by decide +kernel
theorem dL_days_338 : decode cL_days 338 = .ok (.ifCond .eq 20, 3) := by decide +kernel
theorem dL_days_341 : decode cL_days 341 = .ok (.aload_n 0, 1) := by decide +kernel
theorem dL_days_342 : decode cL_days 342 = .ok (.invokestatic 223, 3) := by decide +kernel
theorem dL_days_345 : decode cL_days 345 = .ok (.ifCond .eq 13, 3) := by decide +kernel
theorem dL_days_348 : decode cL_days 348 = .ok (.aload_n 0, 1) := by decide +kernel
theorem dL_days_349 : decode cL_days 349 = .ok (.invokevirtual 237, 3) := by decide +kernel
theorem dL_days_352 : decode cL_days 352 = .ok (.sipush 400, 3) := by decide +kernel
theorem dL_days_355 : decode cL_days 355 = .ok (.if_icmp .eq 5, 3) := by decide +kernel
theorem dL_days_358 : decode cL_days 358 = .ok (.iconst 0, 1) := by decide +kernel
theorem dL_days_359 : decode cL_days 359 = .ok (.ireturn, 1) := by decide +kernel
theorem dL_days_360 : decode cL_days 360 = .ok (.aload_n 0, 1) := by decide +kernel
theorem dL_days_361 : decode cL_days 361 = .ok (.iconst 1, 1) := by decide +kernel
theorem dL_days_362 : decode cL_days 362 = .ok (.invokevirtual 68, 3) := by decide +kernel
theorem dL_days_365 : decode cL_days 365 = .ok (.iconst 1, 1) := by decide +kernel
theorem dL_days_366 : decode cL_days 366 = .ok (.if_icmp .ne 473, 3) := by decide +kernel
theorem dL_days_369 : decode cL_days 369 = .ok (.aload_n 0, 1) := by decide +kernel
theorem dL_days_370 : decode cL_days 370 = .ok (.iconst 0, 1) := by decide +kernel
theorem dL_days_371 : decode cL_days 371 = .ok (.bipush 17, 2) := by decide +kernel
theorem dL_days_373 : decode cL_days 373 = .ok (.bipush 75, 2) := by decide +kernel
theorem dL_days_375 : decode cL_days 375 = .ok (.iconst 0, 1) := by decide +kernel
theorem dL_days_376 : decode cL_days 376 = .ok (.iconst 0, 1) := by decide +kernel
theorem dL_days_377 : decode cL_days 377 = .ok (.iconst 0, 1) := by decide +kernel
theorem dL_days_378 : decode cL_days 378 = .ok (.invokestatic 233, 3) := by decide +kernel
theorem dL_days_381 : decode cL_days 381 = .ok (.ifCond .eq 458, 3) := by decide +kernel
theorem dL_days_384 : decode cL_days 384 = .ok (.aload_n 0, 1) := by decide +kernel
theorem dL_days_385 : decode cL_days 385 = .ok (.iconst 1, 1) := by decide +kernel
theorem dL_days_386 : decode cL_days 386 = .ok (.invokevirtual 68, 3) := by decide +kernel
theorem dL_days_389 : decode cL_days 389 = .ok (.iconst 1, 1) := by decide +kernel
theorem dL_days_390 : decode cL_days 390 = .ok (.if_icmp .ne 449, 3) := by decide +kernel
theorem dL_days_393 : decode cL_days 393 = .ok (.aload_n 0, 1) := by decide +kernel
theorem dL_days_394 : decode cL_days 394 = .ok (.iconst 0, 1) := by decide +kernel
theorem dL_days_395 : decode cL_days 395 = .ok (.bipush 14, 2) := by decide +kernel
theorem dL_days_397 : decode cL_days 397 = .ok (.bipush 90, 2) := by decide +kernel
theorem dL_days_399 : decode cL_days 399 = .ok (.iconst 0, 1) := by decide +kernel
theorem dL_days_400 : decode cL_days 400 = .ok (.iconst 0, 1) := by decide +kernel
theorem dL_days_401 : decode cL_days 401 = .ok (.iconst 4, 1) := by decide +kernel
theorem dL_days_402 : decode cL_days 402 = .ok (.invokestatic 233, 3) := by decide +kernel
theorem dL_days_405 : decode cL_days 405 = .ok (.ifCond .eq 434, 3) := by decide +kernel
theorem dL_days_408 : decode cL_days 408 = .ok (.aload_n 0, 1) := by decide +kernel
theorem dL_days_409 : decode cL_days 409 = .ok (.iconst 1, 1) := by decide +kernel
theorem dL_days_410 : decode cL_days 410 = .ok (.invokevirtual 68, 3) := by decide +kernel
theorem dL_days_413 : decode cL_days 413 = .ok (.ifCond .ne 426, 3) := by decide +kernel
theorem dL_days_416 : decode cL_days 416 = .ok (.aload_n 0, 1) := by decide +kernel
theorem dL_days_417 : decode cL_days 417 = .ok (.iconst 0, 1) := by decide +kernel
theorem dL_days_418 : decode cL_days 418 = .ok (.bipush 14, 2) := by decide +kernel
theorem dL_days_420 : decode cL_days 420 = .ok (.bipush 90, 2) := by decide +kernel
theorem dL_days_422 : decode cL_days 422 = .ok (.iconst 1, 1) := by decide +kernel
theorem dL_days_423 : decode cL_days 423 = .ok (.iconst 0, 1) := by decide +kernel
theorem dL_days_424 : decode cL_days 424 = .ok (.iconst 0, 1) := by decide +kernel
theorem dL_days_425 : decode cL_days 425 = .ok (.invokestatic 233, 3) := by decide +kernel
theorem dL_days_428 : decode cL_days 428 = .ok (.ifCond .eq 411, 3) := by decide +kernel
theorem dL_days_431 : decode cL_days 431 = .ok (.aload_n 0, 1) := by decide +kernel
theorem dL_days_432 : decode cL_days 432 = .ok (.iconst 2, 1) := by decide +kernel
theorem dL_days_433 : decode cL_days 433 = .ok (.invokevirtual 68, 3) := by decide +kernel
theorem dL_days_436 : decode cL_days 436 = .ok (.iconst 2, 1) := by decide +kernel
theorem dL_days_437 : decode cL_days 437 = .ok (.if_icmp .ne 402, 3) := by decide +kernel
theorem dL_days_440 : decode cL_days 440 = .ok (.aload_n 0, 1) := by decide +kernel
theorem dL_days_441 : decode cL_days 441 = .ok (.iconst 0, 1) := by decide +kernel
theorem dL_days_442 : decode cL_days 442 = .ok (.bipush 10, 2) := by decide +kernel
theorem dL_days_444 : decode cL_days 444 = .ok (.bipush 100, 2) := by decide +kernel
theorem dL_days_446 : decode cL_days 446 = .ok (.iconst 1, 1) := by decide +kernel
theorem dL_days_447 : decode cL_days 447 = .ok (.iconst 2, 1) := by decide +kernel
theorem dL_days_448 : decode cL_days 448 = .ok (.iconst 4, 1) := by decide +kernel
theorem dL_days_449 : decode cL_days 449 = .ok (.invokestatic 233, 3) := by decide +kernel
theorem dL_days_452 : decode cL_days 452 = .ok (.ifCond .eq 387, 3) := by decide +kernel
theorem dL_days_455 : decode cL_days 455 = .ok (.aload_n 0, 1) := by decide +kernel
theorem dL_days_456 : decode cL_days 456 = .ok (.iconst 1, 1) := by decide +kernel
theorem dL_days_457 : decode cL_days 457 = .ok (.iconst 0, 1) := by decide +kernel
theorem dL_days_458 : decode cL_days 458 = .ok (.iconst 1, 1) := by decide +kernel
theorem dL_days_459 : decode cL_days 459 = .ok (.invokevirtual 105, 3) := by decide +kernel
theorem dL_days_462 : decode cL_days 462 = .ok (.ifCond .ne 377, 3) := by decide +kernel
theorem dL_days_465 : decode cL_days 465 = .ok (.aload_n 0, 1) := by decide +kernel
theorem dL_days_466 : decode cL_days 466 = .ok (.iconst 0, 1) := by decide +kernel
theorem dL_days_467 : decode cL_days 467 = .ok (.invokevirtual 138, 3) := by decide +kernel
theorem dL_days_470 : decode cL_days 470 = .ok (.iconst 2, 1) := by decide +kernel
theorem dL_days_471 : decode cL_days 471 = .ok (.if_icmp .ne 368, 3) := by decide +kernel
theorem dL_days_474 : decode cL_days 474 = .ok (.aload_n 0, 1) := by decide +kernel
theorem dL_days_475 : decode cL_days 475 = .ok (.bipush 10, 2) := by decide +kernel
theorem dL_days_477 : decode cL_days 477 = .ok (.invokevirtual 68, 3) := by decide +kernel
theorem dL_days_480 : decode cL_days 480 = .ok (.ifCond .ne 359, 3) := by decide +kernel
theorem dL_days_483 : decode cL_days 483 = .ok (.aload_n 0, 1) := by decide +kernel
theorem dL_days_484 : decode cL_days 484 = .ok (.iconst 0, 1) := by decide +kernel
theorem dL_days_485 : decode cL_days 485 = .ok (.bipush 10, 2) := by decide +kernel
theorem dL_days_487 : decode cL_days 487 = .ok (.bipush 80, 2) := by decide +kernel
theorem dL_days_489 : decode cL_days 489 = .ok (.bipush 11, 2) := by decide +kernel
theorem dL_days_491 : decode cL_days 491 = .ok (.iconst 2, 1) := by decide +kernel
theorem dL_days_492 : decode cL_days 492 = .ok (.iconst 2, 1) := by decide +kernel
theorem dL_days_493 : decode cL_days 493 = .ok (.invokestatic 233, 3) := by decide +kernel
theorem dL_days_496 : decode cL_days 496 = .ok (.ifCond .eq 343, 3) := by decide +kernel
theorem dL_days_499 : decode cL_days 499 = .ok (.aload_n 0, 1) := by decide +kernel
theorem dL_days_500 : decode cL_days 500 = .ok (.iconst 0, 1) := by decide +kernel
theorem dL_days_501 : decode cL_days 501 = .ok (.invokevirtual 120, 3) := by decide +kernel
theorem dL_days_504 : decode cL_days 504 = .ok (.ifCond .ne 335, 3) := by decide +kernel
theorem dL_days_507 : decode cL_days 507 = .ok (.aload_n 0, 1) := by decide +kernel
theorem dL_days_508 : decode cL_days 508 = .ok (.iconst 1, 1) := by decide +kernel
theorem dL_days_509 : decode cL_days 509 = .ok (.invokevirtual 68, 3) := by decide +kernel
theorem dL_days_512 : decode cL_days 512 = .ok (.ifCond .ne 327, 3) := by decide +kernel
theorem dL_days_515 : decode cL_days 515 = .ok (.aload_n 0, 1) := by decide +kernel
theorem dL_days_516 : decode cL_days 516 = .ok (.iconst 0, 1) := by decide +kernel
theorem dL_days_517 : decode cL_days 517 = .ok (.bipush 10, 2) := by decide +kernel
theorem dL_days_519 : decode cL_days 519 = .ok (.bipush 78, 2) := by decide +kernel
theorem dL_days_521 : decode cL_days 521 = .ok (.bipush 10, 2) := by decide +kernel
theorem dL_days_523 : decode cL_days 523 = .ok (.iconst 2, 1) := by decide +kernel
theorem dL_days_524 : decode cL_days 524 = .ok (.iconst 2, 1) := by decide +kernel
theorem dL_days_525 : decode cL_days 525 = .ok (.invokestatic 233, 3) := by decide +kernel
theorem dL_days_528 : decode cL_days 528 = .ok (.ifCond .eq 311, 3) := by decide +kernel
theorem dL_days_531 : decode cL_days 531 = .ok (.aload_n 0, 1) := by decide +kernel
theorem dL_days_532 : decode cL_days 532 = .ok (.iconst 0, 1) := by decide +kernel
theorem dL_days_533 : decode cL_days 533 = .ok (.invokevirtual 120, 3) := by decide +kernel
theorem dL_days_536 : decode cL_days 536 = .ok (.ifCond .eq 303, 3) := by decide +kernel
