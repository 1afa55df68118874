theorem dX4_restock_73 : decode cX4_restock 73 = .ok (.iload_n 2, 1) := by decide +kernel
theorem dX4_restock_74 : decode cX4_restock 74 = .ok (.iload_n 3, 1) := by decide +kernel
theorem dX4_restock_75 : decode cX4_restock 75 = .ok (.iload 4, 2) := by decide +kernel
theorem dX4_restock_77 : decode cX4_restock 77 = .ok (.invokevirtual 111, 3) := by decide +kernel
theorem dX4_restock_80 : decode cX4_restock 80 = .ok (.aload 5, 2) := by decide +kernel
theorem dX4_restock_82 : decode cX4_restock 82 = .ok (.getfield 115, 3) := by decide +kernel
theorem dX4_restock_85 : decode cX4_restock 85 = .ok (.ireturn, 1) := by decide +kernel
theorem dX4_fund_0 : decode cX4_fund 0 = .ok (.aload_n 0, 1) := by decide +kernel
theorem dX4_fund_1 : decode cX4_fund 1 = .ok (.iload_n 1, 1) := by decide +kernel
theorem dX4_fund_2 : decode cX4_fund 2 = .ok (.invokevirtual 82, 3) := by decide +kernel
theorem dX4_fund_5 : decode cX4_fund 5 = .ok (.astore_n 3, 1) := by decide +kernel
theorem dX4_fund_6 : decode cX4_fund 6 = .ok (.iload_n 2, 1) := by decide +kernel
theorem dX4_fund_7 : decode cX4_fund 7 = .ok (.iconst 1, 1) := by decide +kernel
theorem dX4_fund_8 : decode cX4_fund 8 = .ok (.if_icmp .lt 9, 3) := by decide +kernel
theorem dX4_fund_11 : decode cX4_fund 11 = .ok (.iload_n 2, 1) := by decide +kernel
theorem dX4_fund_12 : decode cX4_fund 12 = .ok (.bipush 99, 2) := by decide +kernel
theorem dX4_fund_14 : decode cX4_fund 14 = .ok (.if_icmp .le 13, 3) := by decide +kernel
theorem dX4_fund_17 : decode cX4_fund 17 = .ok (.new 100, 3) := by decide +kernel
theorem dX4_fund_20 : decode cX4_fund 20 = .ok (.dup, 1) := by decide +kernel
theorem dX4_fund_21 : decode cX4_fund 21 = .ok (.ldc 118, 2) := by decide +kernel
theorem dX4_fund_23 : decode cX4_fund 23 = .ok (.invokespecial 104, 3) := by decide +kernel
theorem dX4_fund_26 : decode cX4_fund 26 = .ok (.athrow, 1) := by decide +kernel
theorem dX4_fund_27 : decode cX4_fund 27 = .ok (.aload_n 0, 1) := by decide +kernel
theorem dX4_fund_28 : decode cX4_fund 28 = .ok (.getfield 10, 3) := by decide +kernel
theorem dX4_fund_31 : decode cX4_fund 31 = .ok (.iload_n 1, 1) := by decide +kernel
theorem dX4_fund_32 : decode cX4_fund 32 = .ok (.iload_n 2, 1) := by decide +kernel
theorem dX4_fund_33 : decode cX4_fund 33 = .ok (.invokevirtual 120, 3) := by decide +kernel
theorem dX4_fund_36 : decode cX4_fund 36 = .ok (.ifCond .ne 13, 3) := by decide +kernel
theorem dX4_fund_39 : decode cX4_fund 39 = .ok (.new 58, 3) := by decide +kernel
theorem dX4_fund_42 : decode cX4_fund 42 = .ok (.dup, 1) := by decide +kernel
theorem dX4_fund_43 : decode cX4_fund 43 = .ok (.ldc 124, 2) := by decide +kernel
theorem dX4_fund_45 : decode cX4_fund 45 = .ok (.invokespecial 62, 3) := by decide +kernel
theorem dX4_fund_48 : decode cX4_fund 48 = .ok (.athrow, 1) := by decide +kernel
theorem dX4_fund_49 : decode cX4_fund 49 = .ok (.aload_n 0, 1) := by decide +kernel
theorem dX4_fund_50 : decode cX4_fund 50 = .ok (.invokevirtual 65, 3) := by decide +kernel
theorem dX4_fund_53 : decode cX4_fund 53 = .ok (.aload_n 0, 1) := by decide +kernel
theorem dX4_fund_54 : decode cX4_fund 54 = .ok (.getfield 10, 3) := by decide +kernel
theorem dX4_fund_57 : decode cX4_fund 57 = .ok (.iload_n 1, 1) := by decide +kernel
theorem dX4_fund_58 : decode cX4_fund 58 = .ok (.iload_n 2, 1) := by decide +kernel
theorem dX4_fund_59 : decode cX4_fund 59 = .ok (.invokevirtual 126, 3) := by decide +kernel
theorem dX4_fund_62 : decode cX4_fund 62 = .ok (.aload_n 3, 1) := by decide +kernel
theorem dX4_fund_63 : decode cX4_fund 63 = .ok (.getfield 115, 3) := by decide +kernel
theorem dX4_fund_66 : decode cX4_fund 66 = .ok (.ireturn, 1) := by decide +kernel
theorem dX4_collect_0 : decode cX4_collect 0 = .ok (.aload_n 0, 1) := by decide +kernel
theorem dX4_collect_1 : decode cX4_collect 1 = .ok (.iload_n 1, 1) := by decide +kernel
theorem dX4_collect_2 : decode cX4_collect 2 = .ok (.invokevirtual 72, 3) := by decide +kernel
theorem dX4_collect_5 : decode cX4_collect 5 = .ok (.aload_n 0, 1) := by decide +kernel
theorem dX4_collect_6 : decode cX4_collect 6 = .ok (.invokevirtual 65, 3) := by decide +kernel
theorem dX4_collect_9 : decode cX4_collect 9 = .ok (.aload_n 0, 1) := by decide +kernel
theorem dX4_collect_10 : decode cX4_collect 10 = .ok (.getfield 10, 3) := by decide +kernel
theorem dX4_collect_13 : decode cX4_collect 13 = .ok (.iload_n 1, 1) := by decide +kernel
theorem dX4_collect_14 : decode cX4_collect 14 = .ok (.invokevirtual 75, 3) := by decide +kernel
theorem dX4_collect_17 : decode cX4_collect 17 = .ok (.ireturn, 1) := by decide +kernel
theorem dX4_come_0 : decode cX4_come 0 = .ok (.aload_n 0, 1) := by decide +kernel
theorem dX4_come_1 : decode cX4_come 1 = .ok (.iload_n 2, 1) := by decide +kernel
theorem dX4_come_2 : decode cX4_come 2 = .ok (.invokevirtual 48, 3) := by decide +kernel
theorem dX4_come_5 : decode cX4_come 5 = .ok (.aload_n 0, 1) := by decide +kernel
theorem dX4_come_6 : decode cX4_come 6 = .ok (.iload_n 3, 1) := by decide +kernel
theorem dX4_come_7 : decode cX4_come 7 = .ok (.invokevirtual 97, 3) := by decide +kernel
theorem dX4_come_10 : decode cX4_come 10 = .ok (.iload_n 1, 1) := by decide +kernel
theorem dX4_come_11 : decode cX4_come 11 = .ok (.ifCond .lt 9, 3) := by decide +kernel
theorem dX4_come_14 : decode cX4_come 14 = .ok (.iload_n 1, 1) := by decide +kernel
theorem dX4_come_15 : decode cX4_come 15 = .ok (.bipush 99, 2) := by decide +kernel
theorem dX4_come_17 : decode cX4_come 17 = .ok (.if_icmp .le 13, 3) := by decide +kernel
theorem dX4_come_20 : decode cX4_come 20 = .ok (.new 100, 3) := by decide +kernel
theorem dX4_come_23 : decode cX4_come 23 = .ok (.dup, 1) := by decide +kernel
theorem dX4_come_24 : decode cX4_come 24 = .ok (.ldc 130, 2) := by decide +kernel
theorem dX4_come_26 : decode cX4_come 26 = .ok (.invokespecial 104, 3) := by decide +kernel
theorem dX4_come_29 : decode cX4_come 29 = .ok (.athrow, 1) := by decide +kernel
theorem dX4_come_30 : decode cX4_come 30 = .ok (.aload_n 0, 1) := by decide +kernel
theorem dX4_come_31 : decode cX4_come 31 = .ok (.getfield 10, 3) := by decide +kernel
theorem dX4_come_34 : decode cX4_come 34 = .ok (.getfield 132, 3) := by decide +kernel
theorem dX4_come_37 : decode cX4_come 37 = .ok (.invokevirtual 136, 3) := by decide +kernel
theorem dX4_come_40 : decode cX4_come 40 = .ok (.ifCond .ne 13, 3) := by decide +kernel
theorem dX4_come_43 : decode cX4_come 43 = .ok (.new 58, 3) := by decide +kernel
theorem dX4_come_46 : decode cX4_come 46 = .ok (.dup, 1) := by decide +kernel
theorem dX4_come_47 : decode cX4_come 47 = .ok (.ldc 142, 2) := by decide +kernel
theorem dX4_come_49 : decode cX4_come 49 = .ok (.invokespecial 62, 3) := by decide +kernel
theorem dX4_come_52 : decode cX4_come 52 = .ok (.athrow, 1) := by decide +kernel
theorem dX4_come_53 : decode cX4_come 53 = .ok (.aload_n 0, 1) := by decide +kernel
theorem dX4_come_54 : decode cX4_come 54 = .ok (.invokevirtual 65, 3) := by decide +kernel
theorem dX4_come_57 : decode cX4_come 57 = .ok (.aload_n 0, 1) := by decide +kernel
theorem dX4_come_58 : decode cX4_come 58 = .ok (.getfield 10, 3) := by decide +kernel
theorem dX4_come_61 : decode cX4_come 61 = .ok (.iload_n 1, 1) := by decide +kernel
theorem dX4_come_62 : decode cX4_come 62 = .ok (.iload_n 2, 1) := by decide +kernel
theorem dX4_come_63 : decode cX4_come 63 = .ok (.iload_n 3, 1) := by decide +kernel
theorem dX4_come_64 : decode cX4_come 64 = .ok (.invokevirtual 144, 3) := by decide +kernel
theorem dX4_come_67 : decode cX4_come 67 = .ok (.ireturn, 1) := by decide +kernel
theorem dX4_setRain_0 : decode cX4_setRain 0 = .ok (.aload_n 0, 1) := by decide +kernel
theorem dX4_setRain_1 : decode cX4_setRain 1 = .ok (.iload_n 1, 1) := by decide +kernel
theorem dX4_setRain_2 : decode cX4_setRain 2 = .ok (.invokevirtual 148, 3) := by decide +kernel
theorem dX4_setRain_5 : decode cX4_setRain 5 = .ok (.iload_n 2, 1) := by decide +kernel
theorem dX4_setRain_6 : decode cX4_setRain 6 = .ok (.ifCond .lt 9, 3) := by decide +kernel
theorem dX4_setRain_9 : decode cX4_setRain 9 = .ok (.iload_n 2, 1) := by decide +kernel
theorem dX4_setRain_10 : decode cX4_setRain 10 = .ok (.bipush 9, 2) := by decide +kernel
theorem dX4_setRain_12 : decode cX4_setRain 12 = .ok (.if_icmp .le 13, 3) := by decide +kernel
theorem dX4_setRain_15 : decode cX4_setRain 15 = .ok (.new 100, 3) := by decide +kernel
theorem dX4_setRain_18 : decode cX4_setRain 18 = .ok (.dup, 1) := by decide +kernel
theorem dX4_setRain_19 : decode cX4_setRain 19 = .ok (.ldc 151, 2) := by decide +kernel
theorem dX4_setRain_21 : decode cX4_setRain 21 = .ok (.invokespecial 104, 3) := by decide +kernel
theorem dX4_setRain_24 : decode cX4_setRain 24 = .ok (.athrow, 1) := by decide +kernel
theorem dX4_setRain_25 : decode cX4_setRain 25 = .ok (.aload_n 0, 1) := by decide +kernel
theorem dX4_setRain_26 : decode cX4_setRain 26 = .ok (.invokevirtual 65, 3) := by decide +kernel
theorem dX4_setRain_29 : decode cX4_setRain 29 = .ok (.aload_n 0, 1) := by decide +kernel
theorem dX4_setRain_30 : decode cX4_setRain 30 = .ok (.getfield 10, 3) := by decide +kernel
theorem dX4_setRain_33 : decode cX4_setRain 33 = .ok (.getfield 153, 3) := by decide +kernel
theorem dX4_setRain_36 : decode cX4_setRain 36 = .ok (.iload_n 1, 1) := by decide +kernel
theorem dX4_setRain_37 : decode cX4_setRain 37 = .ok (.iaload, 1) := by decide +kernel
theorem dX4_setRain_38 : decode cX4_setRain 38 = .ok (.istore_n 3, 1) := by decide +kernel
theorem dX4_setRain_39 : decode cX4_setRain 39 = .ok (.aload_n 0, 1) := by decide +kernel
theorem dX4_setRain_40 : decode cX4_setRain 40 = .ok (.getfield 10, 3) := by decide +kernel
theorem dX4_setRain_43 : decode cX4_setRain 43 = .ok (.getfield 153, 3) := by decide +kernel
theorem dX4_setRain_46 : decode cX4_setRain 46 = .ok (.iload_n 1, 1) := by decide +kernel
theorem dX4_setRain_47 : decode cX4_setRain 47 = .ok (.iload_n 2, 1) := by decide +kernel
theorem dX4_setRain_48 : decode cX4_setRain 48 = .ok (.iastore, 1) := by decide +kernel
theorem dX4_setRain_49 : decode cX4_setRain 49 = .ok (.iload_n 3, 1) := by decide +kernel
theorem dX4_setRain_50 : decode cX4_setRain 50 = .ok (.ireturn, 1) := by decide +kernel
theorem dX4_pass_0 : decode cX4_pass 0 = .ok (.iload_n 1, 1) := by decide +kernel
theorem dX4_pass_1 : decode cX4_pass 1 = .ok (.iconst 1, 1) := by decide +kernel
theorem dX4_pass_2 : decode cX4_pass 2 = .ok (.if_icmp .lt 9, 3) := by decide +kernel
theorem dX4_pass_5 : decode cX4_pass 5 = .ok (.iload_n 1, 1) := by decide +kernel
theorem dX4_pass_6 : decode cX4_pass 6 = .ok (.bipush 40, 2) := by decide +kernel
theorem dX4_pass_8 : decode cX4_pass 8 = .ok (.if_icmp .le 13, 3) := by decide +kernel
theorem dX4_pass_11 : decode cX4_pass 11 = .ok (.new 100, 3) := by decide +kernel
theorem dX4_pass_14 : decode cX4_pass 14 = .ok (.dup, 1) := by decide +kernel
theorem dX4_pass_15 : decode cX4_pass 15 = .ok (.ldc 157, 2) := by decide +kernel
theorem dX4_pass_17 : decode cX4_pass 17 = .ok (.invokespecial 104, 3) := by decide +kernel
theorem dX4_pass_20 : decode cX4_pass 20 = .ok (.athrow, 1) := by decide +kernel
theorem dX4_pass_21 : decode cX4_pass 21 = .ok (.aload_n 0, 1) := by decide +kernel
theorem dX4_pass_22 : decode cX4_pass 22 = .ok (.getfield 10, 3) := by decide +kernel
theorem dX4_pass_25 : decode cX4_pass 25 = .ok (.iload_n 1, 1) := by decide +kernel
theorem dX4_pass_26 : decode cX4_pass 26 = .ok (.invokevirtual 159, 3) := by decide +kernel
theorem dX4_pass_29 : decode cX4_pass 29 = .ok (.ifCond .ne 13, 3) := by decide +kernel
theorem dX4_pass_32 : decode cX4_pass 32 = .ok (.new 58, 3) := by decide +kernel
theorem dX4_pass_35 : decode cX4_pass 35 = .ok (.dup, 1) := by decide +kernel
theorem dX4_pass_36 : decode cX4_pass 36 = .ok (.ldc 163, 2) := by decide +kernel
theorem dX4_pass_38 : decode cX4_pass 38 = .ok (.invokespecial 62, 3) := by decide +kernel
theorem dX4_pass_41 : decode cX4_pass 41 = .ok (.athrow, 1) := by decide +kernel
theorem dX4_pass_42 : decode cX4_pass 42 = .ok (.aload_n 0, 1) := by decide +kernel
theorem dX4_pass_43 : decode cX4_pass 43 = .ok (.invokevirtual 65, 3) := by decide +kernel
theorem dX4_pass_46 : decode cX4_pass 46 = .ok (.aload_n 0, 1) := by decide +kernel
theorem dX4_pass_47 : decode cX4_pass 47 = .ok (.getfield 10, 3) := by decide +kernel
theorem dX4_pass_50 : decode cX4_pass 50 = .ok (.getfield 165, 3) := by decide +kernel
theorem dX4_pass_53 : decode cX4_pass 53 = .ok (.istore_n 2, 1) := by decide +kernel
theorem dX4_pass_54 : decode cX4_pass 54 = .ok (.aload_n 0, 1) := by decide +kernel
theorem dX4_pass_55 : decode cX4_pass 55 = .ok (.getfield 10, 3) := by decide +kernel
theorem dX4_pass_58 : decode cX4_pass 58 = .ok (.iload_n 1, 1) := by decide +kernel
theorem dX4_pass_59 : decode cX4_pass 59 = .ok (.invokevirtual 168, 3) := by decide +kernel
theorem dX4_pass_62 : decode cX4_pass 62 = .ok (.aload_n 0, 1) := by decide +kernel
theorem dX4_pass_63 : decode cX4_pass 63 = .ok (.getfield 10, 3) := by decide +kernel
theorem dX4_pass_66 : decode cX4_pass 66 = .ok (.getfield 165, 3) := by decide +kernel
theorem dX4_pass_69 : decode cX4_pass 69 = .ok (.iload_n 2, 1) := by decide +kernel
theorem dX4_pass_70 : decode cX4_pass 70 = .ok (.isub, 1) := by decide +kernel
theorem dX4_pass_71 : decode cX4_pass 71 = .ok (.ireturn, 1) := by decide +kernel
theorem dX4_type_0 : decode cX4_type 0 = .ok (.aload_n 0, 1) := by decide +kernel
theorem dX4_type_1 : decode cX4_type 1 = .ok (.getfield 40, 3) := by decide +kernel
theorem dX4_type_4 : decode cX4_type 4 = .ok (.iload_n 1, 1) := by decide +kernel
theorem dX4_type_5 : decode cX4_type 5 = .ok (.invokevirtual 171, 3) := by decide +kernel
theorem dX4_type_8 : decode cX4_type 8 = .ok (.ifCond .ne 13, 3) := by decide +kernel
theorem dX4_type_11 : decode cX4_type 11 = .ok (.new 58, 3) := by decide +kernel
theorem dX4_type_14 : decode cX4_type 14 = .ok (.dup, 1) := by decide +kernel
theorem dX4_type_15 : decode cX4_type 15 = .ok (.ldc 175, 2) := by decide +kernel
theorem dX4_type_17 : decode cX4_type 17 = .ok (.invokespecial 62, 3) := by decide +kernel
theorem dX4_type_20 : decode cX4_type 20 = .ok (.athrow, 1) := by decide +kernel
theorem dX4_type_21 : decode cX4_type 21 = .ok (.aload_n 0, 1) := by decide +kernel
theorem dX4_type_22 : decode cX4_type 22 = .ok (.getfield 40, 3) := by decide +kernel
theorem dX4_type_25 : decode cX4_type 25 = .ok (.getfield 177, 3) := by decide +kernel
theorem dX4_type_28 : decode cX4_type 28 = .ok (.ireturn, 1) := by decide +kernel
theorem dX4_clearText_0 : decode cX4_clearText 0 = .ok (.aload_n 0, 1) := by decide +kernel
theorem dX4_clearText_1 : decode cX4_clearText 1 = .ok (.getfield 40, 3) := by decide +kernel
theorem dX4_clearText_4 : decode cX4_clearText 4 = .ok (.getfield 177, 3) := by decide +kernel
theorem dX4_clearText_7 : decode cX4_clearText 7 = .ok (.istore_n 1, 1) := by decide +kernel
theorem dX4_clearText_8 : decode cX4_clearText 8 = .ok (.aload_n 0, 1) := by decide +kernel
theorem dX4_clearText_9 : decode cX4_clearText 9 = .ok (.getfield 40, 3) := by decide +kernel
theorem dX4_clearText_12 : decode cX4_clearText 12 = .ok (.iconst 0, 1) := by decide +kernel
theorem dX4_clearText_13 : decode cX4_clearText 13 = .ok (.putfield 177, 3) := by decide +kernel
theorem dX4_clearText_16 : decode cX4_clearText 16 = .ok (.iload_n 1, 1) := by decide +kernel
theorem dX4_clearText_17 : decode cX4_clearText 17 = .ok (.ireturn, 1) := by decide +kernel
theorem dX4_textError_0 : decode cX4_textError 0 = .ok (.aload_n 0, 1) := by decide +kernel
theorem dX4_textError_1 : decode cX4_textError 1 = .ok (.getfield 40, 3) := by decide +kernel
theorem dX4_textError_4 : decode cX4_textError 4 = .ok (.invokevirtual 180, 3) := by decide +kernel
theorem dX4_textError_7 : decode cX4_textError 7 = .ok (.ireturn, 1) := by decide +kernel
theorem dX4_impossibleOrder_0 : decode cX4_impossibleOrder 0 = .ok (.aload_n 0, 1) := by decide +kernel
theorem dX4_impossibleOrder_1 : decode cX4_impossibleOrder 1 = .ok (.getfield 40, 3) := by decide +kernel
theorem dX4_impossibleOrder_4 : decode cX4_impossibleOrder 4 = .ok (.invokevirtual 180, 3) := by decide +kernel
theorem dX4_impossibleOrder_7 : decode cX4_impossibleOrder 7 = .ok (.iconst (-1), 1) := by decide +kernel
theorem dX4_impossibleOrder_8 : decode cX4_impossibleOrder 8 = .ok (.if_icmp .eq 13, 3) := by decide +kernel
theorem dX4_impossibleOrder_11 : decode cX4_impossibleOrder 11 = .ok (.new 58, 3) := by decide +kernel
theorem dX4_impossibleOrder_14 : decode cX4_impossibleOrder 14 = .ok (.dup, 1) := by decide +kernel
theorem dX4_impossibleOrder_15 : decode cX4_impossibleOrder 15 = .ok (.ldc 184, 2) := by decide +kernel
theorem dX4_impossibleOrder_17 : decode cX4_impossibleOrder 17 = .ok (.invokespecial 62, 3) := by decide +kernel
theorem dX4_impossibleOrder_20 : decode cX4_impossibleOrder 20 = .ok (.athrow, 1) := by decide +kernel
theorem dX4_impossibleOrder_21 : decode cX4_impossibleOrder 21 = .ok (.aload_n 0, 1) := by decide +kernel
theorem dX4_impossibleOrder_22 : decode cX4_impossibleOrder 22 = .ok (.invokevirtual 186, 3) := by decide +kernel
theorem dX4_impossibleOrder_25 : decode cX4_impossibleOrder 25 = .ok (.ireturn, 1) := by decide +kernel
theorem dX4_carryOut_0 : decode cX4_carryOut 0 = .ok (.aload_n 0, 1) := by decide +kernel
theorem dX4_carryOut_1 : decode cX4_carryOut 1 = .ok (.getfield 40, 3) := by decide +kernel
theorem dX4_carryOut_4 : decode cX4_carryOut 4 = .ok (.invokevirtual 180, 3) := by decide +kernel
theorem dX4_carryOut_7 : decode cX4_carryOut 7 = .ok (.iconst (-1), 1) := by decide +kernel
theorem dX4_carryOut_8 : decode cX4_carryOut 8 = .ok (.if_icmp .eq 13, 3) := by decide +kernel
theorem dX4_carryOut_11 : decode cX4_carryOut 11 = .ok (.new 58, 3) := by decide +kernel
theorem dX4_carryOut_14 : decode cX4_carryOut 14 = .ok (.dup, 1) := by decide +kernel
theorem dX4_carryOut_15 : decode cX4_carryOut 15 = .ok (.ldc 184, 2) := by decide +kernel
theorem dX4_carryOut_17 : decode cX4_carryOut 17 = .ok (.invokespecial 62, 3) := by decide +kernel
theorem dX4_carryOut_20 : decode cX4_carryOut 20 = .ok (.athrow, 1) := by decide +kernel
theorem dX4_carryOut_21 : decode cX4_carryOut 21 = .ok (.aload_n 0, 1) := by decide +kernel
theorem dX4_carryOut_22 : decode cX4_carryOut 22 = .ok (.invokevirtual 186, 3) := by decide +kernel
theorem dX4_carryOut_25 : decode cX4_carryOut 25 = .ok (.iconst (-1), 1) := by decide +kernel
theorem dX4_carryOut_26 : decode cX4_carryOut 26 = .ok (.if_icmp .eq 13, 3) := by decide +kernel
theorem dX4_carryOut_29 : decode cX4_carryOut 29 = .ok (.new 58, 3) := by decide +kernel
theorem dX4_carryOut_32 : decode cX4_carryOut 32 = .ok (.dup, 1) := by decide +kernel
theorem dX4_carryOut_33 : decode cX4_carryOut 33 = .ok (.ldc 189, 2) := by decide +kernel
theorem dX4_carryOut_35 : decode cX4_carryOut 35 = .ok (.invokespecial 62, 3) := by decide +kernel
theorem dX4_carryOut_38 : decode cX4_carryOut 38 = .ok (.athrow, 1) := by decide +kernel
theorem dX4_carryOut_39 : decode cX4_carryOut 39 = .ok (.aload_n 0, 1) := by decide +kernel
theorem dX4_carryOut_40 : decode cX4_carryOut 40 = .ok (.invokevirtual 65, 3) := by decide +kernel
theorem dX4_carryOut_43 : decode cX4_carryOut 43 = .ok (.aload_n 0, 1) := by decide +kernel
theorem dX4_carryOut_44 : decode cX4_carryOut 44 = .ok (.getfield 10, 3) := by decide +kernel
theorem dX4_carryOut_47 : decode cX4_carryOut 47 = .ok (.aload_n 0, 1) := by decide +kernel
theorem dX4_carryOut_48 : decode cX4_carryOut 48 = .ok (.getfield 16, 3) := by decide +kernel
theorem dX4_carryOut_51 : decode cX4_carryOut 51 = .ok (.invokevirtual 191, 3) := by decide +kernel
theorem dX4_carryOut_54 : decode cX4_carryOut 54 = .ok (.aload_n 0, 1) := by decide +kernel
theorem dX4_carryOut_55 : decode cX4_carryOut 55 = .ok (.getfield 40, 3) := by decide +kernel
theorem dX4_carryOut_58 : decode cX4_carryOut 58 = .ok (.getfield 195, 3) := by decide +kernel
theorem dX4_carryOut_61 : decode cX4_carryOut 61 = .ok (.ireturn, 1) := by decide +kernel
theorem dX4_undo_0 : decode cX4_undo 0 = .ok (.aload_n 0, 1) := by decide +kernel
theorem dX4_undo_1 : decode cX4_undo 1 = .ok (.getfield 34, 3) := by decide +kernel
theorem dX4_undo_4 : decode cX4_undo 4 = .ok (.ifCond .ne 13, 3) := by decide +kernel
theorem dX4_undo_7 : decode cX4_undo 7 = .ok (.new 58, 3) := by decide +kernel
theorem dX4_undo_10 : decode cX4_undo 10 = .ok (.dup, 1) := by decide +kernel
theorem dX4_undo_11 : decode cX4_undo 11 = .ok (.ldc 198, 2) := by decide +kernel
theorem dX4_undo_13 : decode cX4_undo 13 = .ok (.invokespecial 62, 3) := by decide +kernel
theorem dX4_undo_16 : decode cX4_undo 16 = .ok (.athrow, 1) := by decide +kernel
theorem dX4_undo_17 : decode cX4_undo 17 = .ok (.aload_n 0, 1) := by decide +kernel
theorem dX4_undo_18 : decode cX4_undo 18 = .ok (.aload_n 0, 1) := by decide +kernel
theorem dX4_undo_19 : decode cX4_undo 19 = .ok (.getfield 30, 3) := by decide +kernel
theorem dX4_undo_22 : decode cX4_undo 22 = .ok (.iconst 4, 1) := by decide +kernel
theorem dX4_undo_23 : decode cX4_undo 23 = .ok (.iadd, 1) := by decide +kernel
theorem dX4_undo_24 : decode cX4_undo 24 = .ok (.iconst 1, 1) := by decide +kernel
theorem dX4_undo_25 : decode cX4_undo 25 = .ok (.isub, 1) := by decide +kernel
theorem dX4_undo_26 : decode cX4_undo 26 = .ok (.iconst 4, 1) := by decide +kernel
theorem dX4_undo_27 : decode cX4_undo 27 = .ok (.irem, 1) := by decide +kernel
theorem dX4_undo_28 : decode cX4_undo 28 = .ok (.putfield 30, 3) := by decide +kernel
theorem dX4_undo_31 : decode cX4_undo 31 = .ok (.aload_n 0, 1) := by decide +kernel
theorem dX4_undo_32 : decode cX4_undo 32 = .ok (.dup, 1) := by decide +kernel
theorem dX4_undo_33 : decode cX4_undo 33 = .ok (.getfield 34, 3) := by decide +kernel
theorem dX4_undo_36 : decode cX4_undo 36 = .ok (.iconst 1, 1) := by decide +kernel
theorem dX4_undo_37 : decode cX4_undo 37 = .ok (.isub, 1) := by decide +kernel
theorem dX4_undo_38 : decode cX4_undo 38 = .ok (.putfield 34, 3) := by decide +kernel
theorem dX4_undo_41 : decode cX4_undo 41 = .ok (.aload_n 0, 1) := by decide +kernel
theorem dX4_undo_42 : decode cX4_undo 42 = .ok (.getfield 10, 3) := by decide +kernel
theorem dX4_undo_45 : decode cX4_undo 45 = .ok (.aload_n 0, 1) := by decide +kernel
theorem dX4_undo_46 : decode cX4_undo 46 = .ok (.getfield 26, 3) := by decide +kernel
theorem dX4_undo_49 : decode cX4_undo 49 = .ok (.aload_n 0, 1) := by decide +kernel
theorem dX4_undo_50 : decode cX4_undo 50 = .ok (.getfield 30, 3) := by decide +kernel
theorem dX4_undo_53 : decode cX4_undo 53 = .ok (.aaload, 1) := by decide +kernel
theorem dX4_undo_54 : decode cX4_undo 54 = .ok (.invokevirtual 191, 3) := by decide +kernel
theorem dX4_undo_57 : decode cX4_undo 57 = .ok (.aload_n 0, 1) := by decide +kernel
theorem dX4_undo_58 : decode cX4_undo 58 = .ok (.getfield 34, 3) := by decide +kernel
theorem dX4_undo_61 : decode cX4_undo 61 = .ok (.ireturn, 1) := by decide +kernel
theorem dX4_takeSnapshot_0 : decode cX4_takeSnapshot 0 = .ok (.aload_n 0, 1) := by decide +kernel
theorem dX4_takeSnapshot_1 : decode cX4_takeSnapshot 1 = .ok (.getfield 19, 3) := by decide +kernel
theorem dX4_takeSnapshot_4 : decode cX4_takeSnapshot 4 = .ok (.aload_n 0, 1) := by decide +kernel
theorem dX4_takeSnapshot_5 : decode cX4_takeSnapshot 5 = .ok (.getfield 10, 3) := by decide +kernel
theorem dX4_takeSnapshot_8 : decode cX4_takeSnapshot 8 = .ok (.invokevirtual 191, 3) := by decide +kernel
theorem dX4_takeSnapshot_11 : decode cX4_takeSnapshot 11 = .ok (.aload_n 0, 1) := by decide +kernel
theorem dX4_takeSnapshot_12 : decode cX4_takeSnapshot 12 = .ok (.iconst 1, 1) := by decide +kernel
theorem dX4_takeSnapshot_13 : decode cX4_takeSnapshot 13 = .ok (.putfield 22, 3) := by decide +kernel
theorem dX4_takeSnapshot_16 : decode cX4_takeSnapshot 16 = .ok (.aload_n 0, 1) := by decide +kernel
theorem dX4_takeSnapshot_17 : decode cX4_takeSnapshot 17 = .ok (.getfield 10, 3) := by decide +kernel
theorem dX4_takeSnapshot_20 : decode cX4_takeSnapshot 20 = .ok (.getfield 200, 3) := by decide +kernel
theorem dX4_takeSnapshot_23 : decode cX4_takeSnapshot 23 = .ok (.ireturn, 1) := by decide +kernel
theorem dX4_restoreSnapshot_0 : decode cX4_restoreSnapshot 0 = .ok (.aload_n 0, 1) := by decide +kernel
theorem dX4_restoreSnapshot_1 : decode cX4_restoreSnapshot 1 = .ok (.getfield 22, 3) := by decide +kernel
theorem dX4_restoreSnapshot_4 : decode cX4_restoreSnapshot 4 = .ok (.ifCond .ne 13, 3) := by decide +kernel
theorem dX4_restoreSnapshot_7 : decode cX4_restoreSnapshot 7 = .ok (.new 58, 3) := by decide +kernel
theorem dX4_restoreSnapshot_10 : decode cX4_restoreSnapshot 10 = .ok (.dup, 1) := by decide +kernel
theorem dX4_restoreSnapshot_11 : decode cX4_restoreSnapshot 11 = .ok (.ldc 203, 2) := by decide +kernel
theorem dX4_restoreSnapshot_13 : decode cX4_restoreSnapshot 13 = .ok (.invokespecial 62, 3) := by decide +kernel
theorem dX4_restoreSnapshot_16 : decode cX4_restoreSnapshot 16 = .ok (.athrow, 1) := by decide +kernel
theorem dX4_restoreSnapshot_17 : decode cX4_restoreSnapshot 17 = .ok (.aload_n 0, 1) := by decide +kernel
theorem dX4_restoreSnapshot_18 : decode cX4_restoreSnapshot 18 = .ok (.invokevirtual 65, 3) := by decide +kernel
theorem dX4_restoreSnapshot_21 : decode cX4_restoreSnapshot 21 = .ok (.aload_n 0, 1) := by decide +kernel
theorem dX4_restoreSnapshot_22 : decode cX4_restoreSnapshot 22 = .ok (.getfield 10, 3) := by decide +kernel
theorem dX4_restoreSnapshot_25 : decode cX4_restoreSnapshot 25 = .ok (.aload_n 0, 1) := by decide +kernel
theorem dX4_restoreSnapshot_26 : decode cX4_restoreSnapshot 26 = .ok (.getfield 19, 3) := by decide +kernel
theorem dX4_restoreSnapshot_29 : decode cX4_restoreSnapshot 29 = .ok (.invokevirtual 191, 3) := by decide +kernel
theorem dX4_restoreSnapshot_32 : decode cX4_restoreSnapshot 32 = .ok (.aload_n 0, 1) := by decide +kernel
theorem dX4_restoreSnapshot_33 : decode cX4_restoreSnapshot 33 = .ok (.getfield 10, 3) := by decide +kernel
theorem dX4_restoreSnapshot_36 : decode cX4_restoreSnapshot 36 = .ok (.getfield 200, 3) := by decide +kernel
theorem dX4_restoreSnapshot_39 : decode cX4_restoreSnapshot 39 = .ok (.ireturn, 1) := by decide +kernel
theorem dX4_stalls_0 : decode cX4_stalls 0 = .ok (.aload_n 0, 1) := by decide +kernel
theorem dX4_stalls_1 : decode cX4_stalls 1 = .ok (.getfield 10, 3) := by decide +kernel
theorem dX4_stalls_4 : decode cX4_stalls 4 = .ok (.getfield 205, 3) := by decide +kernel
theorem dX4_stalls_7 : decode cX4_stalls 7 = .ok (.ireturn, 1) := by decide +kernel
theorem dX4_pitchOf_0 : decode cX4_pitchOf 0 = .ok (.aload_n 0, 1) := by decide +kernel
theorem dX4_pitchOf_1 : decode cX4_pitchOf 1 = .ok (.iload_n 1, 1) := by decide +kernel
theorem dX4_pitchOf_2 : decode cX4_pitchOf 2 = .ok (.invokevirtual 82, 3) := by decide +kernel
theorem dX4_pitchOf_5 : decode cX4_pitchOf 5 = .ok (.getfield 208, 3) := by decide +kernel
theorem dX4_pitchOf_8 : decode cX4_pitchOf 8 = .ok (.ireturn, 1) := by decide +kernel
theorem dX4_stallOn_0 : decode cX4_stallOn 0 = .ok (.aload_n 0, 1) := by decide +kernel
theorem dX4_stallOn_1 : decode cX4_stallOn 1 = .ok (.iload_n 1, 1) := by decide +kernel
theorem dX4_stallOn_2 : decode cX4_stallOn 2 = .ok (.invokevirtual 44, 3) := by decide +kernel
theorem dX4_stallOn_5 : decode cX4_stallOn 5 = .ok (.aload_n 0, 1) := by decide +kernel
theorem dX4_stallOn_6 : decode cX4_stallOn 6 = .ok (.getfield 10, 3) := by decide +kernel
theorem dX4_stallOn_9 : decode cX4_stallOn 9 = .ok (.iload_n 1, 1) := by decide +kernel
theorem dX4_stallOn_10 : decode cX4_stallOn 10 = .ok (.invokevirtual 211, 3) := by decide +kernel
theorem dX4_stallOn_13 : decode cX4_stallOn 13 = .ok (.ireturn, 1) := by decide +kernel
theorem dX4_priceOf_0 : decode cX4_priceOf 0 = .ok (.aload_n 0, 1) := by decide +kernel
theorem dX4_priceOf_1 : decode cX4_priceOf 1 = .ok (.iload_n 1, 1) := by decide +kernel
theorem dX4_priceOf_2 : decode cX4_priceOf 2 = .ok (.invokevirtual 82, 3) := by decide +kernel
theorem dX4_priceOf_5 : decode cX4_priceOf 5 = .ok (.getfield 86, 3) := by decide +kernel
theorem dX4_priceOf_8 : decode cX4_priceOf 8 = .ok (.ireturn, 1) := by decide +kernel
theorem dX4_isOpen_0 : decode cX4_isOpen 0 = .ok (.aload_n 0, 1) := by decide +kernel
theorem dX4_isOpen_1 : decode cX4_isOpen 1 = .ok (.iload_n 1, 1) := by decide +kernel
theorem dX4_isOpen_2 : decode cX4_isOpen 2 = .ok (.invokevirtual 82, 3) := by decide +kernel
theorem dX4_isOpen_5 : decode cX4_isOpen 5 = .ok (.getfield 91, 3) := by decide +kernel
theorem dX4_isOpen_8 : decode cX4_isOpen 8 = .ok (.ireturn, 1) := by decide +kernel
theorem dX4_purseOfStall_0 : decode cX4_purseOfStall 0 = .ok (.aload_n 0, 1) := by decide +kernel
theorem dX4_purseOfStall_1 : decode cX4_purseOfStall 1 = .ok (.iload_n 1, 1) := by decide +kernel
theorem dX4_purseOfStall_2 : decode cX4_purseOfStall 2 = .ok (.invokevirtual 82, 3) := by decide +kernel
theorem dX4_purseOfStall_5 : decode cX4_purseOfStall 5 = .ok (.getfield 115, 3) := by decide +kernel
theorem dX4_purseOfStall_8 : decode cX4_purseOfStall 8 = .ok (.ireturn, 1) := by decide +kernel
theorem dX4_playsOf_0 : decode cX4_playsOf 0 = .ok (.aload_n 0, 1) := by decide +kernel
theorem dX4_playsOf_1 : decode cX4_playsOf 1 = .ok (.iload_n 1, 1) := by decide +kernel
theorem dX4_playsOf_2 : decode cX4_playsOf 2 = .ok (.invokevirtual 82, 3) := by decide +kernel
theorem dX4_playsOf_5 : decode cX4_playsOf 5 = .ok (.getfield 214, 3) := by decide +kernel
theorem dX4_playsOf_8 : decode cX4_playsOf 8 = .ok (.ireturn, 1) := by decide +kernel
theorem dX4_rentOf_0 : decode cX4_rentOf 0 = .ok (.aload_n 0, 1) := by decide +kernel
theorem dX4_rentOf_1 : decode cX4_rentOf 1 = .ok (.iload_n 1, 1) := by decide +kernel
theorem dX4_rentOf_2 : decode cX4_rentOf 2 = .ok (.invokevirtual 82, 3) := by decide +kernel
theorem dX4_rentOf_5 : decode cX4_rentOf 5 = .ok (.invokevirtual 215, 3) := by decide +kernel
theorem dX4_rentOf_8 : decode cX4_rentOf 8 = .ok (.ireturn, 1) := by decide +kernel
theorem dX4_playsToWin_0 : decode cX4_playsToWin 0 = .ok (.aload_n 0, 1) := by decide +kernel
theorem dX4_playsToWin_1 : decode cX4_playsToWin 1 = .ok (.iload_n 1, 1) := by decide +kernel
theorem dX4_playsToWin_2 : decode cX4_playsToWin 2 = .ok (.invokevirtual 82, 3) := by decide +kernel
theorem dX4_playsToWin_5 : decode cX4_playsToWin 5 = .ok (.invokevirtual 218, 3) := by decide +kernel
theorem dX4_playsToWin_8 : decode cX4_playsToWin 8 = .ok (.ireturn, 1) := by decide +kernel
theorem dX4_prizesOn_0 : decode cX4_prizesOn 0 = .ok (.aload_n 0, 1) := by decide +kernel
theorem dX4_prizesOn_1 : decode cX4_prizesOn 1 = .ok (.iload_n 1, 1) := by decide +kernel
theorem dX4_prizesOn_2 : decode cX4_prizesOn 2 = .ok (.invokevirtual 82, 3) := by decide +kernel
theorem dX4_prizesOn_5 : decode cX4_prizesOn 5 = .ok (.astore 4, 2) := by decide +kernel
theorem dX4_prizesOn_7 : decode cX4_prizesOn 7 = .ok (.aload_n 0, 1) := by decide +kernel
theorem dX4_prizesOn_8 : decode cX4_prizesOn 8 = .ok (.iload_n 2, 1) := by decide +kernel
theorem dX4_prizesOn_9 : decode cX4_prizesOn 9 = .ok (.invokevirtual 94, 3) := by decide +kernel
theorem dX4_prizesOn_12 : decode cX4_prizesOn 12 = .ok (.aload_n 0, 1) := by decide +kernel
theorem dX4_prizesOn_13 : decode cX4_prizesOn 13 = .ok (.iload_n 3, 1) := by decide +kernel
theorem dX4_prizesOn_14 : decode cX4_prizesOn 14 = .ok (.invokevirtual 97, 3) := by decide +kernel
theorem dX4_prizesOn_17 : decode cX4_prizesOn 17 = .ok (.aload 4, 2) := by decide +kernel
theorem dX4_prizesOn_19 : decode cX4_prizesOn 19 = .ok (.getfield 221, 3) := by decide +kernel
theorem dX4_prizesOn_22 : decode cX4_prizesOn 22 = .ok (.iload_n 2, 1) := by decide +kernel
theorem dX4_prizesOn_23 : decode cX4_prizesOn 23 = .ok (.iconst 4, 1) := by decide +kernel
theorem dX4_prizesOn_24 : decode cX4_prizesOn 24 = .ok (.imul, 1) := by decide +kernel
theorem dX4_prizesOn_25 : decode cX4_prizesOn 25 = .ok (.iload_n 3, 1) := by decide +kernel
theorem dX4_prizesOn_26 : decode cX4_prizesOn 26 = .ok (.iadd, 1) := by decide +kernel
theorem dX4_prizesOn_27 : decode cX4_prizesOn 27 = .ok (.iaload, 1) := by decide +kernel
theorem dX4_prizesOn_28 : decode cX4_prizesOn 28 = .ok (.ireturn, 1) := by decide +kernel
theorem dX4_shelfOf_0 : decode cX4_shelfOf 0 = .ok (.aload_n 0, 1) := by decide +kernel
theorem dX4_shelfOf_1 : decode cX4_shelfOf 1 = .ok (.iload_n 1, 1) := by decide +kernel
theorem dX4_shelfOf_2 : decode cX4_shelfOf 2 = .ok (.invokevirtual 82, 3) := by decide +kernel
theorem dX4_shelfOf_5 : decode cX4_shelfOf 5 = .ok (.invokevirtual 224, 3) := by decide +kernel
theorem dX4_shelfOf_8 : decode cX4_shelfOf 8 = .ok (.ireturn, 1) := by decide +kernel
theorem dX4_levelToWin_0 : decode cX4_levelToWin 0 = .ok (.aload_n 0, 1) := by decide +kernel
theorem dX4_levelToWin_1 : decode cX4_levelToWin 1 = .ok (.iload_n 1, 1) := by decide +kernel
theorem dX4_levelToWin_2 : decode cX4_levelToWin 2 = .ok (.invokevirtual 82, 3) := by decide +kernel
theorem dX4_levelToWin_5 : decode cX4_levelToWin 5 = .ok (.invokevirtual 227, 3) := by decide +kernel
theorem dX4_levelToWin_8 : decode cX4_levelToWin 8 = .ok (.ireturn, 1) := by decide +kernel
theorem dX4_wonOf_0 : decode cX4_wonOf 0 = .ok (.aload_n 0, 1) := by decide +kernel
theorem dX4_wonOf_1 : decode cX4_wonOf 1 = .ok (.iload_n 1, 1) := by decide +kernel
theorem dX4_wonOf_2 : decode cX4_wonOf 2 = .ok (.invokevirtual 94, 3) := by decide +kernel
theorem dX4_wonOf_5 : decode cX4_wonOf 5 = .ok (.aload_n 0, 1) := by decide +kernel
theorem dX4_wonOf_6 : decode cX4_wonOf 6 = .ok (.getfield 10, 3) := by decide +kernel
theorem dX4_wonOf_9 : decode cX4_wonOf 9 = .ok (.getfield 230, 3) := by decide +kernel
theorem dX4_wonOf_12 : decode cX4_wonOf 12 = .ok (.iload_n 1, 1) := by decide +kernel
theorem dX4_wonOf_13 : decode cX4_wonOf 13 = .ok (.iaload, 1) := by decide +kernel
theorem dX4_wonOf_14 : decode cX4_wonOf 14 = .ok (.ireturn, 1) := by decide +kernel
theorem dX4_children_0 : decode cX4_children 0 = .ok (.aload_n 0, 1) := by decide +kernel
theorem dX4_children_1 : decode cX4_children 1 = .ok (.getfield 10, 3) := by decide +kernel
theorem dX4_children_4 : decode cX4_children 4 = .ok (.getfield 132, 3) := by decide +kernel
theorem dX4_children_7 : decode cX4_children 7 = .ok (.getfield 233, 3) := by decide +kernel
theorem dX4_children_10 : decode cX4_children 10 = .ok (.ireturn, 1) := by decide +kernel
theorem dX4_atFair_0 : decode cX4_atFair 0 = .ok (.aload_n 0, 1) := by decide +kernel
theorem dX4_atFair_1 : decode cX4_atFair 1 = .ok (.getfield 10, 3) := by decide +kernel
theorem dX4_atFair_4 : decode cX4_atFair 4 = .ok (.getfield 132, 3) := by decide +kernel
theorem dX4_atFair_7 : decode cX4_atFair 7 = .ok (.invokevirtual 236, 3) := by decide +kernel
theorem dX4_atFair_10 : decode cX4_atFair 10 = .ok (.ireturn, 1) := by decide +kernel
theorem dX4_isAtFair_0 : decode cX4_isAtFair 0 = .ok (.aload_n 0, 1) := by decide +kernel
theorem dX4_isAtFair_1 : decode cX4_isAtFair 1 = .ok (.iload_n 1, 1) := by decide +kernel
theorem dX4_isAtFair_2 : decode cX4_isAtFair 2 = .ok (.invokevirtual 239, 3) := by decide +kernel
theorem dX4_isAtFair_5 : decode cX4_isAtFair 5 = .ok (.aload_n 0, 1) := by decide +kernel
theorem dX4_isAtFair_6 : decode cX4_isAtFair 6 = .ok (.getfield 10, 3) := by decide +kernel
theorem dX4_isAtFair_9 : decode cX4_isAtFair 9 = .ok (.getfield 132, 3) := by decide +kernel
theorem dX4_isAtFair_12 : decode cX4_isAtFair 12 = .ok (.getfield 242, 3) := by decide +kernel
theorem dX4_isAtFair_15 : decode cX4_isAtFair 15 = .ok (.iload_n 1, 1) := by decide +kernel
theorem dX4_isAtFair_16 : decode cX4_isAtFair 16 = .ok (.iaload, 1) := by decide +kernel
theorem dX4_isAtFair_17 : decode cX4_isAtFair 17 = .ok (.iconst (-1), 1) := by decide +kernel
theorem dX4_isAtFair_18 : decode cX4_isAtFair 18 = .ok (.if_icmp .eq 7, 3) := by decide +kernel
theorem dX4_isAtFair_21 : decode cX4_isAtFair 21 = .ok (.iconst 1, 1) := by decide +kernel
theorem dX4_isAtFair_22 : decode cX4_isAtFair 22 = .ok (.goto 4, 3) := by decide +kernel
theorem dX4_isAtFair_25 : decode cX4_isAtFair 25 = .ok (.iconst 0, 1) := by decide +kernel
theorem dX4_isAtFair_26 : decode cX4_isAtFair 26 = .ok (.ireturn, 1) := by decide +kernel
theorem dX4_purseOf_0 : decode cX4_purseOf 0 = .ok (.aload_n 0, 1) := by decide +kernel
theorem dX4_purseOf_1 : decode cX4_purseOf 1 = .ok (.iload_n 1, 1) := by decide +kernel
theorem dX4_purseOf_2 : decode cX4_purseOf 2 = .ok (.invokevirtual 239, 3) := by decide +kernel
theorem dX4_purseOf_5 : decode cX4_purseOf 5 = .ok (.aload_n 0, 1) := by decide +kernel
theorem dX4_purseOf_6 : decode cX4_purseOf 6 = .ok (.getfield 10, 3) := by decide +kernel
theorem dX4_purseOf_9 : decode cX4_purseOf 9 = .ok (.getfield 132, 3) := by decide +kernel
theorem dX4_purseOf_12 : decode cX4_purseOf 12 = .ok (.getfield 245, 3) := by decide +kernel
theorem dX4_purseOf_15 : decode cX4_purseOf 15 = .ok (.iload_n 1, 1) := by decide +kernel
theorem dX4_purseOf_16 : decode cX4_purseOf 16 = .ok (.iaload, 1) := by decide +kernel
theorem dX4_purseOf_17 : decode cX4_purseOf 17 = .ok (.ireturn, 1) := by decide +kernel
theorem dX4_moodOf_0 : decode cX4_moodOf 0 = .ok (.aload_n 0, 1) := by decide +kernel
theorem dX4_moodOf_1 : decode cX4_moodOf 1 = .ok (.iload_n 1, 1) := by decide +kernel
theorem dX4_moodOf_2 : decode cX4_moodOf 2 = .ok (.invokevirtual 239, 3) := by decide +kernel
theorem dX4_moodOf_5 : decode cX4_moodOf 5 = .ok (.aload_n 0, 1) := by decide +kernel
theorem dX4_moodOf_6 : decode cX4_moodOf 6 = .ok (.getfield 10, 3) := by decide +kernel
theorem dX4_moodOf_9 : decode cX4_moodOf 9 = .ok (.getfield 132, 3) := by decide +kernel
theorem dX4_moodOf_12 : decode cX4_moodOf 12 = .ok (.getfield 247, 3) := by decide +kernel
theorem dX4_moodOf_15 : decode cX4_moodOf 15 = .ok (.iload_n 1, 1) := by decide +kernel
theorem dX4_moodOf_16 : decode cX4_moodOf 16 = .ok (.iaload, 1) := by decide +kernel
theorem dX4_moodOf_17 : decode cX4_moodOf 17 = .ok (.ireturn, 1) := by decide +kernel
theorem dX4_placeOf_0 : decode cX4_placeOf 0 = .ok (.aload_n 0, 1) := by decide +kernel
theorem dX4_placeOf_1 : decode cX4_placeOf 1 = .ok (.iload_n 1, 1) := by decide +kernel
theorem dX4_placeOf_2 : decode cX4_placeOf 2 = .ok (.invokevirtual 239, 3) := by decide +kernel
theorem dX4_placeOf_5 : decode cX4_placeOf 5 = .ok (.aload_n 0, 1) := by decide +kernel
theorem dX4_placeOf_6 : decode cX4_placeOf 6 = .ok (.getfield 10, 3) := by decide +kernel
theorem dX4_placeOf_9 : decode cX4_placeOf 9 = .ok (.getfield 132, 3) := by decide +kernel
theorem dX4_placeOf_12 : decode cX4_placeOf 12 = .ok (.getfield 242, 3) := by decide +kernel
theorem dX4_placeOf_15 : decode cX4_placeOf 15 = .ok (.iload_n 1, 1) := by decide +kernel
theorem dX4_placeOf_16 : decode cX4_placeOf 16 = .ok (.iaload, 1) := by decide +kernel
theorem dX4_placeOf_17 : decode cX4_placeOf 17 = .ok (.ireturn, 1) := by decide +kernel
theorem dX4_isHomeward_0 : decode cX4_isHomeward 0 = .ok (.aload_n 0, 1) := by decide +kernel
theorem dX4_isHomeward_1 : decode cX4_isHomeward 1 = .ok (.iload_n 1, 1) := by decide +kernel
theorem dX4_isHomeward_2 : decode cX4_isHomeward 2 = .ok (.invokevirtual 239, 3) := by decide +kernel
theorem dX4_isHomeward_5 : decode cX4_isHomeward 5 = .ok (.aload_n 0, 1) := by decide +kernel
theorem dX4_isHomeward_6 : decode cX4_isHomeward 6 = .ok (.getfield 10, 3) := by decide +kernel
theorem dX4_isHomeward_9 : decode cX4_isHomeward 9 = .ok (.getfield 132, 3) := by decide +kernel
theorem dX4_isHomeward_12 : decode cX4_isHomeward 12 = .ok (.getfield 250, 3) := by decide +kernel
theorem dX4_isHomeward_15 : decode cX4_isHomeward 15 = .ok (.iload_n 1, 1) := by decide +kernel
theorem dX4_isHomeward_16 : decode cX4_isHomeward 16 = .ok (.iaload, 1) := by decide +kernel
theorem dX4_isHomeward_17 : decode cX4_isHomeward 17 = .ok (.iconst (-1), 1) := by decide +kernel
theorem dX4_isHomeward_18 : decode cX4_isHomeward 18 = .ok (.if_icmp .ne 7, 3) := by decide +kernel
theorem dX4_isHomeward_21 : decode cX4_isHomeward 21 = .ok (.iconst 1, 1) := by decide +kernel
theorem dX4_isHomeward_22 : decode cX4_isHomeward 22 = .ok (.goto 4, 3) := by decide +kernel
theorem dX4_isHomeward_25 : decode cX4_isHomeward 25 = .ok (.iconst 0, 1) := by decide +kernel
theorem dX4_isHomeward_26 : decode cX4_isHomeward 26 = .ok (.ireturn, 1) := by decide +kernel
theorem dX4_prizesOf_0 : decode cX4_prizesOf 0 = .ok (.aload_n 0, 1) := by decide +kernel
theorem dX4_prizesOf_1 : decode cX4_prizesOf 1 = .ok (.iload_n 1, 1) := by decide +kernel
theorem dX4_prizesOf_2 : decode cX4_prizesOf 2 = .ok (.invokevirtual 239, 3) := by decide +kernel
theorem dX4_prizesOf_5 : decode cX4_prizesOf 5 = .ok (.aload_n 0, 1) := by decide +kernel
theorem dX4_prizesOf_6 : decode cX4_prizesOf 6 = .ok (.getfield 10, 3) := by decide +kernel
theorem dX4_prizesOf_9 : decode cX4_prizesOf 9 = .ok (.getfield 132, 3) := by decide +kernel
theorem dX4_prizesOf_12 : decode cX4_prizesOf 12 = .ok (.getfield 253, 3) := by decide +kernel
theorem dX4_prizesOf_15 : decode cX4_prizesOf 15 = .ok (.iload_n 1, 1) := by decide +kernel
theorem dX4_prizesOf_16 : decode cX4_prizesOf 16 = .ok (.iaload, 1) := by decide +kernel
theorem dX4_prizesOf_17 : decode cX4_prizesOf 17 = .ok (.ireturn, 1) := by decide +kernel
theorem dX4_whyNoPlay_0 : decode cX4_whyNoPlay 0 = .ok (.aload_n 0, 1) := by decide +kernel
theorem dX4_whyNoPlay_1 : decode cX4_whyNoPlay 1 = .ok (.iload_n 1, 1) := by decide +kernel
theorem dX4_whyNoPlay_2 : decode cX4_whyNoPlay 2 = .ok (.invokevirtual 239, 3) := by decide +kernel
theorem dX4_whyNoPlay_5 : decode cX4_whyNoPlay 5 = .ok (.aload_n 0, 1) := by decide +kernel
theorem dX4_whyNoPlay_6 : decode cX4_whyNoPlay 6 = .ok (.getfield 10, 3) := by decide +kernel
theorem dX4_whyNoPlay_9 : decode cX4_whyNoPlay 9 = .ok (.getfield 132, 3) := by decide +kernel
theorem dX4_whyNoPlay_12 : decode cX4_whyNoPlay 12 = .ok (.getfield 242, 3) := by decide +kernel
theorem dX4_whyNoPlay_15 : decode cX4_whyNoPlay 15 = .ok (.iload_n 1, 1) := by decide +kernel
theorem dX4_whyNoPlay_16 : decode cX4_whyNoPlay 16 = .ok (.iaload, 1) := by decide +kernel
theorem dX4_whyNoPlay_17 : decode cX4_whyNoPlay 17 = .ok (.istore_n 2, 1) := by decide +kernel
theorem dX4_whyNoPlay_18 : decode cX4_whyNoPlay 18 = .ok (.iload_n 2, 1) := by decide +kernel
theorem dX4_whyNoPlay_19 : decode cX4_whyNoPlay 19 = .ok (.iconst (-1), 1) := by decide +kernel
theorem dX4_whyNoPlay_20 : decode cX4_whyNoPlay 20 = .ok (.if_icmp .ne 5, 3) := by decide +kernel
theorem dX4_whyNoPlay_23 : decode cX4_whyNoPlay 23 = .ok (.iconst 1, 1) := by decide +kernel
theorem dX4_whyNoPlay_24 : decode cX4_whyNoPlay 24 = .ok (.ireturn, 1) := by decide +kernel
theorem dX4_whyNoPlay_25 : decode cX4_whyNoPlay 25 = .ok (.aload_n 0, 1) := by decide +kernel
theorem dX4_whyNoPlay_26 : decode cX4_whyNoPlay 26 = .ok (.getfield 10, 3) := by decide +kernel
theorem dX4_whyNoPlay_29 : decode cX4_whyNoPlay 29 = .ok (.iload_n 2, 1) := by decide +kernel
theorem dX4_whyNoPlay_30 : decode cX4_whyNoPlay 30 = .ok (.invokevirtual 256, 3) := by decide +kernel
theorem dX4_whyNoPlay_33 : decode cX4_whyNoPlay 33 = .ok (.astore_n 3, 1) := by decide +kernel
theorem dX4_whyNoPlay_34 : decode cX4_whyNoPlay 34 = .ok (.aload_n 3, 1) := by decide +kernel
theorem dX4_whyNoPlay_35 : decode cX4_whyNoPlay 35 = .ok (.ifnonnull 5, 3) := by decide +kernel
theorem dX4_whyNoPlay_38 : decode cX4_whyNoPlay 38 = .ok (.iconst 2, 1) := by decide +kernel
theorem dX4_whyNoPlay_39 : decode cX4_whyNoPlay 39 = .ok (.ireturn, 1) := by decide +kernel
theorem dX4_whyNoPlay_40 : decode cX4_whyNoPlay 40 = .ok (.aload_n 0, 1) := by decide +kernel
theorem dX4_whyNoPlay_41 : decode cX4_whyNoPlay 41 = .ok (.getfield 10, 3) := by decide +kernel
theorem dX4_whyNoPlay_44 : decode cX4_whyNoPlay 44 = .ok (.getfield 132, 3) := by decide +kernel
theorem dX4_whyNoPlay_47 : decode cX4_whyNoPlay 47 = .ok (.iload_n 1, 1) := by decide +kernel
theorem dX4_whyNoPlay_48 : decode cX4_whyNoPlay 48 = .ok (.aload_n 3, 1) := by decide +kernel
theorem dX4_whyNoPlay_49 : decode cX4_whyNoPlay 49 = .ok (.invokevirtual 259, 3) := by decide +kernel
theorem dX4_whyNoPlay_52 : decode cX4_whyNoPlay 52 = .ok (.ireturn, 1) := by decide +kernel
theorem dX4_happiest_0 : decode cX4_happiest 0 = .ok (.aload_n 0, 1) := by decide +kernel
theorem dX4_happiest_1 : decode cX4_happiest 1 = .ok (.getfield 10, 3) := by decide +kernel
theorem dX4_happiest_4 : decode cX4_happiest 4 = .ok (.getfield 132, 3) := by decide +kernel
theorem dX4_happiest_7 : decode cX4_happiest 7 = .ok (.invokevirtual 263, 3) := by decide +kernel
theorem dX4_happiest_10 : decode cX4_happiest 10 = .ok (.ireturn, 1) := by decide +kernel
theorem dX4_sulkers_0 : decode cX4_sulkers 0 = .ok (.aload_n 0, 1) := by decide +kernel
theorem dX4_sulkers_1 : decode cX4_sulkers 1 = .ok (.getfield 10, 3) := by decide +kernel
theorem dX4_sulkers_4 : decode cX4_sulkers 4 = .ok (.getfield 132, 3) := by decide +kernel
theorem dX4_sulkers_7 : decode cX4_sulkers 7 = .ok (.invokevirtual 266, 3) := by decide +kernel
theorem dX4_sulkers_10 : decode cX4_sulkers 10 = .ok (.ireturn, 1) := by decide +kernel
theorem dX4_crowdOn_0 : decode cX4_crowdOn 0 = .ok (.aload_n 0, 1) := by decide +kernel
theorem dX4_crowdOn_1 : decode cX4_crowdOn 1 = .ok (.iload_n 1, 1) := by decide +kernel
theorem dX4_crowdOn_2 : decode cX4_crowdOn 2 = .ok (.invokevirtual 44, 3) := by decide +kernel
theorem dX4_crowdOn_5 : decode cX4_crowdOn 5 = .ok (.aload_n 0, 1) := by decide +kernel
theorem dX4_crowdOn_6 : decode cX4_crowdOn 6 = .ok (.getfield 10, 3) := by decide +kernel
theorem dX4_crowdOn_9 : decode cX4_crowdOn 9 = .ok (.getfield 132, 3) := by decide +kernel
theorem dX4_crowdOn_12 : decode cX4_crowdOn 12 = .ok (.iload_n 1, 1) := by decide +kernel
theorem dX4_crowdOn_13 : decode cX4_crowdOn 13 = .ok (.invokevirtual 269, 3) := by decide +kernel
theorem dX4_crowdOn_16 : decode cX4_crowdOn 16 = .ok (.ireturn, 1) := by decide +kernel
theorem dX4_day_0 : decode cX4_day 0 = .ok (.aload_n 0, 1) := by decide +kernel
theorem dX4_day_1 : decode cX4_day 1 = .ok (.getfield 10, 3) := by decide +kernel
theorem dX4_day_4 : decode cX4_day 4 = .ok (.getfield 272, 3) := by decide +kernel
theorem dX4_day_7 : decode cX4_day 7 = .ok (.ireturn, 1) := by decide +kernel
theorem dX4_round_0 : decode cX4_round 0 = .ok (.aload_n 0, 1) := by decide +kernel
theorem dX4_round_1 : decode cX4_round 1 = .ok (.getfield 10, 3) := by decide +kernel
theorem dX4_round_4 : decode cX4_round 4 = .ok (.getfield 275, 3) := by decide +kernel
theorem dX4_round_7 : decode cX4_round 7 = .ok (.ireturn, 1) := by decide +kernel
theorem dX4_rainIn_0 : decode cX4_rainIn 0 = .ok (.aload_n 0, 1) := by decide +kernel
theorem dX4_rainIn_1 : decode cX4_rainIn 1 = .ok (.iload_n 1, 1) := by decide +kernel
theorem dX4_rainIn_2 : decode cX4_rainIn 2 = .ok (.invokevirtual 148, 3) := by decide +kernel
theorem dX4_rainIn_5 : decode cX4_rainIn 5 = .ok (.aload_n 0, 1) := by decide +kernel
theorem dX4_rainIn_6 : decode cX4_rainIn 6 = .ok (.getfield 10, 3) := by decide +kernel
theorem dX4_rainIn_9 : decode cX4_rainIn 9 = .ok (.iload_n 1, 1) := by decide +kernel
theorem dX4_rainIn_10 : decode cX4_rainIn 10 = .ok (.invokevirtual 278, 3) := by decide +kernel
theorem dX4_rainIn_13 : decode cX4_rainIn 13 = .ok (.ireturn, 1) := by decide +kernel
theorem dX4_isChildDue_0 : decode cX4_isChildDue 0 = .ok (.aload_n 0, 1) := by decide +kernel
theorem dX4_isChildDue_1 : decode cX4_isChildDue 1 = .ok (.getfield 10, 3) := by decide +kernel
theorem dX4_isChildDue_4 : decode cX4_isChildDue 4 = .ok (.invokevirtual 281, 3) := by decide +kernel
theorem dX4_isChildDue_7 : decode cX4_isChildDue 7 = .ok (.ireturn, 1) := by decide +kernel
theorem dX4_bank_0 : decode cX4_bank 0 = .ok (.aload_n 0, 1) := by decide +kernel
theorem dX4_bank_1 : decode cX4_bank 1 = .ok (.getfield 10, 3) := by decide +kernel
theorem dX4_bank_4 : decode cX4_bank 4 = .ok (.getfield 200, 3) := by decide +kernel
theorem dX4_bank_7 : decode cX4_bank 7 = .ok (.ireturn, 1) := by decide +kernel
theorem dX4_town_0 : decode cX4_town 0 = .ok (.aload_n 0, 1) := by decide +kernel
theorem dX4_town_1 : decode cX4_town 1 = .ok (.getfield 10, 3) := by decide +kernel
theorem dX4_town_4 : decode cX4_town 4 = .ok (.getfield 284, 3) := by decide +kernel
theorem dX4_town_7 : decode cX4_town 7 = .ok (.ireturn, 1) := by decide +kernel
theorem dX4_allCoins_0 : decode cX4_allCoins 0 = .ok (.sipush 500, 3) := by decide +kernel
theorem dX4_allCoins_3 : decode cX4_allCoins 3 = .ok (.aload_n 0, 1) := by decide +kernel
theorem dX4_allCoins_4 : decode cX4_allCoins 4 = .ok (.getfield 10, 3) := by decide +kernel
theorem dX4_allCoins_7 : decode cX4_allCoins 7 = .ok (.getfield 287, 3) := by decide +kernel
theorem dX4_allCoins_10 : decode cX4_allCoins 10 = .ok (.iadd, 1) := by decide +kernel
theorem dX4_allCoins_11 : decode cX4_allCoins 11 = .ok (.ireturn, 1) := by decide +kernel
theorem dX4_coinsByPlaces_0 : decode cX4_coinsByPlaces 0 = .ok (.aload_n 0, 1) := by decide +kernel
theorem dX4_coinsByPlaces_1 : decode cX4_coinsByPlaces 1 = .ok (.getfield 10, 3) := by decide +kernel
theorem dX4_coinsByPlaces_4 : decode cX4_coinsByPlaces 4 = .ok (.getfield 200, 3) := by decide +kernel
theorem dX4_coinsByPlaces_7 : decode cX4_coinsByPlaces 7 = .ok (.aload_n 0, 1) := by decide +kernel
theorem dX4_coinsByPlaces_8 : decode cX4_coinsByPlaces 8 = .ok (.getfield 10, 3) := by decide +kernel
theorem dX4_coinsByPlaces_11 : decode cX4_coinsByPlaces 11 = .ok (.invokevirtual 290, 3) := by decide +kernel
theorem dX4_coinsByPlaces_14 : decode cX4_coinsByPlaces 14 = .ok (.iadd, 1) := by decide +kernel
theorem dX4_coinsByPlaces_15 : decode cX4_coinsByPlaces 15 = .ok (.aload_n 0, 1) := by decide +kernel
theorem dX4_coinsByPlaces_16 : decode cX4_coinsByPlaces 16 = .ok (.getfield 10, 3) := by decide +kernel
theorem dX4_coinsByPlaces_19 : decode cX4_coinsByPlaces 19 = .ok (.getfield 132, 3) := by decide +kernel
theorem dX4_coinsByPlaces_22 : decode cX4_coinsByPlaces 22 = .ok (.invokevirtual 293, 3) := by decide +kernel
theorem dX4_coinsByPlaces_25 : decode cX4_coinsByPlaces 25 = .ok (.iadd, 1) := by decide +kernel
theorem dX4_coinsByPlaces_26 : decode cX4_coinsByPlaces 26 = .ok (.aload_n 0, 1) := by decide +kernel
theorem dX4_coinsByPlaces_27 : decode cX4_coinsByPlaces 27 = .ok (.getfield 10, 3) := by decide +kernel
theorem dX4_coinsByPlaces_30 : decode cX4_coinsByPlaces 30 = .ok (.getfield 284, 3) := by decide +kernel
theorem dX4_coinsByPlaces_33 : decode cX4_coinsByPlaces 33 = .ok (.iadd, 1) := by decide +kernel
theorem dX4_coinsByPlaces_34 : decode cX4_coinsByPlaces 34 = .ok (.aload_n 0, 1) := by decide +kernel
theorem dX4_coinsByPlaces_35 : decode cX4_coinsByPlaces 35 = .ok (.getfield 10, 3) := by decide +kernel
theorem dX4_coinsByPlaces_38 : decode cX4_coinsByPlaces 38 = .ok (.getfield 296, 3) := by decide +kernel
theorem dX4_coinsByPlaces_41 : decode cX4_coinsByPlaces 41 = .ok (.iadd, 1) := by decide +kernel
theorem dX4_coinsByPlaces_42 : decode cX4_coinsByPlaces 42 = .ok (.ireturn, 1) := by decide +kernel
theorem dX4_takings_0 : decode cX4_takings 0 = .ok (.aload_n 0, 1) := by decide +kernel
theorem dX4_takings_1 : decode cX4_takings 1 = .ok (.getfield 10, 3) := by decide +kernel
theorem dX4_takings_4 : decode cX4_takings 4 = .ok (.getfield 299, 3) := by decide +kernel
theorem dX4_takings_7 : decode cX4_takings 7 = .ok (.ireturn, 1) := by decide +kernel
theorem dX4_takingsByChildren_0 : decode cX4_takingsByChildren 0 = .ok (.aload_n 0, 1) := by decide +kernel
theorem dX4_takingsByChildren_1 : decode cX4_takingsByChildren 1 = .ok (.getfield 10, 3) := by decide +kernel
theorem dX4_takingsByChildren_4 : decode cX4_takingsByChildren 4 = .ok (.getfield 287, 3) := by decide +kernel
theorem dX4_takingsByChildren_7 : decode cX4_takingsByChildren 7 = .ok (.aload_n 0, 1) := by decide +kernel
theorem dX4_takingsByChildren_8 : decode cX4_takingsByChildren 8 = .ok (.getfield 10, 3) := by decide +kernel
theorem dX4_takingsByChildren_11 : decode cX4_takingsByChildren 11 = .ok (.getfield 132, 3) := by decide +kernel
theorem dX4_takingsByChildren_14 : decode cX4_takingsByChildren 14 = .ok (.invokevirtual 293, 3) := by decide +kernel
theorem dX4_takingsByChildren_17 : decode cX4_takingsByChildren 17 = .ok (.isub, 1) := by decide +kernel
theorem dX4_takingsByChildren_18 : decode cX4_takingsByChildren 18 = .ok (.ireturn, 1) := by decide +kernel
theorem dX4_plays_0 : decode cX4_plays 0 = .ok (.aload_n 0, 1) := by decide +kernel
theorem dX4_plays_1 : decode cX4_plays 1 = .ok (.getfield 10, 3) := by decide +kernel
theorem dX4_plays_4 : decode cX4_plays 4 = .ok (.getfield 165, 3) := by decide +kernel
theorem dX4_plays_7 : decode cX4_plays 7 = .ok (.ireturn, 1) := by decide +kernel
theorem dX4_takingsToday_0 : decode cX4_takingsToday 0 = .ok (.aload_n 0, 1) := by decide +kernel
theorem dX4_takingsToday_1 : decode cX4_takingsToday 1 = .ok (.getfield 16, 3) := by decide +kernel
theorem dX4_takingsToday_4 : decode cX4_takingsToday 4 = .ok (.aload_n 0, 1) := by decide +kernel
theorem dX4_takingsToday_5 : decode cX4_takingsToday 5 = .ok (.getfield 10, 3) := by decide +kernel
theorem dX4_takingsToday_8 : decode cX4_takingsToday 8 = .ok (.invokevirtual 191, 3) := by decide +kernel
theorem dX4_takingsToday_11 : decode cX4_takingsToday 11 = .ok (.aload_n 0, 1) := by decide +kernel
theorem dX4_takingsToday_12 : decode cX4_takingsToday 12 = .ok (.getfield 16, 3) := by decide +kernel
theorem dX4_takingsToday_15 : decode cX4_takingsToday 15 = .ok (.bipush 40, 2) := by decide +kernel
theorem dX4_takingsToday_17 : decode cX4_takingsToday 17 = .ok (.aload_n 0, 1) := by decide +kernel
theorem dX4_takingsToday_18 : decode cX4_takingsToday 18 = .ok (.getfield 10, 3) := by decide +kernel
theorem dX4_takingsToday_21 : decode cX4_takingsToday 21 = .ok (.getfield 275, 3) := by decide +kernel
theorem dX4_takingsToday_24 : decode cX4_takingsToday 24 = .ok (.isub, 1) := by decide +kernel
theorem dX4_takingsToday_25 : decode cX4_takingsToday 25 = .ok (.invokevirtual 168, 3) := by decide +kernel
theorem dX4_takingsToday_28 : decode cX4_takingsToday 28 = .ok (.aload_n 0, 1) := by decide +kernel
theorem dX4_takingsToday_29 : decode cX4_takingsToday 29 = .ok (.getfield 16, 3) := by decide +kernel
theorem dX4_takingsToday_32 : decode cX4_takingsToday 32 = .ok (.getfield 299, 3) := by decide +kernel
theorem dX4_takingsToday_35 : decode cX4_takingsToday 35 = .ok (.aload_n 0, 1) := by decide +kernel
theorem dX4_takingsToday_36 : decode cX4_takingsToday 36 = .ok (.getfield 10, 3) := by decide +kernel
theorem dX4_takingsToday_39 : decode cX4_takingsToday 39 = .ok (.getfield 299, 3) := by decide +kernel
theorem dX4_takingsToday_42 : decode cX4_takingsToday 42 = .ok (.isub, 1) := by decide +kernel
theorem dX4_takingsToday_43 : decode cX4_takingsToday 43 = .ok (.ireturn, 1) := by decide +kernel
theorem dX4_homeIn_0 : decode cX4_homeIn 0 = .ok (.aload_n 0, 1) := by decide +kernel
theorem dX4_homeIn_1 : decode cX4_homeIn 1 = .ok (.iload_n 1, 1) := by decide +kernel
theorem dX4_homeIn_2 : decode cX4_homeIn 2 = .ok (.invokevirtual 239, 3) := by decide +kernel
theorem dX4_homeIn_5 : decode cX4_homeIn 5 = .ok (.aload_n 0, 1) := by decide +kernel
theorem dX4_homeIn_6 : decode cX4_homeIn 6 = .ok (.getfield 16, 3) := by decide +kernel
theorem dX4_homeIn_9 : decode cX4_homeIn 9 = .ok (.aload_n 0, 1) := by decide +kernel
theorem dX4_homeIn_10 : decode cX4_homeIn 10 = .ok (.getfield 10, 3) := by decide +kernel
theorem dX4_homeIn_13 : decode cX4_homeIn 13 = .ok (.invokevirtual 191, 3) := by decide +kernel
theorem dX4_homeIn_16 : decode cX4_homeIn 16 = .ok (.iconst 0, 1) := by decide +kernel
theorem dX4_homeIn_17 : decode cX4_homeIn 17 = .ok (.istore_n 2, 1) := by decide +kernel
theorem dX4_homeIn_18 : decode cX4_homeIn 18 = .ok (.iload_n 2, 1) := by decide +kernel
theorem dX4_homeIn_19 : decode cX4_homeIn 19 = .ok (.bipush 40, 2) := by decide +kernel
theorem dX4_homeIn_21 : decode cX4_homeIn 21 = .ok (.if_icmp .ge 33, 3) := by decide +kernel
theorem dX4_homeIn_24 : decode cX4_homeIn 24 = .ok (.aload_n 0, 1) := by decide +kernel
theorem dX4_homeIn_25 : decode cX4_homeIn 25 = .ok (.getfield 16, 3) := by decide +kernel
theorem dX4_homeIn_28 : decode cX4_homeIn 28 = .ok (.getfield 132, 3) := by decide +kernel
theorem dX4_homeIn_31 : decode cX4_homeIn 31 = .ok (.getfield 242, 3) := by decide +kernel
theorem dX4_homeIn_34 : decode cX4_homeIn 34 = .ok (.iload_n 1, 1) := by decide +kernel
theorem dX4_homeIn_35 : decode cX4_homeIn 35 = .ok (.iaload, 1) := by decide +kernel
theorem dX4_homeIn_36 : decode cX4_homeIn 36 = .ok (.iconst (-1), 1) := by decide +kernel
theorem dX4_homeIn_37 : decode cX4_homeIn 37 = .ok (.if_icmp .eq 17, 3) := by decide +kernel
theorem dX4_homeIn_40 : decode cX4_homeIn 40 = .ok (.aload_n 0, 1) := by decide +kernel
theorem dX4_homeIn_41 : decode cX4_homeIn 41 = .ok (.getfield 16, 3) := by decide +kernel
theorem dX4_homeIn_44 : decode cX4_homeIn 44 = .ok (.iconst 1, 1) := by decide +kernel
theorem dX4_homeIn_45 : decode cX4_homeIn 45 = .ok (.invokevirtual 168, 3) := by decide +kernel
theorem dX4_homeIn_48 : decode cX4_homeIn 48 = .ok (.iinc 2 1, 3) := by decide +kernel
theorem dX4_homeIn_51 : decode cX4_homeIn 51 = .ok (.goto (-33), 3) := by decide +kernel
theorem dX4_homeIn_54 : decode cX4_homeIn 54 = .ok (.iload_n 2, 1) := by decide +kernel
theorem dX4_homeIn_55 : decode cX4_homeIn 55 = .ok (.ireturn, 1) := by decide +kernel
theorem dX4_bestPitch_0 : decode cX4_bestPitch 0 = .ok (.aload_n 0, 1) := by decide +kernel
theorem dX4_bestPitch_1 : decode cX4_bestPitch 1 = .ok (.iload_n 1, 1) := by decide +kernel
theorem dX4_bestPitch_2 : decode cX4_bestPitch 2 = .ok (.invokevirtual 48, 3) := by decide +kernel
theorem dX4_bestPitch_5 : decode cX4_bestPitch 5 = .ok (.aload_n 0, 1) := by decide +kernel
theorem dX4_bestPitch_6 : decode cX4_bestPitch 6 = .ok (.iload_n 2, 1) := by decide +kernel
theorem dX4_bestPitch_7 : decode cX4_bestPitch 7 = .ok (.invokevirtual 51, 3) := by decide +kernel
theorem dX4_bestPitch_10 : decode cX4_bestPitch 10 = .ok (.iconst (-1), 1) := by decide +kernel
theorem dX4_bestPitch_11 : decode cX4_bestPitch 11 = .ok (.istore_n 3, 1) := by decide +kernel
theorem dX4_bestPitch_12 : decode cX4_bestPitch 12 = .ok (.iconst (-1), 1) := by decide +kernel
theorem dX4_bestPitch_13 : decode cX4_bestPitch 13 = .ok (.istore 4, 2) := by decide +kernel
theorem dX4_bestPitch_15 : decode cX4_bestPitch 15 = .ok (.iconst 0, 1) := by decide +kernel
theorem dX4_bestPitch_16 : decode cX4_bestPitch 16 = .ok (.istore 5, 2) := by decide +kernel
theorem dX4_bestPitch_18 : decode cX4_bestPitch 18 = .ok (.iload 5, 2) := by decide +kernel
theorem dX4_bestPitch_20 : decode cX4_bestPitch 20 = .ok (.bipush 12, 2) := by decide +kernel
theorem dX4_bestPitch_22 : decode cX4_bestPitch 22 = .ok (.if_icmp .ge 46, 3) := by decide +kernel
theorem dX4_bestPitch_25 : decode cX4_bestPitch 25 = .ok (.aload_n 0, 1) := by decide +kernel
theorem dX4_bestPitch_26 : decode cX4_bestPitch 26 = .ok (.getfield 10, 3) := by decide +kernel
theorem dX4_bestPitch_29 : decode cX4_bestPitch 29 = .ok (.iload 5, 2) := by decide +kernel
theorem dX4_bestPitch_31 : decode cX4_bestPitch 31 = .ok (.invokevirtual 211, 3) := by decide +kernel
theorem dX4_bestPitch_34 : decode cX4_bestPitch 34 = .ok (.iconst (-1), 1) := by decide +kernel
theorem dX4_bestPitch_35 : decode cX4_bestPitch 35 = .ok (.if_icmp .ne 27, 3) := by decide +kernel
theorem dX4_bestPitch_38 : decode cX4_bestPitch 38 = .ok (.aload_n 0, 1) := by decide +kernel
theorem dX4_bestPitch_39 : decode cX4_bestPitch 39 = .ok (.iload 5, 2) := by decide +kernel
theorem dX4_bestPitch_41 : decode cX4_bestPitch 41 = .ok (.iload_n 1, 1) := by decide +kernel
theorem dX4_bestPitch_42 : decode cX4_bestPitch 42 = .ok (.iload_n 2, 1) := by decide +kernel
theorem dX4_bestPitch_43 : decode cX4_bestPitch 43 = .ok (.invokevirtual 302, 3) := by decide +kernel
theorem dX4_bestPitch_46 : decode cX4_bestPitch 46 = .ok (.istore 6, 2) := by decide +kernel
theorem dX4_bestPitch_48 : decode cX4_bestPitch 48 = .ok (.iload 6, 2) := by decide +kernel
theorem dX4_bestPitch_50 : decode cX4_bestPitch 50 = .ok (.iload 4, 2) := by decide +kernel
theorem dX4_bestPitch_52 : decode cX4_bestPitch 52 = .ok (.if_icmp .le 10, 3) := by decide +kernel
theorem dX4_bestPitch_55 : decode cX4_bestPitch 55 = .ok (.iload 6, 2) := by decide +kernel
theorem dX4_bestPitch_57 : decode cX4_bestPitch 57 = .ok (.istore 4, 2) := by decide +kernel
theorem dX4_bestPitch_59 : decode cX4_bestPitch 59 = .ok (.iload 5, 2) := by decide +kernel
theorem dX4_bestPitch_61 : decode cX4_bestPitch 61 = .ok (.istore_n 3, 1) := by decide +kernel
theorem dX4_bestPitch_62 : decode cX4_bestPitch 62 = .ok (.iinc 5 1, 3) := by decide +kernel
theorem dX4_bestPitch_65 : decode cX4_bestPitch 65 = .ok (.goto (-47), 3) := by decide +kernel
theorem dX4_bestPitch_68 : decode cX4_bestPitch 68 = .ok (.iload_n 3, 1) := by decide +kernel
theorem dX4_bestPitch_69 : decode cX4_bestPitch 69 = .ok (.ireturn, 1) := by decide +kernel
theorem dX4_recordedStates_0 : decode cX4_recordedStates 0 = .ok (.aload_n 0, 1) := by decide +kernel
theorem dX4_recordedStates_1 : decode cX4_recordedStates 1 = .ok (.getfield 34, 3) := by decide +kernel
theorem dX4_recordedStates_4 : decode cX4_recordedStates 4 = .ok (.ireturn, 1) := by decide +kernel
theorem dX4_needPitch_0 : decode cX4_needPitch 0 = .ok (.iload_n 1, 1) := by decide +kernel
theorem dX4_needPitch_1 : decode cX4_needPitch 1 = .ok (.ifCond .lt 9, 3) := by decide +kernel
theorem dX4_needPitch_4 : decode cX4_needPitch 4 = .ok (.iload_n 1, 1) := by decide +kernel
theorem dX4_needPitch_5 : decode cX4_needPitch 5 = .ok (.bipush 12, 2) := by decide +kernel
theorem dX4_needPitch_7 : decode cX4_needPitch 7 = .ok (.if_icmp .lt 14, 3) := by decide +kernel
theorem dX4_needPitch_10 : decode cX4_needPitch 10 = .ok (.new 305, 3) := by decide +kernel
theorem dX4_needPitch_13 : decode cX4_needPitch 13 = .ok (.dup, 1) := by decide +kernel
theorem dX4_needPitch_14 : decode cX4_needPitch 14 = .ok (.ldc_w 307, 3) := by decide +kernel
theorem dX4_needPitch_17 : decode cX4_needPitch 17 = .ok (.invokespecial 309, 3) := by decide +kernel
theorem dX4_needPitch_20 : decode cX4_needPitch 20 = .ok (.athrow, 1) := by decide +kernel
theorem dX4_needPitch_21 : decode cX4_needPitch 21 = .ok (.return_, 1) := by decide +kernel
theorem dX4_needKind_0 : decode cX4_needKind 0 = .ok (.iload_n 1, 1) := by decide +kernel
theorem dX4_needKind_1 : decode cX4_needKind 1 = .ok (.ifCond .lt 8, 3) := by decide +kernel
theorem dX4_needKind_4 : decode cX4_needKind 4 = .ok (.iload_n 1, 1) := by decide +kernel
theorem dX4_needKind_5 : decode cX4_needKind 5 = .ok (.iconst 5, 1) := by decide +kernel
theorem dX4_needKind_6 : decode cX4_needKind 6 = .ok (.if_icmp .lt 14, 3) := by decide +kernel
theorem dX4_needKind_9 : decode cX4_needKind 9 = .ok (.new 305, 3) := by decide +kernel
theorem dX4_needKind_12 : decode cX4_needKind 12 = .ok (.dup, 1) := by decide +kernel
theorem dX4_needKind_13 : decode cX4_needKind 13 = .ok (.ldc_w 310, 3) := by decide +kernel
theorem dX4_needKind_16 : decode cX4_needKind 16 = .ok (.invokespecial 309, 3) := by decide +kernel
theorem dX4_needKind_19 : decode cX4_needKind 19 = .ok (.athrow, 1) := by decide +kernel
theorem dX4_needKind_20 : decode cX4_needKind 20 = .ok (.return_, 1) := by decide +kernel
theorem dX4_needLevel_0 : decode cX4_needLevel 0 = .ok (.iload_n 1, 1) := by decide +kernel
theorem dX4_needLevel_1 : decode cX4_needLevel 1 = .ok (.ifCond .lt 8, 3) := by decide +kernel
theorem dX4_needLevel_4 : decode cX4_needLevel 4 = .ok (.iload_n 1, 1) := by decide +kernel
theorem dX4_needLevel_5 : decode cX4_needLevel 5 = .ok (.iconst 4, 1) := by decide +kernel
theorem dX4_needLevel_6 : decode cX4_needLevel 6 = .ok (.if_icmp .lt 14, 3) := by decide +kernel
theorem dX4_needLevel_9 : decode cX4_needLevel 9 = .ok (.new 305, 3) := by decide +kernel
theorem dX4_needLevel_12 : decode cX4_needLevel 12 = .ok (.dup, 1) := by decide +kernel
theorem dX4_needLevel_13 : decode cX4_needLevel 13 = .ok (.ldc_w 312, 3) := by decide +kernel
theorem dX4_needLevel_16 : decode cX4_needLevel 16 = .ok (.invokespecial 309, 3) := by decide +kernel
theorem dX4_needLevel_19 : decode cX4_needLevel 19 = .ok (.athrow, 1) := by decide +kernel
theorem dX4_needLevel_20 : decode cX4_needLevel 20 = .ok (.return_, 1) := by decide +kernel
theorem dX4_needColour_0 : decode cX4_needColour 0 = .ok (.iload_n 1, 1) := by decide +kernel
theorem dX4_needColour_1 : decode cX4_needColour 1 = .ok (.ifCond .lt 8, 3) := by decide +kernel
theorem dX4_needColour_4 : decode cX4_needColour 4 = .ok (.iload_n 1, 1) := by decide +kernel
theorem dX4_needColour_5 : decode cX4_needColour 5 = .ok (.iconst 4, 1) := by decide +kernel
theorem dX4_needColour_6 : decode cX4_needColour 6 = .ok (.if_icmp .lt 14, 3) := by decide +kernel
theorem dX4_needColour_9 : decode cX4_needColour 9 = .ok (.new 305, 3) := by decide +kernel
theorem dX4_needColour_12 : decode cX4_needColour 12 = .ok (.dup, 1) := by decide +kernel
theorem dX4_needColour_13 : decode cX4_needColour 13 = .ok (.ldc_w 314, 3) := by decide +kernel
theorem dX4_needColour_16 : decode cX4_needColour 16 = .ok (.invokespecial 309, 3) := by decide +kernel
theorem dX4_needColour_19 : decode cX4_needColour 19 = .ok (.athrow, 1) := by decide +kernel
theorem dX4_needColour_20 : decode cX4_needColour 20 = .ok (.return_, 1) := by decide +kernel
theorem dX4_needHour_0 : decode cX4_needHour 0 = .ok (.iload_n 1, 1) := by decide +kernel
theorem dX4_needHour_1 : decode cX4_needHour 1 = .ok (.ifCond .lt 9, 3) := by decide +kernel
theorem dX4_needHour_4 : decode cX4_needHour 4 = .ok (.iload_n 1, 1) := by decide +kernel
theorem dX4_needHour_5 : decode cX4_needHour 5 = .ok (.bipush 10, 2) := by decide +kernel
theorem dX4_needHour_7 : decode cX4_needHour 7 = .ok (.if_icmp .lt 14, 3) := by decide +kernel
theorem dX4_needHour_10 : decode cX4_needHour 10 = .ok (.new 305, 3) := by decide +kernel
theorem dX4_needHour_13 : decode cX4_needHour 13 = .ok (.dup, 1) := by decide +kernel
theorem dX4_needHour_14 : decode cX4_needHour 14 = .ok (.ldc_w 316, 3) := by decide +kernel
theorem dX4_needHour_17 : decode cX4_needHour 17 = .ok (.invokespecial 309, 3) := by decide +kernel
theorem dX4_needHour_20 : decode cX4_needHour 20 = .ok (.athrow, 1) := by decide +kernel
theorem dX4_needHour_21 : decode cX4_needHour 21 = .ok (.return_, 1) := by decide +kernel
theorem dX4_needChild_0 : decode cX4_needChild 0 = .ok (.iload_n 1, 1) := by decide +kernel
theorem dX4_needChild_1 : decode cX4_needChild 1 = .ok (.ifCond .lt 17, 3) := by decide +kernel
theorem dX4_needChild_4 : decode cX4_needChild 4 = .ok (.iload_n 1, 1) := by decide +kernel
theorem dX4_needChild_5 : decode cX4_needChild 5 = .ok (.aload_n 0, 1) := by decide +kernel
theorem dX4_needChild_6 : decode cX4_needChild 6 = .ok (.getfield 10, 3) := by decide +kernel
theorem dX4_needChild_9 : decode cX4_needChild 9 = .ok (.getfield 132, 3) := by decide +kernel
theorem dX4_needChild_12 : decode cX4_needChild 12 = .ok (.getfield 233, 3) := by decide +kernel
theorem dX4_needChild_15 : decode cX4_needChild 15 = .ok (.if_icmp .lt 14, 3) := by decide +kernel
theorem dX4_needChild_18 : decode cX4_needChild 18 = .ok (.new 305, 3) := by decide +kernel
theorem dX4_needChild_21 : decode cX4_needChild 21 = .ok (.dup, 1) := by decide +kernel
theorem dX4_needChild_22 : decode cX4_needChild 22 = .ok (.ldc_w 318, 3) := by decide +kernel
theorem dX4_needChild_25 : decode cX4_needChild 25 = .ok (.invokespecial 309, 3) := by decide +kernel
theorem dX4_needChild_28 : decode cX4_needChild 28 = .ok (.athrow, 1) := by decide +kernel
theorem dX4_needChild_29 : decode cX4_needChild 29 = .ok (.return_, 1) := by decide +kernel
theorem dX4_needStall_0 : decode cX4_needStall 0 = .ok (.aload_n 0, 1) := by decide +kernel
theorem dX4_needStall_1 : decode cX4_needStall 1 = .ok (.getfield 10, 3) := by decide +kernel
theorem dX4_needStall_4 : decode cX4_needStall 4 = .ok (.iload_n 1, 1) := by decide +kernel
theorem dX4_needStall_5 : decode cX4_needStall 5 = .ok (.invokevirtual 320, 3) := by decide +kernel
theorem dX4_needStall_8 : decode cX4_needStall 8 = .ok (.ifCond .ne 14, 3) := by decide +kernel
theorem dX4_needStall_11 : decode cX4_needStall 11 = .ok (.new 305, 3) := by decide +kernel
theorem dX4_needStall_14 : decode cX4_needStall 14 = .ok (.dup, 1) := by decide +kernel
theorem dX4_needStall_15 : decode cX4_needStall 15 = .ok (.ldc_w 323, 3) := by decide +kernel
theorem dX4_needStall_18 : decode cX4_needStall 18 = .ok (.invokespecial 309, 3) := by decide +kernel
theorem dX4_needStall_21 : decode cX4_needStall 21 = .ok (.athrow, 1) := by decide +kernel
theorem dX4_needStall_22 : decode cX4_needStall 22 = .ok (.return_, 1) := by decide +kernel
theorem dX4_stallNumbered_0 : decode cX4_stallNumbered 0 = .ok (.aload_n 0, 1) := by decide +kernel
theorem dX4_stallNumbered_1 : decode cX4_stallNumbered 1 = .ok (.iload_n 1, 1) := by decide +kernel
theorem dX4_stallNumbered_2 : decode cX4_stallNumbered 2 = .ok (.invokevirtual 72, 3) := by decide +kernel
theorem dX4_stallNumbered_5 : decode cX4_stallNumbered 5 = .ok (.aload_n 0, 1) := by decide +kernel
theorem dX4_stallNumbered_6 : decode cX4_stallNumbered 6 = .ok (.getfield 10, 3) := by decide +kernel
theorem dX4_stallNumbered_9 : decode cX4_stallNumbered 9 = .ok (.getfield 325, 3) := by decide +kernel
theorem dX4_stallNumbered_12 : decode cX4_stallNumbered 12 = .ok (.iload_n 1, 1) := by decide +kernel
theorem dX4_stallNumbered_13 : decode cX4_stallNumbered 13 = .ok (.aaload, 1) := by decide +kernel
theorem dX4_stallNumbered_14 : decode cX4_stallNumbered 14 = .ok (.areturn, 1) := by decide +kernel
theorem dX4_needPrice_0 : decode cX4_needPrice 0 = .ok (.iload_n 1, 1) := by decide +kernel
theorem dX4_needPrice_1 : decode cX4_needPrice 1 = .ok (.iconst 1, 1) := by decide +kernel
theorem dX4_needPrice_2 : decode cX4_needPrice 2 = .ok (.if_icmp .lt 9, 3) := by decide +kernel
theorem dX4_needPrice_5 : decode cX4_needPrice 5 = .ok (.iload_n 1, 1) := by decide +kernel
theorem dX4_needPrice_6 : decode cX4_needPrice 6 = .ok (.bipush 9, 2) := by decide +kernel
theorem dX4_needPrice_8 : decode cX4_needPrice 8 = .ok (.if_icmp .le 14, 3) := by decide +kernel
theorem dX4_needPrice_11 : decode cX4_needPrice 11 = .ok (.new 100, 3) := by decide +kernel
theorem dX4_needPrice_14 : decode cX4_needPrice 14 = .ok (.dup, 1) := by decide +kernel
theorem dX4_needPrice_15 : decode cX4_needPrice 15 = .ok (.ldc_w 329, 3) := by decide +kernel
theorem dX4_needPrice_18 : decode cX4_needPrice 18 = .ok (.invokespecial 104, 3) := by decide +kernel
theorem dX4_needPrice_21 : decode cX4_needPrice 21 = .ok (.athrow, 1) := by decide +kernel
theorem dX4_needPrice_22 : decode cX4_needPrice 22 = .ok (.return_, 1) := by decide +kernel
theorem dX4_keepRecord_0 : decode cX4_keepRecord 0 = .ok (.aload_n 0, 1) := by decide +kernel
theorem dX4_keepRecord_1 : decode cX4_keepRecord 1 = .ok (.getfield 26, 3) := by decide +kernel
theorem dX4_keepRecord_4 : decode cX4_keepRecord 4 = .ok (.aload_n 0, 1) := by decide +kernel
theorem dX4_keepRecord_5 : decode cX4_keepRecord 5 = .ok (.getfield 30, 3) := by decide +kernel
theorem dX4_keepRecord_8 : decode cX4_keepRecord 8 = .ok (.aaload, 1) := by decide +kernel
theorem dX4_keepRecord_9 : decode cX4_keepRecord 9 = .ok (.aload_n 0, 1) := by decide +kernel
theorem dX4_keepRecord_10 : decode cX4_keepRecord 10 = .ok (.getfield 10, 3) := by decide +kernel
theorem dX4_keepRecord_13 : decode cX4_keepRecord 13 = .ok (.invokevirtual 191, 3) := by decide +kernel
theorem dX4_keepRecord_16 : decode cX4_keepRecord 16 = .ok (.aload_n 0, 1) := by decide +kernel
theorem dX4_keepRecord_17 : decode cX4_keepRecord 17 = .ok (.aload_n 0, 1) := by decide +kernel
theorem dX4_keepRecord_18 : decode cX4_keepRecord 18 = .ok (.getfield 30, 3) := by decide +kernel
theorem dX4_keepRecord_21 : decode cX4_keepRecord 21 = .ok (.iconst 1, 1) := by decide +kernel
theorem dX4_keepRecord_22 : decode cX4_keepRecord 22 = .ok (.iadd, 1) := by decide +kernel
theorem dX4_keepRecord_23 : decode cX4_keepRecord 23 = .ok (.iconst 4, 1) := by decide +kernel
theorem dX4_keepRecord_24 : decode cX4_keepRecord 24 = .ok (.irem, 1) := by decide +kernel
theorem dX4_keepRecord_25 : decode cX4_keepRecord 25 = .ok (.putfield 30, 3) := by decide +kernel
theorem dX4_keepRecord_28 : decode cX4_keepRecord 28 = .ok (.aload_n 0, 1) := by decide +kernel
theorem dX4_keepRecord_29 : decode cX4_keepRecord 29 = .ok (.getfield 34, 3) := by decide +kernel
theorem dX4_keepRecord_32 : decode cX4_keepRecord 32 = .ok (.iconst 4, 1) := by decide +kernel
theorem dX4_keepRecord_33 : decode cX4_keepRecord 33 = .ok (.if_icmp .ge 13, 3) := by decide +kernel
theorem dX4_keepRecord_36 : decode cX4_keepRecord 36 = .ok (.aload_n 0, 1) := by decide +kernel
theorem dX4_keepRecord_37 : decode cX4_keepRecord 37 = .ok (.dup, 1) := by decide +kernel
theorem dX4_keepRecord_38 : decode cX4_keepRecord 38 = .ok (.getfield 34, 3) := by decide +kernel
theorem dX4_keepRecord_41 : decode cX4_keepRecord 41 = .ok (.iconst 1, 1) := by decide +kernel
theorem dX4_keepRecord_42 : decode cX4_keepRecord 42 = .ok (.iadd, 1) := by decide +kernel
theorem dX4_keepRecord_43 : decode cX4_keepRecord 43 = .ok (.putfield 34, 3) := by decide +kernel
theorem dX4_keepRecord_46 : decode cX4_keepRecord 46 = .ok (.return_, 1) := by decide +kernel
theorem dX4_tryOrders_0 : decode cX4_tryOrders 0 = .ok (.aload_n 0, 1) := by decide +kernel
theorem dX4_tryOrders_1 : decode cX4_tryOrders 1 = .ok (.getfield 16, 3) := by decide +kernel
theorem dX4_tryOrders_4 : decode cX4_tryOrders 4 = .ok (.aload_n 0, 1) := by decide +kernel
theorem dX4_tryOrders_5 : decode cX4_tryOrders 5 = .ok (.getfield 10, 3) := by decide +kernel
theorem dX4_tryOrders_8 : decode cX4_tryOrders 8 = .ok (.invokevirtual 191, 3) := by decide +kernel
theorem dX4_tryOrders_11 : decode cX4_tryOrders 11 = .ok (.aload_n 0, 1) := by decide +kernel
theorem dX4_tryOrders_12 : decode cX4_tryOrders 12 = .ok (.getfield 40, 3) := by decide +kernel
theorem dX4_tryOrders_15 : decode cX4_tryOrders 15 = .ok (.invokevirtual 331, 3) := by decide +kernel
theorem dX4_tryOrders_18 : decode cX4_tryOrders 18 = .ok (.iconst 0, 1) := by decide +kernel
theorem dX4_tryOrders_19 : decode cX4_tryOrders 19 = .ok (.istore_n 1, 1) := by decide +kernel
theorem dX4_tryOrders_20 : decode cX4_tryOrders 20 = .ok (.iload_n 1, 1) := by decide +kernel
theorem dX4_tryOrders_21 : decode cX4_tryOrders 21 = .ok (.bipush 80, 2) := by decide +kernel
theorem dX4_tryOrders_23 : decode cX4_tryOrders 23 = .ok (.if_icmp .ge 35, 3) := by decide +kernel
theorem dX4_tryOrders_26 : decode cX4_tryOrders 26 = .ok (.aload_n 0, 1) := by decide +kernel
theorem dX4_tryOrders_27 : decode cX4_tryOrders 27 = .ok (.getfield 40, 3) := by decide +kernel
theorem dX4_tryOrders_30 : decode cX4_tryOrders 30 = .ok (.invokevirtual 334, 3) := by decide +kernel
theorem dX4_tryOrders_33 : decode cX4_tryOrders 33 = .ok (.ifCond .eq 25, 3) := by decide +kernel
theorem dX4_tryOrders_36 : decode cX4_tryOrders 36 = .ok (.aload_n 0, 1) := by decide +kernel
theorem dX4_tryOrders_37 : decode cX4_tryOrders 37 = .ok (.getfield 16, 3) := by decide +kernel
theorem dX4_tryOrders_40 : decode cX4_tryOrders 40 = .ok (.aload_n 0, 1) := by decide +kernel
theorem dX4_tryOrders_41 : decode cX4_tryOrders 41 = .ok (.getfield 40, 3) := by decide +kernel
theorem dX4_tryOrders_44 : decode cX4_tryOrders 44 = .ok (.invokevirtual 337, 3) := by decide +kernel
theorem dX4_tryOrders_47 : decode cX4_tryOrders 47 = .ok (.ifCond .ne 5, 3) := by decide +kernel
theorem dX4_tryOrders_50 : decode cX4_tryOrders 50 = .ok (.iload_n 1, 1) := by decide +kernel
theorem dX4_tryOrders_51 : decode cX4_tryOrders 51 = .ok (.ireturn, 1) := by decide +kernel
theorem dX4_tryOrders_52 : decode cX4_tryOrders 52 = .ok (.iinc 1 1, 3) := by decide +kernel
theorem dX4_tryOrders_55 : decode cX4_tryOrders 55 = .ok (.goto (-35), 3) := by decide +kernel
theorem dX4_tryOrders_58 : decode cX4_tryOrders 58 = .ok (.iconst (-1), 1) := by decide +kernel
theorem dX4_tryOrders_59 : decode cX4_tryOrders 59 = .ok (.ireturn, 1) := by decide +kernel
theorem dX4_coinsOfNewStall_0 : decode cX4_coinsOfNewStall 0 = .ok (.aload_n 0, 1) := by decide +kernel
theorem dX4_coinsOfNewStall_1 : decode cX4_coinsOfNewStall 1 = .ok (.getfield 16, 3) := by decide +kernel
theorem dX4_coinsOfNewStall_4 : decode cX4_coinsOfNewStall 4 = .ok (.aload_n 0, 1) := by decide +kernel
theorem dX4_coinsOfNewStall_5 : decode cX4_coinsOfNewStall 5 = .ok (.getfield 10, 3) := by decide +kernel
theorem dX4_coinsOfNewStall_8 : decode cX4_coinsOfNewStall 8 = .ok (.invokevirtual 191, 3) := by decide +kernel
theorem dX4_coinsOfNewStall_11 : decode cX4_coinsOfNewStall 11 = .ok (.aload_n 0, 1) := by decide +kernel
theorem dX4_coinsOfNewStall_12 : decode cX4_coinsOfNewStall 12 = .ok (.getfield 16, 3) := by decide +kernel
theorem dX4_coinsOfNewStall_15 : decode cX4_coinsOfNewStall 15 = .ok (.iload_n 1, 1) := by decide +kernel
theorem dX4_coinsOfNewStall_16 : decode cX4_coinsOfNewStall 16 = .ok (.iload_n 2, 1) := by decide +kernel
theorem dX4_coinsOfNewStall_17 : decode cX4_coinsOfNewStall 17 = .ok (.iload_n 3, 1) := by decide +kernel
theorem dX4_coinsOfNewStall_18 : decode cX4_coinsOfNewStall 18 = .ok (.iconst 0, 1) := by decide +kernel
theorem dX4_coinsOfNewStall_19 : decode cX4_coinsOfNewStall 19 = .ok (.invokevirtual 341, 3) := by decide +kernel
theorem dX4_coinsOfNewStall_22 : decode cX4_coinsOfNewStall 22 = .ok (.istore 4, 2) := by decide +kernel
theorem dX4_coinsOfNewStall_24 : decode cX4_coinsOfNewStall 24 = .ok (.aload_n 0, 1) := by decide +kernel
theorem dX4_coinsOfNewStall_25 : decode cX4_coinsOfNewStall 25 = .ok (.getfield 16, 3) := by decide +kernel
theorem dX4_coinsOfNewStall_28 : decode cX4_coinsOfNewStall 28 = .ok (.bipush 40, 2) := by decide +kernel
theorem dX4_coinsOfNewStall_30 : decode cX4_coinsOfNewStall 30 = .ok (.aload_n 0, 1) := by decide +kernel
theorem dX4_coinsOfNewStall_31 : decode cX4_coinsOfNewStall 31 = .ok (.getfield 10, 3) := by decide +kernel
theorem dX4_coinsOfNewStall_34 : decode cX4_coinsOfNewStall 34 = .ok (.getfield 275, 3) := by decide +kernel
theorem dX4_coinsOfNewStall_37 : decode cX4_coinsOfNewStall 37 = .ok (.isub, 1) := by decide +kernel
theorem dX4_coinsOfNewStall_38 : decode cX4_coinsOfNewStall 38 = .ok (.invokevirtual 168, 3) := by decide +kernel
theorem dX4_coinsOfNewStall_41 : decode cX4_coinsOfNewStall 41 = .ok (.aload_n 0, 1) := by decide +kernel
theorem dX4_coinsOfNewStall_42 : decode cX4_coinsOfNewStall 42 = .ok (.getfield 16, 3) := by decide +kernel
theorem dX4_coinsOfNewStall_45 : decode cX4_coinsOfNewStall 45 = .ok (.getfield 325, 3) := by decide +kernel
theorem dX4_coinsOfNewStall_48 : decode cX4_coinsOfNewStall 48 = .ok (.iload 4, 2) := by decide +kernel
theorem dX4_coinsOfNewStall_50 : decode cX4_coinsOfNewStall 50 = .ok (.aaload, 1) := by decide +kernel
theorem dX4_coinsOfNewStall_51 : decode cX4_coinsOfNewStall 51 = .ok (.getfield 214, 3) := by decide +kernel
theorem dX4_coinsOfNewStall_54 : decode cX4_coinsOfNewStall 54 = .ok (.iload_n 3, 1) := by decide +kernel
theorem dX4_coinsOfNewStall_55 : decode cX4_coinsOfNewStall 55 = .ok (.imul, 1) := by decide +kernel
theorem dX4_coinsOfNewStall_56 : decode cX4_coinsOfNewStall 56 = .ok (.ireturn, 1) := by decide +kernel
theorem dX4_costOfStall_0 : decode cX4_costOfStall 0 = .ok (.iload_n 0, 1) := by decide +kernel
theorem dX4_costOfStall_1 : decode cX4_costOfStall 1 = .ok (.ifCond .eq 8, 3) := by decide +kernel
theorem dX4_costOfStall_4 : decode cX4_costOfStall 4 = .ok (.bipush 50, 2) := by decide +kernel
theorem dX4_costOfStall_6 : decode cX4_costOfStall 6 = .ok (.goto 5, 3) := by decide +kernel
theorem dX4_costOfStall_9 : decode cX4_costOfStall 9 = .ok (.bipush 30, 2) := by decide +kernel
theorem dX4_costOfStall_11 : decode cX4_costOfStall 11 = .ok (.ireturn, 1) := by decide +kernel
theorem dX4_costOfPrize_0 : decode cX4_costOfPrize 0 = .ok (.iload_n 0, 1) := by decide +kernel
theorem dX4_costOfPrize_1 : decode cX4_costOfPrize 1 = .ok (.tableswitch 34 0 2 #[27, 29, 31], 27) := by decide +kernel
theorem dX4_costOfPrize_28 : decode cX4_costOfPrize 28 = .ok (.iconst 1, 1) := by decide +kernel
theorem dX4_costOfPrize_29 : decode cX4_costOfPrize 29 = .ok (.ireturn, 1) := by decide +kernel
theorem dX4_costOfPrize_30 : decode cX4_costOfPrize 30 = .ok (.iconst 3, 1) := by decide +kernel
theorem dX4_costOfPrize_31 : decode cX4_costOfPrize 31 = .ok (.ireturn, 1) := by decide +kernel
theorem dX4_costOfPrize_32 : decode cX4_costOfPrize 32 = .ok (.bipush 6, 2) := by decide +kernel
theorem dX4_costOfPrize_34 : decode cX4_costOfPrize 34 = .ok (.ireturn, 1) := by decide +kernel
theorem dX4_costOfPrize_35 : decode cX4_costOfPrize 35 = .ok (.bipush 10, 2) := by decide +kernel
theorem dX4_costOfPrize_37 : decode cX4_costOfPrize 37 = .ok (.ireturn, 1) := by decide +kernel
theorem dX4_winningPlay_0 : decode cX4_winningPlay 0 = .ok (.iload_n 0, 1) := by decide +kernel
theorem dX4_winningPlay_1 : decode cX4_winningPlay 1 = .ok (.tableswitch 39 0 3 #[31, 33, 35, 37], 31) := by decide +kernel
theorem dX4_winningPlay_32 : decode cX4_winningPlay 32 = .ok (.iconst 4, 1) := by decide +kernel
theorem dX4_winningPlay_33 : decode cX4_winningPlay 33 = .ok (.ireturn, 1) := by decide +kernel
theorem dX4_winningPlay_34 : decode cX4_winningPlay 34 = .ok (.iconst 3, 1) := by decide +kernel
theorem dX4_winningPlay_35 : decode cX4_winningPlay 35 = .ok (.ireturn, 1) := by decide +kernel
theorem dX4_winningPlay_36 : decode cX4_winningPlay 36 = .ok (.iconst 5, 1) := by decide +kernel
theorem dX4_winningPlay_37 : decode cX4_winningPlay 37 = .ok (.ireturn, 1) := by decide +kernel
theorem dX4_winningPlay_38 : decode cX4_winningPlay 38 = .ok (.iconst 1, 1) := by decide +kernel
theorem dX4_winningPlay_39 : decode cX4_winningPlay 39 = .ok (.ireturn, 1) := by decide +kernel
theorem dX4_winningPlay_40 : decode cX4_winningPlay 40 = .ok (.iconst 0, 1) := by decide +kernel
theorem dX4_winningPlay_41 : decode cX4_winningPlay 41 = .ok (.ireturn, 1) := by decide +kernel
theorem dX4_greatestLevelOf_0 : decode cX4_greatestLevelOf 0 = .ok (.iload_n 0, 1) := by decide +kernel
theorem dX4_greatestLevelOf_1 : decode cX4_greatestLevelOf 1 = .ok (.tableswitch 39 0 3 #[31, 33, 35, 37], 31) := by decide +kernel
theorem dX4_greatestLevelOf_32 : decode cX4_greatestLevelOf 32 = .ok (.iconst 2, 1) := by decide +kernel
theorem dX4_greatestLevelOf_33 : decode cX4_greatestLevelOf 33 = .ok (.ireturn, 1) := by decide +kernel
theorem dX4_greatestLevelOf_34 : decode cX4_greatestLevelOf 34 = .ok (.iconst 1, 1) := by decide +kernel
theorem dX4_greatestLevelOf_35 : decode cX4_greatestLevelOf 35 = .ok (.ireturn, 1) := by decide +kernel
theorem dX4_greatestLevelOf_36 : decode cX4_greatestLevelOf 36 = .ok (.iconst 3, 1) := by decide +kernel
theorem dX4_greatestLevelOf_37 : decode cX4_greatestLevelOf 37 = .ok (.ireturn, 1) := by decide +kernel
theorem dX4_greatestLevelOf_38 : decode cX4_greatestLevelOf 38 = .ok (.iconst 0, 1) := by decide +kernel
theorem dX4_greatestLevelOf_39 : decode cX4_greatestLevelOf 39 = .ok (.ireturn, 1) := by decide +kernel
theorem dX4_greatestLevelOf_40 : decode cX4_greatestLevelOf 40 = .ok (.iconst (-1), 1) := by decide +kernel
theorem dX4_greatestLevelOf_41 : decode cX4_greatestLevelOf 41 = .ok (.ireturn, 1) := by decide +kernel
theorem dJ9_min_7cf53_0 : decode cJ9_min_7cf53 0 = .ok (.iload_n 0, 1) := by decide +kernel
theorem dJ9_min_7cf53_1 : decode cJ9_min_7cf53 1 = .ok (.iload_n 1, 1) := by decide +kernel
theorem dJ9_min_7cf53_2 : decode cJ9_min_7cf53 2 = .ok (.if_icmp .gt 7, 3) := by decide +kernel
theorem dJ9_min_7cf53_5 : decode cJ9_min_7cf53 5 = .ok (.iload_n 0, 1) := by decide +kernel
theorem dJ9_min_7cf53_6 : decode cJ9_min_7cf53 6 = .ok (.goto 4, 3) := by decide +kernel
theorem dJ9_min_7cf53_9 : decode cJ9_min_7cf53 9 = .ok (.iload_n 1, 1) := by decide +kernel
theorem dJ9_min_7cf53_10 : decode cJ9_min_7cf53 10 = .ok (.ireturn, 1) := by decide +kernel
theorem dL_part_0 : decode cL_part 0 = .ok (.iload_n 0, 1) := by decide +kernel
theorem dL_part_1 : decode cL_part 1 = .ok (.ldc 7, 2) := by decide +kernel
theorem dL_part_3 : decode cL_part 3 = .ok (.iand, 1) := by decide +kernel
theorem dL_part_4 : decode cL_part 4 = .ok (.iload_n 1, 1) := by decide +kernel
theorem dL_part_5 : decode cL_part 5 = .ok (.irem, 1) := by decide +kernel
theorem dL_part_6 : decode cL_part 6 = .ok (.ireturn, 1) := by decide +kernel
theorem dL_drawn_0 : decode cL_drawn 0 = .ok (.aload_n 0, 1) := by decide +kernel
theorem dL_drawn_1 : decode cL_drawn 1 = .ok (.arraylength, 1) := by decide +kernel
theorem dL_drawn_2 : decode cL_drawn 2 = .ok (.ifCond .ne 13, 3) := by decide +kernel
theorem dL_drawn_5 : decode cL_drawn 5 = .ok (.sipush 7919, 3) := by decide +kernel
theorem dL_drawn_8 : decode cL_drawn 8 = .ok (.iload_n 1, 1) := by decide +kernel
theorem dL_drawn_9 : decode cL_drawn 9 = .ok (.imul, 1) := by decide +kernel
theorem dL_drawn_10 : decode cL_drawn 10 = .ok (.iconst 3, 1) := by decide +kernel
theorem dL_drawn_11 : decode cL_drawn 11 = .ok (.iadd, 1) := by decide +kernel
theorem dL_drawn_12 : decode cL_drawn 12 = .ok (.goto 27, 3) := by decide +kernel
theorem dL_drawn_15 : decode cL_drawn 15 = .ok (.aload_n 0, 1) := by decide +kernel
theorem dL_drawn_16 : decode cL_drawn 16 = .ok (.iload_n 1, 1) := by decide +kernel
theorem dL_drawn_17 : decode cL_drawn 17 = .ok (.aload_n 0, 1) := by decide +kernel
theorem dL_drawn_18 : decode cL_drawn 18 = .ok (.arraylength, 1) := by decide +kernel
theorem dL_drawn_19 : decode cL_drawn 19 = .ok (.irem, 1) := by decide +kernel
theorem dL_drawn_20 : decode cL_drawn 20 = .ok (.iaload, 1) := by decide +kernel
theorem dL_drawn_21 : decode cL_drawn 21 = .ok (.iload_n 1, 1) := by decide +kernel
theorem dL_drawn_22 : decode cL_drawn 22 = .ok (.bipush 7, 2) := by decide +kernel
theorem dL_drawn_24 : decode cL_drawn 24 = .ok (.irem, 1) := by decide +kernel
theorem dL_drawn_25 : decode cL_drawn 25 = .ok (.ishr, 1) := by decide +kernel
theorem dL_drawn_26 : decode cL_drawn 26 = .ok (.iload_n 1, 1) := by decide +kernel
theorem dL_drawn_27 : decode cL_drawn 27 = .ok (.aload_n 0, 1) := by decide +kernel
theorem dL_drawn_28 : decode cL_drawn 28 = .ok (.arraylength, 1) := by decide +kernel
theorem dL_drawn_29 : decode cL_drawn 29 = .ok (.idiv, 1) := by decide +kernel
theorem dL_drawn_30 : decode cL_drawn 30 = .ok (.bipush 31, 2) := by decide +kernel
theorem dL_drawn_32 : decode cL_drawn 32 = .ok (.imul, 1) := by decide +kernel
theorem dL_drawn_33 : decode cL_drawn 33 = .ok (.ixor, 1) := by decide +kernel
theorem dL_drawn_34 : decode cL_drawn 34 = .ok (.iload_n 1, 1) := by decide +kernel
theorem dL_drawn_35 : decode cL_drawn 35 = .ok (.ldc 8, 2) := by decide +kernel
theorem dL_drawn_37 : decode cL_drawn 37 = .ok (.imul, 1) := by decide +kernel
theorem dL_drawn_38 : decode cL_drawn 38 = .ok (.ixor, 1) := by decide +kernel
theorem dL_drawn_39 : decode cL_drawn 39 = .ok (.ireturn, 1) := by decide +kernel
theorem dL_call_0 : decode cL_call 0 = .ok (.iload_n 1, 1) := by decide +kernel
theorem dL_call_1 : decode cL_call 1 = .ok (.bipush 12, 2) := by decide +kernel
theorem dL_call_3 : decode cL_call 3 = .ok (.if_icmp .ge 17, 3) := by decide +kernel
theorem dL_call_6 : decode cL_call 6 = .ok (.aload_n 0, 1) := by decide +kernel
theorem dL_call_7 : decode cL_call 7 = .ok (.iload_n 1, 1) := by decide +kernel
theorem dL_call_8 : decode cL_call 8 = .ok (.iload_n 2, 1) := by decide +kernel
theorem dL_call_9 : decode cL_call 9 = .ok (.iload_n 3, 1) := by decide +kernel
theorem dL_call_10 : decode cL_call 10 = .ok (.iload 4, 2) := by decide +kernel
theorem dL_call_12 : decode cL_call 12 = .ok (.iload 5, 2) := by decide +kernel
theorem dL_call_14 : decode cL_call 14 = .ok (.invokestatic 9, 3) := by decide +kernel
theorem dL_call_17 : decode cL_call 17 = .ok (.goto 43, 3) := by decide +kernel
theorem dL_call_20 : decode cL_call 20 = .ok (.iload_n 1, 1) := by decide +kernel
theorem dL_call_21 : decode cL_call 21 = .ok (.bipush 22, 2) := by decide +kernel
theorem dL_call_23 : decode cL_call 23 = .ok (.if_icmp .ge 15, 3) := by decide +kernel
theorem dL_call_26 : decode cL_call 26 = .ok (.aload_n 0, 1) := by decide +kernel
theorem dL_call_27 : decode cL_call 27 = .ok (.iload_n 1, 1) := by decide +kernel
theorem dL_call_28 : decode cL_call 28 = .ok (.iload_n 2, 1) := by decide +kernel
theorem dL_call_29 : decode cL_call 29 = .ok (.iload_n 3, 1) := by decide +kernel
theorem dL_call_30 : decode cL_call 30 = .ok (.iload 4, 2) := by decide +kernel
theorem dL_call_32 : decode cL_call 32 = .ok (.invokestatic 15, 3) := by decide +kernel
theorem dL_call_35 : decode cL_call 35 = .ok (.goto 25, 3) := by decide +kernel
theorem dL_call_38 : decode cL_call 38 = .ok (.iload_n 1, 1) := by decide +kernel
theorem dL_call_39 : decode cL_call 39 = .ok (.bipush 32, 2) := by decide +kernel
theorem dL_call_41 : decode cL_call 41 = .ok (.if_icmp .ge 12, 3) := by decide +kernel
theorem dL_call_44 : decode cL_call 44 = .ok (.aload_n 0, 1) := by decide +kernel
theorem dL_call_45 : decode cL_call 45 = .ok (.iload_n 1, 1) := by decide +kernel
theorem dL_call_46 : decode cL_call 46 = .ok (.iload_n 2, 1) := by decide +kernel
theorem dL_call_47 : decode cL_call 47 = .ok (.invokestatic 19, 3) := by decide +kernel
theorem dL_call_50 : decode cL_call 50 = .ok (.goto 10, 3) := by decide +kernel
theorem dL_call_53 : decode cL_call 53 = .ok (.aload_n 0, 1) := by decide +kernel
theorem dL_call_54 : decode cL_call 54 = .ok (.iload_n 1, 1) := by decide +kernel
theorem dL_call_55 : decode cL_call 55 = .ok (.iload_n 2, 1) := by decide +kernel
theorem dL_call_56 : decode cL_call 56 = .ok (.iload_n 3, 1) := by decide +kernel
theorem dL_call_57 : decode cL_call 57 = .ok (.invokestatic 23, 3) := by decide +kernel
theorem dL_call_60 : decode cL_call 60 = .ok (.ireturn, 1) := by decide +kernel
theorem dL_call_61 : decode cL_call 61 = .ok (.astore 6, 2) := by decide +kernel
theorem dL_call_63 : decode cL_call 63 = .ok (.sipush (-2011), 3) := by decide +kernel
theorem dL_call_66 : decode cL_call 66 = .ok (.ireturn, 1) := by decide +kernel
theorem dL_call_67 : decode cL_call 67 = .ok (.astore 6, 2) := by decide +kernel
theorem dL_call_69 : decode cL_call 69 = .ok (.sipush (-2012), 3) := by decide +kernel
theorem dL_call_72 : decode cL_call 72 = .ok (.ireturn, 1) := by decide +kernel
theorem dL_call_73 : decode cL_call 73 = .ok (.astore 6, 2) := by decide +kernel
theorem dL_call_75 : decode cL_call 75 = .ok (.sipush (-2013), 3) := by decide +kernel
theorem dL_call_78 : decode cL_call 78 = .ok (.ireturn, 1) := by decide +kernel
theorem dL_act_0 : decode cL_act 0 = .ok (.iload_n 1, 1) := by decide +kernel
theorem dL_act_1 : decode cL_act 1 = .ok (.ifCond .ne 25, 3) := by decide +kernel
theorem dL_act_4 : decode cL_act 4 = .ok (.aload_n 0, 1) := by decide +kernel
theorem dL_act_5 : decode cL_act 5 = .ok (.iload_n 2, 1) := by decide +kernel
theorem dL_act_6 : decode cL_act 6 = .ok (.iload_n 3, 1) := by decide +kernel
theorem dL_act_7 : decode cL_act 7 = .ok (.iload 4, 2) := by decide +kernel
theorem dL_act_9 : decode cL_act 9 = .ok (.iload 5, 2) := by decide +kernel
theorem dL_act_11 : decode cL_act 11 = .ok (.iconst 1, 1) := by decide +kernel
theorem dL_act_12 : decode cL_act 12 = .ok (.if_icmp .ne 7, 3) := by decide +kernel
theorem dL_act_15 : decode cL_act 15 = .ok (.iconst 1, 1) := by decide +kernel
theorem dL_act_16 : decode cL_act 16 = .ok (.goto 4, 3) := by decide +kernel
theorem dL_act_19 : decode cL_act 19 = .ok (.iconst 0, 1) := by decide +kernel
theorem dL_act_20 : decode cL_act 20 = .ok (.invokevirtual 33, 3) := by decide +kernel
theorem dL_act_23 : decode cL_act 23 = .ok (.goto 160, 3) := by decide +kernel
theorem dL_act_26 : decode cL_act 26 = .ok (.iload_n 1, 1) := by decide +kernel
theorem dL_act_27 : decode cL_act 27 = .ok (.iconst 1, 1) := by decide +kernel
theorem dL_act_28 : decode cL_act 28 = .ok (.if_icmp .ne 11, 3) := by decide +kernel
theorem dL_act_31 : decode cL_act 31 = .ok (.aload_n 0, 1) := by decide +kernel
theorem dL_act_32 : decode cL_act 32 = .ok (.iload_n 2, 1) := by decide +kernel
theorem dL_act_33 : decode cL_act 33 = .ok (.invokevirtual 39, 3) := by decide +kernel
theorem dL_act_36 : decode cL_act 36 = .ok (.goto 147, 3) := by decide +kernel
theorem dL_act_39 : decode cL_act 39 = .ok (.iload_n 1, 1) := by decide +kernel
theorem dL_act_40 : decode cL_act 40 = .ok (.iconst 2, 1) := by decide +kernel
theorem dL_act_41 : decode cL_act 41 = .ok (.if_icmp .ne 12, 3) := by decide +kernel
theorem dL_act_44 : decode cL_act 44 = .ok (.aload_n 0, 1) := by decide +kernel
theorem dL_act_45 : decode cL_act 45 = .ok (.iload_n 2, 1) := by decide +kernel
theorem dL_act_46 : decode cL_act 46 = .ok (.iload_n 3, 1) := by decide +kernel
theorem dL_act_47 : decode cL_act 47 = .ok (.invokevirtual 43, 3) := by decide +kernel
theorem dL_act_50 : decode cL_act 50 = .ok (.goto 133, 3) := by decide +kernel
theorem dL_act_53 : decode cL_act 53 = .ok (.iload_n 1, 1) := by decide +kernel
theorem dL_act_54 : decode cL_act 54 = .ok (.iconst 3, 1) := by decide +kernel
theorem dL_act_55 : decode cL_act 55 = .ok (.if_icmp .ne 19, 3) := by decide +kernel
theorem dL_act_58 : decode cL_act 58 = .ok (.aload_n 0, 1) := by decide +kernel
theorem dL_act_59 : decode cL_act 59 = .ok (.iload_n 2, 1) := by decide +kernel
theorem dL_act_60 : decode cL_act 60 = .ok (.invokevirtual 47, 3) := by decide +kernel
theorem dL_act_63 : decode cL_act 63 = .ok (.ifCond .eq 7, 3) := by decide +kernel
theorem dL_act_66 : decode cL_act 66 = .ok (.iconst 1, 1) := by decide +kernel
theorem dL_act_67 : decode cL_act 67 = .ok (.goto 116, 3) := by decide +kernel
theorem dL_act_70 : decode cL_act 70 = .ok (.iconst 0, 1) := by decide +kernel
theorem dL_act_71 : decode cL_act 71 = .ok (.goto 112, 3) := by decide +kernel
theorem dL_act_74 : decode cL_act 74 = .ok (.iload_n 1, 1) := by decide +kernel
theorem dL_act_75 : decode cL_act 75 = .ok (.iconst 4, 1) := by decide +kernel
theorem dL_act_76 : decode cL_act 76 = .ok (.if_icmp .ne 16, 3) := by decide +kernel
theorem dL_act_79 : decode cL_act 79 = .ok (.aload_n 0, 1) := by decide +kernel
theorem dL_act_80 : decode cL_act 80 = .ok (.iload_n 2, 1) := by decide +kernel
theorem dL_act_81 : decode cL_act 81 = .ok (.iload_n 3, 1) := by decide +kernel
theorem dL_act_82 : decode cL_act 82 = .ok (.iload 4, 2) := by decide +kernel
theorem dL_act_84 : decode cL_act 84 = .ok (.iload 5, 2) := by decide +kernel
theorem dL_act_86 : decode cL_act 86 = .ok (.invokevirtual 51, 3) := by decide +kernel
theorem dL_act_89 : decode cL_act 89 = .ok (.goto 94, 3) := by decide +kernel
theorem dL_act_92 : decode cL_act 92 = .ok (.iload_n 1, 1) := by decide +kernel
theorem dL_act_93 : decode cL_act 93 = .ok (.iconst 5, 1) := by decide +kernel
theorem dL_act_94 : decode cL_act 94 = .ok (.if_icmp .ne 12, 3) := by decide +kernel
theorem dL_act_97 : decode cL_act 97 = .ok (.aload_n 0, 1) := by decide +kernel
theorem dL_act_98 : decode cL_act 98 = .ok (.iload_n 2, 1) := by decide +kernel
theorem dL_act_99 : decode cL_act 99 = .ok (.iload_n 3, 1) := by decide +kernel
theorem dL_act_100 : decode cL_act 100 = .ok (.invokevirtual 55, 3) := by decide +kernel
theorem dL_act_103 : decode cL_act 103 = .ok (.goto 80, 3) := by decide +kernel
theorem dL_act_106 : decode cL_act 106 = .ok (.iload_n 1, 1) := by decide +kernel
theorem dL_act_107 : decode cL_act 107 = .ok (.bipush 6, 2) := by decide +kernel
theorem dL_act_109 : decode cL_act 109 = .ok (.if_icmp .ne 11, 3) := by decide +kernel
theorem dL_act_112 : decode cL_act 112 = .ok (.aload_n 0, 1) := by decide +kernel
theorem dL_act_113 : decode cL_act 113 = .ok (.iload_n 2, 1) := by decide +kernel
theorem dL_act_114 : decode cL_act 114 = .ok (.invokevirtual 58, 3) := by decide +kernel
theorem dL_act_117 : decode cL_act 117 = .ok (.goto 66, 3) := by decide +kernel
theorem dL_act_120 : decode cL_act 120 = .ok (.iload_n 1, 1) := by decide +kernel
theorem dL_act_121 : decode cL_act 121 = .ok (.bipush 7, 2) := by decide +kernel
theorem dL_act_123 : decode cL_act 123 = .ok (.if_icmp .ne 14, 3) := by decide +kernel
theorem dL_act_126 : decode cL_act 126 = .ok (.aload_n 0, 1) := by decide +kernel
theorem dL_act_127 : decode cL_act 127 = .ok (.iload_n 2, 1) := by decide +kernel
theorem dL_act_128 : decode cL_act 128 = .ok (.iload_n 3, 1) := by decide +kernel
theorem dL_act_129 : decode cL_act 129 = .ok (.iload 4, 2) := by decide +kernel
theorem dL_act_131 : decode cL_act 131 = .ok (.invokevirtual 61, 3) := by decide +kernel
theorem dL_act_134 : decode cL_act 134 = .ok (.goto 49, 3) := by decide +kernel
theorem dL_act_137 : decode cL_act 137 = .ok (.iload_n 1, 1) := by decide +kernel
theorem dL_act_138 : decode cL_act 138 = .ok (.bipush 8, 2) := by decide +kernel
theorem dL_act_140 : decode cL_act 140 = .ok (.if_icmp .ne 12, 3) := by decide +kernel
theorem dL_act_143 : decode cL_act 143 = .ok (.aload_n 0, 1) := by decide +kernel
theorem dL_act_144 : decode cL_act 144 = .ok (.iload_n 2, 1) := by decide +kernel
theorem dL_act_145 : decode cL_act 145 = .ok (.iload_n 3, 1) := by decide +kernel
theorem dL_act_146 : decode cL_act 146 = .ok (.invokevirtual 65, 3) := by decide +kernel
theorem dL_act_149 : decode cL_act 149 = .ok (.goto 34, 3) := by decide +kernel
theorem dL_act_152 : decode cL_act 152 = .ok (.iload_n 1, 1) := by decide +kernel
theorem dL_act_153 : decode cL_act 153 = .ok (.bipush 9, 2) := by decide +kernel
theorem dL_act_155 : decode cL_act 155 = .ok (.if_icmp .ne 11, 3) := by decide +kernel
theorem dL_act_158 : decode cL_act 158 = .ok (.aload_n 0, 1) := by decide +kernel
theorem dL_act_159 : decode cL_act 159 = .ok (.iload_n 2, 1) := by decide +kernel
theorem dL_act_160 : decode cL_act 160 = .ok (.invokevirtual 68, 3) := by decide +kernel
theorem dL_act_163 : decode cL_act 163 = .ok (.goto 20, 3) := by decide +kernel
theorem dL_act_166 : decode cL_act 166 = .ok (.iload_n 1, 1) := by decide +kernel
theorem dL_act_167 : decode cL_act 167 = .ok (.bipush 10, 2) := by decide +kernel
theorem dL_act_169 : decode cL_act 169 = .ok (.if_icmp .ne 10, 3) := by decide +kernel
theorem dL_act_172 : decode cL_act 172 = .ok (.aload_n 0, 1) := by decide +kernel
theorem dL_act_173 : decode cL_act 173 = .ok (.invokevirtual 71, 3) := by decide +kernel
theorem dL_act_176 : decode cL_act 176 = .ok (.goto 7, 3) := by decide +kernel
theorem dL_act_179 : decode cL_act 179 = .ok (.aload_n 0, 1) := by decide +kernel
theorem dL_act_180 : decode cL_act 180 = .ok (.invokevirtual 75, 3) := by decide +kernel
theorem dL_act_183 : decode cL_act 183 = .ok (.ireturn, 1) := by decide +kernel
theorem dL_stall_0 : decode cL_stall 0 = .ok (.iload_n 1, 1) := by decide +kernel
theorem dL_stall_1 : decode cL_stall 1 = .ok (.bipush 12, 2) := by decide +kernel
theorem dL_stall_3 : decode cL_stall 3 = .ok (.if_icmp .ne 11, 3) := by decide +kernel
theorem dL_stall_6 : decode cL_stall 6 = .ok (.aload_n 0, 1) := by decide +kernel
theorem dL_stall_7 : decode cL_stall 7 = .ok (.iload_n 2, 1) := by decide +kernel
theorem dL_stall_8 : decode cL_stall 8 = .ok (.invokevirtual 78, 3) := by decide +kernel
theorem dL_stall_11 : decode cL_stall 11 = .ok (.goto 131, 3) := by decide +kernel
theorem dL_stall_14 : decode cL_stall 14 = .ok (.iload_n 1, 1) := by decide +kernel
theorem dL_stall_15 : decode cL_stall 15 = .ok (.bipush 13, 2) := by decide +kernel
theorem dL_stall_17 : decode cL_stall 17 = .ok (.if_icmp .ne 11, 3) := by decide +kernel
theorem dL_stall_20 : decode cL_stall 20 = .ok (.aload_n 0, 1) := by decide +kernel
theorem dL_stall_21 : decode cL_stall 21 = .ok (.iload_n 2, 1) := by decide +kernel
theorem dL_stall_22 : decode cL_stall 22 = .ok (.invokevirtual 81, 3) := by decide +kernel
theorem dL_stall_25 : decode cL_stall 25 = .ok (.goto 117, 3) := by decide +kernel
theorem dL_stall_28 : decode cL_stall 28 = .ok (.iload_n 1, 1) := by decide +kernel
theorem dL_stall_29 : decode cL_stall 29 = .ok (.bipush 14, 2) := by decide +kernel
theorem dL_stall_31 : decode cL_stall 31 = .ok (.if_icmp .ne 19, 3) := by decide +kernel
theorem dL_stall_34 : decode cL_stall 34 = .ok (.aload_n 0, 1) := by decide +kernel
