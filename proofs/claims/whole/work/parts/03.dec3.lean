theorem dX5_isPrice_7 : decode cX5_isPrice 7 = .ok (.ireturn, 1) := by decide +kernel
theorem dX5_half_0 : decode cX5_half 0 = .ok (.iload_n 0, 1) := by decide +kernel
theorem dX5_half_1 : decode cX5_half 1 = .ok (.iconst 2, 1) := by decide +kernel
theorem dX5_half_2 : decode cX5_half 2 = .ok (.idiv, 1) := by decide +kernel
theorem dX5_half_3 : decode cX5_half 3 = .ok (.ireturn, 1) := by decide +kernel
theorem dX5_on_0 : decode cX5_on 0 = .ok (.iconst 0, 1) := by decide +kernel
theorem dX5_on_1 : decode cX5_on 1 = .ok (.istore_n 2, 1) := by decide +kernel
theorem dX5_on_2 : decode cX5_on 2 = .ok (.iload_n 2, 1) := by decide +kernel
theorem dX5_on_3 : decode cX5_on 3 = .ok (.aload_n 0, 1) := by decide +kernel
theorem dX5_on_4 : decode cX5_on 4 = .ok (.getfield 7, 3) := by decide +kernel
theorem dX5_on_7 : decode cX5_on 7 = .ok (.bipush 8, 2) := by decide +kernel
theorem dX5_on_9 : decode cX5_on 9 = .ok (.iaload, 1) := by decide +kernel
theorem dX5_on_10 : decode cX5_on 10 = .ok (.if_icmp .ge 21, 3) := by decide +kernel
theorem dX5_on_13 : decode cX5_on 13 = .ok (.aload_n 0, 1) := by decide +kernel
theorem dX5_on_14 : decode cX5_on 14 = .ok (.iload_n 2, 1) := by decide +kernel
theorem dX5_on_15 : decode cX5_on 15 = .ok (.iconst 0, 1) := by decide +kernel
theorem dX5_on_16 : decode cX5_on 16 = .ok (.invokevirtual 49, 3) := by decide +kernel
theorem dX5_on_19 : decode cX5_on 19 = .ok (.iload_n 1, 1) := by decide +kernel
theorem dX5_on_20 : decode cX5_on 20 = .ok (.if_icmp .ne 5, 3) := by decide +kernel
theorem dX5_on_23 : decode cX5_on 23 = .ok (.iload_n 2, 1) := by decide +kernel
theorem dX5_on_24 : decode cX5_on 24 = .ok (.ireturn, 1) := by decide +kernel
theorem dX5_on_25 : decode cX5_on 25 = .ok (.iinc 2 1, 3) := by decide +kernel
theorem dX5_on_28 : decode cX5_on 28 = .ok (.goto (-26), 3) := by decide +kernel
theorem dX5_on_31 : decode cX5_on 31 = .ok (.iconst (-1), 1) := by decide +kernel
theorem dX5_on_32 : decode cX5_on 32 = .ok (.ireturn, 1) := by decide +kernel
theorem dX5_openOn_0 : decode cX5_openOn 0 = .ok (.aload_n 0, 1) := by decide +kernel
theorem dX5_openOn_1 : decode cX5_openOn 1 = .ok (.iload_n 1, 1) := by decide +kernel
theorem dX5_openOn_2 : decode cX5_openOn 2 = .ok (.invokevirtual 53, 3) := by decide +kernel
theorem dX5_openOn_5 : decode cX5_openOn 5 = .ok (.istore_n 2, 1) := by decide +kernel
theorem dX5_openOn_6 : decode cX5_openOn 6 = .ok (.iload_n 2, 1) := by decide +kernel
theorem dX5_openOn_7 : decode cX5_openOn 7 = .ok (.iconst (-1), 1) := by decide +kernel
theorem dX5_openOn_8 : decode cX5_openOn 8 = .ok (.if_icmp .eq 18, 3) := by decide +kernel
theorem dX5_openOn_11 : decode cX5_openOn 11 = .ok (.aload_n 0, 1) := by decide +kernel
theorem dX5_openOn_12 : decode cX5_openOn 12 = .ok (.iload_n 2, 1) := by decide +kernel
theorem dX5_openOn_13 : decode cX5_openOn 13 = .ok (.bipush 6, 2) := by decide +kernel
theorem dX5_openOn_15 : decode cX5_openOn 15 = .ok (.invokevirtual 49, 3) := by decide +kernel
theorem dX5_openOn_18 : decode cX5_openOn 18 = .ok (.iconst 1, 1) := by decide +kernel
theorem dX5_openOn_19 : decode cX5_openOn 19 = .ok (.if_icmp .ne 7, 3) := by decide +kernel
theorem dX5_openOn_22 : decode cX5_openOn 22 = .ok (.iload_n 2, 1) := by decide +kernel
theorem dX5_openOn_23 : decode cX5_openOn 23 = .ok (.goto 4, 3) := by decide +kernel
theorem dX5_openOn_26 : decode cX5_openOn 26 = .ok (.iconst (-1), 1) := by decide +kernel
theorem dX5_openOn_27 : decode cX5_openOn 27 = .ok (.ireturn, 1) := by decide +kernel
theorem dX5_every_0 : decode cX5_every 0 = .ok (.iload_n 0, 1) := by decide +kernel
theorem dX5_every_1 : decode cX5_every 1 = .ok (.ifCond .ne 7, 3) := by decide +kernel
theorem dX5_every_4 : decode cX5_every 4 = .ok (.iconst 4, 1) := by decide +kernel
theorem dX5_every_5 : decode cX5_every 5 = .ok (.goto 31, 3) := by decide +kernel
theorem dX5_every_8 : decode cX5_every 8 = .ok (.iload_n 0, 1) := by decide +kernel
theorem dX5_every_9 : decode cX5_every 9 = .ok (.iconst 1, 1) := by decide +kernel
theorem dX5_every_10 : decode cX5_every 10 = .ok (.if_icmp .ne 7, 3) := by decide +kernel
theorem dX5_every_13 : decode cX5_every 13 = .ok (.iconst 3, 1) := by decide +kernel
theorem dX5_every_14 : decode cX5_every 14 = .ok (.goto 22, 3) := by decide +kernel
theorem dX5_every_17 : decode cX5_every 17 = .ok (.iload_n 0, 1) := by decide +kernel
theorem dX5_every_18 : decode cX5_every 18 = .ok (.iconst 2, 1) := by decide +kernel
theorem dX5_every_19 : decode cX5_every 19 = .ok (.if_icmp .ne 7, 3) := by decide +kernel
theorem dX5_every_22 : decode cX5_every 22 = .ok (.iconst 5, 1) := by decide +kernel
theorem dX5_every_23 : decode cX5_every 23 = .ok (.goto 13, 3) := by decide +kernel
theorem dX5_every_26 : decode cX5_every 26 = .ok (.iload_n 0, 1) := by decide +kernel
theorem dX5_every_27 : decode cX5_every 27 = .ok (.iconst 3, 1) := by decide +kernel
theorem dX5_every_28 : decode cX5_every 28 = .ok (.if_icmp .ne 7, 3) := by decide +kernel
theorem dX5_every_31 : decode cX5_every 31 = .ok (.iconst 1, 1) := by decide +kernel
theorem dX5_every_32 : decode cX5_every 32 = .ok (.goto 4, 3) := by decide +kernel
theorem dX5_every_35 : decode cX5_every 35 = .ok (.iconst 0, 1) := by decide +kernel
theorem dX5_every_36 : decode cX5_every 36 = .ok (.ireturn, 1) := by decide +kernel
theorem dX5_greatest_0 : decode cX5_greatest 0 = .ok (.iload_n 0, 1) := by decide +kernel
theorem dX5_greatest_1 : decode cX5_greatest 1 = .ok (.ifCond .ne 7, 3) := by decide +kernel
theorem dX5_greatest_4 : decode cX5_greatest 4 = .ok (.iconst 2, 1) := by decide +kernel
theorem dX5_greatest_5 : decode cX5_greatest 5 = .ok (.goto 31, 3) := by decide +kernel
theorem dX5_greatest_8 : decode cX5_greatest 8 = .ok (.iload_n 0, 1) := by decide +kernel
theorem dX5_greatest_9 : decode cX5_greatest 9 = .ok (.iconst 1, 1) := by decide +kernel
theorem dX5_greatest_10 : decode cX5_greatest 10 = .ok (.if_icmp .ne 7, 3) := by decide +kernel
theorem dX5_greatest_13 : decode cX5_greatest 13 = .ok (.iconst 1, 1) := by decide +kernel
theorem dX5_greatest_14 : decode cX5_greatest 14 = .ok (.goto 22, 3) := by decide +kernel
theorem dX5_greatest_17 : decode cX5_greatest 17 = .ok (.iload_n 0, 1) := by decide +kernel
theorem dX5_greatest_18 : decode cX5_greatest 18 = .ok (.iconst 2, 1) := by decide +kernel
theorem dX5_greatest_19 : decode cX5_greatest 19 = .ok (.if_icmp .ne 7, 3) := by decide +kernel
theorem dX5_greatest_22 : decode cX5_greatest 22 = .ok (.iconst 3, 1) := by decide +kernel
theorem dX5_greatest_23 : decode cX5_greatest 23 = .ok (.goto 13, 3) := by decide +kernel
theorem dX5_greatest_26 : decode cX5_greatest 26 = .ok (.iload_n 0, 1) := by decide +kernel
theorem dX5_greatest_27 : decode cX5_greatest 27 = .ok (.iconst 3, 1) := by decide +kernel
theorem dX5_greatest_28 : decode cX5_greatest 28 = .ok (.if_icmp .ne 7, 3) := by decide +kernel
theorem dX5_greatest_31 : decode cX5_greatest 31 = .ok (.iconst 0, 1) := by decide +kernel
theorem dX5_greatest_32 : decode cX5_greatest 32 = .ok (.goto 4, 3) := by decide +kernel
theorem dX5_greatest_35 : decode cX5_greatest 35 = .ok (.iconst (-1), 1) := by decide +kernel
theorem dX5_greatest_36 : decode cX5_greatest 36 = .ok (.ireturn, 1) := by decide +kernel
theorem dX5_prizes_0 : decode cX5_prizes 0 = .ok (.aload_n 0, 1) := by decide +kernel
theorem dX5_prizes_1 : decode cX5_prizes 1 = .ok (.iload_n 1, 1) := by decide +kernel
theorem dX5_prizes_2 : decode cX5_prizes 2 = .ok (.bipush 7, 2) := by decide +kernel
theorem dX5_prizes_4 : decode cX5_prizes 4 = .ok (.iconst 4, 1) := by decide +kernel
theorem dX5_prizes_5 : decode cX5_prizes 5 = .ok (.iload_n 2, 1) := by decide +kernel
theorem dX5_prizes_6 : decode cX5_prizes 6 = .ok (.imul, 1) := by decide +kernel
theorem dX5_prizes_7 : decode cX5_prizes 7 = .ok (.iadd, 1) := by decide +kernel
theorem dX5_prizes_8 : decode cX5_prizes 8 = .ok (.iload_n 3, 1) := by decide +kernel
theorem dX5_prizes_9 : decode cX5_prizes 9 = .ok (.iadd, 1) := by decide +kernel
theorem dX5_prizes_10 : decode cX5_prizes 10 = .ok (.invokevirtual 49, 3) := by decide +kernel
theorem dX5_prizes_13 : decode cX5_prizes 13 = .ok (.ireturn, 1) := by decide +kernel
theorem dX5_onShelf_0 : decode cX5_onShelf 0 = .ok (.iconst 0, 1) := by decide +kernel
theorem dX5_onShelf_1 : decode cX5_onShelf 1 = .ok (.istore_n 2, 1) := by decide +kernel
theorem dX5_onShelf_2 : decode cX5_onShelf 2 = .ok (.iconst 0, 1) := by decide +kernel
theorem dX5_onShelf_3 : decode cX5_onShelf 3 = .ok (.istore_n 3, 1) := by decide +kernel
theorem dX5_onShelf_4 : decode cX5_onShelf 4 = .ok (.iload_n 3, 1) := by decide +kernel
theorem dX5_onShelf_5 : decode cX5_onShelf 5 = .ok (.bipush 16, 2) := by decide +kernel
theorem dX5_onShelf_7 : decode cX5_onShelf 7 = .ok (.if_icmp .ge 21, 3) := by decide +kernel
theorem dX5_onShelf_10 : decode cX5_onShelf 10 = .ok (.iload_n 2, 1) := by decide +kernel
theorem dX5_onShelf_11 : decode cX5_onShelf 11 = .ok (.aload_n 0, 1) := by decide +kernel
theorem dX5_onShelf_12 : decode cX5_onShelf 12 = .ok (.iload_n 1, 1) := by decide +kernel
theorem dX5_onShelf_13 : decode cX5_onShelf 13 = .ok (.bipush 7, 2) := by decide +kernel
theorem dX5_onShelf_15 : decode cX5_onShelf 15 = .ok (.iload_n 3, 1) := by decide +kernel
theorem dX5_onShelf_16 : decode cX5_onShelf 16 = .ok (.iadd, 1) := by decide +kernel
theorem dX5_onShelf_17 : decode cX5_onShelf 17 = .ok (.invokevirtual 49, 3) := by decide +kernel
theorem dX5_onShelf_20 : decode cX5_onShelf 20 = .ok (.iadd, 1) := by decide +kernel
theorem dX5_onShelf_21 : decode cX5_onShelf 21 = .ok (.istore_n 2, 1) := by decide +kernel
theorem dX5_onShelf_22 : decode cX5_onShelf 22 = .ok (.iinc 3 1, 3) := by decide +kernel
theorem dX5_onShelf_25 : decode cX5_onShelf 25 = .ok (.goto (-21), 3) := by decide +kernel
theorem dX5_onShelf_28 : decode cX5_onShelf 28 = .ok (.iload_n 2, 1) := by decide +kernel
theorem dX5_onShelf_29 : decode cX5_onShelf 29 = .ok (.ireturn, 1) := by decide +kernel
theorem dX5_ofLevel_0 : decode cX5_ofLevel 0 = .ok (.aload_n 0, 1) := by decide +kernel
theorem dX5_ofLevel_1 : decode cX5_ofLevel 1 = .ok (.iload_n 1, 1) := by decide +kernel
theorem dX5_ofLevel_2 : decode cX5_ofLevel 2 = .ok (.iload_n 2, 1) := by decide +kernel
theorem dX5_ofLevel_3 : decode cX5_ofLevel 3 = .ok (.iconst 0, 1) := by decide +kernel
theorem dX5_ofLevel_4 : decode cX5_ofLevel 4 = .ok (.invokevirtual 57, 3) := by decide +kernel
theorem dX5_ofLevel_7 : decode cX5_ofLevel 7 = .ok (.aload_n 0, 1) := by decide +kernel
theorem dX5_ofLevel_8 : decode cX5_ofLevel 8 = .ok (.iload_n 1, 1) := by decide +kernel
theorem dX5_ofLevel_9 : decode cX5_ofLevel 9 = .ok (.iload_n 2, 1) := by decide +kernel
theorem dX5_ofLevel_10 : decode cX5_ofLevel 10 = .ok (.iconst 1, 1) := by decide +kernel
theorem dX5_ofLevel_11 : decode cX5_ofLevel 11 = .ok (.invokevirtual 57, 3) := by decide +kernel
theorem dX5_ofLevel_14 : decode cX5_ofLevel 14 = .ok (.iadd, 1) := by decide +kernel
theorem dX5_ofLevel_15 : decode cX5_ofLevel 15 = .ok (.aload_n 0, 1) := by decide +kernel
theorem dX5_ofLevel_16 : decode cX5_ofLevel 16 = .ok (.iload_n 1, 1) := by decide +kernel
theorem dX5_ofLevel_17 : decode cX5_ofLevel 17 = .ok (.iload_n 2, 1) := by decide +kernel
theorem dX5_ofLevel_18 : decode cX5_ofLevel 18 = .ok (.iconst 2, 1) := by decide +kernel
theorem dX5_ofLevel_19 : decode cX5_ofLevel 19 = .ok (.invokevirtual 57, 3) := by decide +kernel
theorem dX5_ofLevel_22 : decode cX5_ofLevel 22 = .ok (.iadd, 1) := by decide +kernel
theorem dX5_ofLevel_23 : decode cX5_ofLevel 23 = .ok (.aload_n 0, 1) := by decide +kernel
theorem dX5_ofLevel_24 : decode cX5_ofLevel 24 = .ok (.iload_n 1, 1) := by decide +kernel
theorem dX5_ofLevel_25 : decode cX5_ofLevel 25 = .ok (.iload_n 2, 1) := by decide +kernel
theorem dX5_ofLevel_26 : decode cX5_ofLevel 26 = .ok (.iconst 3, 1) := by decide +kernel
theorem dX5_ofLevel_27 : decode cX5_ofLevel 27 = .ok (.invokevirtual 57, 3) := by decide +kernel
theorem dX5_ofLevel_30 : decode cX5_ofLevel 30 = .ok (.iadd, 1) := by decide +kernel
theorem dX5_ofLevel_31 : decode cX5_ofLevel 31 = .ok (.ireturn, 1) := by decide +kernel
theorem dX5_bestLevel_0 : decode cX5_bestLevel 0 = .ok (.aload_n 0, 1) := by decide +kernel
theorem dX5_bestLevel_1 : decode cX5_bestLevel 1 = .ok (.iload_n 1, 1) := by decide +kernel
theorem dX5_bestLevel_2 : decode cX5_bestLevel 2 = .ok (.iconst 1, 1) := by decide +kernel
theorem dX5_bestLevel_3 : decode cX5_bestLevel 3 = .ok (.invokevirtual 49, 3) := by decide +kernel
theorem dX5_bestLevel_6 : decode cX5_bestLevel 6 = .ok (.invokestatic 61, 3) := by decide +kernel
theorem dX5_bestLevel_9 : decode cX5_bestLevel 9 = .ok (.istore_n 2, 1) := by decide +kernel
theorem dX5_bestLevel_10 : decode cX5_bestLevel 10 = .ok (.iload_n 2, 1) := by decide +kernel
theorem dX5_bestLevel_11 : decode cX5_bestLevel 11 = .ok (.ifCond .lt 18, 3) := by decide +kernel
theorem dX5_bestLevel_14 : decode cX5_bestLevel 14 = .ok (.aload_n 0, 1) := by decide +kernel
theorem dX5_bestLevel_15 : decode cX5_bestLevel 15 = .ok (.iload_n 1, 1) := by decide +kernel
theorem dX5_bestLevel_16 : decode cX5_bestLevel 16 = .ok (.iload_n 2, 1) := by decide +kernel
theorem dX5_bestLevel_17 : decode cX5_bestLevel 17 = .ok (.invokevirtual 64, 3) := by decide +kernel
theorem dX5_bestLevel_20 : decode cX5_bestLevel 20 = .ok (.ifCond .ne 9, 3) := by decide +kernel
theorem dX5_bestLevel_23 : decode cX5_bestLevel 23 = .ok (.iinc 2 (-1), 3) := by decide +kernel
theorem dX5_bestLevel_26 : decode cX5_bestLevel 26 = .ok (.goto (-16), 3) := by decide +kernel
theorem dX5_bestLevel_29 : decode cX5_bestLevel 29 = .ok (.iload_n 2, 1) := by decide +kernel
theorem dX5_bestLevel_30 : decode cX5_bestLevel 30 = .ok (.ireturn, 1) := by decide +kernel
theorem dX5_rent_0 : decode cX5_rent 0 = .ok (.iconst 2, 1) := by decide +kernel
theorem dX5_rent_1 : decode cX5_rent 1 = .ok (.bipush 12, 2) := by decide +kernel
theorem dX5_rent_3 : decode cX5_rent 3 = .ok (.iload_n 0, 1) := by decide +kernel
theorem dX5_rent_4 : decode cX5_rent 4 = .ok (.isub, 1) := by decide +kernel
theorem dX5_rent_5 : decode cX5_rent 5 = .ok (.invokestatic 67, 3) := by decide +kernel
theorem dX5_rent_8 : decode cX5_rent 8 = .ok (.iadd, 1) := by decide +kernel
theorem dX5_rent_9 : decode cX5_rent 9 = .ok (.ireturn, 1) := by decide +kernel
theorem dX5_costOf_0 : decode cX5_costOf 0 = .ok (.iload_n 0, 1) := by decide +kernel
theorem dX5_costOf_1 : decode cX5_costOf 1 = .ok (.ifCond .ne 7, 3) := by decide +kernel
theorem dX5_costOf_4 : decode cX5_costOf 4 = .ok (.iconst 1, 1) := by decide +kernel
theorem dX5_costOf_5 : decode cX5_costOf 5 = .ok (.goto 24, 3) := by decide +kernel
theorem dX5_costOf_8 : decode cX5_costOf 8 = .ok (.iload_n 0, 1) := by decide +kernel
theorem dX5_costOf_9 : decode cX5_costOf 9 = .ok (.iconst 1, 1) := by decide +kernel
theorem dX5_costOf_10 : decode cX5_costOf 10 = .ok (.if_icmp .ne 7, 3) := by decide +kernel
theorem dX5_costOf_13 : decode cX5_costOf 13 = .ok (.iconst 3, 1) := by decide +kernel
theorem dX5_costOf_14 : decode cX5_costOf 14 = .ok (.goto 15, 3) := by decide +kernel
theorem dX5_costOf_17 : decode cX5_costOf 17 = .ok (.iload_n 0, 1) := by decide +kernel
theorem dX5_costOf_18 : decode cX5_costOf 18 = .ok (.iconst 2, 1) := by decide +kernel
theorem dX5_costOf_19 : decode cX5_costOf 19 = .ok (.if_icmp .ne 8, 3) := by decide +kernel
theorem dX5_costOf_22 : decode cX5_costOf 22 = .ok (.bipush 6, 2) := by decide +kernel
theorem dX5_costOf_24 : decode cX5_costOf 24 = .ok (.goto 5, 3) := by decide +kernel
theorem dX5_costOf_27 : decode cX5_costOf 27 = .ok (.bipush 10, 2) := by decide +kernel
theorem dX5_costOf_29 : decode cX5_costOf 29 = .ok (.ireturn, 1) := by decide +kernel
theorem dX5_whyNotBuilt_0 : decode cX5_whyNotBuilt 0 = .ok (.iload_n 1, 1) := by decide +kernel
theorem dX5_whyNotBuilt_1 : decode cX5_whyNotBuilt 1 = .ok (.invokestatic 70, 3) := by decide +kernel
theorem dX5_whyNotBuilt_4 : decode cX5_whyNotBuilt 4 = .ok (.ifCond .eq 10, 3) := by decide +kernel
theorem dX5_whyNotBuilt_7 : decode cX5_whyNotBuilt 7 = .ok (.iload_n 2, 1) := by decide +kernel
theorem dX5_whyNotBuilt_8 : decode cX5_whyNotBuilt 8 = .ok (.invokestatic 74, 3) := by decide +kernel
theorem dX5_whyNotBuilt_11 : decode cX5_whyNotBuilt 11 = .ok (.ifCond .ne 5, 3) := by decide +kernel
theorem dX5_whyNotBuilt_14 : decode cX5_whyNotBuilt 14 = .ok (.iconst 1, 1) := by decide +kernel
theorem dX5_whyNotBuilt_15 : decode cX5_whyNotBuilt 15 = .ok (.ireturn, 1) := by decide +kernel
theorem dX5_whyNotBuilt_16 : decode cX5_whyNotBuilt 16 = .ok (.iload_n 3, 1) := by decide +kernel
theorem dX5_whyNotBuilt_17 : decode cX5_whyNotBuilt 17 = .ok (.invokestatic 77, 3) := by decide +kernel
theorem dX5_whyNotBuilt_20 : decode cX5_whyNotBuilt 20 = .ok (.ifCond .ne 7, 3) := by decide +kernel
theorem dX5_whyNotBuilt_23 : decode cX5_whyNotBuilt 23 = .ok (.iconst 2, 1) := by decide +kernel
theorem dX5_whyNotBuilt_24 : decode cX5_whyNotBuilt 24 = .ok (.goto 50, 3) := by decide +kernel
theorem dX5_whyNotBuilt_27 : decode cX5_whyNotBuilt 27 = .ok (.aload_n 0, 1) := by decide +kernel
theorem dX5_whyNotBuilt_28 : decode cX5_whyNotBuilt 28 = .ok (.iload_n 1, 1) := by decide +kernel
theorem dX5_whyNotBuilt_29 : decode cX5_whyNotBuilt 29 = .ok (.invokevirtual 53, 3) := by decide +kernel
theorem dX5_whyNotBuilt_32 : decode cX5_whyNotBuilt 32 = .ok (.iconst (-1), 1) := by decide +kernel
theorem dX5_whyNotBuilt_33 : decode cX5_whyNotBuilt 33 = .ok (.if_icmp .ne 36, 3) := by decide +kernel
theorem dX5_whyNotBuilt_36 : decode cX5_whyNotBuilt 36 = .ok (.aload_n 0, 1) := by decide +kernel
theorem dX5_whyNotBuilt_37 : decode cX5_whyNotBuilt 37 = .ok (.getfield 7, 3) := by decide +kernel
theorem dX5_whyNotBuilt_40 : decode cX5_whyNotBuilt 40 = .ok (.bipush 8, 2) := by decide +kernel
theorem dX5_whyNotBuilt_42 : decode cX5_whyNotBuilt 42 = .ok (.iaload, 1) := by decide +kernel
theorem dX5_whyNotBuilt_43 : decode cX5_whyNotBuilt 43 = .ok (.bipush 6, 2) := by decide +kernel
theorem dX5_whyNotBuilt_45 : decode cX5_whyNotBuilt 45 = .ok (.if_icmp .eq 24, 3) := by decide +kernel
theorem dX5_whyNotBuilt_48 : decode cX5_whyNotBuilt 48 = .ok (.aload_n 0, 1) := by decide +kernel
theorem dX5_whyNotBuilt_49 : decode cX5_whyNotBuilt 49 = .ok (.getfield 7, 3) := by decide +kernel
theorem dX5_whyNotBuilt_52 : decode cX5_whyNotBuilt 52 = .ok (.iconst 0, 1) := by decide +kernel
theorem dX5_whyNotBuilt_53 : decode cX5_whyNotBuilt 53 = .ok (.iaload, 1) := by decide +kernel
theorem dX5_whyNotBuilt_54 : decode cX5_whyNotBuilt 54 = .ok (.iload 4, 2) := by decide +kernel
theorem dX5_whyNotBuilt_56 : decode cX5_whyNotBuilt 56 = .ok (.ifCond .eq 8, 3) := by decide +kernel
theorem dX5_whyNotBuilt_59 : decode cX5_whyNotBuilt 59 = .ok (.bipush 50, 2) := by decide +kernel
theorem dX5_whyNotBuilt_61 : decode cX5_whyNotBuilt 61 = .ok (.goto 5, 3) := by decide +kernel
theorem dX5_whyNotBuilt_64 : decode cX5_whyNotBuilt 64 = .ok (.bipush 30, 2) := by decide +kernel
theorem dX5_whyNotBuilt_66 : decode cX5_whyNotBuilt 66 = .ok (.if_icmp .ge 7, 3) := by decide +kernel
theorem dX5_whyNotBuilt_69 : decode cX5_whyNotBuilt 69 = .ok (.iconst 3, 1) := by decide +kernel
theorem dX5_whyNotBuilt_70 : decode cX5_whyNotBuilt 70 = .ok (.goto 4, 3) := by decide +kernel
theorem dX5_whyNotBuilt_73 : decode cX5_whyNotBuilt 73 = .ok (.iconst 0, 1) := by decide +kernel
theorem dX5_whyNotBuilt_74 : decode cX5_whyNotBuilt 74 = .ok (.ireturn, 1) := by decide +kernel
theorem dX5_builds_0 : decode cX5_builds 0 = .ok (.aload_n 0, 1) := by decide +kernel
theorem dX5_builds_1 : decode cX5_builds 1 = .ok (.getfield 7, 3) := by decide +kernel
theorem dX5_builds_4 : decode cX5_builds 4 = .ok (.bipush 8, 2) := by decide +kernel
theorem dX5_builds_6 : decode cX5_builds 6 = .ok (.iaload, 1) := by decide +kernel
theorem dX5_builds_7 : decode cX5_builds 7 = .ok (.istore 5, 2) := by decide +kernel
theorem dX5_builds_9 : decode cX5_builds 9 = .ok (.iconst 0, 1) := by decide +kernel
theorem dX5_builds_10 : decode cX5_builds 10 = .ok (.istore 6, 2) := by decide +kernel
theorem dX5_builds_12 : decode cX5_builds 12 = .ok (.iload 6, 2) := by decide +kernel
theorem dX5_builds_14 : decode cX5_builds 14 = .ok (.bipush 23, 2) := by decide +kernel
theorem dX5_builds_16 : decode cX5_builds 16 = .ok (.if_icmp .ge 18, 3) := by decide +kernel
theorem dX5_builds_19 : decode cX5_builds 19 = .ok (.aload_n 0, 1) := by decide +kernel
theorem dX5_builds_20 : decode cX5_builds 20 = .ok (.iload 5, 2) := by decide +kernel
theorem dX5_builds_22 : decode cX5_builds 22 = .ok (.iload 6, 2) := by decide +kernel
theorem dX5_builds_24 : decode cX5_builds 24 = .ok (.iconst 0, 1) := by decide +kernel
theorem dX5_builds_25 : decode cX5_builds 25 = .ok (.invokevirtual 80, 3) := by decide +kernel
theorem dX5_builds_28 : decode cX5_builds 28 = .ok (.iinc 6 1, 3) := by decide +kernel
theorem dX5_builds_31 : decode cX5_builds 31 = .ok (.goto (-19), 3) := by decide +kernel
theorem dX5_builds_34 : decode cX5_builds 34 = .ok (.aload_n 0, 1) := by decide +kernel
theorem dX5_builds_35 : decode cX5_builds 35 = .ok (.iload 5, 2) := by decide +kernel
theorem dX5_builds_37 : decode cX5_builds 37 = .ok (.iconst 0, 1) := by decide +kernel
theorem dX5_builds_38 : decode cX5_builds 38 = .ok (.iload_n 1, 1) := by decide +kernel
theorem dX5_builds_39 : decode cX5_builds 39 = .ok (.invokevirtual 80, 3) := by decide +kernel
theorem dX5_builds_42 : decode cX5_builds 42 = .ok (.aload_n 0, 1) := by decide +kernel
theorem dX5_builds_43 : decode cX5_builds 43 = .ok (.iload 5, 2) := by decide +kernel
theorem dX5_builds_45 : decode cX5_builds 45 = .ok (.iconst 1, 1) := by decide +kernel
theorem dX5_builds_46 : decode cX5_builds 46 = .ok (.iload_n 2, 1) := by decide +kernel
theorem dX5_builds_47 : decode cX5_builds 47 = .ok (.invokevirtual 80, 3) := by decide +kernel
theorem dX5_builds_50 : decode cX5_builds 50 = .ok (.aload_n 0, 1) := by decide +kernel
theorem dX5_builds_51 : decode cX5_builds 51 = .ok (.iload 5, 2) := by decide +kernel
theorem dX5_builds_53 : decode cX5_builds 53 = .ok (.iconst 2, 1) := by decide +kernel
theorem dX5_builds_54 : decode cX5_builds 54 = .ok (.iload_n 3, 1) := by decide +kernel
theorem dX5_builds_55 : decode cX5_builds 55 = .ok (.invokevirtual 80, 3) := by decide +kernel
theorem dX5_builds_58 : decode cX5_builds 58 = .ok (.aload_n 0, 1) := by decide +kernel
theorem dX5_builds_59 : decode cX5_builds 59 = .ok (.iload 5, 2) := by decide +kernel
theorem dX5_builds_61 : decode cX5_builds 61 = .ok (.iconst 3, 1) := by decide +kernel
theorem dX5_builds_62 : decode cX5_builds 62 = .ok (.iload 4, 2) := by decide +kernel
theorem dX5_builds_64 : decode cX5_builds 64 = .ok (.ifCond .eq 7, 3) := by decide +kernel
theorem dX5_builds_67 : decode cX5_builds 67 = .ok (.iconst 1, 1) := by decide +kernel
theorem dX5_builds_68 : decode cX5_builds 68 = .ok (.goto 4, 3) := by decide +kernel
theorem dX5_builds_71 : decode cX5_builds 71 = .ok (.iconst 0, 1) := by decide +kernel
theorem dX5_builds_72 : decode cX5_builds 72 = .ok (.invokevirtual 80, 3) := by decide +kernel
theorem dX5_builds_75 : decode cX5_builds 75 = .ok (.aload_n 0, 1) := by decide +kernel
theorem dX5_builds_76 : decode cX5_builds 76 = .ok (.iload 5, 2) := by decide +kernel
theorem dX5_builds_78 : decode cX5_builds 78 = .ok (.bipush 6, 2) := by decide +kernel
theorem dX5_builds_80 : decode cX5_builds 80 = .ok (.iconst 1, 1) := by decide +kernel
theorem dX5_builds_81 : decode cX5_builds 81 = .ok (.invokevirtual 80, 3) := by decide +kernel
theorem dX5_builds_84 : decode cX5_builds 84 = .ok (.aload_n 0, 1) := by decide +kernel
theorem dX5_builds_85 : decode cX5_builds 85 = .ok (.getfield 7, 3) := by decide +kernel
theorem dX5_builds_88 : decode cX5_builds 88 = .ok (.bipush 8, 2) := by decide +kernel
theorem dX5_builds_90 : decode cX5_builds 90 = .ok (.dup2, 1) := by decide +kernel
theorem dX5_builds_91 : decode cX5_builds 91 = .ok (.iaload, 1) := by decide +kernel
theorem dX5_builds_92 : decode cX5_builds 92 = .ok (.iconst 1, 1) := by decide +kernel
theorem dX5_builds_93 : decode cX5_builds 93 = .ok (.iadd, 1) := by decide +kernel
theorem dX5_builds_94 : decode cX5_builds 94 = .ok (.iastore, 1) := by decide +kernel
theorem dX5_builds_95 : decode cX5_builds 95 = .ok (.iload 5, 2) := by decide +kernel
theorem dX5_builds_97 : decode cX5_builds 97 = .ok (.ireturn, 1) := by decide +kernel
theorem dX5_paysBuilding_0 : decode cX5_paysBuilding 0 = .ok (.iload 4, 2) := by decide +kernel
theorem dX5_paysBuilding_2 : decode cX5_paysBuilding 2 = .ok (.ifCond .eq 8, 3) := by decide +kernel
theorem dX5_paysBuilding_5 : decode cX5_paysBuilding 5 = .ok (.bipush 50, 2) := by decide +kernel
theorem dX5_paysBuilding_7 : decode cX5_paysBuilding 7 = .ok (.goto 5, 3) := by decide +kernel
theorem dX5_paysBuilding_10 : decode cX5_paysBuilding 10 = .ok (.bipush 30, 2) := by decide +kernel
theorem dX5_paysBuilding_12 : decode cX5_paysBuilding 12 = .ok (.istore 5, 2) := by decide +kernel
theorem dX5_paysBuilding_14 : decode cX5_paysBuilding 14 = .ok (.aload_n 0, 1) := by decide +kernel
theorem dX5_paysBuilding_15 : decode cX5_paysBuilding 15 = .ok (.getfield 7, 3) := by decide +kernel
theorem dX5_paysBuilding_18 : decode cX5_paysBuilding 18 = .ok (.iconst 0, 1) := by decide +kernel
theorem dX5_paysBuilding_19 : decode cX5_paysBuilding 19 = .ok (.dup2, 1) := by decide +kernel
theorem dX5_paysBuilding_20 : decode cX5_paysBuilding 20 = .ok (.iaload, 1) := by decide +kernel
theorem dX5_paysBuilding_21 : decode cX5_paysBuilding 21 = .ok (.iload 5, 2) := by decide +kernel
theorem dX5_paysBuilding_23 : decode cX5_paysBuilding 23 = .ok (.isub, 1) := by decide +kernel
theorem dX5_paysBuilding_24 : decode cX5_paysBuilding 24 = .ok (.iastore, 1) := by decide +kernel
theorem dX5_paysBuilding_25 : decode cX5_paysBuilding 25 = .ok (.aload_n 0, 1) := by decide +kernel
theorem dX5_paysBuilding_26 : decode cX5_paysBuilding 26 = .ok (.getfield 7, 3) := by decide +kernel
theorem dX5_paysBuilding_29 : decode cX5_paysBuilding 29 = .ok (.iconst 2, 1) := by decide +kernel
theorem dX5_paysBuilding_30 : decode cX5_paysBuilding 30 = .ok (.dup2, 1) := by decide +kernel
theorem dX5_paysBuilding_31 : decode cX5_paysBuilding 31 = .ok (.iaload, 1) := by decide +kernel
theorem dX5_paysBuilding_32 : decode cX5_paysBuilding 32 = .ok (.iload 5, 2) := by decide +kernel
theorem dX5_paysBuilding_34 : decode cX5_paysBuilding 34 = .ok (.iadd, 1) := by decide +kernel
theorem dX5_paysBuilding_35 : decode cX5_paysBuilding 35 = .ok (.iastore, 1) := by decide +kernel
theorem dX5_paysBuilding_36 : decode cX5_paysBuilding 36 = .ok (.aload_n 0, 1) := by decide +kernel
theorem dX5_paysBuilding_37 : decode cX5_paysBuilding 37 = .ok (.iload_n 1, 1) := by decide +kernel
theorem dX5_paysBuilding_38 : decode cX5_paysBuilding 38 = .ok (.iload_n 2, 1) := by decide +kernel
theorem dX5_paysBuilding_39 : decode cX5_paysBuilding 39 = .ok (.iload_n 3, 1) := by decide +kernel
theorem dX5_paysBuilding_40 : decode cX5_paysBuilding 40 = .ok (.iload 4, 2) := by decide +kernel
theorem dX5_paysBuilding_42 : decode cX5_paysBuilding 42 = .ok (.invokevirtual 84, 3) := by decide +kernel
theorem dX5_paysBuilding_45 : decode cX5_paysBuilding 45 = .ok (.ireturn, 1) := by decide +kernel
theorem dX5_whyNotStocked_0 : decode cX5_whyNotStocked 0 = .ok (.aload_n 0, 1) := by decide +kernel
theorem dX5_whyNotStocked_1 : decode cX5_whyNotStocked 1 = .ok (.iload_n 1, 1) := by decide +kernel
theorem dX5_whyNotStocked_2 : decode cX5_whyNotStocked 2 = .ok (.invokevirtual 88, 3) := by decide +kernel
theorem dX5_whyNotStocked_5 : decode cX5_whyNotStocked 5 = .ok (.ifCond .eq 17, 3) := by decide +kernel
theorem dX5_whyNotStocked_8 : decode cX5_whyNotStocked 8 = .ok (.iload_n 2, 1) := by decide +kernel
theorem dX5_whyNotStocked_9 : decode cX5_whyNotStocked 9 = .ok (.invokestatic 91, 3) := by decide +kernel
theorem dX5_whyNotStocked_12 : decode cX5_whyNotStocked 12 = .ok (.ifCond .eq 10, 3) := by decide +kernel
theorem dX5_whyNotStocked_15 : decode cX5_whyNotStocked 15 = .ok (.iload_n 3, 1) := by decide +kernel
theorem dX5_whyNotStocked_16 : decode cX5_whyNotStocked 16 = .ok (.invokestatic 91, 3) := by decide +kernel
theorem dX5_whyNotStocked_19 : decode cX5_whyNotStocked 19 = .ok (.ifCond .ne 5, 3) := by decide +kernel
theorem dX5_whyNotStocked_22 : decode cX5_whyNotStocked 22 = .ok (.iconst 1, 1) := by decide +kernel
theorem dX5_whyNotStocked_23 : decode cX5_whyNotStocked 23 = .ok (.ireturn, 1) := by decide +kernel
theorem dX5_whyNotStocked_24 : decode cX5_whyNotStocked 24 = .ok (.iload 4, 2) := by decide +kernel
theorem dX5_whyNotStocked_26 : decode cX5_whyNotStocked 26 = .ok (.iconst 1, 1) := by decide +kernel
theorem dX5_whyNotStocked_27 : decode cX5_whyNotStocked 27 = .ok (.bipush 40, 2) := by decide +kernel
theorem dX5_whyNotStocked_29 : decode cX5_whyNotStocked 29 = .ok (.invokestatic 45, 3) := by decide +kernel
theorem dX5_whyNotStocked_32 : decode cX5_whyNotStocked 32 = .ok (.ifCond .ne 7, 3) := by decide +kernel
theorem dX5_whyNotStocked_35 : decode cX5_whyNotStocked 35 = .ok (.iconst 2, 1) := by decide +kernel
theorem dX5_whyNotStocked_36 : decode cX5_whyNotStocked 36 = .ok (.goto 37, 3) := by decide +kernel
theorem dX5_whyNotStocked_39 : decode cX5_whyNotStocked 39 = .ok (.aload_n 0, 1) := by decide +kernel
theorem dX5_whyNotStocked_40 : decode cX5_whyNotStocked 40 = .ok (.iload_n 1, 1) := by decide +kernel
theorem dX5_whyNotStocked_41 : decode cX5_whyNotStocked 41 = .ok (.invokevirtual 94, 3) := by decide +kernel
theorem dX5_whyNotStocked_44 : decode cX5_whyNotStocked 44 = .ok (.iload 4, 2) := by decide +kernel
theorem dX5_whyNotStocked_46 : decode cX5_whyNotStocked 46 = .ok (.iadd, 1) := by decide +kernel
theorem dX5_whyNotStocked_47 : decode cX5_whyNotStocked 47 = .ok (.bipush 40, 2) := by decide +kernel
theorem dX5_whyNotStocked_49 : decode cX5_whyNotStocked 49 = .ok (.if_icmp .gt 19, 3) := by decide +kernel
theorem dX5_whyNotStocked_52 : decode cX5_whyNotStocked 52 = .ok (.aload_n 0, 1) := by decide +kernel
theorem dX5_whyNotStocked_53 : decode cX5_whyNotStocked 53 = .ok (.iload_n 1, 1) := by decide +kernel
theorem dX5_whyNotStocked_54 : decode cX5_whyNotStocked 54 = .ok (.iconst 4, 1) := by decide +kernel
theorem dX5_whyNotStocked_55 : decode cX5_whyNotStocked 55 = .ok (.invokevirtual 49, 3) := by decide +kernel
theorem dX5_whyNotStocked_58 : decode cX5_whyNotStocked 58 = .ok (.iload 4, 2) := by decide +kernel
theorem dX5_whyNotStocked_60 : decode cX5_whyNotStocked 60 = .ok (.iload_n 2, 1) := by decide +kernel
theorem dX5_whyNotStocked_61 : decode cX5_whyNotStocked 61 = .ok (.invokestatic 97, 3) := by decide +kernel
theorem dX5_whyNotStocked_64 : decode cX5_whyNotStocked 64 = .ok (.imul, 1) := by decide +kernel
theorem dX5_whyNotStocked_65 : decode cX5_whyNotStocked 65 = .ok (.if_icmp .ge 7, 3) := by decide +kernel
theorem dX5_whyNotStocked_68 : decode cX5_whyNotStocked 68 = .ok (.iconst 3, 1) := by decide +kernel
theorem dX5_whyNotStocked_69 : decode cX5_whyNotStocked 69 = .ok (.goto 4, 3) := by decide +kernel
theorem dX5_whyNotStocked_72 : decode cX5_whyNotStocked 72 = .ok (.iconst 0, 1) := by decide +kernel
theorem dX5_whyNotStocked_73 : decode cX5_whyNotStocked 73 = .ok (.ireturn, 1) := by decide +kernel
theorem dX5_stocks_0 : decode cX5_stocks 0 = .ok (.iload 4, 2) := by decide +kernel
theorem dX5_stocks_2 : decode cX5_stocks 2 = .ok (.iload_n 2, 1) := by decide +kernel
theorem dX5_stocks_3 : decode cX5_stocks 3 = .ok (.invokestatic 97, 3) := by decide +kernel
theorem dX5_stocks_6 : decode cX5_stocks 6 = .ok (.imul, 1) := by decide +kernel
theorem dX5_stocks_7 : decode cX5_stocks 7 = .ok (.istore 5, 2) := by decide +kernel
theorem dX5_stocks_9 : decode cX5_stocks 9 = .ok (.aload_n 0, 1) := by decide +kernel
theorem dX5_stocks_10 : decode cX5_stocks 10 = .ok (.iload_n 1, 1) := by decide +kernel
theorem dX5_stocks_11 : decode cX5_stocks 11 = .ok (.iconst 4, 1) := by decide +kernel
theorem dX5_stocks_12 : decode cX5_stocks 12 = .ok (.aload_n 0, 1) := by decide +kernel
theorem dX5_stocks_13 : decode cX5_stocks 13 = .ok (.iload_n 1, 1) := by decide +kernel
theorem dX5_stocks_14 : decode cX5_stocks 14 = .ok (.iconst 4, 1) := by decide +kernel
theorem dX5_stocks_15 : decode cX5_stocks 15 = .ok (.invokevirtual 49, 3) := by decide +kernel
theorem dX5_stocks_18 : decode cX5_stocks 18 = .ok (.iload 5, 2) := by decide +kernel
theorem dX5_stocks_20 : decode cX5_stocks 20 = .ok (.isub, 1) := by decide +kernel
theorem dX5_stocks_21 : decode cX5_stocks 21 = .ok (.invokevirtual 80, 3) := by decide +kernel
theorem dX5_stocks_24 : decode cX5_stocks 24 = .ok (.aload_n 0, 1) := by decide +kernel
theorem dX5_stocks_25 : decode cX5_stocks 25 = .ok (.getfield 7, 3) := by decide +kernel
theorem dX5_stocks_28 : decode cX5_stocks 28 = .ok (.iconst 2, 1) := by decide +kernel
theorem dX5_stocks_29 : decode cX5_stocks 29 = .ok (.dup2, 1) := by decide +kernel
theorem dX5_stocks_30 : decode cX5_stocks 30 = .ok (.iaload, 1) := by decide +kernel
theorem dX5_stocks_31 : decode cX5_stocks 31 = .ok (.iload 5, 2) := by decide +kernel
theorem dX5_stocks_33 : decode cX5_stocks 33 = .ok (.iadd, 1) := by decide +kernel
theorem dX5_stocks_34 : decode cX5_stocks 34 = .ok (.iastore, 1) := by decide +kernel
theorem dX5_stocks_35 : decode cX5_stocks 35 = .ok (.aload_n 0, 1) := by decide +kernel
theorem dX5_stocks_36 : decode cX5_stocks 36 = .ok (.iload_n 1, 1) := by decide +kernel
theorem dX5_stocks_37 : decode cX5_stocks 37 = .ok (.bipush 7, 2) := by decide +kernel
theorem dX5_stocks_39 : decode cX5_stocks 39 = .ok (.iconst 4, 1) := by decide +kernel
theorem dX5_stocks_40 : decode cX5_stocks 40 = .ok (.iload_n 2, 1) := by decide +kernel
theorem dX5_stocks_41 : decode cX5_stocks 41 = .ok (.imul, 1) := by decide +kernel
theorem dX5_stocks_42 : decode cX5_stocks 42 = .ok (.iadd, 1) := by decide +kernel
theorem dX5_stocks_43 : decode cX5_stocks 43 = .ok (.iload_n 3, 1) := by decide +kernel
theorem dX5_stocks_44 : decode cX5_stocks 44 = .ok (.iadd, 1) := by decide +kernel
theorem dX5_stocks_45 : decode cX5_stocks 45 = .ok (.aload_n 0, 1) := by decide +kernel
theorem dX5_stocks_46 : decode cX5_stocks 46 = .ok (.iload_n 1, 1) := by decide +kernel
theorem dX5_stocks_47 : decode cX5_stocks 47 = .ok (.iload_n 2, 1) := by decide +kernel
theorem dX5_stocks_48 : decode cX5_stocks 48 = .ok (.iload_n 3, 1) := by decide +kernel
theorem dX5_stocks_49 : decode cX5_stocks 49 = .ok (.invokevirtual 57, 3) := by decide +kernel
theorem dX5_stocks_52 : decode cX5_stocks 52 = .ok (.iload 4, 2) := by decide +kernel
theorem dX5_stocks_54 : decode cX5_stocks 54 = .ok (.iadd, 1) := by decide +kernel
theorem dX5_stocks_55 : decode cX5_stocks 55 = .ok (.invokevirtual 80, 3) := by decide +kernel
theorem dX5_stocks_58 : decode cX5_stocks 58 = .ok (.aload_n 0, 1) := by decide +kernel
theorem dX5_stocks_59 : decode cX5_stocks 59 = .ok (.iload_n 1, 1) := by decide +kernel
theorem dX5_stocks_60 : decode cX5_stocks 60 = .ok (.iconst 4, 1) := by decide +kernel
theorem dX5_stocks_61 : decode cX5_stocks 61 = .ok (.invokevirtual 49, 3) := by decide +kernel
theorem dX5_stocks_64 : decode cX5_stocks 64 = .ok (.ireturn, 1) := by decide +kernel
theorem dX5_whyNotFunded_0 : decode cX5_whyNotFunded 0 = .ok (.aload_n 0, 1) := by decide +kernel
theorem dX5_whyNotFunded_1 : decode cX5_whyNotFunded 1 = .ok (.iload_n 1, 1) := by decide +kernel
theorem dX5_whyNotFunded_2 : decode cX5_whyNotFunded 2 = .ok (.invokevirtual 88, 3) := by decide +kernel
theorem dX5_whyNotFunded_5 : decode cX5_whyNotFunded 5 = .ok (.ifCond .ne 7, 3) := by decide +kernel
theorem dX5_whyNotFunded_8 : decode cX5_whyNotFunded 8 = .ok (.iconst 1, 1) := by decide +kernel
theorem dX5_whyNotFunded_9 : decode cX5_whyNotFunded 9 = .ok (.goto 32, 3) := by decide +kernel
theorem dX5_whyNotFunded_12 : decode cX5_whyNotFunded 12 = .ok (.iload_n 2, 1) := by decide +kernel
theorem dX5_whyNotFunded_13 : decode cX5_whyNotFunded 13 = .ok (.iconst 1, 1) := by decide +kernel
theorem dX5_whyNotFunded_14 : decode cX5_whyNotFunded 14 = .ok (.bipush 99, 2) := by decide +kernel
theorem dX5_whyNotFunded_16 : decode cX5_whyNotFunded 16 = .ok (.invokestatic 45, 3) := by decide +kernel
theorem dX5_whyNotFunded_19 : decode cX5_whyNotFunded 19 = .ok (.ifCond .ne 7, 3) := by decide +kernel
theorem dX5_whyNotFunded_22 : decode cX5_whyNotFunded 22 = .ok (.iconst 2, 1) := by decide +kernel
theorem dX5_whyNotFunded_23 : decode cX5_whyNotFunded 23 = .ok (.goto 18, 3) := by decide +kernel
theorem dX5_whyNotFunded_26 : decode cX5_whyNotFunded 26 = .ok (.aload_n 0, 1) := by decide +kernel
theorem dX5_whyNotFunded_27 : decode cX5_whyNotFunded 27 = .ok (.getfield 7, 3) := by decide +kernel
theorem dX5_whyNotFunded_30 : decode cX5_whyNotFunded 30 = .ok (.iconst 0, 1) := by decide +kernel
theorem dX5_whyNotFunded_31 : decode cX5_whyNotFunded 31 = .ok (.iaload, 1) := by decide +kernel
theorem dX5_whyNotFunded_32 : decode cX5_whyNotFunded 32 = .ok (.iload_n 2, 1) := by decide +kernel
theorem dX5_whyNotFunded_33 : decode cX5_whyNotFunded 33 = .ok (.if_icmp .ge 7, 3) := by decide +kernel
theorem dX5_whyNotFunded_36 : decode cX5_whyNotFunded 36 = .ok (.iconst 3, 1) := by decide +kernel
theorem dX5_whyNotFunded_37 : decode cX5_whyNotFunded 37 = .ok (.goto 4, 3) := by decide +kernel
theorem dX5_whyNotFunded_40 : decode cX5_whyNotFunded 40 = .ok (.iconst 0, 1) := by decide +kernel
theorem dX5_whyNotFunded_41 : decode cX5_whyNotFunded 41 = .ok (.ireturn, 1) := by decide +kernel
theorem dX5_funds_0 : decode cX5_funds 0 = .ok (.aload_n 0, 1) := by decide +kernel
theorem dX5_funds_1 : decode cX5_funds 1 = .ok (.getfield 7, 3) := by decide +kernel
theorem dX5_funds_4 : decode cX5_funds 4 = .ok (.iconst 0, 1) := by decide +kernel
theorem dX5_funds_5 : decode cX5_funds 5 = .ok (.dup2, 1) := by decide +kernel
theorem dX5_funds_6 : decode cX5_funds 6 = .ok (.iaload, 1) := by decide +kernel
theorem dX5_funds_7 : decode cX5_funds 7 = .ok (.iload_n 2, 1) := by decide +kernel
theorem dX5_funds_8 : decode cX5_funds 8 = .ok (.isub, 1) := by decide +kernel
theorem dX5_funds_9 : decode cX5_funds 9 = .ok (.iastore, 1) := by decide +kernel
theorem dX5_funds_10 : decode cX5_funds 10 = .ok (.aload_n 0, 1) := by decide +kernel
theorem dX5_funds_11 : decode cX5_funds 11 = .ok (.iload_n 1, 1) := by decide +kernel
theorem dX5_funds_12 : decode cX5_funds 12 = .ok (.iconst 4, 1) := by decide +kernel
theorem dX5_funds_13 : decode cX5_funds 13 = .ok (.aload_n 0, 1) := by decide +kernel
theorem dX5_funds_14 : decode cX5_funds 14 = .ok (.iload_n 1, 1) := by decide +kernel
theorem dX5_funds_15 : decode cX5_funds 15 = .ok (.iconst 4, 1) := by decide +kernel
theorem dX5_funds_16 : decode cX5_funds 16 = .ok (.invokevirtual 49, 3) := by decide +kernel
theorem dX5_funds_19 : decode cX5_funds 19 = .ok (.iload_n 2, 1) := by decide +kernel
theorem dX5_funds_20 : decode cX5_funds 20 = .ok (.iadd, 1) := by decide +kernel
theorem dX5_funds_21 : decode cX5_funds 21 = .ok (.invokevirtual 80, 3) := by decide +kernel
theorem dX5_funds_24 : decode cX5_funds 24 = .ok (.aload_n 0, 1) := by decide +kernel
theorem dX5_funds_25 : decode cX5_funds 25 = .ok (.iload_n 1, 1) := by decide +kernel
theorem dX5_funds_26 : decode cX5_funds 26 = .ok (.iconst 4, 1) := by decide +kernel
theorem dX5_funds_27 : decode cX5_funds 27 = .ok (.invokevirtual 49, 3) := by decide +kernel
theorem dX5_funds_30 : decode cX5_funds 30 = .ok (.ireturn, 1) := by decide +kernel
theorem dX5_isHere_0 : decode cX5_isHere 0 = .ok (.aload_n 0, 1) := by decide +kernel
theorem dX5_isHere_1 : decode cX5_isHere 1 = .ok (.iload_n 1, 1) := by decide +kernel
theorem dX5_isHere_2 : decode cX5_isHere 2 = .ok (.iconst 4, 1) := by decide +kernel
theorem dX5_isHere_3 : decode cX5_isHere 3 = .ok (.invokevirtual 100, 3) := by decide +kernel
theorem dX5_isHere_6 : decode cX5_isHere 6 = .ok (.iconst (-1), 1) := by decide +kernel
theorem dX5_isHere_7 : decode cX5_isHere 7 = .ok (.if_icmp .eq 7, 3) := by decide +kernel
theorem dX5_isHere_10 : decode cX5_isHere 10 = .ok (.iconst 1, 1) := by decide +kernel
theorem dX5_isHere_11 : decode cX5_isHere 11 = .ok (.goto 4, 3) := by decide +kernel
theorem dX5_isHere_14 : decode cX5_isHere 14 = .ok (.iconst 0, 1) := by decide +kernel
theorem dX5_isHere_15 : decode cX5_isHere 15 = .ok (.ireturn, 1) := by decide +kernel
theorem dX5_crowd_0 : decode cX5_crowd 0 = .ok (.iconst 0, 1) := by decide +kernel
theorem dX5_crowd_1 : decode cX5_crowd 1 = .ok (.istore_n 1, 1) := by decide +kernel
theorem dX5_crowd_2 : decode cX5_crowd 2 = .ok (.iconst 0, 1) := by decide +kernel
theorem dX5_crowd_3 : decode cX5_crowd 3 = .ok (.istore_n 2, 1) := by decide +kernel
theorem dX5_crowd_4 : decode cX5_crowd 4 = .ok (.iload_n 2, 1) := by decide +kernel
theorem dX5_crowd_5 : decode cX5_crowd 5 = .ok (.aload_n 0, 1) := by decide +kernel
theorem dX5_crowd_6 : decode cX5_crowd 6 = .ok (.getfield 7, 3) := by decide +kernel
theorem dX5_crowd_9 : decode cX5_crowd 9 = .ok (.bipush 9, 2) := by decide +kernel
theorem dX5_crowd_11 : decode cX5_crowd 11 = .ok (.iaload, 1) := by decide +kernel
theorem dX5_crowd_12 : decode cX5_crowd 12 = .ok (.if_icmp .ge 25, 3) := by decide +kernel
theorem dX5_crowd_15 : decode cX5_crowd 15 = .ok (.iload_n 1, 1) := by decide +kernel
theorem dX5_crowd_16 : decode cX5_crowd 16 = .ok (.aload_n 0, 1) := by decide +kernel
theorem dX5_crowd_17 : decode cX5_crowd 17 = .ok (.iload_n 2, 1) := by decide +kernel
theorem dX5_crowd_18 : decode cX5_crowd 18 = .ok (.invokevirtual 103, 3) := by decide +kernel
theorem dX5_crowd_21 : decode cX5_crowd 21 = .ok (.ifCond .eq 7, 3) := by decide +kernel
theorem dX5_crowd_24 : decode cX5_crowd 24 = .ok (.iconst 1, 1) := by decide +kernel
theorem dX5_crowd_25 : decode cX5_crowd 25 = .ok (.goto 4, 3) := by decide +kernel
theorem dX5_crowd_28 : decode cX5_crowd 28 = .ok (.iconst 0, 1) := by decide +kernel
theorem dX5_crowd_29 : decode cX5_crowd 29 = .ok (.iadd, 1) := by decide +kernel
theorem dX5_crowd_30 : decode cX5_crowd 30 = .ok (.istore_n 1, 1) := by decide +kernel
theorem dX5_crowd_31 : decode cX5_crowd 31 = .ok (.iinc 2 1, 3) := by decide +kernel
theorem dX5_crowd_34 : decode cX5_crowd 34 = .ok (.goto (-30), 3) := by decide +kernel
theorem dX5_crowd_37 : decode cX5_crowd 37 = .ok (.iload_n 1, 1) := by decide +kernel
theorem dX5_crowd_38 : decode cX5_crowd 38 = .ok (.ireturn, 1) := by decide +kernel
theorem dX5_hasRoom_0 : decode cX5_hasRoom 0 = .ok (.aload_n 0, 1) := by decide +kernel
theorem dX5_hasRoom_1 : decode cX5_hasRoom 1 = .ok (.getfield 7, 3) := by decide +kernel
theorem dX5_hasRoom_4 : decode cX5_hasRoom 4 = .ok (.bipush 9, 2) := by decide +kernel
theorem dX5_hasRoom_6 : decode cX5_hasRoom 6 = .ok (.iaload, 1) := by decide +kernel
theorem dX5_hasRoom_7 : decode cX5_hasRoom 7 = .ok (.sipush 200, 3) := by decide +kernel
theorem dX5_hasRoom_10 : decode cX5_hasRoom 10 = .ok (.if_icmp .ge 16, 3) := by decide +kernel
theorem dX5_hasRoom_13 : decode cX5_hasRoom 13 = .ok (.aload_n 0, 1) := by decide +kernel
theorem dX5_hasRoom_14 : decode cX5_hasRoom 14 = .ok (.invokevirtual 106, 3) := by decide +kernel
theorem dX5_hasRoom_17 : decode cX5_hasRoom 17 = .ok (.bipush 40, 2) := by decide +kernel
theorem dX5_hasRoom_19 : decode cX5_hasRoom 19 = .ok (.if_icmp .ge 7, 3) := by decide +kernel
theorem dX5_hasRoom_22 : decode cX5_hasRoom 22 = .ok (.iconst 1, 1) := by decide +kernel
theorem dX5_hasRoom_23 : decode cX5_hasRoom 23 = .ok (.goto 4, 3) := by decide +kernel
theorem dX5_hasRoom_26 : decode cX5_hasRoom 26 = .ok (.iconst 0, 1) := by decide +kernel
theorem dX5_hasRoom_27 : decode cX5_hasRoom 27 = .ok (.ireturn, 1) := by decide +kernel
theorem dX5_whyNotCome_0 : decode cX5_whyNotCome 0 = .ok (.iload_n 2, 1) := by decide +kernel
theorem dX5_whyNotCome_1 : decode cX5_whyNotCome 1 = .ok (.invokestatic 74, 3) := by decide +kernel
theorem dX5_whyNotCome_4 : decode cX5_whyNotCome 4 = .ok (.ifCond .eq 10, 3) := by decide +kernel
theorem dX5_whyNotCome_7 : decode cX5_whyNotCome 7 = .ok (.iload_n 3, 1) := by decide +kernel
theorem dX5_whyNotCome_8 : decode cX5_whyNotCome 8 = .ok (.invokestatic 91, 3) := by decide +kernel
theorem dX5_whyNotCome_11 : decode cX5_whyNotCome 11 = .ok (.ifCond .ne 7, 3) := by decide +kernel
theorem dX5_whyNotCome_14 : decode cX5_whyNotCome 14 = .ok (.iconst 1, 1) := by decide +kernel
theorem dX5_whyNotCome_15 : decode cX5_whyNotCome 15 = .ok (.goto 29, 3) := by decide +kernel
theorem dX5_whyNotCome_18 : decode cX5_whyNotCome 18 = .ok (.iload_n 1, 1) := by decide +kernel
theorem dX5_whyNotCome_19 : decode cX5_whyNotCome 19 = .ok (.iconst 0, 1) := by decide +kernel
theorem dX5_whyNotCome_20 : decode cX5_whyNotCome 20 = .ok (.bipush 99, 2) := by decide +kernel
theorem dX5_whyNotCome_22 : decode cX5_whyNotCome 22 = .ok (.invokestatic 45, 3) := by decide +kernel
theorem dX5_whyNotCome_25 : decode cX5_whyNotCome 25 = .ok (.ifCond .ne 7, 3) := by decide +kernel
theorem dX5_whyNotCome_28 : decode cX5_whyNotCome 28 = .ok (.iconst 2, 1) := by decide +kernel
theorem dX5_whyNotCome_29 : decode cX5_whyNotCome 29 = .ok (.goto 15, 3) := by decide +kernel
theorem dX5_whyNotCome_32 : decode cX5_whyNotCome 32 = .ok (.aload_n 0, 1) := by decide +kernel
theorem dX5_whyNotCome_33 : decode cX5_whyNotCome 33 = .ok (.invokevirtual 110, 3) := by decide +kernel
theorem dX5_whyNotCome_36 : decode cX5_whyNotCome 36 = .ok (.ifCond .eq 7, 3) := by decide +kernel
theorem dX5_whyNotCome_39 : decode cX5_whyNotCome 39 = .ok (.iconst 0, 1) := by decide +kernel
theorem dX5_whyNotCome_40 : decode cX5_whyNotCome 40 = .ok (.goto 4, 3) := by decide +kernel
theorem dX5_whyNotCome_43 : decode cX5_whyNotCome 43 = .ok (.iconst 3, 1) := by decide +kernel
theorem dX5_whyNotCome_44 : decode cX5_whyNotCome 44 = .ok (.ireturn, 1) := by decide +kernel
theorem dX5_comes_0 : decode cX5_comes 0 = .ok (.aload_n 0, 1) := by decide +kernel
theorem dX5_comes_1 : decode cX5_comes 1 = .ok (.getfield 7, 3) := by decide +kernel
theorem dX5_comes_4 : decode cX5_comes 4 = .ok (.bipush 9, 2) := by decide +kernel
theorem dX5_comes_6 : decode cX5_comes 6 = .ok (.iaload, 1) := by decide +kernel
theorem dX5_comes_7 : decode cX5_comes 7 = .ok (.istore 4, 2) := by decide +kernel
theorem dX5_comes_9 : decode cX5_comes 9 = .ok (.iconst 0, 1) := by decide +kernel
theorem dX5_comes_10 : decode cX5_comes 10 = .ok (.istore 5, 2) := by decide +kernel
theorem dX5_comes_12 : decode cX5_comes 12 = .ok (.iload 5, 2) := by decide +kernel
theorem dX5_comes_14 : decode cX5_comes 14 = .ok (.bipush 8, 2) := by decide +kernel
theorem dX5_comes_16 : decode cX5_comes 16 = .ok (.if_icmp .ge 18, 3) := by decide +kernel
theorem dX5_comes_19 : decode cX5_comes 19 = .ok (.aload_n 0, 1) := by decide +kernel
theorem dX5_comes_20 : decode cX5_comes 20 = .ok (.iload 4, 2) := by decide +kernel
theorem dX5_comes_22 : decode cX5_comes 22 = .ok (.iload 5, 2) := by decide +kernel
theorem dX5_comes_24 : decode cX5_comes 24 = .ok (.iconst 0, 1) := by decide +kernel
theorem dX5_comes_25 : decode cX5_comes 25 = .ok (.invokevirtual 114, 3) := by decide +kernel
theorem dX5_comes_28 : decode cX5_comes 28 = .ok (.iinc 5 1, 3) := by decide +kernel
theorem dX5_comes_31 : decode cX5_comes 31 = .ok (.goto (-19), 3) := by decide +kernel
theorem dX5_comes_34 : decode cX5_comes 34 = .ok (.aload_n 0, 1) := by decide +kernel
theorem dX5_comes_35 : decode cX5_comes 35 = .ok (.iload 4, 2) := by decide +kernel
theorem dX5_comes_37 : decode cX5_comes 37 = .ok (.iconst 0, 1) := by decide +kernel
theorem dX5_comes_38 : decode cX5_comes 38 = .ok (.iload_n 1, 1) := by decide +kernel
theorem dX5_comes_39 : decode cX5_comes 39 = .ok (.invokevirtual 114, 3) := by decide +kernel
theorem dX5_comes_42 : decode cX5_comes 42 = .ok (.aload_n 0, 1) := by decide +kernel
theorem dX5_comes_43 : decode cX5_comes 43 = .ok (.iload 4, 2) := by decide +kernel
theorem dX5_comes_45 : decode cX5_comes 45 = .ok (.iconst 1, 1) := by decide +kernel
theorem dX5_comes_46 : decode cX5_comes 46 = .ok (.bipush 60, 2) := by decide +kernel
theorem dX5_comes_48 : decode cX5_comes 48 = .ok (.invokevirtual 114, 3) := by decide +kernel
theorem dX5_comes_51 : decode cX5_comes 51 = .ok (.aload_n 0, 1) := by decide +kernel
theorem dX5_comes_52 : decode cX5_comes 52 = .ok (.iload 4, 2) := by decide +kernel
theorem dX5_comes_54 : decode cX5_comes 54 = .ok (.iconst 2, 1) := by decide +kernel
theorem dX5_comes_55 : decode cX5_comes 55 = .ok (.iload_n 2, 1) := by decide +kernel
theorem dX5_comes_56 : decode cX5_comes 56 = .ok (.invokevirtual 114, 3) := by decide +kernel
theorem dX5_comes_59 : decode cX5_comes 59 = .ok (.aload_n 0, 1) := by decide +kernel
theorem dX5_comes_60 : decode cX5_comes 60 = .ok (.iload 4, 2) := by decide +kernel
theorem dX5_comes_62 : decode cX5_comes 62 = .ok (.iconst 3, 1) := by decide +kernel
theorem dX5_comes_63 : decode cX5_comes 63 = .ok (.iload_n 3, 1) := by decide +kernel
theorem dX5_comes_64 : decode cX5_comes 64 = .ok (.invokevirtual 114, 3) := by decide +kernel
theorem dX5_comes_67 : decode cX5_comes 67 = .ok (.aload_n 0, 1) := by decide +kernel
theorem dX5_comes_68 : decode cX5_comes 68 = .ok (.getfield 7, 3) := by decide +kernel
theorem dX5_comes_71 : decode cX5_comes 71 = .ok (.bipush 9, 2) := by decide +kernel
theorem dX5_comes_73 : decode cX5_comes 73 = .ok (.dup2, 1) := by decide +kernel
theorem dX5_comes_74 : decode cX5_comes 74 = .ok (.iaload, 1) := by decide +kernel
theorem dX5_comes_75 : decode cX5_comes 75 = .ok (.iconst 1, 1) := by decide +kernel
theorem dX5_comes_76 : decode cX5_comes 76 = .ok (.iadd, 1) := by decide +kernel
theorem dX5_comes_77 : decode cX5_comes 77 = .ok (.iastore, 1) := by decide +kernel
theorem dX5_comes_78 : decode cX5_comes 78 = .ok (.aload_n 0, 1) := by decide +kernel
theorem dX5_comes_79 : decode cX5_comes 79 = .ok (.getfield 7, 3) := by decide +kernel
theorem dX5_comes_82 : decode cX5_comes 82 = .ok (.iconst 3, 1) := by decide +kernel
theorem dX5_comes_83 : decode cX5_comes 83 = .ok (.dup2, 1) := by decide +kernel
theorem dX5_comes_84 : decode cX5_comes 84 = .ok (.iaload, 1) := by decide +kernel
theorem dX5_comes_85 : decode cX5_comes 85 = .ok (.iload_n 1, 1) := by decide +kernel
theorem dX5_comes_86 : decode cX5_comes 86 = .ok (.iadd, 1) := by decide +kernel
theorem dX5_comes_87 : decode cX5_comes 87 = .ok (.iastore, 1) := by decide +kernel
theorem dX5_comes_88 : decode cX5_comes 88 = .ok (.iload 4, 2) := by decide +kernel
theorem dX5_comes_90 : decode cX5_comes 90 = .ok (.ireturn, 1) := by decide +kernel
theorem dX5_rain_0 : decode cX5_rain 0 = .ok (.aload_n 0, 1) := by decide +kernel
theorem dX5_rain_1 : decode cX5_rain 1 = .ok (.getfield 7, 3) := by decide +kernel
theorem dX5_rain_4 : decode cX5_rain 4 = .ok (.bipush 14, 2) := by decide +kernel
theorem dX5_rain_6 : decode cX5_rain 6 = .ok (.iload_n 1, 1) := by decide +kernel
theorem dX5_rain_7 : decode cX5_rain 7 = .ok (.iadd, 1) := by decide +kernel
theorem dX5_rain_8 : decode cX5_rain 8 = .ok (.iaload, 1) := by decide +kernel
theorem dX5_rain_9 : decode cX5_rain 9 = .ok (.aload_n 0, 1) := by decide +kernel
theorem dX5_rain_10 : decode cX5_rain 10 = .ok (.getfield 7, 3) := by decide +kernel
theorem dX5_rain_13 : decode cX5_rain 13 = .ok (.bipush 6, 2) := by decide +kernel
theorem dX5_rain_15 : decode cX5_rain 15 = .ok (.iaload, 1) := by decide +kernel
theorem dX5_rain_16 : decode cX5_rain 16 = .ok (.bipush 7, 2) := by decide +kernel
theorem dX5_rain_18 : decode cX5_rain 18 = .ok (.irem, 1) := by decide +kernel
theorem dX5_rain_19 : decode cX5_rain 19 = .ok (.bipush 6, 2) := by decide +kernel
theorem dX5_rain_21 : decode cX5_rain 21 = .ok (.if_icmp .ne 7, 3) := by decide +kernel
theorem dX5_rain_24 : decode cX5_rain 24 = .ok (.iconst 4, 1) := by decide +kernel
theorem dX5_rain_25 : decode cX5_rain 25 = .ok (.goto 4, 3) := by decide +kernel
theorem dX5_rain_28 : decode cX5_rain 28 = .ok (.iconst 0, 1) := by decide +kernel
theorem dX5_rain_29 : decode cX5_rain 29 = .ok (.iadd, 1) := by decide +kernel
theorem dX5_rain_30 : decode cX5_rain 30 = .ok (.istore_n 2, 1) := by decide +kernel
theorem dX5_rain_31 : decode cX5_rain 31 = .ok (.iload_n 2, 1) := by decide +kernel
theorem dX5_rain_32 : decode cX5_rain 32 = .ok (.bipush 9, 2) := by decide +kernel
theorem dX5_rain_34 : decode cX5_rain 34 = .ok (.if_icmp .le 8, 3) := by decide +kernel
theorem dX5_rain_37 : decode cX5_rain 37 = .ok (.bipush 9, 2) := by decide +kernel
theorem dX5_rain_39 : decode cX5_rain 39 = .ok (.goto 4, 3) := by decide +kernel
theorem dX5_rain_42 : decode cX5_rain 42 = .ok (.iload_n 2, 1) := by decide +kernel
theorem dX5_rain_43 : decode cX5_rain 43 = .ok (.ireturn, 1) := by decide +kernel
theorem dX5_isDue_0 : decode cX5_isDue 0 = .ok (.aload_n 0, 1) := by decide +kernel
theorem dX5_isDue_1 : decode cX5_isDue 1 = .ok (.aload_n 0, 1) := by decide +kernel
theorem dX5_isDue_2 : decode cX5_isDue 2 = .ok (.getfield 7, 3) := by decide +kernel
theorem dX5_isDue_5 : decode cX5_isDue 5 = .ok (.bipush 7, 2) := by decide +kernel
theorem dX5_isDue_7 : decode cX5_isDue 7 = .ok (.iaload, 1) := by decide +kernel
theorem dX5_isDue_8 : decode cX5_isDue 8 = .ok (.iconst 4, 1) := by decide +kernel
theorem dX5_isDue_9 : decode cX5_isDue 9 = .ok (.idiv, 1) := by decide +kernel
theorem dX5_isDue_10 : decode cX5_isDue 10 = .ok (.invokevirtual 117, 3) := by decide +kernel
theorem dX5_isDue_13 : decode cX5_isDue 13 = .ok (.istore_n 1, 1) := by decide +kernel
theorem dX5_isDue_14 : decode cX5_isDue 14 = .ok (.aload_n 0, 1) := by decide +kernel
theorem dX5_isDue_15 : decode cX5_isDue 15 = .ok (.invokevirtual 110, 3) := by decide +kernel
theorem dX5_isDue_18 : decode cX5_isDue 18 = .ok (.ifCond .eq 45, 3) := by decide +kernel
theorem dX5_isDue_21 : decode cX5_isDue 21 = .ok (.aload_n 0, 1) := by decide +kernel
theorem dX5_isDue_22 : decode cX5_isDue 22 = .ok (.getfield 7, 3) := by decide +kernel
theorem dX5_isDue_25 : decode cX5_isDue 25 = .ok (.bipush 7, 2) := by decide +kernel
theorem dX5_isDue_27 : decode cX5_isDue 27 = .ok (.iaload, 1) := by decide +kernel
theorem dX5_isDue_28 : decode cX5_isDue 28 = .ok (.iconst 4, 1) := by decide +kernel
theorem dX5_isDue_29 : decode cX5_isDue 29 = .ok (.irem, 1) := by decide +kernel
theorem dX5_isDue_30 : decode cX5_isDue 30 = .ok (.ifCond .ne 7, 3) := by decide +kernel
theorem dX5_isDue_33 : decode cX5_isDue 33 = .ok (.iload_n 1, 1) := by decide +kernel
theorem dX5_isDue_34 : decode cX5_isDue 34 = .ok (.ifCond .eq 25, 3) := by decide +kernel
theorem dX5_isDue_37 : decode cX5_isDue 37 = .ok (.aload_n 0, 1) := by decide +kernel
theorem dX5_isDue_38 : decode cX5_isDue 38 = .ok (.getfield 7, 3) := by decide +kernel
theorem dX5_isDue_41 : decode cX5_isDue 41 = .ok (.bipush 7, 2) := by decide +kernel
theorem dX5_isDue_43 : decode cX5_isDue 43 = .ok (.iaload, 1) := by decide +kernel
theorem dX5_isDue_44 : decode cX5_isDue 44 = .ok (.bipush 8, 2) := by decide +kernel
theorem dX5_isDue_46 : decode cX5_isDue 46 = .ok (.irem, 1) := by decide +kernel
theorem dX5_isDue_47 : decode cX5_isDue 47 = .ok (.ifCond .ne 16, 3) := by decide +kernel
theorem dX5_isDue_50 : decode cX5_isDue 50 = .ok (.iload_n 1, 1) := by decide +kernel
theorem dX5_isDue_51 : decode cX5_isDue 51 = .ok (.iconst 1, 1) := by decide +kernel
theorem dX5_isDue_52 : decode cX5_isDue 52 = .ok (.iconst 4, 1) := by decide +kernel
theorem dX5_isDue_53 : decode cX5_isDue 53 = .ok (.invokestatic 45, 3) := by decide +kernel
theorem dX5_isDue_56 : decode cX5_isDue 56 = .ok (.ifCond .eq 7, 3) := by decide +kernel
theorem dX5_isDue_59 : decode cX5_isDue 59 = .ok (.iconst 1, 1) := by decide +kernel
theorem dX5_isDue_60 : decode cX5_isDue 60 = .ok (.goto 4, 3) := by decide +kernel
theorem dX5_isDue_63 : decode cX5_isDue 63 = .ok (.iconst 0, 1) := by decide +kernel
theorem dX5_isDue_64 : decode cX5_isDue 64 = .ok (.ireturn, 1) := by decide +kernel
theorem dX5_goesHome_0 : decode cX5_goesHome 0 = .ok (.aload_n 0, 1) := by decide +kernel
theorem dX5_goesHome_1 : decode cX5_goesHome 1 = .ok (.iload_n 1, 1) := by decide +kernel
theorem dX5_goesHome_2 : decode cX5_goesHome 2 = .ok (.iconst 4, 1) := by decide +kernel
theorem dX5_goesHome_3 : decode cX5_goesHome 3 = .ok (.iconst (-1), 1) := by decide +kernel
theorem dX5_goesHome_4 : decode cX5_goesHome 4 = .ok (.invokevirtual 114, 3) := by decide +kernel
theorem dX5_goesHome_7 : decode cX5_goesHome 7 = .ok (.aload_n 0, 1) := by decide +kernel
theorem dX5_goesHome_8 : decode cX5_goesHome 8 = .ok (.iload_n 1, 1) := by decide +kernel
theorem dX5_goesHome_9 : decode cX5_goesHome 9 = .ok (.iconst 5, 1) := by decide +kernel
theorem dX5_goesHome_10 : decode cX5_goesHome 10 = .ok (.iconst 1, 1) := by decide +kernel
theorem dX5_goesHome_11 : decode cX5_goesHome 11 = .ok (.invokevirtual 114, 3) := by decide +kernel
theorem dX5_goesHome_14 : decode cX5_goesHome 14 = .ok (.return_, 1) := by decide +kernel
theorem dX5_feels_0 : decode cX5_feels 0 = .ok (.aload_n 0, 1) := by decide +kernel
theorem dX5_feels_1 : decode cX5_feels 1 = .ok (.iload_n 1, 1) := by decide +kernel
theorem dX5_feels_2 : decode cX5_feels 2 = .ok (.iconst 1, 1) := by decide +kernel
theorem dX5_feels_3 : decode cX5_feels 3 = .ok (.invokevirtual 100, 3) := by decide +kernel
theorem dX5_feels_6 : decode cX5_feels 6 = .ok (.iload_n 2, 1) := by decide +kernel
theorem dX5_feels_7 : decode cX5_feels 7 = .ok (.iadd, 1) := by decide +kernel
theorem dX5_feels_8 : decode cX5_feels 8 = .ok (.istore_n 3, 1) := by decide +kernel
theorem dX5_feels_9 : decode cX5_feels 9 = .ok (.aload_n 0, 1) := by decide +kernel
theorem dX5_feels_10 : decode cX5_feels 10 = .ok (.iload_n 1, 1) := by decide +kernel
theorem dX5_feels_11 : decode cX5_feels 11 = .ok (.iconst 1, 1) := by decide +kernel
theorem dX5_feels_12 : decode cX5_feels 12 = .ok (.iload_n 3, 1) := by decide +kernel
theorem dX5_feels_13 : decode cX5_feels 13 = .ok (.ifCond .ge 7, 3) := by decide +kernel
theorem dX5_feels_16 : decode cX5_feels 16 = .ok (.iconst 0, 1) := by decide +kernel
theorem dX5_feels_17 : decode cX5_feels 17 = .ok (.goto 15, 3) := by decide +kernel
theorem dX5_feels_20 : decode cX5_feels 20 = .ok (.iload_n 3, 1) := by decide +kernel
theorem dX5_feels_21 : decode cX5_feels 21 = .ok (.bipush 100, 2) := by decide +kernel
theorem dX5_feels_23 : decode cX5_feels 23 = .ok (.if_icmp .le 8, 3) := by decide +kernel
theorem dX5_feels_26 : decode cX5_feels 26 = .ok (.bipush 100, 2) := by decide +kernel
theorem dX5_feels_28 : decode cX5_feels 28 = .ok (.goto 4, 3) := by decide +kernel
theorem dX5_feels_31 : decode cX5_feels 31 = .ok (.iload_n 3, 1) := by decide +kernel
theorem dX5_feels_32 : decode cX5_feels 32 = .ok (.invokevirtual 114, 3) := by decide +kernel
theorem dX5_feels_35 : decode cX5_feels 35 = .ok (.return_, 1) := by decide +kernel
theorem dX5_likes_0 : decode cX5_likes 0 = .ok (.aload_n 0, 1) := by decide +kernel
theorem dX5_likes_1 : decode cX5_likes 1 = .ok (.iload_n 2, 1) := by decide +kernel
theorem dX5_likes_2 : decode cX5_likes 2 = .ok (.iconst 1, 1) := by decide +kernel
theorem dX5_likes_3 : decode cX5_likes 3 = .ok (.invokevirtual 49, 3) := by decide +kernel
theorem dX5_likes_6 : decode cX5_likes 6 = .ok (.aload_n 0, 1) := by decide +kernel
theorem dX5_likes_7 : decode cX5_likes 7 = .ok (.iload_n 1, 1) := by decide +kernel
theorem dX5_likes_8 : decode cX5_likes 8 = .ok (.iconst 2, 1) := by decide +kernel
theorem dX5_likes_9 : decode cX5_likes 9 = .ok (.invokevirtual 100, 3) := by decide +kernel
theorem dX5_likes_12 : decode cX5_likes 12 = .ok (.if_icmp .eq 24, 3) := by decide +kernel
theorem dX5_likes_15 : decode cX5_likes 15 = .ok (.aload_n 0, 1) := by decide +kernel
theorem dX5_likes_16 : decode cX5_likes 16 = .ok (.iload_n 1, 1) := by decide +kernel
theorem dX5_likes_17 : decode cX5_likes 17 = .ok (.iconst 1, 1) := by decide +kernel
theorem dX5_likes_18 : decode cX5_likes 18 = .ok (.invokevirtual 100, 3) := by decide +kernel
theorem dX5_likes_21 : decode cX5_likes 21 = .ok (.bipush 50, 2) := by decide +kernel
theorem dX5_likes_23 : decode cX5_likes 23 = .ok (.if_icmp .ge 13, 3) := by decide +kernel
theorem dX5_likes_26 : decode cX5_likes 26 = .ok (.aload_n 0, 1) := by decide +kernel
theorem dX5_likes_27 : decode cX5_likes 27 = .ok (.iload_n 2, 1) := by decide +kernel
theorem dX5_likes_28 : decode cX5_likes 28 = .ok (.iconst 1, 1) := by decide +kernel
theorem dX5_likes_29 : decode cX5_likes 29 = .ok (.invokevirtual 49, 3) := by decide +kernel
theorem dX5_likes_32 : decode cX5_likes 32 = .ok (.iconst 4, 1) := by decide +kernel
theorem dX5_likes_33 : decode cX5_likes 33 = .ok (.if_icmp .ne 7, 3) := by decide +kernel
theorem dX5_likes_36 : decode cX5_likes 36 = .ok (.iconst 1, 1) := by decide +kernel
theorem dX5_likes_37 : decode cX5_likes 37 = .ok (.goto 4, 3) := by decide +kernel
theorem dX5_likes_40 : decode cX5_likes 40 = .ok (.iconst 0, 1) := by decide +kernel
theorem dX5_likes_41 : decode cX5_likes 41 = .ok (.ireturn, 1) := by decide +kernel
theorem dX5_wants_0 : decode cX5_wants 0 = .ok (.aload_n 0, 1) := by decide +kernel
theorem dX5_wants_1 : decode cX5_wants 1 = .ok (.iload_n 1, 1) := by decide +kernel
theorem dX5_wants_2 : decode cX5_wants 2 = .ok (.iconst 0, 1) := by decide +kernel
theorem dX5_wants_3 : decode cX5_wants 3 = .ok (.invokevirtual 100, 3) := by decide +kernel
theorem dX5_wants_6 : decode cX5_wants 6 = .ok (.aload_n 0, 1) := by decide +kernel
theorem dX5_wants_7 : decode cX5_wants 7 = .ok (.iload_n 2, 1) := by decide +kernel
theorem dX5_wants_8 : decode cX5_wants 8 = .ok (.iconst 2, 1) := by decide +kernel
theorem dX5_wants_9 : decode cX5_wants 9 = .ok (.invokevirtual 49, 3) := by decide +kernel
theorem dX5_wants_12 : decode cX5_wants 12 = .ok (.if_icmp .lt 27, 3) := by decide +kernel
theorem dX5_wants_15 : decode cX5_wants 15 = .ok (.aload_n 0, 1) := by decide +kernel
theorem dX5_wants_16 : decode cX5_wants 16 = .ok (.iload_n 1, 1) := by decide +kernel
theorem dX5_wants_17 : decode cX5_wants 17 = .ok (.bipush 6, 2) := by decide +kernel
theorem dX5_wants_19 : decode cX5_wants 19 = .ok (.invokevirtual 100, 3) := by decide +kernel
theorem dX5_wants_22 : decode cX5_wants 22 = .ok (.iconst 2, 1) := by decide +kernel
theorem dX5_wants_23 : decode cX5_wants 23 = .ok (.if_icmp .ge 16, 3) := by decide +kernel
theorem dX5_wants_26 : decode cX5_wants 26 = .ok (.aload_n 0, 1) := by decide +kernel
theorem dX5_wants_27 : decode cX5_wants 27 = .ok (.iload_n 1, 1) := by decide +kernel
theorem dX5_wants_28 : decode cX5_wants 28 = .ok (.iload_n 2, 1) := by decide +kernel
theorem dX5_wants_29 : decode cX5_wants 29 = .ok (.invokevirtual 120, 3) := by decide +kernel
theorem dX5_wants_32 : decode cX5_wants 32 = .ok (.ifCond .eq 7, 3) := by decide +kernel
theorem dX5_wants_35 : decode cX5_wants 35 = .ok (.iconst 1, 1) := by decide +kernel
theorem dX5_wants_36 : decode cX5_wants 36 = .ok (.goto 4, 3) := by decide +kernel
theorem dX5_wants_39 : decode cX5_wants 39 = .ok (.iconst 0, 1) := by decide +kernel
theorem dX5_wants_40 : decode cX5_wants 40 = .ok (.ireturn, 1) := by decide +kernel
theorem dX5_wins_0 : decode cX5_wins 0 = .ok (.aload_n 0, 1) := by decide +kernel
theorem dX5_wins_1 : decode cX5_wins 1 = .ok (.iload_n 1, 1) := by decide +kernel
theorem dX5_wins_2 : decode cX5_wins 2 = .ok (.iconst 3, 1) := by decide +kernel
theorem dX5_wins_3 : decode cX5_wins 3 = .ok (.invokevirtual 100, 3) := by decide +kernel
theorem dX5_wins_6 : decode cX5_wins 6 = .ok (.istore 4, 2) := by decide +kernel
theorem dX5_wins_8 : decode cX5_wins 8 = .ok (.aload_n 0, 1) := by decide +kernel
theorem dX5_wins_9 : decode cX5_wins 9 = .ok (.iload_n 2, 1) := by decide +kernel
theorem dX5_wins_10 : decode cX5_wins 10 = .ok (.iload_n 3, 1) := by decide +kernel
theorem dX5_wins_11 : decode cX5_wins 11 = .ok (.iload 4, 2) := by decide +kernel
theorem dX5_wins_13 : decode cX5_wins 13 = .ok (.invokevirtual 57, 3) := by decide +kernel
theorem dX5_wins_16 : decode cX5_wins 16 = .ok (.ifCond .le 7, 3) := by decide +kernel
theorem dX5_wins_19 : decode cX5_wins 19 = .ok (.iconst 1, 1) := by decide +kernel
theorem dX5_wins_20 : decode cX5_wins 20 = .ok (.goto 4, 3) := by decide +kernel
theorem dX5_wins_23 : decode cX5_wins 23 = .ok (.iconst 0, 1) := by decide +kernel
theorem dX5_wins_24 : decode cX5_wins 24 = .ok (.istore 5, 2) := by decide +kernel
theorem dX5_wins_26 : decode cX5_wins 26 = .ok (.iload 5, 2) := by decide +kernel
theorem dX5_wins_28 : decode cX5_wins 28 = .ok (.ifCond .ne 23, 3) := by decide +kernel
theorem dX5_wins_31 : decode cX5_wins 31 = .ok (.iconst 0, 1) := by decide +kernel
theorem dX5_wins_32 : decode cX5_wins 32 = .ok (.istore 4, 2) := by decide +kernel
theorem dX5_wins_34 : decode cX5_wins 34 = .ok (.aload_n 0, 1) := by decide +kernel
theorem dX5_wins_35 : decode cX5_wins 35 = .ok (.iload_n 2, 1) := by decide +kernel
theorem dX5_wins_36 : decode cX5_wins 36 = .ok (.iload_n 3, 1) := by decide +kernel
theorem dX5_wins_37 : decode cX5_wins 37 = .ok (.iload 4, 2) := by decide +kernel
theorem dX5_wins_39 : decode cX5_wins 39 = .ok (.invokevirtual 57, 3) := by decide +kernel
theorem dX5_wins_42 : decode cX5_wins 42 = .ok (.ifCond .ne 9, 3) := by decide +kernel
theorem dX5_wins_45 : decode cX5_wins 45 = .ok (.iinc 4 1, 3) := by decide +kernel
theorem dX5_wins_48 : decode cX5_wins 48 = .ok (.goto (-14), 3) := by decide +kernel
theorem dX5_wins_51 : decode cX5_wins 51 = .ok (.aload_n 0, 1) := by decide +kernel
theorem dX5_wins_52 : decode cX5_wins 52 = .ok (.iload_n 2, 1) := by decide +kernel
theorem dX5_wins_53 : decode cX5_wins 53 = .ok (.bipush 7, 2) := by decide +kernel
theorem dX5_wins_55 : decode cX5_wins 55 = .ok (.iconst 4, 1) := by decide +kernel
theorem dX5_wins_56 : decode cX5_wins 56 = .ok (.iload_n 3, 1) := by decide +kernel
theorem dX5_wins_57 : decode cX5_wins 57 = .ok (.imul, 1) := by decide +kernel
theorem dX5_wins_58 : decode cX5_wins 58 = .ok (.iadd, 1) := by decide +kernel
theorem dX5_wins_59 : decode cX5_wins 59 = .ok (.iload 4, 2) := by decide +kernel
theorem dX5_wins_61 : decode cX5_wins 61 = .ok (.iadd, 1) := by decide +kernel
theorem dX5_wins_62 : decode cX5_wins 62 = .ok (.aload_n 0, 1) := by decide +kernel
theorem dX5_wins_63 : decode cX5_wins 63 = .ok (.iload_n 2, 1) := by decide +kernel
theorem dX5_wins_64 : decode cX5_wins 64 = .ok (.iload_n 3, 1) := by decide +kernel
theorem dX5_wins_65 : decode cX5_wins 65 = .ok (.iload 4, 2) := by decide +kernel
theorem dX5_wins_67 : decode cX5_wins 67 = .ok (.invokevirtual 57, 3) := by decide +kernel
theorem dX5_wins_70 : decode cX5_wins 70 = .ok (.iconst 1, 1) := by decide +kernel
theorem dX5_wins_71 : decode cX5_wins 71 = .ok (.isub, 1) := by decide +kernel
theorem dX5_wins_72 : decode cX5_wins 72 = .ok (.invokevirtual 80, 3) := by decide +kernel
theorem dX5_wins_75 : decode cX5_wins 75 = .ok (.aload_n 0, 1) := by decide +kernel
theorem dX5_wins_76 : decode cX5_wins 76 = .ok (.iload_n 1, 1) := by decide +kernel
theorem dX5_wins_77 : decode cX5_wins 77 = .ok (.bipush 7, 2) := by decide +kernel
theorem dX5_wins_79 : decode cX5_wins 79 = .ok (.aload_n 0, 1) := by decide +kernel
theorem dX5_wins_80 : decode cX5_wins 80 = .ok (.iload_n 1, 1) := by decide +kernel
theorem dX5_wins_81 : decode cX5_wins 81 = .ok (.bipush 7, 2) := by decide +kernel
theorem dX5_wins_83 : decode cX5_wins 83 = .ok (.invokevirtual 100, 3) := by decide +kernel
theorem dX5_wins_86 : decode cX5_wins 86 = .ok (.iconst 1, 1) := by decide +kernel
theorem dX5_wins_87 : decode cX5_wins 87 = .ok (.iadd, 1) := by decide +kernel
theorem dX5_wins_88 : decode cX5_wins 88 = .ok (.invokevirtual 114, 3) := by decide +kernel
theorem dX5_wins_91 : decode cX5_wins 91 = .ok (.aload_n 0, 1) := by decide +kernel
theorem dX5_wins_92 : decode cX5_wins 92 = .ok (.getfield 7, 3) := by decide +kernel
theorem dX5_wins_95 : decode cX5_wins 95 = .ok (.bipush 10, 2) := by decide +kernel
theorem dX5_wins_97 : decode cX5_wins 97 = .ok (.iload_n 3, 1) := by decide +kernel
theorem dX5_wins_98 : decode cX5_wins 98 = .ok (.iadd, 1) := by decide +kernel
theorem dX5_wins_99 : decode cX5_wins 99 = .ok (.dup2, 1) := by decide +kernel
theorem dX5_wins_100 : decode cX5_wins 100 = .ok (.iaload, 1) := by decide +kernel
theorem dX5_wins_101 : decode cX5_wins 101 = .ok (.iconst 1, 1) := by decide +kernel
theorem dX5_wins_102 : decode cX5_wins 102 = .ok (.iadd, 1) := by decide +kernel
theorem dX5_wins_103 : decode cX5_wins 103 = .ok (.iastore, 1) := by decide +kernel
theorem dX5_wins_104 : decode cX5_wins 104 = .ok (.aload_n 0, 1) := by decide +kernel
theorem dX5_wins_105 : decode cX5_wins 105 = .ok (.iload_n 1, 1) := by decide +kernel
theorem dX5_wins_106 : decode cX5_wins 106 = .ok (.iload 5, 2) := by decide +kernel
theorem dX5_wins_108 : decode cX5_wins 108 = .ok (.ifCond .eq 8, 3) := by decide +kernel
theorem dX5_wins_111 : decode cX5_wins 111 = .ok (.bipush 30, 2) := by decide +kernel
theorem dX5_wins_113 : decode cX5_wins 113 = .ok (.goto 5, 3) := by decide +kernel
theorem dX5_wins_116 : decode cX5_wins 116 = .ok (.bipush 20, 2) := by decide +kernel
theorem dX5_wins_118 : decode cX5_wins 118 = .ok (.invokevirtual 124, 3) := by decide +kernel
theorem dX5_wins_121 : decode cX5_wins 121 = .ok (.return_, 1) := by decide +kernel
theorem dX5_playsAt_0 : decode cX5_playsAt 0 = .ok (.aload_n 0, 1) := by decide +kernel
theorem dX5_playsAt_1 : decode cX5_playsAt 1 = .ok (.iload_n 2, 1) := by decide +kernel
theorem dX5_playsAt_2 : decode cX5_playsAt 2 = .ok (.iconst 2, 1) := by decide +kernel
theorem dX5_playsAt_3 : decode cX5_playsAt 3 = .ok (.invokevirtual 49, 3) := by decide +kernel
theorem dX5_playsAt_6 : decode cX5_playsAt 6 = .ok (.istore_n 3, 1) := by decide +kernel
theorem dX5_playsAt_7 : decode cX5_playsAt 7 = .ok (.aload_n 0, 1) := by decide +kernel
theorem dX5_playsAt_8 : decode cX5_playsAt 8 = .ok (.iload_n 1, 1) := by decide +kernel
theorem dX5_playsAt_9 : decode cX5_playsAt 9 = .ok (.iconst 0, 1) := by decide +kernel
theorem dX5_playsAt_10 : decode cX5_playsAt 10 = .ok (.aload_n 0, 1) := by decide +kernel
theorem dX5_playsAt_11 : decode cX5_playsAt 11 = .ok (.iload_n 1, 1) := by decide +kernel
theorem dX5_playsAt_12 : decode cX5_playsAt 12 = .ok (.iconst 0, 1) := by decide +kernel
theorem dX5_playsAt_13 : decode cX5_playsAt 13 = .ok (.invokevirtual 100, 3) := by decide +kernel
theorem dX5_playsAt_16 : decode cX5_playsAt 16 = .ok (.iload_n 3, 1) := by decide +kernel
theorem dX5_playsAt_17 : decode cX5_playsAt 17 = .ok (.isub, 1) := by decide +kernel
theorem dX5_playsAt_18 : decode cX5_playsAt 18 = .ok (.invokevirtual 114, 3) := by decide +kernel
theorem dX5_playsAt_21 : decode cX5_playsAt 21 = .ok (.aload_n 0, 1) := by decide +kernel
theorem dX5_playsAt_22 : decode cX5_playsAt 22 = .ok (.iload_n 2, 1) := by decide +kernel
theorem dX5_playsAt_23 : decode cX5_playsAt 23 = .ok (.iconst 4, 1) := by decide +kernel
theorem dX5_playsAt_24 : decode cX5_playsAt 24 = .ok (.aload_n 0, 1) := by decide +kernel
theorem dX5_playsAt_25 : decode cX5_playsAt 25 = .ok (.iload_n 2, 1) := by decide +kernel
theorem dX5_playsAt_26 : decode cX5_playsAt 26 = .ok (.iconst 4, 1) := by decide +kernel
theorem dX5_playsAt_27 : decode cX5_playsAt 27 = .ok (.invokevirtual 49, 3) := by decide +kernel
theorem dX5_playsAt_30 : decode cX5_playsAt 30 = .ok (.iload_n 3, 1) := by decide +kernel
theorem dX5_playsAt_31 : decode cX5_playsAt 31 = .ok (.iadd, 1) := by decide +kernel
theorem dX5_playsAt_32 : decode cX5_playsAt 32 = .ok (.invokevirtual 80, 3) := by decide +kernel
theorem dX5_playsAt_35 : decode cX5_playsAt 35 = .ok (.aload_n 0, 1) := by decide +kernel
theorem dX5_playsAt_36 : decode cX5_playsAt 36 = .ok (.iload_n 2, 1) := by decide +kernel
theorem dX5_playsAt_37 : decode cX5_playsAt 37 = .ok (.iconst 5, 1) := by decide +kernel
theorem dX5_playsAt_38 : decode cX5_playsAt 38 = .ok (.aload_n 0, 1) := by decide +kernel
theorem dX5_playsAt_39 : decode cX5_playsAt 39 = .ok (.iload_n 2, 1) := by decide +kernel
theorem dX5_playsAt_40 : decode cX5_playsAt 40 = .ok (.iconst 5, 1) := by decide +kernel
theorem dX5_playsAt_41 : decode cX5_playsAt 41 = .ok (.invokevirtual 49, 3) := by decide +kernel
theorem dX5_playsAt_44 : decode cX5_playsAt 44 = .ok (.iconst 1, 1) := by decide +kernel
theorem dX5_playsAt_45 : decode cX5_playsAt 45 = .ok (.iadd, 1) := by decide +kernel
theorem dX5_playsAt_46 : decode cX5_playsAt 46 = .ok (.invokevirtual 80, 3) := by decide +kernel
theorem dX5_playsAt_49 : decode cX5_playsAt 49 = .ok (.aload_n 0, 1) := by decide +kernel
theorem dX5_playsAt_50 : decode cX5_playsAt 50 = .ok (.iload_n 1, 1) := by decide +kernel
theorem dX5_playsAt_51 : decode cX5_playsAt 51 = .ok (.bipush 6, 2) := by decide +kernel
theorem dX5_playsAt_53 : decode cX5_playsAt 53 = .ok (.aload_n 0, 1) := by decide +kernel
theorem dX5_playsAt_54 : decode cX5_playsAt 54 = .ok (.iload_n 1, 1) := by decide +kernel
theorem dX5_playsAt_55 : decode cX5_playsAt 55 = .ok (.bipush 6, 2) := by decide +kernel
theorem dX5_playsAt_57 : decode cX5_playsAt 57 = .ok (.invokevirtual 100, 3) := by decide +kernel
theorem dX5_playsAt_60 : decode cX5_playsAt 60 = .ok (.iconst 1, 1) := by decide +kernel
theorem dX5_playsAt_61 : decode cX5_playsAt 61 = .ok (.iadd, 1) := by decide +kernel
theorem dX5_playsAt_62 : decode cX5_playsAt 62 = .ok (.invokevirtual 114, 3) := by decide +kernel
theorem dX5_playsAt_65 : decode cX5_playsAt 65 = .ok (.aload_n 0, 1) := by decide +kernel
theorem dX5_playsAt_66 : decode cX5_playsAt 66 = .ok (.getfield 7, 3) := by decide +kernel
theorem dX5_playsAt_69 : decode cX5_playsAt 69 = .ok (.iconst 4, 1) := by decide +kernel
theorem dX5_playsAt_70 : decode cX5_playsAt 70 = .ok (.dup2, 1) := by decide +kernel
theorem dX5_playsAt_71 : decode cX5_playsAt 71 = .ok (.iaload, 1) := by decide +kernel
theorem dX5_playsAt_72 : decode cX5_playsAt 72 = .ok (.iload_n 3, 1) := by decide +kernel
theorem dX5_playsAt_73 : decode cX5_playsAt 73 = .ok (.iadd, 1) := by decide +kernel
theorem dX5_playsAt_74 : decode cX5_playsAt 74 = .ok (.iastore, 1) := by decide +kernel
theorem dX5_playsAt_75 : decode cX5_playsAt 75 = .ok (.aload_n 0, 1) := by decide +kernel
theorem dX5_playsAt_76 : decode cX5_playsAt 76 = .ok (.getfield 7, 3) := by decide +kernel
theorem dX5_playsAt_79 : decode cX5_playsAt 79 = .ok (.iconst 5, 1) := by decide +kernel
theorem dX5_playsAt_80 : decode cX5_playsAt 80 = .ok (.dup2, 1) := by decide +kernel
theorem dX5_playsAt_81 : decode cX5_playsAt 81 = .ok (.iaload, 1) := by decide +kernel
theorem dX5_playsAt_82 : decode cX5_playsAt 82 = .ok (.iconst 1, 1) := by decide +kernel
theorem dX5_playsAt_83 : decode cX5_playsAt 83 = .ok (.iadd, 1) := by decide +kernel
theorem dX5_playsAt_84 : decode cX5_playsAt 84 = .ok (.iastore, 1) := by decide +kernel
theorem dX5_playsAt_85 : decode cX5_playsAt 85 = .ok (.aload_n 0, 1) := by decide +kernel
theorem dX5_playsAt_86 : decode cX5_playsAt 86 = .ok (.getfield 25, 3) := by decide +kernel
theorem dX5_playsAt_89 : decode cX5_playsAt 89 = .ok (.iload_n 2, 1) := by decide +kernel
theorem dX5_playsAt_90 : decode cX5_playsAt 90 = .ok (.iconst 1, 1) := by decide +kernel
theorem dX5_playsAt_91 : decode cX5_playsAt 91 = .ok (.iastore, 1) := by decide +kernel
theorem dX5_playsAt_92 : decode cX5_playsAt 92 = .ok (.aload_n 0, 1) := by decide +kernel
theorem dX5_playsAt_93 : decode cX5_playsAt 93 = .ok (.iload_n 2, 1) := by decide +kernel
theorem dX5_playsAt_94 : decode cX5_playsAt 94 = .ok (.iconst 1, 1) := by decide +kernel
theorem dX5_playsAt_95 : decode cX5_playsAt 95 = .ok (.invokevirtual 49, 3) := by decide +kernel
theorem dX5_playsAt_98 : decode cX5_playsAt 98 = .ok (.istore 4, 2) := by decide +kernel
theorem dX5_playsAt_100 : decode cX5_playsAt 100 = .ok (.iload 4, 2) := by decide +kernel
theorem dX5_playsAt_102 : decode cX5_playsAt 102 = .ok (.iconst 4, 1) := by decide +kernel
theorem dX5_playsAt_103 : decode cX5_playsAt 103 = .ok (.if_icmp .ne 13, 3) := by decide +kernel
theorem dX5_playsAt_106 : decode cX5_playsAt 106 = .ok (.aload_n 0, 1) := by decide +kernel
theorem dX5_playsAt_107 : decode cX5_playsAt 107 = .ok (.iload_n 1, 1) := by decide +kernel
theorem dX5_playsAt_108 : decode cX5_playsAt 108 = .ok (.bipush 15, 2) := by decide +kernel
theorem dX5_playsAt_110 : decode cX5_playsAt 110 = .ok (.invokevirtual 124, 3) := by decide +kernel
theorem dX5_playsAt_113 : decode cX5_playsAt 113 = .ok (.goto 48, 3) := by decide +kernel
theorem dX5_playsAt_116 : decode cX5_playsAt 116 = .ok (.aload_n 0, 1) := by decide +kernel
theorem dX5_playsAt_117 : decode cX5_playsAt 117 = .ok (.iload_n 2, 1) := by decide +kernel
theorem dX5_playsAt_118 : decode cX5_playsAt 118 = .ok (.iconst 5, 1) := by decide +kernel
theorem dX5_playsAt_119 : decode cX5_playsAt 119 = .ok (.invokevirtual 49, 3) := by decide +kernel
theorem dX5_playsAt_122 : decode cX5_playsAt 122 = .ok (.iload 4, 2) := by decide +kernel
theorem dX5_playsAt_124 : decode cX5_playsAt 124 = .ok (.invokestatic 128, 3) := by decide +kernel
theorem dX5_playsAt_127 : decode cX5_playsAt 127 = .ok (.irem, 1) := by decide +kernel
theorem dX5_playsAt_128 : decode cX5_playsAt 128 = .ok (.ifCond .ne 26, 3) := by decide +kernel
theorem dX5_playsAt_131 : decode cX5_playsAt 131 = .ok (.aload_n 0, 1) := by decide +kernel
theorem dX5_playsAt_132 : decode cX5_playsAt 132 = .ok (.iload_n 2, 1) := by decide +kernel
theorem dX5_playsAt_133 : decode cX5_playsAt 133 = .ok (.invokevirtual 131, 3) := by decide +kernel
theorem dX5_playsAt_136 : decode cX5_playsAt 136 = .ok (.iconst (-1), 1) := by decide +kernel
theorem dX5_playsAt_137 : decode cX5_playsAt 137 = .ok (.if_icmp .eq 17, 3) := by decide +kernel
theorem dX5_playsAt_140 : decode cX5_playsAt 140 = .ok (.aload_n 0, 1) := by decide +kernel
theorem dX5_playsAt_141 : decode cX5_playsAt 141 = .ok (.iload_n 1, 1) := by decide +kernel
theorem dX5_playsAt_142 : decode cX5_playsAt 142 = .ok (.iload_n 2, 1) := by decide +kernel
theorem dX5_playsAt_143 : decode cX5_playsAt 143 = .ok (.aload_n 0, 1) := by decide +kernel
theorem dX5_playsAt_144 : decode cX5_playsAt 144 = .ok (.iload_n 2, 1) := by decide +kernel
theorem dX5_playsAt_145 : decode cX5_playsAt 145 = .ok (.invokevirtual 131, 3) := by decide +kernel
theorem dX5_playsAt_148 : decode cX5_playsAt 148 = .ok (.invokevirtual 134, 3) := by decide +kernel
theorem dX5_playsAt_151 : decode cX5_playsAt 151 = .ok (.goto 10, 3) := by decide +kernel
theorem dX5_playsAt_154 : decode cX5_playsAt 154 = .ok (.aload_n 0, 1) := by decide +kernel
theorem dX5_playsAt_155 : decode cX5_playsAt 155 = .ok (.iload_n 1, 1) := by decide +kernel
theorem dX5_playsAt_156 : decode cX5_playsAt 156 = .ok (.bipush (-8), 2) := by decide +kernel
theorem dX5_playsAt_158 : decode cX5_playsAt 158 = .ok (.invokevirtual 124, 3) := by decide +kernel
theorem dX5_playsAt_161 : decode cX5_playsAt 161 = .ok (.return_, 1) := by decide +kernel
theorem dX5_moves_0 : decode cX5_moves 0 = .ok (.aload_n 0, 1) := by decide +kernel
theorem dX5_moves_1 : decode cX5_moves 1 = .ok (.iload_n 1, 1) := by decide +kernel
theorem dX5_moves_2 : decode cX5_moves 2 = .ok (.iconst 4, 1) := by decide +kernel
theorem dX5_moves_3 : decode cX5_moves 3 = .ok (.invokevirtual 100, 3) := by decide +kernel
theorem dX5_moves_6 : decode cX5_moves 6 = .ok (.istore_n 2, 1) := by decide +kernel
theorem dX5_moves_7 : decode cX5_moves 7 = .ok (.aload_n 0, 1) := by decide +kernel
theorem dX5_moves_8 : decode cX5_moves 8 = .ok (.iload_n 1, 1) := by decide +kernel
theorem dX5_moves_9 : decode cX5_moves 9 = .ok (.bipush 6, 2) := by decide +kernel
theorem dX5_moves_11 : decode cX5_moves 11 = .ok (.iconst 0, 1) := by decide +kernel
theorem dX5_moves_12 : decode cX5_moves 12 = .ok (.invokevirtual 114, 3) := by decide +kernel
theorem dX5_moves_15 : decode cX5_moves 15 = .ok (.aload_n 0, 1) := by decide +kernel
theorem dX5_moves_16 : decode cX5_moves 16 = .ok (.iload_n 1, 1) := by decide +kernel
theorem dX5_moves_17 : decode cX5_moves 17 = .ok (.iconst 5, 1) := by decide +kernel
theorem dX5_moves_18 : decode cX5_moves 18 = .ok (.invokevirtual 100, 3) := by decide +kernel
theorem dX5_moves_21 : decode cX5_moves 21 = .ok (.ifCond .ne 52, 3) := by decide +kernel
theorem dX5_moves_24 : decode cX5_moves 24 = .ok (.iload_n 2, 1) := by decide +kernel
theorem dX5_moves_25 : decode cX5_moves 25 = .ok (.bipush 11, 2) := by decide +kernel
theorem dX5_moves_27 : decode cX5_moves 27 = .ok (.if_icmp .ne 7, 3) := by decide +kernel
theorem dX5_moves_30 : decode cX5_moves 30 = .ok (.iconst 1, 1) := by decide +kernel
theorem dX5_moves_31 : decode cX5_moves 31 = .ok (.goto 4, 3) := by decide +kernel
theorem dX5_moves_34 : decode cX5_moves 34 = .ok (.iconst 0, 1) := by decide +kernel
theorem dX5_moves_35 : decode cX5_moves 35 = .ok (.istore_n 3, 1) := by decide +kernel
theorem dX5_moves_36 : decode cX5_moves 36 = .ok (.aload_n 0, 1) := by decide +kernel
theorem dX5_moves_37 : decode cX5_moves 37 = .ok (.iload_n 1, 1) := by decide +kernel
theorem dX5_moves_38 : decode cX5_moves 38 = .ok (.iconst 5, 1) := by decide +kernel
theorem dX5_moves_39 : decode cX5_moves 39 = .ok (.iload_n 3, 1) := by decide +kernel
theorem dX5_moves_40 : decode cX5_moves 40 = .ok (.ifCond .eq 7, 3) := by decide +kernel
theorem dX5_moves_43 : decode cX5_moves 43 = .ok (.iconst 1, 1) := by decide +kernel
theorem dX5_moves_44 : decode cX5_moves 44 = .ok (.goto 4, 3) := by decide +kernel
theorem dX5_moves_47 : decode cX5_moves 47 = .ok (.iconst 0, 1) := by decide +kernel
theorem dX5_moves_48 : decode cX5_moves 48 = .ok (.invokevirtual 114, 3) := by decide +kernel
theorem dX5_moves_51 : decode cX5_moves 51 = .ok (.aload_n 0, 1) := by decide +kernel
theorem dX5_moves_52 : decode cX5_moves 52 = .ok (.iload_n 1, 1) := by decide +kernel
theorem dX5_moves_53 : decode cX5_moves 53 = .ok (.iconst 4, 1) := by decide +kernel
theorem dX5_moves_54 : decode cX5_moves 54 = .ok (.iload_n 3, 1) := by decide +kernel
theorem dX5_moves_55 : decode cX5_moves 55 = .ok (.ifCond .eq 9, 3) := by decide +kernel
theorem dX5_moves_58 : decode cX5_moves 58 = .ok (.iload_n 2, 1) := by decide +kernel
theorem dX5_moves_59 : decode cX5_moves 59 = .ok (.iconst 1, 1) := by decide +kernel
theorem dX5_moves_60 : decode cX5_moves 60 = .ok (.isub, 1) := by decide +kernel
theorem dX5_moves_61 : decode cX5_moves 61 = .ok (.goto 6, 3) := by decide +kernel
theorem dX5_moves_64 : decode cX5_moves 64 = .ok (.iload_n 2, 1) := by decide +kernel
theorem dX5_moves_65 : decode cX5_moves 65 = .ok (.iconst 1, 1) := by decide +kernel
theorem dX5_moves_66 : decode cX5_moves 66 = .ok (.iadd, 1) := by decide +kernel
theorem dX5_moves_67 : decode cX5_moves 67 = .ok (.invokevirtual 114, 3) := by decide +kernel
theorem dX5_moves_70 : decode cX5_moves 70 = .ok (.goto 24, 3) := by decide +kernel
theorem dX5_moves_73 : decode cX5_moves 73 = .ok (.iload_n 2, 1) := by decide +kernel
theorem dX5_moves_74 : decode cX5_moves 74 = .ok (.ifCond .ne 11, 3) := by decide +kernel
theorem dX5_moves_77 : decode cX5_moves 77 = .ok (.aload_n 0, 1) := by decide +kernel
theorem dX5_moves_78 : decode cX5_moves 78 = .ok (.iload_n 1, 1) := by decide +kernel
theorem dX5_moves_79 : decode cX5_moves 79 = .ok (.invokevirtual 137, 3) := by decide +kernel
theorem dX5_moves_82 : decode cX5_moves 82 = .ok (.goto 12, 3) := by decide +kernel
theorem dX5_moves_85 : decode cX5_moves 85 = .ok (.aload_n 0, 1) := by decide +kernel
theorem dX5_moves_86 : decode cX5_moves 86 = .ok (.iload_n 1, 1) := by decide +kernel
theorem dX5_moves_87 : decode cX5_moves 87 = .ok (.iconst 4, 1) := by decide +kernel
theorem dX5_moves_88 : decode cX5_moves 88 = .ok (.iload_n 2, 1) := by decide +kernel
theorem dX5_moves_89 : decode cX5_moves 89 = .ok (.iconst 1, 1) := by decide +kernel
theorem dX5_moves_90 : decode cX5_moves 90 = .ok (.isub, 1) := by decide +kernel
theorem dX5_moves_91 : decode cX5_moves 91 = .ok (.invokevirtual 114, 3) := by decide +kernel
theorem dX5_moves_94 : decode cX5_moves 94 = .ok (.return_, 1) := by decide +kernel
theorem dX5_acts_0 : decode cX5_acts 0 = .ok (.aload_n 0, 1) := by decide +kernel
theorem dX5_acts_1 : decode cX5_acts 1 = .ok (.aload_n 0, 1) := by decide +kernel
theorem dX5_acts_2 : decode cX5_acts 2 = .ok (.iload_n 1, 1) := by decide +kernel
theorem dX5_acts_3 : decode cX5_acts 3 = .ok (.iconst 4, 1) := by decide +kernel
theorem dX5_acts_4 : decode cX5_acts 4 = .ok (.invokevirtual 100, 3) := by decide +kernel
theorem dX5_acts_7 : decode cX5_acts 7 = .ok (.invokevirtual 141, 3) := by decide +kernel
theorem dX5_acts_10 : decode cX5_acts 10 = .ok (.istore_n 3, 1) := by decide +kernel
theorem dX5_acts_11 : decode cX5_acts 11 = .ok (.iload_n 3, 1) := by decide +kernel
theorem dX5_acts_12 : decode cX5_acts 12 = .ok (.iconst (-1), 1) := by decide +kernel
theorem dX5_acts_13 : decode cX5_acts 13 = .ok (.if_icmp .eq 12, 3) := by decide +kernel
theorem dX5_acts_16 : decode cX5_acts 16 = .ok (.aload_n 0, 1) := by decide +kernel
theorem dX5_acts_17 : decode cX5_acts 17 = .ok (.iload_n 3, 1) := by decide +kernel
theorem dX5_acts_18 : decode cX5_acts 18 = .ok (.iconst 3, 1) := by decide +kernel
theorem dX5_acts_19 : decode cX5_acts 19 = .ok (.invokevirtual 49, 3) := by decide +kernel
theorem dX5_acts_22 : decode cX5_acts 22 = .ok (.ifCond .ne 13, 3) := by decide +kernel
theorem dX5_acts_25 : decode cX5_acts 25 = .ok (.aload_n 0, 1) := by decide +kernel
theorem dX5_acts_26 : decode cX5_acts 26 = .ok (.iload_n 1, 1) := by decide +kernel
theorem dX5_acts_27 : decode cX5_acts 27 = .ok (.iload_n 2, 1) := by decide +kernel
theorem dX5_acts_28 : decode cX5_acts 28 = .ok (.invokestatic 67, 3) := by decide +kernel
theorem dX5_acts_31 : decode cX5_acts 31 = .ok (.ineg, 1) := by decide +kernel
theorem dX5_acts_32 : decode cX5_acts 32 = .ok (.invokevirtual 124, 3) := by decide +kernel
theorem dX5_acts_35 : decode cX5_acts 35 = .ok (.aload_n 0, 1) := by decide +kernel
theorem dX5_acts_36 : decode cX5_acts 36 = .ok (.iload_n 1, 1) := by decide +kernel
theorem dX5_acts_37 : decode cX5_acts 37 = .ok (.iconst 1, 1) := by decide +kernel
theorem dX5_acts_38 : decode cX5_acts 38 = .ok (.invokevirtual 100, 3) := by decide +kernel
theorem dX5_acts_41 : decode cX5_acts 41 = .ok (.ifCond .ne 11, 3) := by decide +kernel
theorem dX5_acts_44 : decode cX5_acts 44 = .ok (.aload_n 0, 1) := by decide +kernel
theorem dX5_acts_45 : decode cX5_acts 45 = .ok (.iload_n 1, 1) := by decide +kernel
theorem dX5_acts_46 : decode cX5_acts 46 = .ok (.invokevirtual 137, 3) := by decide +kernel
theorem dX5_acts_49 : decode cX5_acts 49 = .ok (.goto 40, 3) := by decide +kernel
theorem dX5_acts_52 : decode cX5_acts 52 = .ok (.iload_n 3, 1) := by decide +kernel
theorem dX5_acts_53 : decode cX5_acts 53 = .ok (.iconst (-1), 1) := by decide +kernel
theorem dX5_acts_54 : decode cX5_acts 54 = .ok (.if_icmp .eq 30, 3) := by decide +kernel
theorem dX5_acts_57 : decode cX5_acts 57 = .ok (.aload_n 0, 1) := by decide +kernel
theorem dX5_acts_58 : decode cX5_acts 58 = .ok (.iload_n 1, 1) := by decide +kernel
theorem dX5_acts_59 : decode cX5_acts 59 = .ok (.iload_n 3, 1) := by decide +kernel
theorem dX5_acts_60 : decode cX5_acts 60 = .ok (.invokevirtual 144, 3) := by decide +kernel
theorem dX5_acts_63 : decode cX5_acts 63 = .ok (.ifCond .eq 21, 3) := by decide +kernel
theorem dX5_acts_66 : decode cX5_acts 66 = .ok (.aload_n 0, 1) := by decide +kernel
theorem dX5_acts_67 : decode cX5_acts 67 = .ok (.getfield 25, 3) := by decide +kernel
theorem dX5_acts_70 : decode cX5_acts 70 = .ok (.iload_n 3, 1) := by decide +kernel
theorem dX5_acts_71 : decode cX5_acts 71 = .ok (.iaload, 1) := by decide +kernel
theorem dX5_acts_72 : decode cX5_acts 72 = .ok (.ifCond .ne 12, 3) := by decide +kernel
theorem dX5_acts_75 : decode cX5_acts 75 = .ok (.aload_n 0, 1) := by decide +kernel
theorem dX5_acts_76 : decode cX5_acts 76 = .ok (.iload_n 1, 1) := by decide +kernel
theorem dX5_acts_77 : decode cX5_acts 77 = .ok (.iload_n 3, 1) := by decide +kernel
theorem dX5_acts_78 : decode cX5_acts 78 = .ok (.invokevirtual 147, 3) := by decide +kernel
theorem dX5_acts_81 : decode cX5_acts 81 = .ok (.goto 8, 3) := by decide +kernel
theorem dX5_acts_84 : decode cX5_acts 84 = .ok (.aload_n 0, 1) := by decide +kernel
theorem dX5_acts_85 : decode cX5_acts 85 = .ok (.iload_n 1, 1) := by decide +kernel
theorem dX5_acts_86 : decode cX5_acts 86 = .ok (.invokevirtual 150, 3) := by decide +kernel
theorem dX5_acts_89 : decode cX5_acts 89 = .ok (.return_, 1) := by decide +kernel
theorem dX5_endsDay_0 : decode cX5_endsDay 0 = .ok (.iconst 0, 1) := by decide +kernel
theorem dX5_endsDay_1 : decode cX5_endsDay 1 = .ok (.istore_n 1, 1) := by decide +kernel
theorem dX5_endsDay_2 : decode cX5_endsDay 2 = .ok (.iload_n 1, 1) := by decide +kernel
theorem dX5_endsDay_3 : decode cX5_endsDay 3 = .ok (.aload_n 0, 1) := by decide +kernel
theorem dX5_endsDay_4 : decode cX5_endsDay 4 = .ok (.getfield 7, 3) := by decide +kernel
theorem dX5_endsDay_7 : decode cX5_endsDay 7 = .ok (.bipush 9, 2) := by decide +kernel
theorem dX5_endsDay_9 : decode cX5_endsDay 9 = .ok (.iaload, 1) := by decide +kernel
theorem dX5_endsDay_10 : decode cX5_endsDay 10 = .ok (.if_icmp .ge 14, 3) := by decide +kernel
theorem dX5_endsDay_13 : decode cX5_endsDay 13 = .ok (.aload_n 0, 1) := by decide +kernel
theorem dX5_endsDay_14 : decode cX5_endsDay 14 = .ok (.iload_n 1, 1) := by decide +kernel
theorem dX5_endsDay_15 : decode cX5_endsDay 15 = .ok (.invokevirtual 137, 3) := by decide +kernel
theorem dX5_endsDay_18 : decode cX5_endsDay 18 = .ok (.iinc 1 1, 3) := by decide +kernel
theorem dX5_endsDay_21 : decode cX5_endsDay 21 = .ok (.goto (-19), 3) := by decide +kernel
theorem dX5_endsDay_24 : decode cX5_endsDay 24 = .ok (.iconst 0, 1) := by decide +kernel
theorem dX5_endsDay_25 : decode cX5_endsDay 25 = .ok (.istore_n 1, 1) := by decide +kernel
theorem dX5_endsDay_26 : decode cX5_endsDay 26 = .ok (.iload_n 1, 1) := by decide +kernel
theorem dX5_endsDay_27 : decode cX5_endsDay 27 = .ok (.aload_n 0, 1) := by decide +kernel
theorem dX5_endsDay_28 : decode cX5_endsDay 28 = .ok (.getfield 7, 3) := by decide +kernel
theorem dX5_endsDay_31 : decode cX5_endsDay 31 = .ok (.bipush 8, 2) := by decide +kernel
theorem dX5_endsDay_33 : decode cX5_endsDay 33 = .ok (.iaload, 1) := by decide +kernel
theorem dX5_endsDay_34 : decode cX5_endsDay 34 = .ok (.if_icmp .ge 92, 3) := by decide +kernel
theorem dX5_endsDay_37 : decode cX5_endsDay 37 = .ok (.aload_n 0, 1) := by decide +kernel
theorem dX5_endsDay_38 : decode cX5_endsDay 38 = .ok (.iload_n 1, 1) := by decide +kernel
theorem dX5_endsDay_39 : decode cX5_endsDay 39 = .ok (.bipush 6, 2) := by decide +kernel
theorem dX5_endsDay_41 : decode cX5_endsDay 41 = .ok (.invokevirtual 49, 3) := by decide +kernel
theorem dX5_endsDay_44 : decode cX5_endsDay 44 = .ok (.iconst 1, 1) := by decide +kernel
theorem dX5_endsDay_45 : decode cX5_endsDay 45 = .ok (.if_icmp .ne 75, 3) := by decide +kernel
theorem dX5_endsDay_48 : decode cX5_endsDay 48 = .ok (.aload_n 0, 1) := by decide +kernel
theorem dX5_endsDay_49 : decode cX5_endsDay 49 = .ok (.iload_n 1, 1) := by decide +kernel
theorem dX5_endsDay_50 : decode cX5_endsDay 50 = .ok (.iconst 0, 1) := by decide +kernel
theorem dX5_endsDay_51 : decode cX5_endsDay 51 = .ok (.invokevirtual 49, 3) := by decide +kernel
theorem dX5_endsDay_54 : decode cX5_endsDay 54 = .ok (.invokestatic 153, 3) := by decide +kernel
theorem dX5_endsDay_57 : decode cX5_endsDay 57 = .ok (.istore_n 2, 1) := by decide +kernel
theorem dX5_endsDay_58 : decode cX5_endsDay 58 = .ok (.aload_n 0, 1) := by decide +kernel
theorem dX5_endsDay_59 : decode cX5_endsDay 59 = .ok (.iload_n 1, 1) := by decide +kernel
theorem dX5_endsDay_60 : decode cX5_endsDay 60 = .ok (.iconst 4, 1) := by decide +kernel
theorem dX5_endsDay_61 : decode cX5_endsDay 61 = .ok (.invokevirtual 49, 3) := by decide +kernel
theorem dX5_endsDay_64 : decode cX5_endsDay 64 = .ok (.iload_n 2, 1) := by decide +kernel
theorem dX5_endsDay_65 : decode cX5_endsDay 65 = .ok (.if_icmp .ge 12, 3) := by decide +kernel
theorem dX5_endsDay_68 : decode cX5_endsDay 68 = .ok (.aload_n 0, 1) := by decide +kernel
theorem dX5_endsDay_69 : decode cX5_endsDay 69 = .ok (.iload_n 1, 1) := by decide +kernel
theorem dX5_endsDay_70 : decode cX5_endsDay 70 = .ok (.iconst 4, 1) := by decide +kernel
theorem dX5_endsDay_71 : decode cX5_endsDay 71 = .ok (.invokevirtual 49, 3) := by decide +kernel
theorem dX5_endsDay_74 : decode cX5_endsDay 74 = .ok (.goto 4, 3) := by decide +kernel
theorem dX5_endsDay_77 : decode cX5_endsDay 77 = .ok (.iload_n 2, 1) := by decide +kernel
theorem dX5_endsDay_78 : decode cX5_endsDay 78 = .ok (.istore_n 3, 1) := by decide +kernel
theorem dX5_endsDay_79 : decode cX5_endsDay 79 = .ok (.aload_n 0, 1) := by decide +kernel
theorem dX5_endsDay_80 : decode cX5_endsDay 80 = .ok (.iload_n 1, 1) := by decide +kernel
theorem dX5_endsDay_81 : decode cX5_endsDay 81 = .ok (.iconst 4, 1) := by decide +kernel
theorem dX5_endsDay_82 : decode cX5_endsDay 82 = .ok (.aload_n 0, 1) := by decide +kernel
theorem dX5_endsDay_83 : decode cX5_endsDay 83 = .ok (.iload_n 1, 1) := by decide +kernel
theorem dX5_endsDay_84 : decode cX5_endsDay 84 = .ok (.iconst 4, 1) := by decide +kernel
theorem dX5_endsDay_85 : decode cX5_endsDay 85 = .ok (.invokevirtual 49, 3) := by decide +kernel
theorem dX5_endsDay_88 : decode cX5_endsDay 88 = .ok (.iload_n 3, 1) := by decide +kernel
theorem dX5_endsDay_89 : decode cX5_endsDay 89 = .ok (.isub, 1) := by decide +kernel
theorem dX5_endsDay_90 : decode cX5_endsDay 90 = .ok (.invokevirtual 80, 3) := by decide +kernel
theorem dX5_endsDay_93 : decode cX5_endsDay 93 = .ok (.aload_n 0, 1) := by decide +kernel
theorem dX5_endsDay_94 : decode cX5_endsDay 94 = .ok (.iload_n 1, 1) := by decide +kernel
theorem dX5_endsDay_95 : decode cX5_endsDay 95 = .ok (.bipush 6, 2) := by decide +kernel
theorem dX5_endsDay_97 : decode cX5_endsDay 97 = .ok (.iload_n 3, 1) := by decide +kernel
theorem dX5_endsDay_98 : decode cX5_endsDay 98 = .ok (.iload_n 2, 1) := by decide +kernel
theorem dX5_endsDay_99 : decode cX5_endsDay 99 = .ok (.if_icmp .ne 7, 3) := by decide +kernel
theorem dX5_endsDay_102 : decode cX5_endsDay 102 = .ok (.iconst 1, 1) := by decide +kernel
theorem dX5_endsDay_103 : decode cX5_endsDay 103 = .ok (.goto 4, 3) := by decide +kernel
theorem dX5_endsDay_106 : decode cX5_endsDay 106 = .ok (.iconst 0, 1) := by decide +kernel
theorem dX5_endsDay_107 : decode cX5_endsDay 107 = .ok (.invokevirtual 80, 3) := by decide +kernel
theorem dX5_endsDay_110 : decode cX5_endsDay 110 = .ok (.aload_n 0, 1) := by decide +kernel
theorem dX5_endsDay_111 : decode cX5_endsDay 111 = .ok (.getfield 7, 3) := by decide +kernel
theorem dX5_endsDay_114 : decode cX5_endsDay 114 = .ok (.iconst 1, 1) := by decide +kernel
theorem dX5_endsDay_115 : decode cX5_endsDay 115 = .ok (.dup2, 1) := by decide +kernel
theorem dX5_endsDay_116 : decode cX5_endsDay 116 = .ok (.iaload, 1) := by decide +kernel
theorem dX5_endsDay_117 : decode cX5_endsDay 117 = .ok (.iload_n 3, 1) := by decide +kernel
theorem dX5_endsDay_118 : decode cX5_endsDay 118 = .ok (.iadd, 1) := by decide +kernel
theorem dX5_endsDay_119 : decode cX5_endsDay 119 = .ok (.iastore, 1) := by decide +kernel
theorem dX5_endsDay_120 : decode cX5_endsDay 120 = .ok (.iinc 1 1, 3) := by decide +kernel
theorem dX5_endsDay_123 : decode cX5_endsDay 123 = .ok (.goto (-97), 3) := by decide +kernel
theorem dX5_endsDay_126 : decode cX5_endsDay 126 = .ok (.aload_n 0, 1) := by decide +kernel
theorem dX5_endsDay_127 : decode cX5_endsDay 127 = .ok (.getfield 7, 3) := by decide +kernel
theorem dX5_endsDay_130 : decode cX5_endsDay 130 = .ok (.bipush 6, 2) := by decide +kernel
theorem dX5_endsDay_132 : decode cX5_endsDay 132 = .ok (.dup2, 1) := by decide +kernel
theorem dX5_endsDay_133 : decode cX5_endsDay 133 = .ok (.iaload, 1) := by decide +kernel
theorem dX5_endsDay_134 : decode cX5_endsDay 134 = .ok (.iconst 1, 1) := by decide +kernel
theorem dX5_endsDay_135 : decode cX5_endsDay 135 = .ok (.iadd, 1) := by decide +kernel
theorem dX5_endsDay_136 : decode cX5_endsDay 136 = .ok (.iastore, 1) := by decide +kernel
theorem dX5_endsDay_137 : decode cX5_endsDay 137 = .ok (.aload_n 0, 1) := by decide +kernel
theorem dX5_endsDay_138 : decode cX5_endsDay 138 = .ok (.getfield 7, 3) := by decide +kernel
theorem dX5_endsDay_141 : decode cX5_endsDay 141 = .ok (.bipush 7, 2) := by decide +kernel
theorem dX5_endsDay_143 : decode cX5_endsDay 143 = .ok (.iconst 0, 1) := by decide +kernel
theorem dX5_endsDay_144 : decode cX5_endsDay 144 = .ok (.iastore, 1) := by decide +kernel
theorem dX5_endsDay_145 : decode cX5_endsDay 145 = .ok (.return_, 1) := by decide +kernel
theorem dX5_passesRound_0 : decode cX5_passesRound 0 = .ok (.aload_n 0, 1) := by decide +kernel
theorem dX5_passesRound_1 : decode cX5_passesRound 1 = .ok (.aload_n 0, 1) := by decide +kernel
theorem dX5_passesRound_2 : decode cX5_passesRound 2 = .ok (.getfield 7, 3) := by decide +kernel
theorem dX5_passesRound_5 : decode cX5_passesRound 5 = .ok (.bipush 7, 2) := by decide +kernel
theorem dX5_passesRound_7 : decode cX5_passesRound 7 = .ok (.iaload, 1) := by decide +kernel
theorem dX5_passesRound_8 : decode cX5_passesRound 8 = .ok (.iconst 4, 1) := by decide +kernel
theorem dX5_passesRound_9 : decode cX5_passesRound 9 = .ok (.idiv, 1) := by decide +kernel
theorem dX5_passesRound_10 : decode cX5_passesRound 10 = .ok (.invokevirtual 117, 3) := by decide +kernel
theorem dX5_passesRound_13 : decode cX5_passesRound 13 = .ok (.istore_n 1, 1) := by decide +kernel
theorem dX5_passesRound_14 : decode cX5_passesRound 14 = .ok (.aload_n 0, 1) := by decide +kernel
theorem dX5_passesRound_15 : decode cX5_passesRound 15 = .ok (.invokevirtual 156, 3) := by decide +kernel
theorem dX5_passesRound_18 : decode cX5_passesRound 18 = .ok (.ifCond .eq 31, 3) := by decide +kernel
theorem dX5_passesRound_21 : decode cX5_passesRound 21 = .ok (.aload_n 0, 1) := by decide +kernel
theorem dX5_passesRound_22 : decode cX5_passesRound 22 = .ok (.getfield 7, 3) := by decide +kernel
theorem dX5_passesRound_25 : decode cX5_passesRound 25 = .ok (.bipush 9, 2) := by decide +kernel
theorem dX5_passesRound_27 : decode cX5_passesRound 27 = .ok (.iaload, 1) := by decide +kernel
theorem dX5_passesRound_28 : decode cX5_passesRound 28 = .ok (.istore_n 2, 1) := by decide +kernel
theorem dX5_passesRound_29 : decode cX5_passesRound 29 = .ok (.aload_n 0, 1) := by decide +kernel
theorem dX5_passesRound_30 : decode cX5_passesRound 30 = .ok (.iconst 5, 1) := by decide +kernel
