theorem dX5_carryOut_47 : decode cX5_carryOut 47 = .ok (.iconst 1, 1) := by decide +kernel
theorem dX5_carryOut_48 : decode cX5_carryOut 48 = .ok (.invokevirtual 245, 3) := by decide +kernel
theorem dX5_carryOut_51 : decode cX5_carryOut 51 = .ok (.ireturn, 1) := by decide +kernel
theorem dX5_carryOut_52 : decode cX5_carryOut 52 = .ok (.aload_n 0, 1) := by decide +kernel
theorem dX5_carryOut_53 : decode cX5_carryOut 53 = .ok (.aload_n 0, 1) := by decide +kernel
theorem dX5_carryOut_54 : decode cX5_carryOut 54 = .ok (.getfield 22, 3) := by decide +kernel
theorem dX5_carryOut_57 : decode cX5_carryOut 57 = .ok (.invokevirtual 174, 3) := by decide +kernel
theorem dX5_carryOut_60 : decode cX5_carryOut 60 = .ok (.aload_n 0, 1) := by decide +kernel
theorem dX5_carryOut_61 : decode cX5_carryOut 61 = .ok (.getfield 215, 3) := by decide +kernel
theorem dX5_carryOut_64 : decode cX5_carryOut 64 = .ok (.ireturn, 1) := by decide +kernel
theorem dX5_undo_0 : decode cX5_undo 0 = .ok (.aload_n 0, 1) := by decide +kernel
theorem dX5_undo_1 : decode cX5_undo 1 = .ok (.aload_n 0, 1) := by decide +kernel
theorem dX5_undo_2 : decode cX5_undo 2 = .ok (.getfield 38, 3) := by decide +kernel
theorem dX5_undo_5 : decode cX5_undo 5 = .ok (.ifCond .ne 7, 3) := by decide +kernel
theorem dX5_undo_8 : decode cX5_undo 8 = .ok (.iconst 1, 1) := by decide +kernel
theorem dX5_undo_9 : decode cX5_undo 9 = .ok (.goto 4, 3) := by decide +kernel
theorem dX5_undo_12 : decode cX5_undo 12 = .ok (.iconst 0, 1) := by decide +kernel
theorem dX5_undo_13 : decode cX5_undo 13 = .ok (.putfield 34, 3) := by decide +kernel
theorem dX5_undo_16 : decode cX5_undo 16 = .ok (.aload_n 0, 1) := by decide +kernel
theorem dX5_undo_17 : decode cX5_undo 17 = .ok (.getfield 34, 3) := by decide +kernel
theorem dX5_undo_20 : decode cX5_undo 20 = .ok (.ifCond .le 5, 3) := by decide +kernel
theorem dX5_undo_23 : decode cX5_undo 23 = .ok (.iconst 0, 1) := by decide +kernel
theorem dX5_undo_24 : decode cX5_undo 24 = .ok (.ireturn, 1) := by decide +kernel
theorem dX5_undo_25 : decode cX5_undo 25 = .ok (.aload_n 0, 1) := by decide +kernel
theorem dX5_undo_26 : decode cX5_undo 26 = .ok (.dup, 1) := by decide +kernel
theorem dX5_undo_27 : decode cX5_undo 27 = .ok (.getfield 38, 3) := by decide +kernel
theorem dX5_undo_30 : decode cX5_undo 30 = .ok (.iconst 1, 1) := by decide +kernel
theorem dX5_undo_31 : decode cX5_undo 31 = .ok (.isub, 1) := by decide +kernel
theorem dX5_undo_32 : decode cX5_undo 32 = .ok (.putfield 38, 3) := by decide +kernel
theorem dX5_undo_35 : decode cX5_undo 35 = .ok (.aload_n 0, 1) := by decide +kernel
theorem dX5_undo_36 : decode cX5_undo 36 = .ok (.getfield 13, 3) := by decide +kernel
theorem dX5_undo_39 : decode cX5_undo 39 = .ok (.sipush 1785, 3) := by decide +kernel
theorem dX5_undo_42 : decode cX5_undo 42 = .ok (.aload_n 0, 1) := by decide +kernel
theorem dX5_undo_43 : decode cX5_undo 43 = .ok (.getfield 38, 3) := by decide +kernel
theorem dX5_undo_46 : decode cX5_undo 46 = .ok (.imul, 1) := by decide +kernel
theorem dX5_undo_47 : decode cX5_undo 47 = .ok (.aload_n 0, 1) := by decide +kernel
theorem dX5_undo_48 : decode cX5_undo 48 = .ok (.getfield 7, 3) := by decide +kernel
theorem dX5_undo_51 : decode cX5_undo 51 = .ok (.iconst 0, 1) := by decide +kernel
theorem dX5_undo_52 : decode cX5_undo 52 = .ok (.invokestatic 41, 3) := by decide +kernel
theorem dX5_undo_55 : decode cX5_undo 55 = .ok (.aload_n 0, 1) := by decide +kernel
theorem dX5_undo_56 : decode cX5_undo 56 = .ok (.getfield 38, 3) := by decide +kernel
theorem dX5_undo_59 : decode cX5_undo 59 = .ok (.ireturn, 1) := by decide +kernel
theorem dX5_takeSnapshot_0 : decode cX5_takeSnapshot 0 = .ok (.aload_n 0, 1) := by decide +kernel
theorem dX5_takeSnapshot_1 : decode cX5_takeSnapshot 1 = .ok (.iconst 0, 1) := by decide +kernel
theorem dX5_takeSnapshot_2 : decode cX5_takeSnapshot 2 = .ok (.putfield 34, 3) := by decide +kernel
theorem dX5_takeSnapshot_5 : decode cX5_takeSnapshot 5 = .ok (.aload_n 0, 1) := by decide +kernel
theorem dX5_takeSnapshot_6 : decode cX5_takeSnapshot 6 = .ok (.getfield 7, 3) := by decide +kernel
theorem dX5_takeSnapshot_9 : decode cX5_takeSnapshot 9 = .ok (.iconst 0, 1) := by decide +kernel
theorem dX5_takeSnapshot_10 : decode cX5_takeSnapshot 10 = .ok (.aload_n 0, 1) := by decide +kernel
theorem dX5_takeSnapshot_11 : decode cX5_takeSnapshot 11 = .ok (.getfield 16, 3) := by decide +kernel
theorem dX5_takeSnapshot_14 : decode cX5_takeSnapshot 14 = .ok (.iconst 0, 1) := by decide +kernel
theorem dX5_takeSnapshot_15 : decode cX5_takeSnapshot 15 = .ok (.invokestatic 41, 3) := by decide +kernel
theorem dX5_takeSnapshot_18 : decode cX5_takeSnapshot 18 = .ok (.aload_n 0, 1) := by decide +kernel
theorem dX5_takeSnapshot_19 : decode cX5_takeSnapshot 19 = .ok (.iconst 1, 1) := by decide +kernel
theorem dX5_takeSnapshot_20 : decode cX5_takeSnapshot 20 = .ok (.putfield 248, 3) := by decide +kernel
theorem dX5_takeSnapshot_23 : decode cX5_takeSnapshot 23 = .ok (.aload_n 0, 1) := by decide +kernel
theorem dX5_takeSnapshot_24 : decode cX5_takeSnapshot 24 = .ok (.getfield 7, 3) := by decide +kernel
theorem dX5_takeSnapshot_27 : decode cX5_takeSnapshot 27 = .ok (.iconst 0, 1) := by decide +kernel
theorem dX5_takeSnapshot_28 : decode cX5_takeSnapshot 28 = .ok (.iaload, 1) := by decide +kernel
theorem dX5_takeSnapshot_29 : decode cX5_takeSnapshot 29 = .ok (.ireturn, 1) := by decide +kernel
theorem dX5_restoreSnapshot_0 : decode cX5_restoreSnapshot 0 = .ok (.aload_n 0, 1) := by decide +kernel
theorem dX5_restoreSnapshot_1 : decode cX5_restoreSnapshot 1 = .ok (.aload_n 0, 1) := by decide +kernel
theorem dX5_restoreSnapshot_2 : decode cX5_restoreSnapshot 2 = .ok (.getfield 248, 3) := by decide +kernel
theorem dX5_restoreSnapshot_5 : decode cX5_restoreSnapshot 5 = .ok (.ifCond .ne 7, 3) := by decide +kernel
theorem dX5_restoreSnapshot_8 : decode cX5_restoreSnapshot 8 = .ok (.iconst 1, 1) := by decide +kernel
theorem dX5_restoreSnapshot_9 : decode cX5_restoreSnapshot 9 = .ok (.goto 4, 3) := by decide +kernel
theorem dX5_restoreSnapshot_12 : decode cX5_restoreSnapshot 12 = .ok (.iconst 0, 1) := by decide +kernel
theorem dX5_restoreSnapshot_13 : decode cX5_restoreSnapshot 13 = .ok (.putfield 34, 3) := by decide +kernel
theorem dX5_restoreSnapshot_16 : decode cX5_restoreSnapshot 16 = .ok (.aload_n 0, 1) := by decide +kernel
theorem dX5_restoreSnapshot_17 : decode cX5_restoreSnapshot 17 = .ok (.getfield 34, 3) := by decide +kernel
theorem dX5_restoreSnapshot_20 : decode cX5_restoreSnapshot 20 = .ok (.ifCond .le 5, 3) := by decide +kernel
theorem dX5_restoreSnapshot_23 : decode cX5_restoreSnapshot 23 = .ok (.iconst 0, 1) := by decide +kernel
theorem dX5_restoreSnapshot_24 : decode cX5_restoreSnapshot 24 = .ok (.ireturn, 1) := by decide +kernel
theorem dX5_restoreSnapshot_25 : decode cX5_restoreSnapshot 25 = .ok (.aload_n 0, 1) := by decide +kernel
theorem dX5_restoreSnapshot_26 : decode cX5_restoreSnapshot 26 = .ok (.aload_n 0, 1) := by decide +kernel
theorem dX5_restoreSnapshot_27 : decode cX5_restoreSnapshot 27 = .ok (.getfield 7, 3) := by decide +kernel
theorem dX5_restoreSnapshot_30 : decode cX5_restoreSnapshot 30 = .ok (.invokevirtual 174, 3) := by decide +kernel
theorem dX5_restoreSnapshot_33 : decode cX5_restoreSnapshot 33 = .ok (.aload_n 0, 1) := by decide +kernel
theorem dX5_restoreSnapshot_34 : decode cX5_restoreSnapshot 34 = .ok (.getfield 16, 3) := by decide +kernel
theorem dX5_restoreSnapshot_37 : decode cX5_restoreSnapshot 37 = .ok (.iconst 0, 1) := by decide +kernel
theorem dX5_restoreSnapshot_38 : decode cX5_restoreSnapshot 38 = .ok (.aload_n 0, 1) := by decide +kernel
theorem dX5_restoreSnapshot_39 : decode cX5_restoreSnapshot 39 = .ok (.getfield 7, 3) := by decide +kernel
theorem dX5_restoreSnapshot_42 : decode cX5_restoreSnapshot 42 = .ok (.iconst 0, 1) := by decide +kernel
theorem dX5_restoreSnapshot_43 : decode cX5_restoreSnapshot 43 = .ok (.invokestatic 41, 3) := by decide +kernel
theorem dX5_restoreSnapshot_46 : decode cX5_restoreSnapshot 46 = .ok (.aload_n 0, 1) := by decide +kernel
theorem dX5_restoreSnapshot_47 : decode cX5_restoreSnapshot 47 = .ok (.getfield 7, 3) := by decide +kernel
theorem dX5_restoreSnapshot_50 : decode cX5_restoreSnapshot 50 = .ok (.iconst 0, 1) := by decide +kernel
theorem dX5_restoreSnapshot_51 : decode cX5_restoreSnapshot 51 = .ok (.iaload, 1) := by decide +kernel
theorem dX5_restoreSnapshot_52 : decode cX5_restoreSnapshot 52 = .ok (.ireturn, 1) := by decide +kernel
theorem dX5_count_0 : decode cX5_count 0 = .ok (.aload_n 0, 1) := by decide +kernel
theorem dX5_count_1 : decode cX5_count 1 = .ok (.iconst 0, 1) := by decide +kernel
theorem dX5_count_2 : decode cX5_count 2 = .ok (.putfield 34, 3) := by decide +kernel
theorem dX5_count_5 : decode cX5_count 5 = .ok (.aload_n 0, 1) := by decide +kernel
theorem dX5_count_6 : decode cX5_count 6 = .ok (.getfield 7, 3) := by decide +kernel
theorem dX5_count_9 : decode cX5_count 9 = .ok (.iload_n 1, 1) := by decide +kernel
theorem dX5_count_10 : decode cX5_count 10 = .ok (.iaload, 1) := by decide +kernel
theorem dX5_count_11 : decode cX5_count 11 = .ok (.ireturn, 1) := by decide +kernel
theorem dX5_stalls_0 : decode cX5_stalls 0 = .ok (.aload_n 0, 1) := by decide +kernel
theorem dX5_stalls_1 : decode cX5_stalls 1 = .ok (.bipush 8, 2) := by decide +kernel
theorem dX5_stalls_3 : decode cX5_stalls 3 = .ok (.invokevirtual 251, 3) := by decide +kernel
theorem dX5_stalls_6 : decode cX5_stalls 6 = .ok (.ireturn, 1) := by decide +kernel
theorem dX5_tells_0 : decode cX5_tells 0 = .ok (.aload_n 0, 1) := by decide +kernel
theorem dX5_tells_1 : decode cX5_tells 1 = .ok (.aload_n 0, 1) := by decide +kernel
theorem dX5_tells_2 : decode cX5_tells 2 = .ok (.iload_n 1, 1) := by decide +kernel
theorem dX5_tells_3 : decode cX5_tells 3 = .ok (.invokevirtual 88, 3) := by decide +kernel
theorem dX5_tells_6 : decode cX5_tells 6 = .ok (.ifCond .eq 7, 3) := by decide +kernel
theorem dX5_tells_9 : decode cX5_tells 9 = .ok (.iconst 0, 1) := by decide +kernel
theorem dX5_tells_10 : decode cX5_tells 10 = .ok (.goto 4, 3) := by decide +kernel
theorem dX5_tells_13 : decode cX5_tells 13 = .ok (.iconst 1, 1) := by decide +kernel
theorem dX5_tells_14 : decode cX5_tells 14 = .ok (.putfield 34, 3) := by decide +kernel
theorem dX5_tells_17 : decode cX5_tells 17 = .ok (.aload_n 0, 1) := by decide +kernel
theorem dX5_tells_18 : decode cX5_tells 18 = .ok (.getfield 34, 3) := by decide +kernel
theorem dX5_tells_21 : decode cX5_tells 21 = .ok (.ifCond .le 7, 3) := by decide +kernel
theorem dX5_tells_24 : decode cX5_tells 24 = .ok (.iconst 0, 1) := by decide +kernel
theorem dX5_tells_25 : decode cX5_tells 25 = .ok (.goto 9, 3) := by decide +kernel
theorem dX5_tells_28 : decode cX5_tells 28 = .ok (.aload_n 0, 1) := by decide +kernel
theorem dX5_tells_29 : decode cX5_tells 29 = .ok (.iload_n 1, 1) := by decide +kernel
theorem dX5_tells_30 : decode cX5_tells 30 = .ok (.iload_n 2, 1) := by decide +kernel
theorem dX5_tells_31 : decode cX5_tells 31 = .ok (.invokevirtual 49, 3) := by decide +kernel
theorem dX5_tells_34 : decode cX5_tells 34 = .ok (.ireturn, 1) := by decide +kernel
theorem dX5_pitchOf_0 : decode cX5_pitchOf 0 = .ok (.aload_n 0, 1) := by decide +kernel
theorem dX5_pitchOf_1 : decode cX5_pitchOf 1 = .ok (.iload_n 1, 1) := by decide +kernel
theorem dX5_pitchOf_2 : decode cX5_pitchOf 2 = .ok (.iconst 0, 1) := by decide +kernel
theorem dX5_pitchOf_3 : decode cX5_pitchOf 3 = .ok (.invokevirtual 254, 3) := by decide +kernel
theorem dX5_pitchOf_6 : decode cX5_pitchOf 6 = .ok (.ireturn, 1) := by decide +kernel
theorem dX5_stallOn_0 : decode cX5_stallOn 0 = .ok (.aload_n 0, 1) := by decide +kernel
theorem dX5_stallOn_1 : decode cX5_stallOn 1 = .ok (.iload_n 1, 1) := by decide +kernel
theorem dX5_stallOn_2 : decode cX5_stallOn 2 = .ok (.invokestatic 70, 3) := by decide +kernel
theorem dX5_stallOn_5 : decode cX5_stallOn 5 = .ok (.ifCond .eq 7, 3) := by decide +kernel
theorem dX5_stallOn_8 : decode cX5_stallOn 8 = .ok (.iconst 0, 1) := by decide +kernel
theorem dX5_stallOn_9 : decode cX5_stallOn 9 = .ok (.goto 4, 3) := by decide +kernel
theorem dX5_stallOn_12 : decode cX5_stallOn 12 = .ok (.iconst 1, 1) := by decide +kernel
theorem dX5_stallOn_13 : decode cX5_stallOn 13 = .ok (.putfield 34, 3) := by decide +kernel
theorem dX5_stallOn_16 : decode cX5_stallOn 16 = .ok (.aload_n 0, 1) := by decide +kernel
theorem dX5_stallOn_17 : decode cX5_stallOn 17 = .ok (.getfield 34, 3) := by decide +kernel
theorem dX5_stallOn_20 : decode cX5_stallOn 20 = .ok (.ifCond .le 7, 3) := by decide +kernel
theorem dX5_stallOn_23 : decode cX5_stallOn 23 = .ok (.iconst 0, 1) := by decide +kernel
theorem dX5_stallOn_24 : decode cX5_stallOn 24 = .ok (.goto 8, 3) := by decide +kernel
theorem dX5_stallOn_27 : decode cX5_stallOn 27 = .ok (.aload_n 0, 1) := by decide +kernel
theorem dX5_stallOn_28 : decode cX5_stallOn 28 = .ok (.iload_n 1, 1) := by decide +kernel
theorem dX5_stallOn_29 : decode cX5_stallOn 29 = .ok (.invokevirtual 53, 3) := by decide +kernel
theorem dX5_stallOn_32 : decode cX5_stallOn 32 = .ok (.ireturn, 1) := by decide +kernel
theorem dX5_priceOf_0 : decode cX5_priceOf 0 = .ok (.aload_n 0, 1) := by decide +kernel
theorem dX5_priceOf_1 : decode cX5_priceOf 1 = .ok (.iload_n 1, 1) := by decide +kernel
theorem dX5_priceOf_2 : decode cX5_priceOf 2 = .ok (.iconst 2, 1) := by decide +kernel
theorem dX5_priceOf_3 : decode cX5_priceOf 3 = .ok (.invokevirtual 254, 3) := by decide +kernel
theorem dX5_priceOf_6 : decode cX5_priceOf 6 = .ok (.ireturn, 1) := by decide +kernel
theorem dX5_isOpen_0 : decode cX5_isOpen 0 = .ok (.aload_n 0, 1) := by decide +kernel
theorem dX5_isOpen_1 : decode cX5_isOpen 1 = .ok (.iload_n 1, 1) := by decide +kernel
theorem dX5_isOpen_2 : decode cX5_isOpen 2 = .ok (.bipush 6, 2) := by decide +kernel
theorem dX5_isOpen_4 : decode cX5_isOpen 4 = .ok (.invokevirtual 254, 3) := by decide +kernel
theorem dX5_isOpen_7 : decode cX5_isOpen 7 = .ok (.iconst 1, 1) := by decide +kernel
theorem dX5_isOpen_8 : decode cX5_isOpen 8 = .ok (.if_icmp .ne 7, 3) := by decide +kernel
theorem dX5_isOpen_11 : decode cX5_isOpen 11 = .ok (.iconst 1, 1) := by decide +kernel
theorem dX5_isOpen_12 : decode cX5_isOpen 12 = .ok (.goto 4, 3) := by decide +kernel
theorem dX5_isOpen_15 : decode cX5_isOpen 15 = .ok (.iconst 0, 1) := by decide +kernel
theorem dX5_isOpen_16 : decode cX5_isOpen 16 = .ok (.ireturn, 1) := by decide +kernel
theorem dX5_purseOfStall_0 : decode cX5_purseOfStall 0 = .ok (.aload_n 0, 1) := by decide +kernel
theorem dX5_purseOfStall_1 : decode cX5_purseOfStall 1 = .ok (.iload_n 1, 1) := by decide +kernel
theorem dX5_purseOfStall_2 : decode cX5_purseOfStall 2 = .ok (.iconst 4, 1) := by decide +kernel
theorem dX5_purseOfStall_3 : decode cX5_purseOfStall 3 = .ok (.invokevirtual 254, 3) := by decide +kernel
theorem dX5_purseOfStall_6 : decode cX5_purseOfStall 6 = .ok (.ireturn, 1) := by decide +kernel
theorem dX5_playsOf_0 : decode cX5_playsOf 0 = .ok (.aload_n 0, 1) := by decide +kernel
theorem dX5_playsOf_1 : decode cX5_playsOf 1 = .ok (.iload_n 1, 1) := by decide +kernel
theorem dX5_playsOf_2 : decode cX5_playsOf 2 = .ok (.iconst 5, 1) := by decide +kernel
theorem dX5_playsOf_3 : decode cX5_playsOf 3 = .ok (.invokevirtual 254, 3) := by decide +kernel
theorem dX5_playsOf_6 : decode cX5_playsOf 6 = .ok (.ireturn, 1) := by decide +kernel
theorem dX5_rentOf_0 : decode cX5_rentOf 0 = .ok (.aload_n 0, 1) := by decide +kernel
theorem dX5_rentOf_1 : decode cX5_rentOf 1 = .ok (.aload_n 0, 1) := by decide +kernel
theorem dX5_rentOf_2 : decode cX5_rentOf 2 = .ok (.iload_n 1, 1) := by decide +kernel
theorem dX5_rentOf_3 : decode cX5_rentOf 3 = .ok (.invokevirtual 88, 3) := by decide +kernel
theorem dX5_rentOf_6 : decode cX5_rentOf 6 = .ok (.ifCond .eq 7, 3) := by decide +kernel
theorem dX5_rentOf_9 : decode cX5_rentOf 9 = .ok (.iconst 0, 1) := by decide +kernel
theorem dX5_rentOf_10 : decode cX5_rentOf 10 = .ok (.goto 4, 3) := by decide +kernel
theorem dX5_rentOf_13 : decode cX5_rentOf 13 = .ok (.iconst 1, 1) := by decide +kernel
theorem dX5_rentOf_14 : decode cX5_rentOf 14 = .ok (.putfield 34, 3) := by decide +kernel
theorem dX5_rentOf_17 : decode cX5_rentOf 17 = .ok (.aload_n 0, 1) := by decide +kernel
theorem dX5_rentOf_18 : decode cX5_rentOf 18 = .ok (.getfield 34, 3) := by decide +kernel
theorem dX5_rentOf_21 : decode cX5_rentOf 21 = .ok (.ifCond .le 7, 3) := by decide +kernel
theorem dX5_rentOf_24 : decode cX5_rentOf 24 = .ok (.iconst 0, 1) := by decide +kernel
theorem dX5_rentOf_25 : decode cX5_rentOf 25 = .ok (.goto 12, 3) := by decide +kernel
theorem dX5_rentOf_28 : decode cX5_rentOf 28 = .ok (.aload_n 0, 1) := by decide +kernel
theorem dX5_rentOf_29 : decode cX5_rentOf 29 = .ok (.iload_n 1, 1) := by decide +kernel
theorem dX5_rentOf_30 : decode cX5_rentOf 30 = .ok (.iconst 0, 1) := by decide +kernel
theorem dX5_rentOf_31 : decode cX5_rentOf 31 = .ok (.invokevirtual 49, 3) := by decide +kernel
theorem dX5_rentOf_34 : decode cX5_rentOf 34 = .ok (.invokestatic 153, 3) := by decide +kernel
theorem dX5_rentOf_37 : decode cX5_rentOf 37 = .ok (.ireturn, 1) := by decide +kernel
theorem dX5_playsToWin_0 : decode cX5_playsToWin 0 = .ok (.aload_n 0, 1) := by decide +kernel
theorem dX5_playsToWin_1 : decode cX5_playsToWin 1 = .ok (.aload_n 0, 1) := by decide +kernel
theorem dX5_playsToWin_2 : decode cX5_playsToWin 2 = .ok (.iload_n 1, 1) := by decide +kernel
theorem dX5_playsToWin_3 : decode cX5_playsToWin 3 = .ok (.invokevirtual 88, 3) := by decide +kernel
theorem dX5_playsToWin_6 : decode cX5_playsToWin 6 = .ok (.ifCond .eq 7, 3) := by decide +kernel
theorem dX5_playsToWin_9 : decode cX5_playsToWin 9 = .ok (.iconst 0, 1) := by decide +kernel
theorem dX5_playsToWin_10 : decode cX5_playsToWin 10 = .ok (.goto 4, 3) := by decide +kernel
theorem dX5_playsToWin_13 : decode cX5_playsToWin 13 = .ok (.iconst 1, 1) := by decide +kernel
theorem dX5_playsToWin_14 : decode cX5_playsToWin 14 = .ok (.putfield 34, 3) := by decide +kernel
theorem dX5_playsToWin_17 : decode cX5_playsToWin 17 = .ok (.aload_n 0, 1) := by decide +kernel
theorem dX5_playsToWin_18 : decode cX5_playsToWin 18 = .ok (.getfield 34, 3) := by decide +kernel
theorem dX5_playsToWin_21 : decode cX5_playsToWin 21 = .ok (.ifCond .le 7, 3) := by decide +kernel
theorem dX5_playsToWin_24 : decode cX5_playsToWin 24 = .ok (.iconst 0, 1) := by decide +kernel
theorem dX5_playsToWin_25 : decode cX5_playsToWin 25 = .ok (.goto 12, 3) := by decide +kernel
theorem dX5_playsToWin_28 : decode cX5_playsToWin 28 = .ok (.aload_n 0, 1) := by decide +kernel
theorem dX5_playsToWin_29 : decode cX5_playsToWin 29 = .ok (.iload_n 1, 1) := by decide +kernel
theorem dX5_playsToWin_30 : decode cX5_playsToWin 30 = .ok (.iconst 1, 1) := by decide +kernel
theorem dX5_playsToWin_31 : decode cX5_playsToWin 31 = .ok (.invokevirtual 49, 3) := by decide +kernel
theorem dX5_playsToWin_34 : decode cX5_playsToWin 34 = .ok (.invokestatic 128, 3) := by decide +kernel
theorem dX5_playsToWin_37 : decode cX5_playsToWin 37 = .ok (.istore_n 2, 1) := by decide +kernel
theorem dX5_playsToWin_38 : decode cX5_playsToWin 38 = .ok (.aload_n 0, 1) := by decide +kernel
theorem dX5_playsToWin_39 : decode cX5_playsToWin 39 = .ok (.getfield 34, 3) := by decide +kernel
theorem dX5_playsToWin_42 : decode cX5_playsToWin 42 = .ok (.ifCond .le 7, 3) := by decide +kernel
theorem dX5_playsToWin_45 : decode cX5_playsToWin 45 = .ok (.iconst 0, 1) := by decide +kernel
theorem dX5_playsToWin_46 : decode cX5_playsToWin 46 = .ok (.goto 21, 3) := by decide +kernel
theorem dX5_playsToWin_49 : decode cX5_playsToWin 49 = .ok (.iload_n 2, 1) := by decide +kernel
theorem dX5_playsToWin_50 : decode cX5_playsToWin 50 = .ok (.ifCond .ne 7, 3) := by decide +kernel
theorem dX5_playsToWin_53 : decode cX5_playsToWin 53 = .ok (.iconst (-1), 1) := by decide +kernel
theorem dX5_playsToWin_54 : decode cX5_playsToWin 54 = .ok (.goto 13, 3) := by decide +kernel
theorem dX5_playsToWin_57 : decode cX5_playsToWin 57 = .ok (.iload_n 2, 1) := by decide +kernel
theorem dX5_playsToWin_58 : decode cX5_playsToWin 58 = .ok (.aload_n 0, 1) := by decide +kernel
theorem dX5_playsToWin_59 : decode cX5_playsToWin 59 = .ok (.iload_n 1, 1) := by decide +kernel
theorem dX5_playsToWin_60 : decode cX5_playsToWin 60 = .ok (.iconst 5, 1) := by decide +kernel
theorem dX5_playsToWin_61 : decode cX5_playsToWin 61 = .ok (.invokevirtual 49, 3) := by decide +kernel
theorem dX5_playsToWin_64 : decode cX5_playsToWin 64 = .ok (.iload_n 2, 1) := by decide +kernel
theorem dX5_playsToWin_65 : decode cX5_playsToWin 65 = .ok (.irem, 1) := by decide +kernel
theorem dX5_playsToWin_66 : decode cX5_playsToWin 66 = .ok (.isub, 1) := by decide +kernel
theorem dX5_playsToWin_67 : decode cX5_playsToWin 67 = .ok (.ireturn, 1) := by decide +kernel
theorem dX5_prizesOn_0 : decode cX5_prizesOn 0 = .ok (.aload_n 0, 1) := by decide +kernel
theorem dX5_prizesOn_1 : decode cX5_prizesOn 1 = .ok (.aload_n 0, 1) := by decide +kernel
theorem dX5_prizesOn_2 : decode cX5_prizesOn 2 = .ok (.iload_n 1, 1) := by decide +kernel
theorem dX5_prizesOn_3 : decode cX5_prizesOn 3 = .ok (.invokevirtual 88, 3) := by decide +kernel
theorem dX5_prizesOn_6 : decode cX5_prizesOn 6 = .ok (.ifCond .eq 21, 3) := by decide +kernel
theorem dX5_prizesOn_9 : decode cX5_prizesOn 9 = .ok (.iload_n 2, 1) := by decide +kernel
theorem dX5_prizesOn_10 : decode cX5_prizesOn 10 = .ok (.invokestatic 91, 3) := by decide +kernel
theorem dX5_prizesOn_13 : decode cX5_prizesOn 13 = .ok (.ifCond .eq 14, 3) := by decide +kernel
theorem dX5_prizesOn_16 : decode cX5_prizesOn 16 = .ok (.iload_n 3, 1) := by decide +kernel
theorem dX5_prizesOn_17 : decode cX5_prizesOn 17 = .ok (.invokestatic 91, 3) := by decide +kernel
theorem dX5_prizesOn_20 : decode cX5_prizesOn 20 = .ok (.ifCond .eq 7, 3) := by decide +kernel
theorem dX5_prizesOn_23 : decode cX5_prizesOn 23 = .ok (.iconst 0, 1) := by decide +kernel
theorem dX5_prizesOn_24 : decode cX5_prizesOn 24 = .ok (.goto 4, 3) := by decide +kernel
theorem dX5_prizesOn_27 : decode cX5_prizesOn 27 = .ok (.iconst 1, 1) := by decide +kernel
theorem dX5_prizesOn_28 : decode cX5_prizesOn 28 = .ok (.putfield 34, 3) := by decide +kernel
theorem dX5_prizesOn_31 : decode cX5_prizesOn 31 = .ok (.aload_n 0, 1) := by decide +kernel
theorem dX5_prizesOn_32 : decode cX5_prizesOn 32 = .ok (.getfield 34, 3) := by decide +kernel
theorem dX5_prizesOn_35 : decode cX5_prizesOn 35 = .ok (.ifCond .le 7, 3) := by decide +kernel
theorem dX5_prizesOn_38 : decode cX5_prizesOn 38 = .ok (.iconst 0, 1) := by decide +kernel
theorem dX5_prizesOn_39 : decode cX5_prizesOn 39 = .ok (.goto 10, 3) := by decide +kernel
theorem dX5_prizesOn_42 : decode cX5_prizesOn 42 = .ok (.aload_n 0, 1) := by decide +kernel
theorem dX5_prizesOn_43 : decode cX5_prizesOn 43 = .ok (.iload_n 1, 1) := by decide +kernel
theorem dX5_prizesOn_44 : decode cX5_prizesOn 44 = .ok (.iload_n 2, 1) := by decide +kernel
theorem dX5_prizesOn_45 : decode cX5_prizesOn 45 = .ok (.iload_n 3, 1) := by decide +kernel
theorem dX5_prizesOn_46 : decode cX5_prizesOn 46 = .ok (.invokevirtual 57, 3) := by decide +kernel
theorem dX5_prizesOn_49 : decode cX5_prizesOn 49 = .ok (.ireturn, 1) := by decide +kernel
theorem dX5_shelfOf_0 : decode cX5_shelfOf 0 = .ok (.aload_n 0, 1) := by decide +kernel
theorem dX5_shelfOf_1 : decode cX5_shelfOf 1 = .ok (.aload_n 0, 1) := by decide +kernel
theorem dX5_shelfOf_2 : decode cX5_shelfOf 2 = .ok (.iload_n 1, 1) := by decide +kernel
theorem dX5_shelfOf_3 : decode cX5_shelfOf 3 = .ok (.invokevirtual 88, 3) := by decide +kernel
theorem dX5_shelfOf_6 : decode cX5_shelfOf 6 = .ok (.ifCond .eq 7, 3) := by decide +kernel
theorem dX5_shelfOf_9 : decode cX5_shelfOf 9 = .ok (.iconst 0, 1) := by decide +kernel
theorem dX5_shelfOf_10 : decode cX5_shelfOf 10 = .ok (.goto 4, 3) := by decide +kernel
theorem dX5_shelfOf_13 : decode cX5_shelfOf 13 = .ok (.iconst 1, 1) := by decide +kernel
theorem dX5_shelfOf_14 : decode cX5_shelfOf 14 = .ok (.putfield 34, 3) := by decide +kernel
theorem dX5_shelfOf_17 : decode cX5_shelfOf 17 = .ok (.aload_n 0, 1) := by decide +kernel
theorem dX5_shelfOf_18 : decode cX5_shelfOf 18 = .ok (.getfield 34, 3) := by decide +kernel
theorem dX5_shelfOf_21 : decode cX5_shelfOf 21 = .ok (.ifCond .le 7, 3) := by decide +kernel
theorem dX5_shelfOf_24 : decode cX5_shelfOf 24 = .ok (.iconst 0, 1) := by decide +kernel
theorem dX5_shelfOf_25 : decode cX5_shelfOf 25 = .ok (.goto 8, 3) := by decide +kernel
theorem dX5_shelfOf_28 : decode cX5_shelfOf 28 = .ok (.aload_n 0, 1) := by decide +kernel
theorem dX5_shelfOf_29 : decode cX5_shelfOf 29 = .ok (.iload_n 1, 1) := by decide +kernel
theorem dX5_shelfOf_30 : decode cX5_shelfOf 30 = .ok (.invokevirtual 94, 3) := by decide +kernel
theorem dX5_shelfOf_33 : decode cX5_shelfOf 33 = .ok (.ireturn, 1) := by decide +kernel
theorem dX5_levelToWin_0 : decode cX5_levelToWin 0 = .ok (.aload_n 0, 1) := by decide +kernel
theorem dX5_levelToWin_1 : decode cX5_levelToWin 1 = .ok (.aload_n 0, 1) := by decide +kernel
theorem dX5_levelToWin_2 : decode cX5_levelToWin 2 = .ok (.iload_n 1, 1) := by decide +kernel
theorem dX5_levelToWin_3 : decode cX5_levelToWin 3 = .ok (.invokevirtual 88, 3) := by decide +kernel
theorem dX5_levelToWin_6 : decode cX5_levelToWin 6 = .ok (.ifCond .eq 7, 3) := by decide +kernel
theorem dX5_levelToWin_9 : decode cX5_levelToWin 9 = .ok (.iconst 0, 1) := by decide +kernel
theorem dX5_levelToWin_10 : decode cX5_levelToWin 10 = .ok (.goto 4, 3) := by decide +kernel
theorem dX5_levelToWin_13 : decode cX5_levelToWin 13 = .ok (.iconst 1, 1) := by decide +kernel
theorem dX5_levelToWin_14 : decode cX5_levelToWin 14 = .ok (.putfield 34, 3) := by decide +kernel
theorem dX5_levelToWin_17 : decode cX5_levelToWin 17 = .ok (.aload_n 0, 1) := by decide +kernel
theorem dX5_levelToWin_18 : decode cX5_levelToWin 18 = .ok (.getfield 34, 3) := by decide +kernel
theorem dX5_levelToWin_21 : decode cX5_levelToWin 21 = .ok (.ifCond .le 7, 3) := by decide +kernel
theorem dX5_levelToWin_24 : decode cX5_levelToWin 24 = .ok (.iconst 0, 1) := by decide +kernel
theorem dX5_levelToWin_25 : decode cX5_levelToWin 25 = .ok (.goto 8, 3) := by decide +kernel
theorem dX5_levelToWin_28 : decode cX5_levelToWin 28 = .ok (.aload_n 0, 1) := by decide +kernel
theorem dX5_levelToWin_29 : decode cX5_levelToWin 29 = .ok (.iload_n 1, 1) := by decide +kernel
theorem dX5_levelToWin_30 : decode cX5_levelToWin 30 = .ok (.invokevirtual 131, 3) := by decide +kernel
theorem dX5_levelToWin_33 : decode cX5_levelToWin 33 = .ok (.ireturn, 1) := by decide +kernel
theorem dX5_wonOf_0 : decode cX5_wonOf 0 = .ok (.aload_n 0, 1) := by decide +kernel
theorem dX5_wonOf_1 : decode cX5_wonOf 1 = .ok (.iload_n 1, 1) := by decide +kernel
theorem dX5_wonOf_2 : decode cX5_wonOf 2 = .ok (.invokestatic 91, 3) := by decide +kernel
theorem dX5_wonOf_5 : decode cX5_wonOf 5 = .ok (.ifCond .eq 7, 3) := by decide +kernel
theorem dX5_wonOf_8 : decode cX5_wonOf 8 = .ok (.iconst 0, 1) := by decide +kernel
theorem dX5_wonOf_9 : decode cX5_wonOf 9 = .ok (.goto 4, 3) := by decide +kernel
theorem dX5_wonOf_12 : decode cX5_wonOf 12 = .ok (.iconst 1, 1) := by decide +kernel
theorem dX5_wonOf_13 : decode cX5_wonOf 13 = .ok (.putfield 34, 3) := by decide +kernel
theorem dX5_wonOf_16 : decode cX5_wonOf 16 = .ok (.aload_n 0, 1) := by decide +kernel
theorem dX5_wonOf_17 : decode cX5_wonOf 17 = .ok (.getfield 34, 3) := by decide +kernel
theorem dX5_wonOf_20 : decode cX5_wonOf 20 = .ok (.ifCond .le 7, 3) := by decide +kernel
theorem dX5_wonOf_23 : decode cX5_wonOf 23 = .ok (.iconst 0, 1) := by decide +kernel
theorem dX5_wonOf_24 : decode cX5_wonOf 24 = .ok (.goto 12, 3) := by decide +kernel
theorem dX5_wonOf_27 : decode cX5_wonOf 27 = .ok (.aload_n 0, 1) := by decide +kernel
theorem dX5_wonOf_28 : decode cX5_wonOf 28 = .ok (.getfield 7, 3) := by decide +kernel
theorem dX5_wonOf_31 : decode cX5_wonOf 31 = .ok (.bipush 10, 2) := by decide +kernel
theorem dX5_wonOf_33 : decode cX5_wonOf 33 = .ok (.iload_n 1, 1) := by decide +kernel
theorem dX5_wonOf_34 : decode cX5_wonOf 34 = .ok (.iadd, 1) := by decide +kernel
theorem dX5_wonOf_35 : decode cX5_wonOf 35 = .ok (.iaload, 1) := by decide +kernel
theorem dX5_wonOf_36 : decode cX5_wonOf 36 = .ok (.ireturn, 1) := by decide +kernel
theorem dX5_children_0 : decode cX5_children 0 = .ok (.aload_n 0, 1) := by decide +kernel
theorem dX5_children_1 : decode cX5_children 1 = .ok (.bipush 9, 2) := by decide +kernel
theorem dX5_children_3 : decode cX5_children 3 = .ok (.invokevirtual 251, 3) := by decide +kernel
theorem dX5_children_6 : decode cX5_children 6 = .ok (.ireturn, 1) := by decide +kernel
theorem dX5_atFair_0 : decode cX5_atFair 0 = .ok (.aload_n 0, 1) := by decide +kernel
theorem dX5_atFair_1 : decode cX5_atFair 1 = .ok (.iconst 0, 1) := by decide +kernel
theorem dX5_atFair_2 : decode cX5_atFair 2 = .ok (.putfield 34, 3) := by decide +kernel
theorem dX5_atFair_5 : decode cX5_atFair 5 = .ok (.aload_n 0, 1) := by decide +kernel
theorem dX5_atFair_6 : decode cX5_atFair 6 = .ok (.invokevirtual 106, 3) := by decide +kernel
theorem dX5_atFair_9 : decode cX5_atFair 9 = .ok (.ireturn, 1) := by decide +kernel
theorem dX5_tellsOf_0 : decode cX5_tellsOf 0 = .ok (.aload_n 0, 1) := by decide +kernel
theorem dX5_tellsOf_1 : decode cX5_tellsOf 1 = .ok (.aload_n 0, 1) := by decide +kernel
theorem dX5_tellsOf_2 : decode cX5_tellsOf 2 = .ok (.iload_n 1, 1) := by decide +kernel
theorem dX5_tellsOf_3 : decode cX5_tellsOf 3 = .ok (.invokevirtual 257, 3) := by decide +kernel
theorem dX5_tellsOf_6 : decode cX5_tellsOf 6 = .ok (.ifCond .eq 7, 3) := by decide +kernel
theorem dX5_tellsOf_9 : decode cX5_tellsOf 9 = .ok (.iconst 0, 1) := by decide +kernel
theorem dX5_tellsOf_10 : decode cX5_tellsOf 10 = .ok (.goto 4, 3) := by decide +kernel
theorem dX5_tellsOf_13 : decode cX5_tellsOf 13 = .ok (.iconst 1, 1) := by decide +kernel
theorem dX5_tellsOf_14 : decode cX5_tellsOf 14 = .ok (.putfield 34, 3) := by decide +kernel
theorem dX5_tellsOf_17 : decode cX5_tellsOf 17 = .ok (.aload_n 0, 1) := by decide +kernel
theorem dX5_tellsOf_18 : decode cX5_tellsOf 18 = .ok (.getfield 34, 3) := by decide +kernel
theorem dX5_tellsOf_21 : decode cX5_tellsOf 21 = .ok (.ifCond .le 7, 3) := by decide +kernel
theorem dX5_tellsOf_24 : decode cX5_tellsOf 24 = .ok (.iconst 0, 1) := by decide +kernel
theorem dX5_tellsOf_25 : decode cX5_tellsOf 25 = .ok (.goto 9, 3) := by decide +kernel
theorem dX5_tellsOf_28 : decode cX5_tellsOf 28 = .ok (.aload_n 0, 1) := by decide +kernel
theorem dX5_tellsOf_29 : decode cX5_tellsOf 29 = .ok (.iload_n 1, 1) := by decide +kernel
theorem dX5_tellsOf_30 : decode cX5_tellsOf 30 = .ok (.iload_n 2, 1) := by decide +kernel
theorem dX5_tellsOf_31 : decode cX5_tellsOf 31 = .ok (.invokevirtual 100, 3) := by decide +kernel
theorem dX5_tellsOf_34 : decode cX5_tellsOf 34 = .ok (.ireturn, 1) := by decide +kernel
theorem dX5_isAtFair_0 : decode cX5_isAtFair 0 = .ok (.aload_n 0, 1) := by decide +kernel
theorem dX5_isAtFair_1 : decode cX5_isAtFair 1 = .ok (.aload_n 0, 1) := by decide +kernel
theorem dX5_isAtFair_2 : decode cX5_isAtFair 2 = .ok (.iload_n 1, 1) := by decide +kernel
theorem dX5_isAtFair_3 : decode cX5_isAtFair 3 = .ok (.invokevirtual 257, 3) := by decide +kernel
theorem dX5_isAtFair_6 : decode cX5_isAtFair 6 = .ok (.ifCond .eq 7, 3) := by decide +kernel
theorem dX5_isAtFair_9 : decode cX5_isAtFair 9 = .ok (.iconst 0, 1) := by decide +kernel
theorem dX5_isAtFair_10 : decode cX5_isAtFair 10 = .ok (.goto 4, 3) := by decide +kernel
theorem dX5_isAtFair_13 : decode cX5_isAtFair 13 = .ok (.iconst 1, 1) := by decide +kernel
theorem dX5_isAtFair_14 : decode cX5_isAtFair 14 = .ok (.putfield 34, 3) := by decide +kernel
theorem dX5_isAtFair_17 : decode cX5_isAtFair 17 = .ok (.aload_n 0, 1) := by decide +kernel
theorem dX5_isAtFair_18 : decode cX5_isAtFair 18 = .ok (.getfield 34, 3) := by decide +kernel
theorem dX5_isAtFair_21 : decode cX5_isAtFair 21 = .ok (.ifCond .ne 15, 3) := by decide +kernel
theorem dX5_isAtFair_24 : decode cX5_isAtFair 24 = .ok (.aload_n 0, 1) := by decide +kernel
theorem dX5_isAtFair_25 : decode cX5_isAtFair 25 = .ok (.iload_n 1, 1) := by decide +kernel
theorem dX5_isAtFair_26 : decode cX5_isAtFair 26 = .ok (.invokevirtual 103, 3) := by decide +kernel
theorem dX5_isAtFair_29 : decode cX5_isAtFair 29 = .ok (.ifCond .eq 7, 3) := by decide +kernel
theorem dX5_isAtFair_32 : decode cX5_isAtFair 32 = .ok (.iconst 1, 1) := by decide +kernel
theorem dX5_isAtFair_33 : decode cX5_isAtFair 33 = .ok (.goto 4, 3) := by decide +kernel
theorem dX5_isAtFair_36 : decode cX5_isAtFair 36 = .ok (.iconst 0, 1) := by decide +kernel
theorem dX5_isAtFair_37 : decode cX5_isAtFair 37 = .ok (.ireturn, 1) := by decide +kernel
theorem dX5_purseOf_0 : decode cX5_purseOf 0 = .ok (.aload_n 0, 1) := by decide +kernel
theorem dX5_purseOf_1 : decode cX5_purseOf 1 = .ok (.iload_n 1, 1) := by decide +kernel
theorem dX5_purseOf_2 : decode cX5_purseOf 2 = .ok (.iconst 0, 1) := by decide +kernel
theorem dX5_purseOf_3 : decode cX5_purseOf 3 = .ok (.invokevirtual 260, 3) := by decide +kernel
theorem dX5_purseOf_6 : decode cX5_purseOf 6 = .ok (.ireturn, 1) := by decide +kernel
theorem dX5_moodOf_0 : decode cX5_moodOf 0 = .ok (.aload_n 0, 1) := by decide +kernel
theorem dX5_moodOf_1 : decode cX5_moodOf 1 = .ok (.iload_n 1, 1) := by decide +kernel
theorem dX5_moodOf_2 : decode cX5_moodOf 2 = .ok (.iconst 1, 1) := by decide +kernel
theorem dX5_moodOf_3 : decode cX5_moodOf 3 = .ok (.invokevirtual 260, 3) := by decide +kernel
theorem dX5_moodOf_6 : decode cX5_moodOf 6 = .ok (.ireturn, 1) := by decide +kernel
theorem dX5_placeOf_0 : decode cX5_placeOf 0 = .ok (.aload_n 0, 1) := by decide +kernel
theorem dX5_placeOf_1 : decode cX5_placeOf 1 = .ok (.iload_n 1, 1) := by decide +kernel
theorem dX5_placeOf_2 : decode cX5_placeOf 2 = .ok (.iconst 4, 1) := by decide +kernel
theorem dX5_placeOf_3 : decode cX5_placeOf 3 = .ok (.invokevirtual 260, 3) := by decide +kernel
theorem dX5_placeOf_6 : decode cX5_placeOf 6 = .ok (.ireturn, 1) := by decide +kernel
theorem dX5_isHomeward_0 : decode cX5_isHomeward 0 = .ok (.aload_n 0, 1) := by decide +kernel
theorem dX5_isHomeward_1 : decode cX5_isHomeward 1 = .ok (.iload_n 1, 1) := by decide +kernel
theorem dX5_isHomeward_2 : decode cX5_isHomeward 2 = .ok (.iconst 5, 1) := by decide +kernel
theorem dX5_isHomeward_3 : decode cX5_isHomeward 3 = .ok (.invokevirtual 260, 3) := by decide +kernel
theorem dX5_isHomeward_6 : decode cX5_isHomeward 6 = .ok (.iconst 1, 1) := by decide +kernel
theorem dX5_isHomeward_7 : decode cX5_isHomeward 7 = .ok (.if_icmp .ne 7, 3) := by decide +kernel
theorem dX5_isHomeward_10 : decode cX5_isHomeward 10 = .ok (.iconst 1, 1) := by decide +kernel
theorem dX5_isHomeward_11 : decode cX5_isHomeward 11 = .ok (.goto 4, 3) := by decide +kernel
theorem dX5_isHomeward_14 : decode cX5_isHomeward 14 = .ok (.iconst 0, 1) := by decide +kernel
theorem dX5_isHomeward_15 : decode cX5_isHomeward 15 = .ok (.ireturn, 1) := by decide +kernel
theorem dX5_prizesOf_0 : decode cX5_prizesOf 0 = .ok (.aload_n 0, 1) := by decide +kernel
theorem dX5_prizesOf_1 : decode cX5_prizesOf 1 = .ok (.iload_n 1, 1) := by decide +kernel
theorem dX5_prizesOf_2 : decode cX5_prizesOf 2 = .ok (.bipush 7, 2) := by decide +kernel
theorem dX5_prizesOf_4 : decode cX5_prizesOf 4 = .ok (.invokevirtual 260, 3) := by decide +kernel
theorem dX5_prizesOf_7 : decode cX5_prizesOf 7 = .ok (.ireturn, 1) := by decide +kernel
theorem dX5_reason_0 : decode cX5_reason 0 = .ok (.aload_n 0, 1) := by decide +kernel
theorem dX5_reason_1 : decode cX5_reason 1 = .ok (.iload_n 1, 1) := by decide +kernel
theorem dX5_reason_2 : decode cX5_reason 2 = .ok (.invokevirtual 103, 3) := by decide +kernel
theorem dX5_reason_5 : decode cX5_reason 5 = .ok (.ifCond .ne 5, 3) := by decide +kernel
theorem dX5_reason_8 : decode cX5_reason 8 = .ok (.iconst 1, 1) := by decide +kernel
theorem dX5_reason_9 : decode cX5_reason 9 = .ok (.ireturn, 1) := by decide +kernel
theorem dX5_reason_10 : decode cX5_reason 10 = .ok (.aload_n 0, 1) := by decide +kernel
theorem dX5_reason_11 : decode cX5_reason 11 = .ok (.aload_n 0, 1) := by decide +kernel
theorem dX5_reason_12 : decode cX5_reason 12 = .ok (.iload_n 1, 1) := by decide +kernel
theorem dX5_reason_13 : decode cX5_reason 13 = .ok (.iconst 4, 1) := by decide +kernel
theorem dX5_reason_14 : decode cX5_reason 14 = .ok (.invokevirtual 100, 3) := by decide +kernel
theorem dX5_reason_17 : decode cX5_reason 17 = .ok (.invokevirtual 141, 3) := by decide +kernel
theorem dX5_reason_20 : decode cX5_reason 20 = .ok (.istore_n 2, 1) := by decide +kernel
theorem dX5_reason_21 : decode cX5_reason 21 = .ok (.iload_n 2, 1) := by decide +kernel
theorem dX5_reason_22 : decode cX5_reason 22 = .ok (.iconst (-1), 1) := by decide +kernel
theorem dX5_reason_23 : decode cX5_reason 23 = .ok (.if_icmp .ne 5, 3) := by decide +kernel
theorem dX5_reason_26 : decode cX5_reason 26 = .ok (.iconst 2, 1) := by decide +kernel
theorem dX5_reason_27 : decode cX5_reason 27 = .ok (.ireturn, 1) := by decide +kernel
theorem dX5_reason_28 : decode cX5_reason 28 = .ok (.aload_n 0, 1) := by decide +kernel
theorem dX5_reason_29 : decode cX5_reason 29 = .ok (.iload_n 1, 1) := by decide +kernel
theorem dX5_reason_30 : decode cX5_reason 30 = .ok (.iconst 0, 1) := by decide +kernel
theorem dX5_reason_31 : decode cX5_reason 31 = .ok (.invokevirtual 100, 3) := by decide +kernel
theorem dX5_reason_34 : decode cX5_reason 34 = .ok (.aload_n 0, 1) := by decide +kernel
theorem dX5_reason_35 : decode cX5_reason 35 = .ok (.iload_n 2, 1) := by decide +kernel
theorem dX5_reason_36 : decode cX5_reason 36 = .ok (.iconst 2, 1) := by decide +kernel
theorem dX5_reason_37 : decode cX5_reason 37 = .ok (.invokevirtual 49, 3) := by decide +kernel
theorem dX5_reason_40 : decode cX5_reason 40 = .ok (.if_icmp .ge 7, 3) := by decide +kernel
theorem dX5_reason_43 : decode cX5_reason 43 = .ok (.iconst 3, 1) := by decide +kernel
theorem dX5_reason_44 : decode cX5_reason 44 = .ok (.goto 32, 3) := by decide +kernel
theorem dX5_reason_47 : decode cX5_reason 47 = .ok (.aload_n 0, 1) := by decide +kernel
theorem dX5_reason_48 : decode cX5_reason 48 = .ok (.iload_n 1, 1) := by decide +kernel
theorem dX5_reason_49 : decode cX5_reason 49 = .ok (.bipush 6, 2) := by decide +kernel
theorem dX5_reason_51 : decode cX5_reason 51 = .ok (.invokevirtual 100, 3) := by decide +kernel
theorem dX5_reason_54 : decode cX5_reason 54 = .ok (.iconst 2, 1) := by decide +kernel
theorem dX5_reason_55 : decode cX5_reason 55 = .ok (.if_icmp .lt 7, 3) := by decide +kernel
theorem dX5_reason_58 : decode cX5_reason 58 = .ok (.iconst 4, 1) := by decide +kernel
theorem dX5_reason_59 : decode cX5_reason 59 = .ok (.goto 17, 3) := by decide +kernel
theorem dX5_reason_62 : decode cX5_reason 62 = .ok (.aload_n 0, 1) := by decide +kernel
theorem dX5_reason_63 : decode cX5_reason 63 = .ok (.iload_n 1, 1) := by decide +kernel
theorem dX5_reason_64 : decode cX5_reason 64 = .ok (.iload_n 2, 1) := by decide +kernel
theorem dX5_reason_65 : decode cX5_reason 65 = .ok (.invokevirtual 120, 3) := by decide +kernel
theorem dX5_reason_68 : decode cX5_reason 68 = .ok (.ifCond .eq 7, 3) := by decide +kernel
theorem dX5_reason_71 : decode cX5_reason 71 = .ok (.iconst 0, 1) := by decide +kernel
theorem dX5_reason_72 : decode cX5_reason 72 = .ok (.goto 4, 3) := by decide +kernel
theorem dX5_reason_75 : decode cX5_reason 75 = .ok (.iconst 5, 1) := by decide +kernel
theorem dX5_reason_76 : decode cX5_reason 76 = .ok (.ireturn, 1) := by decide +kernel
theorem dX5_whyNoPlay_0 : decode cX5_whyNoPlay 0 = .ok (.aload_n 0, 1) := by decide +kernel
theorem dX5_whyNoPlay_1 : decode cX5_whyNoPlay 1 = .ok (.aload_n 0, 1) := by decide +kernel
theorem dX5_whyNoPlay_2 : decode cX5_whyNoPlay 2 = .ok (.iload_n 1, 1) := by decide +kernel
theorem dX5_whyNoPlay_3 : decode cX5_whyNoPlay 3 = .ok (.invokevirtual 257, 3) := by decide +kernel
theorem dX5_whyNoPlay_6 : decode cX5_whyNoPlay 6 = .ok (.ifCond .eq 7, 3) := by decide +kernel
theorem dX5_whyNoPlay_9 : decode cX5_whyNoPlay 9 = .ok (.iconst 0, 1) := by decide +kernel
theorem dX5_whyNoPlay_10 : decode cX5_whyNoPlay 10 = .ok (.goto 4, 3) := by decide +kernel
theorem dX5_whyNoPlay_13 : decode cX5_whyNoPlay 13 = .ok (.iconst 1, 1) := by decide +kernel
theorem dX5_whyNoPlay_14 : decode cX5_whyNoPlay 14 = .ok (.putfield 34, 3) := by decide +kernel
theorem dX5_whyNoPlay_17 : decode cX5_whyNoPlay 17 = .ok (.aload_n 0, 1) := by decide +kernel
theorem dX5_whyNoPlay_18 : decode cX5_whyNoPlay 18 = .ok (.getfield 34, 3) := by decide +kernel
theorem dX5_whyNoPlay_21 : decode cX5_whyNoPlay 21 = .ok (.ifCond .le 7, 3) := by decide +kernel
theorem dX5_whyNoPlay_24 : decode cX5_whyNoPlay 24 = .ok (.iconst 0, 1) := by decide +kernel
theorem dX5_whyNoPlay_25 : decode cX5_whyNoPlay 25 = .ok (.goto 8, 3) := by decide +kernel
theorem dX5_whyNoPlay_28 : decode cX5_whyNoPlay 28 = .ok (.aload_n 0, 1) := by decide +kernel
theorem dX5_whyNoPlay_29 : decode cX5_whyNoPlay 29 = .ok (.iload_n 1, 1) := by decide +kernel
theorem dX5_whyNoPlay_30 : decode cX5_whyNoPlay 30 = .ok (.invokevirtual 263, 3) := by decide +kernel
theorem dX5_whyNoPlay_33 : decode cX5_whyNoPlay 33 = .ok (.ireturn, 1) := by decide +kernel
theorem dX5_happiest_0 : decode cX5_happiest 0 = .ok (.aload_n 0, 1) := by decide +kernel
theorem dX5_happiest_1 : decode cX5_happiest 1 = .ok (.iconst 0, 1) := by decide +kernel
theorem dX5_happiest_2 : decode cX5_happiest 2 = .ok (.putfield 34, 3) := by decide +kernel
theorem dX5_happiest_5 : decode cX5_happiest 5 = .ok (.iconst (-1), 1) := by decide +kernel
theorem dX5_happiest_6 : decode cX5_happiest 6 = .ok (.istore_n 1, 1) := by decide +kernel
theorem dX5_happiest_7 : decode cX5_happiest 7 = .ok (.iconst 0, 1) := by decide +kernel
theorem dX5_happiest_8 : decode cX5_happiest 8 = .ok (.istore_n 2, 1) := by decide +kernel
theorem dX5_happiest_9 : decode cX5_happiest 9 = .ok (.iload_n 2, 1) := by decide +kernel
theorem dX5_happiest_10 : decode cX5_happiest 10 = .ok (.aload_n 0, 1) := by decide +kernel
theorem dX5_happiest_11 : decode cX5_happiest 11 = .ok (.getfield 7, 3) := by decide +kernel
theorem dX5_happiest_14 : decode cX5_happiest 14 = .ok (.bipush 9, 2) := by decide +kernel
theorem dX5_happiest_16 : decode cX5_happiest 16 = .ok (.iaload, 1) := by decide +kernel
theorem dX5_happiest_17 : decode cX5_happiest 17 = .ok (.if_icmp .ge 43, 3) := by decide +kernel
theorem dX5_happiest_20 : decode cX5_happiest 20 = .ok (.aload_n 0, 1) := by decide +kernel
theorem dX5_happiest_21 : decode cX5_happiest 21 = .ok (.iload_n 2, 1) := by decide +kernel
theorem dX5_happiest_22 : decode cX5_happiest 22 = .ok (.invokevirtual 103, 3) := by decide +kernel
theorem dX5_happiest_25 : decode cX5_happiest 25 = .ok (.ifCond .eq 27, 3) := by decide +kernel
theorem dX5_happiest_28 : decode cX5_happiest 28 = .ok (.iload_n 1, 1) := by decide +kernel
theorem dX5_happiest_29 : decode cX5_happiest 29 = .ok (.iconst (-1), 1) := by decide +kernel
theorem dX5_happiest_30 : decode cX5_happiest 30 = .ok (.if_icmp .eq 18, 3) := by decide +kernel
theorem dX5_happiest_33 : decode cX5_happiest 33 = .ok (.aload_n 0, 1) := by decide +kernel
theorem dX5_happiest_34 : decode cX5_happiest 34 = .ok (.iload_n 2, 1) := by decide +kernel
theorem dX5_happiest_35 : decode cX5_happiest 35 = .ok (.iconst 1, 1) := by decide +kernel
theorem dX5_happiest_36 : decode cX5_happiest 36 = .ok (.invokevirtual 100, 3) := by decide +kernel
theorem dX5_happiest_39 : decode cX5_happiest 39 = .ok (.aload_n 0, 1) := by decide +kernel
theorem dX5_happiest_40 : decode cX5_happiest 40 = .ok (.iload_n 1, 1) := by decide +kernel
theorem dX5_happiest_41 : decode cX5_happiest 41 = .ok (.iconst 1, 1) := by decide +kernel
theorem dX5_happiest_42 : decode cX5_happiest 42 = .ok (.invokevirtual 100, 3) := by decide +kernel
theorem dX5_happiest_45 : decode cX5_happiest 45 = .ok (.if_icmp .le 7, 3) := by decide +kernel
theorem dX5_happiest_48 : decode cX5_happiest 48 = .ok (.iload_n 2, 1) := by decide +kernel
theorem dX5_happiest_49 : decode cX5_happiest 49 = .ok (.goto 4, 3) := by decide +kernel
theorem dX5_happiest_52 : decode cX5_happiest 52 = .ok (.iload_n 1, 1) := by decide +kernel
theorem dX5_happiest_53 : decode cX5_happiest 53 = .ok (.istore_n 1, 1) := by decide +kernel
theorem dX5_happiest_54 : decode cX5_happiest 54 = .ok (.iinc 2 1, 3) := by decide +kernel
theorem dX5_happiest_57 : decode cX5_happiest 57 = .ok (.goto (-48), 3) := by decide +kernel
theorem dX5_happiest_60 : decode cX5_happiest 60 = .ok (.iload_n 1, 1) := by decide +kernel
theorem dX5_happiest_61 : decode cX5_happiest 61 = .ok (.ireturn, 1) := by decide +kernel
theorem dX5_sulkers_0 : decode cX5_sulkers 0 = .ok (.aload_n 0, 1) := by decide +kernel
theorem dX5_sulkers_1 : decode cX5_sulkers 1 = .ok (.iconst 0, 1) := by decide +kernel
theorem dX5_sulkers_2 : decode cX5_sulkers 2 = .ok (.putfield 34, 3) := by decide +kernel
theorem dX5_sulkers_5 : decode cX5_sulkers 5 = .ok (.iconst 0, 1) := by decide +kernel
theorem dX5_sulkers_6 : decode cX5_sulkers 6 = .ok (.istore_n 1, 1) := by decide +kernel
theorem dX5_sulkers_7 : decode cX5_sulkers 7 = .ok (.iconst 0, 1) := by decide +kernel
theorem dX5_sulkers_8 : decode cX5_sulkers 8 = .ok (.istore_n 2, 1) := by decide +kernel
theorem dX5_sulkers_9 : decode cX5_sulkers 9 = .ok (.iload_n 2, 1) := by decide +kernel
theorem dX5_sulkers_10 : decode cX5_sulkers 10 = .ok (.aload_n 0, 1) := by decide +kernel
theorem dX5_sulkers_11 : decode cX5_sulkers 11 = .ok (.getfield 7, 3) := by decide +kernel
theorem dX5_sulkers_14 : decode cX5_sulkers 14 = .ok (.bipush 9, 2) := by decide +kernel
theorem dX5_sulkers_16 : decode cX5_sulkers 16 = .ok (.iaload, 1) := by decide +kernel
theorem dX5_sulkers_17 : decode cX5_sulkers 17 = .ok (.if_icmp .ge 36, 3) := by decide +kernel
theorem dX5_sulkers_20 : decode cX5_sulkers 20 = .ok (.iload_n 1, 1) := by decide +kernel
theorem dX5_sulkers_21 : decode cX5_sulkers 21 = .ok (.aload_n 0, 1) := by decide +kernel
theorem dX5_sulkers_22 : decode cX5_sulkers 22 = .ok (.iload_n 2, 1) := by decide +kernel
theorem dX5_sulkers_23 : decode cX5_sulkers 23 = .ok (.invokevirtual 103, 3) := by decide +kernel
theorem dX5_sulkers_26 : decode cX5_sulkers 26 = .ok (.ifCond .eq 18, 3) := by decide +kernel
theorem dX5_sulkers_29 : decode cX5_sulkers 29 = .ok (.aload_n 0, 1) := by decide +kernel
theorem dX5_sulkers_30 : decode cX5_sulkers 30 = .ok (.iload_n 2, 1) := by decide +kernel
theorem dX5_sulkers_31 : decode cX5_sulkers 31 = .ok (.iconst 1, 1) := by decide +kernel
theorem dX5_sulkers_32 : decode cX5_sulkers 32 = .ok (.invokevirtual 100, 3) := by decide +kernel
theorem dX5_sulkers_35 : decode cX5_sulkers 35 = .ok (.bipush 50, 2) := by decide +kernel
theorem dX5_sulkers_37 : decode cX5_sulkers 37 = .ok (.if_icmp .ge 7, 3) := by decide +kernel
theorem dX5_sulkers_40 : decode cX5_sulkers 40 = .ok (.iconst 1, 1) := by decide +kernel
theorem dX5_sulkers_41 : decode cX5_sulkers 41 = .ok (.goto 4, 3) := by decide +kernel
theorem dX5_sulkers_44 : decode cX5_sulkers 44 = .ok (.iconst 0, 1) := by decide +kernel
theorem dX5_sulkers_45 : decode cX5_sulkers 45 = .ok (.iadd, 1) := by decide +kernel
theorem dX5_sulkers_46 : decode cX5_sulkers 46 = .ok (.istore_n 1, 1) := by decide +kernel
theorem dX5_sulkers_47 : decode cX5_sulkers 47 = .ok (.iinc 2 1, 3) := by decide +kernel
theorem dX5_sulkers_50 : decode cX5_sulkers 50 = .ok (.goto (-41), 3) := by decide +kernel
theorem dX5_sulkers_53 : decode cX5_sulkers 53 = .ok (.iload_n 1, 1) := by decide +kernel
theorem dX5_sulkers_54 : decode cX5_sulkers 54 = .ok (.ireturn, 1) := by decide +kernel
theorem dX5_crowdOn_0 : decode cX5_crowdOn 0 = .ok (.aload_n 0, 1) := by decide +kernel
theorem dX5_crowdOn_1 : decode cX5_crowdOn 1 = .ok (.iload_n 1, 1) := by decide +kernel
theorem dX5_crowdOn_2 : decode cX5_crowdOn 2 = .ok (.invokestatic 70, 3) := by decide +kernel
theorem dX5_crowdOn_5 : decode cX5_crowdOn 5 = .ok (.ifCond .eq 7, 3) := by decide +kernel
theorem dX5_crowdOn_8 : decode cX5_crowdOn 8 = .ok (.iconst 0, 1) := by decide +kernel
theorem dX5_crowdOn_9 : decode cX5_crowdOn 9 = .ok (.goto 4, 3) := by decide +kernel
theorem dX5_crowdOn_12 : decode cX5_crowdOn 12 = .ok (.iconst 1, 1) := by decide +kernel
theorem dX5_crowdOn_13 : decode cX5_crowdOn 13 = .ok (.putfield 34, 3) := by decide +kernel
theorem dX5_crowdOn_16 : decode cX5_crowdOn 16 = .ok (.iconst 0, 1) := by decide +kernel
theorem dX5_crowdOn_17 : decode cX5_crowdOn 17 = .ok (.istore_n 2, 1) := by decide +kernel
theorem dX5_crowdOn_18 : decode cX5_crowdOn 18 = .ok (.iconst 0, 1) := by decide +kernel
theorem dX5_crowdOn_19 : decode cX5_crowdOn 19 = .ok (.istore_n 3, 1) := by decide +kernel
theorem dX5_crowdOn_20 : decode cX5_crowdOn 20 = .ok (.iload_n 3, 1) := by decide +kernel
theorem dX5_crowdOn_21 : decode cX5_crowdOn 21 = .ok (.aload_n 0, 1) := by decide +kernel
theorem dX5_crowdOn_22 : decode cX5_crowdOn 22 = .ok (.getfield 7, 3) := by decide +kernel
theorem dX5_crowdOn_25 : decode cX5_crowdOn 25 = .ok (.bipush 9, 2) := by decide +kernel
theorem dX5_crowdOn_27 : decode cX5_crowdOn 27 = .ok (.iaload, 1) := by decide +kernel
theorem dX5_crowdOn_28 : decode cX5_crowdOn 28 = .ok (.if_icmp .ge 34, 3) := by decide +kernel
theorem dX5_crowdOn_31 : decode cX5_crowdOn 31 = .ok (.aload_n 0, 1) := by decide +kernel
theorem dX5_crowdOn_32 : decode cX5_crowdOn 32 = .ok (.getfield 34, 3) := by decide +kernel
theorem dX5_crowdOn_35 : decode cX5_crowdOn 35 = .ok (.ifCond .ne 27, 3) := by decide +kernel
theorem dX5_crowdOn_38 : decode cX5_crowdOn 38 = .ok (.iload_n 2, 1) := by decide +kernel
theorem dX5_crowdOn_39 : decode cX5_crowdOn 39 = .ok (.aload_n 0, 1) := by decide +kernel
theorem dX5_crowdOn_40 : decode cX5_crowdOn 40 = .ok (.iload_n 3, 1) := by decide +kernel
theorem dX5_crowdOn_41 : decode cX5_crowdOn 41 = .ok (.iconst 4, 1) := by decide +kernel
theorem dX5_crowdOn_42 : decode cX5_crowdOn 42 = .ok (.invokevirtual 100, 3) := by decide +kernel
theorem dX5_crowdOn_45 : decode cX5_crowdOn 45 = .ok (.iload_n 1, 1) := by decide +kernel
theorem dX5_crowdOn_46 : decode cX5_crowdOn 46 = .ok (.if_icmp .ne 7, 3) := by decide +kernel
theorem dX5_crowdOn_49 : decode cX5_crowdOn 49 = .ok (.iconst 1, 1) := by decide +kernel
theorem dX5_crowdOn_50 : decode cX5_crowdOn 50 = .ok (.goto 4, 3) := by decide +kernel
theorem dX5_crowdOn_53 : decode cX5_crowdOn 53 = .ok (.iconst 0, 1) := by decide +kernel
theorem dX5_crowdOn_54 : decode cX5_crowdOn 54 = .ok (.iadd, 1) := by decide +kernel
theorem dX5_crowdOn_55 : decode cX5_crowdOn 55 = .ok (.istore_n 2, 1) := by decide +kernel
theorem dX5_crowdOn_56 : decode cX5_crowdOn 56 = .ok (.iinc 3 1, 3) := by decide +kernel
theorem dX5_crowdOn_59 : decode cX5_crowdOn 59 = .ok (.goto (-39), 3) := by decide +kernel
theorem dX5_crowdOn_62 : decode cX5_crowdOn 62 = .ok (.iload_n 2, 1) := by decide +kernel
theorem dX5_crowdOn_63 : decode cX5_crowdOn 63 = .ok (.ireturn, 1) := by decide +kernel
theorem dX5_day_0 : decode cX5_day 0 = .ok (.aload_n 0, 1) := by decide +kernel
theorem dX5_day_1 : decode cX5_day 1 = .ok (.bipush 6, 2) := by decide +kernel
theorem dX5_day_3 : decode cX5_day 3 = .ok (.invokevirtual 251, 3) := by decide +kernel
theorem dX5_day_6 : decode cX5_day 6 = .ok (.ireturn, 1) := by decide +kernel
theorem dX5_round_0 : decode cX5_round 0 = .ok (.aload_n 0, 1) := by decide +kernel
theorem dX5_round_1 : decode cX5_round 1 = .ok (.bipush 7, 2) := by decide +kernel
theorem dX5_round_3 : decode cX5_round 3 = .ok (.invokevirtual 251, 3) := by decide +kernel
theorem dX5_round_6 : decode cX5_round 6 = .ok (.ireturn, 1) := by decide +kernel
theorem dX5_rainIn_0 : decode cX5_rainIn 0 = .ok (.aload_n 0, 1) := by decide +kernel
theorem dX5_rainIn_1 : decode cX5_rainIn 1 = .ok (.iload_n 1, 1) := by decide +kernel
theorem dX5_rainIn_2 : decode cX5_rainIn 2 = .ok (.invokestatic 197, 3) := by decide +kernel
theorem dX5_rainIn_5 : decode cX5_rainIn 5 = .ok (.ifCond .eq 7, 3) := by decide +kernel
theorem dX5_rainIn_8 : decode cX5_rainIn 8 = .ok (.iconst 0, 1) := by decide +kernel
theorem dX5_rainIn_9 : decode cX5_rainIn 9 = .ok (.goto 4, 3) := by decide +kernel
theorem dX5_rainIn_12 : decode cX5_rainIn 12 = .ok (.iconst 1, 1) := by decide +kernel
theorem dX5_rainIn_13 : decode cX5_rainIn 13 = .ok (.putfield 34, 3) := by decide +kernel
theorem dX5_rainIn_16 : decode cX5_rainIn 16 = .ok (.aload_n 0, 1) := by decide +kernel
theorem dX5_rainIn_17 : decode cX5_rainIn 17 = .ok (.getfield 34, 3) := by decide +kernel
theorem dX5_rainIn_20 : decode cX5_rainIn 20 = .ok (.ifCond .le 7, 3) := by decide +kernel
theorem dX5_rainIn_23 : decode cX5_rainIn 23 = .ok (.iconst 0, 1) := by decide +kernel
theorem dX5_rainIn_24 : decode cX5_rainIn 24 = .ok (.goto 8, 3) := by decide +kernel
theorem dX5_rainIn_27 : decode cX5_rainIn 27 = .ok (.aload_n 0, 1) := by decide +kernel
theorem dX5_rainIn_28 : decode cX5_rainIn 28 = .ok (.iload_n 1, 1) := by decide +kernel
theorem dX5_rainIn_29 : decode cX5_rainIn 29 = .ok (.invokevirtual 117, 3) := by decide +kernel
theorem dX5_rainIn_32 : decode cX5_rainIn 32 = .ok (.ireturn, 1) := by decide +kernel
theorem dX5_isChildDue_0 : decode cX5_isChildDue 0 = .ok (.aload_n 0, 1) := by decide +kernel
theorem dX5_isChildDue_1 : decode cX5_isChildDue 1 = .ok (.iconst 0, 1) := by decide +kernel
theorem dX5_isChildDue_2 : decode cX5_isChildDue 2 = .ok (.putfield 34, 3) := by decide +kernel
theorem dX5_isChildDue_5 : decode cX5_isChildDue 5 = .ok (.aload_n 0, 1) := by decide +kernel
theorem dX5_isChildDue_6 : decode cX5_isChildDue 6 = .ok (.invokevirtual 156, 3) := by decide +kernel
theorem dX5_isChildDue_9 : decode cX5_isChildDue 9 = .ok (.ireturn, 1) := by decide +kernel
theorem dX5_bank_0 : decode cX5_bank 0 = .ok (.aload_n 0, 1) := by decide +kernel
theorem dX5_bank_1 : decode cX5_bank 1 = .ok (.iconst 0, 1) := by decide +kernel
theorem dX5_bank_2 : decode cX5_bank 2 = .ok (.invokevirtual 251, 3) := by decide +kernel
theorem dX5_bank_5 : decode cX5_bank 5 = .ok (.ireturn, 1) := by decide +kernel
theorem dX5_town_0 : decode cX5_town 0 = .ok (.aload_n 0, 1) := by decide +kernel
theorem dX5_town_1 : decode cX5_town 1 = .ok (.iconst 1, 1) := by decide +kernel
theorem dX5_town_2 : decode cX5_town 2 = .ok (.invokevirtual 251, 3) := by decide +kernel
theorem dX5_town_5 : decode cX5_town 5 = .ok (.ireturn, 1) := by decide +kernel
theorem dX5_all_0 : decode cX5_all 0 = .ok (.aload_n 0, 1) := by decide +kernel
theorem dX5_all_1 : decode cX5_all 1 = .ok (.iconst 0, 1) := by decide +kernel
theorem dX5_all_2 : decode cX5_all 2 = .ok (.putfield 34, 3) := by decide +kernel
theorem dX5_all_5 : decode cX5_all 5 = .ok (.sipush 500, 3) := by decide +kernel
theorem dX5_all_8 : decode cX5_all 8 = .ok (.aload_n 0, 1) := by decide +kernel
theorem dX5_all_9 : decode cX5_all 9 = .ok (.getfield 7, 3) := by decide +kernel
theorem dX5_all_12 : decode cX5_all 12 = .ok (.iconst 3, 1) := by decide +kernel
theorem dX5_all_13 : decode cX5_all 13 = .ok (.iaload, 1) := by decide +kernel
theorem dX5_all_14 : decode cX5_all 14 = .ok (.iadd, 1) := by decide +kernel
theorem dX5_all_15 : decode cX5_all 15 = .ok (.ireturn, 1) := by decide +kernel
theorem dX5_allCoins_0 : decode cX5_allCoins 0 = .ok (.aload_n 0, 1) := by decide +kernel
theorem dX5_allCoins_1 : decode cX5_allCoins 1 = .ok (.invokevirtual 266, 3) := by decide +kernel
theorem dX5_allCoins_4 : decode cX5_allCoins 4 = .ok (.ireturn, 1) := by decide +kernel
theorem dX5_coinsByPlaces_0 : decode cX5_coinsByPlaces 0 = .ok (.aload_n 0, 1) := by decide +kernel
theorem dX5_coinsByPlaces_1 : decode cX5_coinsByPlaces 1 = .ok (.invokevirtual 266, 3) := by decide +kernel
theorem dX5_coinsByPlaces_4 : decode cX5_coinsByPlaces 4 = .ok (.ireturn, 1) := by decide +kernel
theorem dX5_takings_0 : decode cX5_takings 0 = .ok (.aload_n 0, 1) := by decide +kernel
theorem dX5_takings_1 : decode cX5_takings 1 = .ok (.iconst 4, 1) := by decide +kernel
theorem dX5_takings_2 : decode cX5_takings 2 = .ok (.invokevirtual 251, 3) := by decide +kernel
theorem dX5_takings_5 : decode cX5_takings 5 = .ok (.ireturn, 1) := by decide +kernel
theorem dX5_takingsByChildren_0 : decode cX5_takingsByChildren 0 = .ok (.aload_n 0, 1) := by decide +kernel
theorem dX5_takingsByChildren_1 : decode cX5_takingsByChildren 1 = .ok (.iconst 4, 1) := by decide +kernel
theorem dX5_takingsByChildren_2 : decode cX5_takingsByChildren 2 = .ok (.invokevirtual 251, 3) := by decide +kernel
theorem dX5_takingsByChildren_5 : decode cX5_takingsByChildren 5 = .ok (.ireturn, 1) := by decide +kernel
theorem dX5_plays_0 : decode cX5_plays 0 = .ok (.aload_n 0, 1) := by decide +kernel
theorem dX5_plays_1 : decode cX5_plays 1 = .ok (.iconst 5, 1) := by decide +kernel
theorem dX5_plays_2 : decode cX5_plays 2 = .ok (.invokevirtual 251, 3) := by decide +kernel
theorem dX5_plays_5 : decode cX5_plays 5 = .ok (.ireturn, 1) := by decide +kernel
theorem dX5_takingsToday_0 : decode cX5_takingsToday 0 = .ok (.aload_n 0, 1) := by decide +kernel
theorem dX5_takingsToday_1 : decode cX5_takingsToday 1 = .ok (.iconst 0, 1) := by decide +kernel
theorem dX5_takingsToday_2 : decode cX5_takingsToday 2 = .ok (.putfield 34, 3) := by decide +kernel
theorem dX5_takingsToday_5 : decode cX5_takingsToday 5 = .ok (.aload_n 0, 1) := by decide +kernel
theorem dX5_takingsToday_6 : decode cX5_takingsToday 6 = .ok (.getfield 7, 3) := by decide +kernel
theorem dX5_takingsToday_9 : decode cX5_takingsToday 9 = .ok (.iconst 0, 1) := by decide +kernel
theorem dX5_takingsToday_10 : decode cX5_takingsToday 10 = .ok (.aload_n 0, 1) := by decide +kernel
theorem dX5_takingsToday_11 : decode cX5_takingsToday 11 = .ok (.getfield 19, 3) := by decide +kernel
theorem dX5_takingsToday_14 : decode cX5_takingsToday 14 = .ok (.iconst 0, 1) := by decide +kernel
theorem dX5_takingsToday_15 : decode cX5_takingsToday 15 = .ok (.invokestatic 41, 3) := by decide +kernel
theorem dX5_takingsToday_18 : decode cX5_takingsToday 18 = .ok (.aload_n 0, 1) := by decide +kernel
theorem dX5_takingsToday_19 : decode cX5_takingsToday 19 = .ok (.getfield 7, 3) := by decide +kernel
theorem dX5_takingsToday_22 : decode cX5_takingsToday 22 = .ok (.iconst 4, 1) := by decide +kernel
theorem dX5_takingsToday_23 : decode cX5_takingsToday 23 = .ok (.iaload, 1) := by decide +kernel
theorem dX5_takingsToday_24 : decode cX5_takingsToday 24 = .ok (.istore_n 1, 1) := by decide +kernel
theorem dX5_takingsToday_25 : decode cX5_takingsToday 25 = .ok (.aload_n 0, 1) := by decide +kernel
theorem dX5_takingsToday_26 : decode cX5_takingsToday 26 = .ok (.bipush 40, 2) := by decide +kernel
theorem dX5_takingsToday_28 : decode cX5_takingsToday 28 = .ok (.aload_n 0, 1) := by decide +kernel
theorem dX5_takingsToday_29 : decode cX5_takingsToday 29 = .ok (.getfield 7, 3) := by decide +kernel
theorem dX5_takingsToday_32 : decode cX5_takingsToday 32 = .ok (.bipush 7, 2) := by decide +kernel
theorem dX5_takingsToday_34 : decode cX5_takingsToday 34 = .ok (.iaload, 1) := by decide +kernel
theorem dX5_takingsToday_35 : decode cX5_takingsToday 35 = .ok (.isub, 1) := by decide +kernel
theorem dX5_takingsToday_36 : decode cX5_takingsToday 36 = .ok (.invokevirtual 206, 3) := by decide +kernel
theorem dX5_takingsToday_39 : decode cX5_takingsToday 39 = .ok (.istore_n 2, 1) := by decide +kernel
theorem dX5_takingsToday_40 : decode cX5_takingsToday 40 = .ok (.aload_n 0, 1) := by decide +kernel
theorem dX5_takingsToday_41 : decode cX5_takingsToday 41 = .ok (.getfield 7, 3) := by decide +kernel
theorem dX5_takingsToday_44 : decode cX5_takingsToday 44 = .ok (.iconst 4, 1) := by decide +kernel
theorem dX5_takingsToday_45 : decode cX5_takingsToday 45 = .ok (.iaload, 1) := by decide +kernel
theorem dX5_takingsToday_46 : decode cX5_takingsToday 46 = .ok (.iload_n 1, 1) := by decide +kernel
theorem dX5_takingsToday_47 : decode cX5_takingsToday 47 = .ok (.isub, 1) := by decide +kernel
theorem dX5_takingsToday_48 : decode cX5_takingsToday 48 = .ok (.istore_n 3, 1) := by decide +kernel
theorem dX5_takingsToday_49 : decode cX5_takingsToday 49 = .ok (.aload_n 0, 1) := by decide +kernel
theorem dX5_takingsToday_50 : decode cX5_takingsToday 50 = .ok (.getfield 19, 3) := by decide +kernel
theorem dX5_takingsToday_53 : decode cX5_takingsToday 53 = .ok (.iconst 0, 1) := by decide +kernel
theorem dX5_takingsToday_54 : decode cX5_takingsToday 54 = .ok (.aload_n 0, 1) := by decide +kernel
theorem dX5_takingsToday_55 : decode cX5_takingsToday 55 = .ok (.getfield 7, 3) := by decide +kernel
theorem dX5_takingsToday_58 : decode cX5_takingsToday 58 = .ok (.iconst 0, 1) := by decide +kernel
theorem dX5_takingsToday_59 : decode cX5_takingsToday 59 = .ok (.invokestatic 41, 3) := by decide +kernel
theorem dX5_takingsToday_62 : decode cX5_takingsToday 62 = .ok (.iload_n 2, 1) := by decide +kernel
theorem dX5_takingsToday_63 : decode cX5_takingsToday 63 = .ok (.ifCond .ge 7, 3) := by decide +kernel
theorem dX5_takingsToday_66 : decode cX5_takingsToday 66 = .ok (.iconst (-1), 1) := by decide +kernel
theorem dX5_takingsToday_67 : decode cX5_takingsToday 67 = .ok (.goto 4, 3) := by decide +kernel
theorem dX5_takingsToday_70 : decode cX5_takingsToday 70 = .ok (.iload_n 3, 1) := by decide +kernel
theorem dX5_takingsToday_71 : decode cX5_takingsToday 71 = .ok (.ireturn, 1) := by decide +kernel
theorem dX5_home_0 : decode cX5_home 0 = .ok (.aload_n 0, 1) := by decide +kernel
theorem dX5_home_1 : decode cX5_home 1 = .ok (.getfield 7, 3) := by decide +kernel
theorem dX5_home_4 : decode cX5_home 4 = .ok (.iconst 0, 1) := by decide +kernel
theorem dX5_home_5 : decode cX5_home 5 = .ok (.aload_n 0, 1) := by decide +kernel
theorem dX5_home_6 : decode cX5_home 6 = .ok (.getfield 19, 3) := by decide +kernel
theorem dX5_home_9 : decode cX5_home 9 = .ok (.iconst 0, 1) := by decide +kernel
theorem dX5_home_10 : decode cX5_home 10 = .ok (.invokestatic 41, 3) := by decide +kernel
theorem dX5_home_13 : decode cX5_home 13 = .ok (.iconst 0, 1) := by decide +kernel
theorem dX5_home_14 : decode cX5_home 14 = .ok (.istore_n 2, 1) := by decide +kernel
theorem dX5_home_15 : decode cX5_home 15 = .ok (.aload_n 0, 1) := by decide +kernel
theorem dX5_home_16 : decode cX5_home 16 = .ok (.iload_n 1, 1) := by decide +kernel
theorem dX5_home_17 : decode cX5_home 17 = .ok (.invokevirtual 103, 3) := by decide +kernel
theorem dX5_home_20 : decode cX5_home 20 = .ok (.ifCond .eq 22, 3) := by decide +kernel
theorem dX5_home_23 : decode cX5_home 23 = .ok (.iload_n 2, 1) := by decide +kernel
theorem dX5_home_24 : decode cX5_home 24 = .ok (.aload_n 0, 1) := by decide +kernel
theorem dX5_home_25 : decode cX5_home 25 = .ok (.iconst 1, 1) := by decide +kernel
theorem dX5_home_26 : decode cX5_home 26 = .ok (.invokevirtual 206, 3) := by decide +kernel
theorem dX5_home_29 : decode cX5_home 29 = .ok (.ifCond .ge 7, 3) := by decide +kernel
theorem dX5_home_32 : decode cX5_home 32 = .ok (.iconst 0, 1) := by decide +kernel
theorem dX5_home_33 : decode cX5_home 33 = .ok (.goto 4, 3) := by decide +kernel
theorem dX5_home_36 : decode cX5_home 36 = .ok (.iconst 1, 1) := by decide +kernel
theorem dX5_home_37 : decode cX5_home 37 = .ok (.iadd, 1) := by decide +kernel
theorem dX5_home_38 : decode cX5_home 38 = .ok (.istore_n 2, 1) := by decide +kernel
theorem dX5_home_39 : decode cX5_home 39 = .ok (.goto (-24), 3) := by decide +kernel
theorem dX5_home_42 : decode cX5_home 42 = .ok (.aload_n 0, 1) := by decide +kernel
theorem dX5_home_43 : decode cX5_home 43 = .ok (.getfield 19, 3) := by decide +kernel
theorem dX5_home_46 : decode cX5_home 46 = .ok (.iconst 0, 1) := by decide +kernel
theorem dX5_home_47 : decode cX5_home 47 = .ok (.aload_n 0, 1) := by decide +kernel
theorem dX5_home_48 : decode cX5_home 48 = .ok (.getfield 7, 3) := by decide +kernel
theorem dX5_home_51 : decode cX5_home 51 = .ok (.iconst 0, 1) := by decide +kernel
theorem dX5_home_52 : decode cX5_home 52 = .ok (.invokestatic 41, 3) := by decide +kernel
theorem dX5_home_55 : decode cX5_home 55 = .ok (.iload_n 2, 1) := by decide +kernel
theorem dX5_home_56 : decode cX5_home 56 = .ok (.ireturn, 1) := by decide +kernel
theorem dX5_homeIn_0 : decode cX5_homeIn 0 = .ok (.aload_n 0, 1) := by decide +kernel
theorem dX5_homeIn_1 : decode cX5_homeIn 1 = .ok (.aload_n 0, 1) := by decide +kernel
theorem dX5_homeIn_2 : decode cX5_homeIn 2 = .ok (.iload_n 1, 1) := by decide +kernel
theorem dX5_homeIn_3 : decode cX5_homeIn 3 = .ok (.invokevirtual 257, 3) := by decide +kernel
theorem dX5_homeIn_6 : decode cX5_homeIn 6 = .ok (.ifCond .eq 7, 3) := by decide +kernel
theorem dX5_homeIn_9 : decode cX5_homeIn 9 = .ok (.iconst 0, 1) := by decide +kernel
theorem dX5_homeIn_10 : decode cX5_homeIn 10 = .ok (.goto 4, 3) := by decide +kernel
theorem dX5_homeIn_13 : decode cX5_homeIn 13 = .ok (.iconst 1, 1) := by decide +kernel
theorem dX5_homeIn_14 : decode cX5_homeIn 14 = .ok (.putfield 34, 3) := by decide +kernel
theorem dX5_homeIn_17 : decode cX5_homeIn 17 = .ok (.aload_n 0, 1) := by decide +kernel
theorem dX5_homeIn_18 : decode cX5_homeIn 18 = .ok (.getfield 34, 3) := by decide +kernel
theorem dX5_homeIn_21 : decode cX5_homeIn 21 = .ok (.ifCond .le 7, 3) := by decide +kernel
theorem dX5_homeIn_24 : decode cX5_homeIn 24 = .ok (.iconst 0, 1) := by decide +kernel
theorem dX5_homeIn_25 : decode cX5_homeIn 25 = .ok (.goto 8, 3) := by decide +kernel
theorem dX5_homeIn_28 : decode cX5_homeIn 28 = .ok (.aload_n 0, 1) := by decide +kernel
theorem dX5_homeIn_29 : decode cX5_homeIn 29 = .ok (.iload_n 1, 1) := by decide +kernel
theorem dX5_homeIn_30 : decode cX5_homeIn 30 = .ok (.invokevirtual 269, 3) := by decide +kernel
theorem dX5_homeIn_33 : decode cX5_homeIn 33 = .ok (.ireturn, 1) := by decide +kernel
theorem dX5_would_0 : decode cX5_would 0 = .ok (.aload_n 0, 1) := by decide +kernel
theorem dX5_would_1 : decode cX5_would 1 = .ok (.getfield 7, 3) := by decide +kernel
theorem dX5_would_4 : decode cX5_would 4 = .ok (.iconst 0, 1) := by decide +kernel
theorem dX5_would_5 : decode cX5_would 5 = .ok (.aload_n 0, 1) := by decide +kernel
theorem dX5_would_6 : decode cX5_would 6 = .ok (.getfield 19, 3) := by decide +kernel
theorem dX5_would_9 : decode cX5_would 9 = .ok (.iconst 0, 1) := by decide +kernel
theorem dX5_would_10 : decode cX5_would 10 = .ok (.invokestatic 41, 3) := by decide +kernel
theorem dX5_would_13 : decode cX5_would 13 = .ok (.aload_n 0, 1) := by decide +kernel
theorem dX5_would_14 : decode cX5_would 14 = .ok (.iload_n 1, 1) := by decide +kernel
theorem dX5_would_15 : decode cX5_would 15 = .ok (.iload_n 2, 1) := by decide +kernel
theorem dX5_would_16 : decode cX5_would 16 = .ok (.iload_n 3, 1) := by decide +kernel
theorem dX5_would_17 : decode cX5_would 17 = .ok (.iconst 0, 1) := by decide +kernel
theorem dX5_would_18 : decode cX5_would 18 = .ok (.invokevirtual 84, 3) := by decide +kernel
theorem dX5_would_21 : decode cX5_would 21 = .ok (.istore 4, 2) := by decide +kernel
theorem dX5_would_23 : decode cX5_would 23 = .ok (.aload_n 0, 1) := by decide +kernel
theorem dX5_would_24 : decode cX5_would 24 = .ok (.bipush 40, 2) := by decide +kernel
theorem dX5_would_26 : decode cX5_would 26 = .ok (.aload_n 0, 1) := by decide +kernel
theorem dX5_would_27 : decode cX5_would 27 = .ok (.getfield 7, 3) := by decide +kernel
theorem dX5_would_30 : decode cX5_would 30 = .ok (.bipush 7, 2) := by decide +kernel
theorem dX5_would_32 : decode cX5_would 32 = .ok (.iaload, 1) := by decide +kernel
theorem dX5_would_33 : decode cX5_would 33 = .ok (.isub, 1) := by decide +kernel
theorem dX5_would_34 : decode cX5_would 34 = .ok (.invokevirtual 206, 3) := by decide +kernel
theorem dX5_would_37 : decode cX5_would 37 = .ok (.ifCond .ge 7, 3) := by decide +kernel
theorem dX5_would_40 : decode cX5_would 40 = .ok (.iconst (-1), 1) := by decide +kernel
theorem dX5_would_41 : decode cX5_would 41 = .ok (.goto 10, 3) := by decide +kernel
theorem dX5_would_44 : decode cX5_would 44 = .ok (.aload_n 0, 1) := by decide +kernel
theorem dX5_would_45 : decode cX5_would 45 = .ok (.iload 4, 2) := by decide +kernel
theorem dX5_would_47 : decode cX5_would 47 = .ok (.iconst 5, 1) := by decide +kernel
theorem dX5_would_48 : decode cX5_would 48 = .ok (.invokevirtual 49, 3) := by decide +kernel
theorem dX5_would_51 : decode cX5_would 51 = .ok (.istore 5, 2) := by decide +kernel
theorem dX5_would_53 : decode cX5_would 53 = .ok (.aload_n 0, 1) := by decide +kernel
theorem dX5_would_54 : decode cX5_would 54 = .ok (.getfield 19, 3) := by decide +kernel
theorem dX5_would_57 : decode cX5_would 57 = .ok (.iconst 0, 1) := by decide +kernel
theorem dX5_would_58 : decode cX5_would 58 = .ok (.aload_n 0, 1) := by decide +kernel
theorem dX5_would_59 : decode cX5_would 59 = .ok (.getfield 7, 3) := by decide +kernel
theorem dX5_would_62 : decode cX5_would 62 = .ok (.iconst 0, 1) := by decide +kernel
theorem dX5_would_63 : decode cX5_would 63 = .ok (.invokestatic 41, 3) := by decide +kernel
theorem dX5_would_66 : decode cX5_would 66 = .ok (.iload 5, 2) := by decide +kernel
theorem dX5_would_68 : decode cX5_would 68 = .ok (.ireturn, 1) := by decide +kernel
theorem dX5_bestPitch_0 : decode cX5_bestPitch 0 = .ok (.aload_n 0, 1) := by decide +kernel
theorem dX5_bestPitch_1 : decode cX5_bestPitch 1 = .ok (.iload_n 1, 1) := by decide +kernel
theorem dX5_bestPitch_2 : decode cX5_bestPitch 2 = .ok (.invokestatic 74, 3) := by decide +kernel
theorem dX5_bestPitch_5 : decode cX5_bestPitch 5 = .ok (.ifCond .ne 7, 3) := by decide +kernel
theorem dX5_bestPitch_8 : decode cX5_bestPitch 8 = .ok (.iconst 1, 1) := by decide +kernel
theorem dX5_bestPitch_9 : decode cX5_bestPitch 9 = .ok (.goto 15, 3) := by decide +kernel
theorem dX5_bestPitch_12 : decode cX5_bestPitch 12 = .ok (.iload_n 2, 1) := by decide +kernel
theorem dX5_bestPitch_13 : decode cX5_bestPitch 13 = .ok (.invokestatic 77, 3) := by decide +kernel
theorem dX5_bestPitch_16 : decode cX5_bestPitch 16 = .ok (.ifCond .eq 7, 3) := by decide +kernel
theorem dX5_bestPitch_19 : decode cX5_bestPitch 19 = .ok (.iconst 0, 1) := by decide +kernel
theorem dX5_bestPitch_20 : decode cX5_bestPitch 20 = .ok (.goto 4, 3) := by decide +kernel
theorem dX5_bestPitch_23 : decode cX5_bestPitch 23 = .ok (.iconst 2, 1) := by decide +kernel
theorem dX5_bestPitch_24 : decode cX5_bestPitch 24 = .ok (.putfield 34, 3) := by decide +kernel
theorem dX5_bestPitch_27 : decode cX5_bestPitch 27 = .ok (.aload_n 0, 1) := by decide +kernel
theorem dX5_bestPitch_28 : decode cX5_bestPitch 28 = .ok (.getfield 34, 3) := by decide +kernel
theorem dX5_bestPitch_31 : decode cX5_bestPitch 31 = .ok (.ifCond .le 5, 3) := by decide +kernel
theorem dX5_bestPitch_34 : decode cX5_bestPitch 34 = .ok (.iconst 0, 1) := by decide +kernel
theorem dX5_bestPitch_35 : decode cX5_bestPitch 35 = .ok (.ireturn, 1) := by decide +kernel
theorem dX5_bestPitch_36 : decode cX5_bestPitch 36 = .ok (.iconst (-1), 1) := by decide +kernel
theorem dX5_bestPitch_37 : decode cX5_bestPitch 37 = .ok (.istore_n 3, 1) := by decide +kernel
theorem dX5_bestPitch_38 : decode cX5_bestPitch 38 = .ok (.iconst (-1), 1) := by decide +kernel
theorem dX5_bestPitch_39 : decode cX5_bestPitch 39 = .ok (.istore 4, 2) := by decide +kernel
theorem dX5_bestPitch_41 : decode cX5_bestPitch 41 = .ok (.iconst 0, 1) := by decide +kernel
theorem dX5_bestPitch_42 : decode cX5_bestPitch 42 = .ok (.istore 5, 2) := by decide +kernel
theorem dX5_bestPitch_44 : decode cX5_bestPitch 44 = .ok (.iload 5, 2) := by decide +kernel
theorem dX5_bestPitch_46 : decode cX5_bestPitch 46 = .ok (.bipush 12, 2) := by decide +kernel
theorem dX5_bestPitch_48 : decode cX5_bestPitch 48 = .ok (.if_icmp .ge 63, 3) := by decide +kernel
theorem dX5_bestPitch_51 : decode cX5_bestPitch 51 = .ok (.aload_n 0, 1) := by decide +kernel
theorem dX5_bestPitch_52 : decode cX5_bestPitch 52 = .ok (.iload 5, 2) := by decide +kernel
theorem dX5_bestPitch_54 : decode cX5_bestPitch 54 = .ok (.invokevirtual 53, 3) := by decide +kernel
theorem dX5_bestPitch_57 : decode cX5_bestPitch 57 = .ok (.iconst (-1), 1) := by decide +kernel
theorem dX5_bestPitch_58 : decode cX5_bestPitch 58 = .ok (.if_icmp .ne 14, 3) := by decide +kernel
theorem dX5_bestPitch_61 : decode cX5_bestPitch 61 = .ok (.aload_n 0, 1) := by decide +kernel
theorem dX5_bestPitch_62 : decode cX5_bestPitch 62 = .ok (.iload 5, 2) := by decide +kernel
theorem dX5_bestPitch_64 : decode cX5_bestPitch 64 = .ok (.iload_n 1, 1) := by decide +kernel
theorem dX5_bestPitch_65 : decode cX5_bestPitch 65 = .ok (.iload_n 2, 1) := by decide +kernel
theorem dX5_bestPitch_66 : decode cX5_bestPitch 66 = .ok (.invokevirtual 272, 3) := by decide +kernel
theorem dX5_bestPitch_69 : decode cX5_bestPitch 69 = .ok (.goto 4, 3) := by decide +kernel
theorem dX5_bestPitch_72 : decode cX5_bestPitch 72 = .ok (.iconst (-1), 1) := by decide +kernel
theorem dX5_bestPitch_73 : decode cX5_bestPitch 73 = .ok (.istore 6, 2) := by decide +kernel
theorem dX5_bestPitch_75 : decode cX5_bestPitch 75 = .ok (.iload 6, 2) := by decide +kernel
theorem dX5_bestPitch_77 : decode cX5_bestPitch 77 = .ok (.iload 4, 2) := by decide +kernel
theorem dX5_bestPitch_79 : decode cX5_bestPitch 79 = .ok (.if_icmp .le 8, 3) := by decide +kernel
theorem dX5_bestPitch_82 : decode cX5_bestPitch 82 = .ok (.iload 5, 2) := by decide +kernel
theorem dX5_bestPitch_84 : decode cX5_bestPitch 84 = .ok (.goto 4, 3) := by decide +kernel
theorem dX5_bestPitch_87 : decode cX5_bestPitch 87 = .ok (.iload_n 3, 1) := by decide +kernel
theorem dX5_bestPitch_88 : decode cX5_bestPitch 88 = .ok (.istore_n 3, 1) := by decide +kernel
theorem dX5_bestPitch_89 : decode cX5_bestPitch 89 = .ok (.iload 6, 2) := by decide +kernel
theorem dX5_bestPitch_91 : decode cX5_bestPitch 91 = .ok (.iload 4, 2) := by decide +kernel
theorem dX5_bestPitch_93 : decode cX5_bestPitch 93 = .ok (.if_icmp .le 8, 3) := by decide +kernel
theorem dX5_bestPitch_96 : decode cX5_bestPitch 96 = .ok (.iload 6, 2) := by decide +kernel
theorem dX5_bestPitch_98 : decode cX5_bestPitch 98 = .ok (.goto 5, 3) := by decide +kernel
theorem dX5_bestPitch_101 : decode cX5_bestPitch 101 = .ok (.iload 4, 2) := by decide +kernel
theorem dX5_bestPitch_103 : decode cX5_bestPitch 103 = .ok (.istore 4, 2) := by decide +kernel
theorem dX5_bestPitch_105 : decode cX5_bestPitch 105 = .ok (.iinc 5 1, 3) := by decide +kernel
theorem dX5_bestPitch_108 : decode cX5_bestPitch 108 = .ok (.goto (-64), 3) := by decide +kernel
theorem dX5_bestPitch_111 : decode cX5_bestPitch 111 = .ok (.iload_n 3, 1) := by decide +kernel
theorem dX5_bestPitch_112 : decode cX5_bestPitch 112 = .ok (.ireturn, 1) := by decide +kernel
theorem dX5_recordedStates_0 : decode cX5_recordedStates 0 = .ok (.aload_n 0, 1) := by decide +kernel
theorem dX5_recordedStates_1 : decode cX5_recordedStates 1 = .ok (.iconst 0, 1) := by decide +kernel
theorem dX5_recordedStates_2 : decode cX5_recordedStates 2 = .ok (.putfield 34, 3) := by decide +kernel
theorem dX5_recordedStates_5 : decode cX5_recordedStates 5 = .ok (.aload_n 0, 1) := by decide +kernel
theorem dX5_recordedStates_6 : decode cX5_recordedStates 6 = .ok (.getfield 38, 3) := by decide +kernel
theorem dX5_recordedStates_9 : decode cX5_recordedStates 9 = .ok (.ireturn, 1) := by decide +kernel
theorem dJ9_min_7cf53_0 : decode cJ9_min_7cf53 0 = .ok (.iload_n 0, 1) := by decide +kernel
theorem dJ9_min_7cf53_1 : decode cJ9_min_7cf53 1 = .ok (.iload_n 1, 1) := by decide +kernel
theorem dJ9_min_7cf53_2 : decode cJ9_min_7cf53 2 = .ok (.if_icmp .gt 7, 3) := by decide +kernel
theorem dJ9_min_7cf53_5 : decode cJ9_min_7cf53 5 = .ok (.iload_n 0, 1) := by decide +kernel
theorem dJ9_min_7cf53_6 : decode cJ9_min_7cf53 6 = .ok (.goto 4, 3) := by decide +kernel
theorem dJ9_min_7cf53_9 : decode cJ9_min_7cf53 9 = .ok (.iload_n 1, 1) := by decide +kernel
theorem dJ9_min_7cf53_10 : decode cJ9_min_7cf53 10 = .ok (.ireturn, 1) := by decide +kernel
theorem dL_build_0 : decode cL_build 0 = .ok (.aload 5, 2) := by decide +kernel
theorem dL_build_2 : decode cL_build 2 = .ok (.iconst 0, 1) := by decide +kernel
theorem dL_build_3 : decode cL_build 3 = .ok (.aload_n 0, 1) := by decide +kernel
theorem dL_build_4 : decode cL_build 4 = .ok (.iload_n 1, 1) := by decide +kernel
theorem dL_build_5 : decode cL_build 5 = .ok (.iload_n 2, 1) := by decide +kernel
theorem dL_build_6 : decode cL_build 6 = .ok (.iload_n 3, 1) := by decide +kernel
theorem dL_build_7 : decode cL_build 7 = .ok (.iload 4, 2) := by decide +kernel
theorem dL_build_9 : decode cL_build 9 = .ok (.invokevirtual 7, 3) := by decide +kernel
theorem dL_build_12 : decode cL_build 12 = .ok (.i2l, 1) := by decide +kernel
theorem dL_build_13 : decode cL_build 13 = .ok (.lastore, 1) := by decide +kernel
theorem dL_build_14 : decode cL_build 14 = .ok (.goto 15, 3) := by decide +kernel
theorem dL_build_17 : decode cL_build 17 = .ok (.astore 6, 2) := by decide +kernel
theorem dL_build_19 : decode cL_build 19 = .ok (.iconst 1, 1) := by decide +kernel
theorem dL_build_20 : decode cL_build 20 = .ok (.ireturn, 1) := by decide +kernel
theorem dL_build_21 : decode cL_build 21 = .ok (.astore 6, 2) := by decide +kernel
theorem dL_build_23 : decode cL_build 23 = .ok (.iconst 2, 1) := by decide +kernel
theorem dL_build_24 : decode cL_build 24 = .ok (.ireturn, 1) := by decide +kernel
theorem dL_build_25 : decode cL_build 25 = .ok (.astore 6, 2) := by decide +kernel
theorem dL_build_27 : decode cL_build 27 = .ok (.iconst 3, 1) := by decide +kernel
theorem dL_build_28 : decode cL_build 28 = .ok (.ireturn, 1) := by decide +kernel
theorem dL_build_29 : decode cL_build 29 = .ok (.iconst 0, 1) := by decide +kernel
theorem dL_build_30 : decode cL_build 30 = .ok (.ireturn, 1) := by decide +kernel
theorem dL_pullDown_0 : decode cL_pullDown 0 = .ok (.aload_n 2, 1) := by decide +kernel
theorem dL_pullDown_1 : decode cL_pullDown 1 = .ok (.iconst 0, 1) := by decide +kernel
theorem dL_pullDown_2 : decode cL_pullDown 2 = .ok (.aload_n 0, 1) := by decide +kernel
theorem dL_pullDown_3 : decode cL_pullDown 3 = .ok (.iload_n 1, 1) := by decide +kernel
theorem dL_pullDown_4 : decode cL_pullDown 4 = .ok (.invokevirtual 19, 3) := by decide +kernel
theorem dL_pullDown_7 : decode cL_pullDown 7 = .ok (.i2l, 1) := by decide +kernel
theorem dL_pullDown_8 : decode cL_pullDown 8 = .ok (.lastore, 1) := by decide +kernel
theorem dL_pullDown_9 : decode cL_pullDown 9 = .ok (.goto 6, 3) := by decide +kernel
theorem dL_pullDown_12 : decode cL_pullDown 12 = .ok (.astore_n 3, 1) := by decide +kernel
theorem dL_pullDown_13 : decode cL_pullDown 13 = .ok (.iconst 1, 1) := by decide +kernel
theorem dL_pullDown_14 : decode cL_pullDown 14 = .ok (.ireturn, 1) := by decide +kernel
theorem dL_pullDown_15 : decode cL_pullDown 15 = .ok (.iconst 0, 1) := by decide +kernel
theorem dL_pullDown_16 : decode cL_pullDown 16 = .ok (.ireturn, 1) := by decide +kernel
theorem dL_setPrice_0 : decode cL_setPrice 0 = .ok (.aload_n 3, 1) := by decide +kernel
theorem dL_setPrice_1 : decode cL_setPrice 1 = .ok (.iconst 0, 1) := by decide +kernel
theorem dL_setPrice_2 : decode cL_setPrice 2 = .ok (.aload_n 0, 1) := by decide +kernel
theorem dL_setPrice_3 : decode cL_setPrice 3 = .ok (.iload_n 1, 1) := by decide +kernel
theorem dL_setPrice_4 : decode cL_setPrice 4 = .ok (.iload_n 2, 1) := by decide +kernel
theorem dL_setPrice_5 : decode cL_setPrice 5 = .ok (.invokevirtual 23, 3) := by decide +kernel
theorem dL_setPrice_8 : decode cL_setPrice 8 = .ok (.i2l, 1) := by decide +kernel
theorem dL_setPrice_9 : decode cL_setPrice 9 = .ok (.lastore, 1) := by decide +kernel
theorem dL_setPrice_10 : decode cL_setPrice 10 = .ok (.goto 11, 3) := by decide +kernel
theorem dL_setPrice_13 : decode cL_setPrice 13 = .ok (.astore 4, 2) := by decide +kernel
theorem dL_setPrice_15 : decode cL_setPrice 15 = .ok (.iconst 1, 1) := by decide +kernel
theorem dL_setPrice_16 : decode cL_setPrice 16 = .ok (.ireturn, 1) := by decide +kernel
theorem dL_setPrice_17 : decode cL_setPrice 17 = .ok (.astore 4, 2) := by decide +kernel
theorem dL_setPrice_19 : decode cL_setPrice 19 = .ok (.iconst 2, 1) := by decide +kernel
theorem dL_setPrice_20 : decode cL_setPrice 20 = .ok (.ireturn, 1) := by decide +kernel
theorem dL_setPrice_21 : decode cL_setPrice 21 = .ok (.iconst 0, 1) := by decide +kernel
theorem dL_setPrice_22 : decode cL_setPrice 22 = .ok (.ireturn, 1) := by decide +kernel
theorem dL_turnStall_0 : decode cL_turnStall 0 = .ok (.aload_n 2, 1) := by decide +kernel
theorem dL_turnStall_1 : decode cL_turnStall 1 = .ok (.iconst 0, 1) := by decide +kernel
theorem dL_turnStall_2 : decode cL_turnStall 2 = .ok (.aload_n 0, 1) := by decide +kernel
theorem dL_turnStall_3 : decode cL_turnStall 3 = .ok (.iload_n 1, 1) := by decide +kernel
theorem dL_turnStall_4 : decode cL_turnStall 4 = .ok (.invokevirtual 27, 3) := by decide +kernel
theorem dL_turnStall_7 : decode cL_turnStall 7 = .ok (.ifCond .eq 7, 3) := by decide +kernel
theorem dL_turnStall_10 : decode cL_turnStall 10 = .ok (.lconst 1, 1) := by decide +kernel
theorem dL_turnStall_11 : decode cL_turnStall 11 = .ok (.goto 4, 3) := by decide +kernel
theorem dL_turnStall_14 : decode cL_turnStall 14 = .ok (.lconst 0, 1) := by decide +kernel
theorem dL_turnStall_15 : decode cL_turnStall 15 = .ok (.lastore, 1) := by decide +kernel
theorem dL_turnStall_16 : decode cL_turnStall 16 = .ok (.goto 6, 3) := by decide +kernel
theorem dL_turnStall_19 : decode cL_turnStall 19 = .ok (.astore_n 3, 1) := by decide +kernel
theorem dL_turnStall_20 : decode cL_turnStall 20 = .ok (.iconst 1, 1) := by decide +kernel
theorem dL_turnStall_21 : decode cL_turnStall 21 = .ok (.ireturn, 1) := by decide +kernel
theorem dL_turnStall_22 : decode cL_turnStall 22 = .ok (.iconst 0, 1) := by decide +kernel
theorem dL_turnStall_23 : decode cL_turnStall 23 = .ok (.ireturn, 1) := by decide +kernel
theorem dL_restock_0 : decode cL_restock 0 = .ok (.aload 5, 2) := by decide +kernel
theorem dL_restock_2 : decode cL_restock 2 = .ok (.iconst 0, 1) := by decide +kernel
theorem dL_restock_3 : decode cL_restock 3 = .ok (.aload_n 0, 1) := by decide +kernel
theorem dL_restock_4 : decode cL_restock 4 = .ok (.iload_n 1, 1) := by decide +kernel
theorem dL_restock_5 : decode cL_restock 5 = .ok (.iload_n 2, 1) := by decide +kernel
theorem dL_restock_6 : decode cL_restock 6 = .ok (.iload_n 3, 1) := by decide +kernel
theorem dL_restock_7 : decode cL_restock 7 = .ok (.iload 4, 2) := by decide +kernel
theorem dL_restock_9 : decode cL_restock 9 = .ok (.invokevirtual 31, 3) := by decide +kernel
theorem dL_restock_12 : decode cL_restock 12 = .ok (.i2l, 1) := by decide +kernel
theorem dL_restock_13 : decode cL_restock 13 = .ok (.lastore, 1) := by decide +kernel
theorem dL_restock_14 : decode cL_restock 14 = .ok (.goto 15, 3) := by decide +kernel
theorem dL_restock_17 : decode cL_restock 17 = .ok (.astore 6, 2) := by decide +kernel
theorem dL_restock_19 : decode cL_restock 19 = .ok (.iconst 1, 1) := by decide +kernel
theorem dL_restock_20 : decode cL_restock 20 = .ok (.ireturn, 1) := by decide +kernel
theorem dL_restock_21 : decode cL_restock 21 = .ok (.astore 6, 2) := by decide +kernel
theorem dL_restock_23 : decode cL_restock 23 = .ok (.iconst 2, 1) := by decide +kernel
theorem dL_restock_24 : decode cL_restock 24 = .ok (.ireturn, 1) := by decide +kernel
theorem dL_restock_25 : decode cL_restock 25 = .ok (.astore 6, 2) := by decide +kernel
theorem dL_restock_27 : decode cL_restock 27 = .ok (.iconst 3, 1) := by decide +kernel
theorem dL_restock_28 : decode cL_restock 28 = .ok (.ireturn, 1) := by decide +kernel
theorem dL_restock_29 : decode cL_restock 29 = .ok (.iconst 0, 1) := by decide +kernel
theorem dL_restock_30 : decode cL_restock 30 = .ok (.ireturn, 1) := by decide +kernel
theorem dL_fund_0 : decode cL_fund 0 = .ok (.aload_n 3, 1) := by decide +kernel
theorem dL_fund_1 : decode cL_fund 1 = .ok (.iconst 0, 1) := by decide +kernel
theorem dL_fund_2 : decode cL_fund 2 = .ok (.aload_n 0, 1) := by decide +kernel
theorem dL_fund_3 : decode cL_fund 3 = .ok (.iload_n 1, 1) := by decide +kernel
theorem dL_fund_4 : decode cL_fund 4 = .ok (.iload_n 2, 1) := by decide +kernel
theorem dL_fund_5 : decode cL_fund 5 = .ok (.invokevirtual 35, 3) := by decide +kernel
theorem dL_fund_8 : decode cL_fund 8 = .ok (.i2l, 1) := by decide +kernel
theorem dL_fund_9 : decode cL_fund 9 = .ok (.lastore, 1) := by decide +kernel
theorem dL_fund_10 : decode cL_fund 10 = .ok (.goto 15, 3) := by decide +kernel
theorem dL_fund_13 : decode cL_fund 13 = .ok (.astore 4, 2) := by decide +kernel
theorem dL_fund_15 : decode cL_fund 15 = .ok (.iconst 1, 1) := by decide +kernel
theorem dL_fund_16 : decode cL_fund 16 = .ok (.ireturn, 1) := by decide +kernel
theorem dL_fund_17 : decode cL_fund 17 = .ok (.astore 4, 2) := by decide +kernel
theorem dL_fund_19 : decode cL_fund 19 = .ok (.iconst 2, 1) := by decide +kernel
theorem dL_fund_20 : decode cL_fund 20 = .ok (.ireturn, 1) := by decide +kernel
theorem dL_fund_21 : decode cL_fund 21 = .ok (.astore 4, 2) := by decide +kernel
theorem dL_fund_23 : decode cL_fund 23 = .ok (.iconst 3, 1) := by decide +kernel
theorem dL_fund_24 : decode cL_fund 24 = .ok (.ireturn, 1) := by decide +kernel
theorem dL_fund_25 : decode cL_fund 25 = .ok (.iconst 0, 1) := by decide +kernel
theorem dL_fund_26 : decode cL_fund 26 = .ok (.ireturn, 1) := by decide +kernel
theorem dL_collect_0 : decode cL_collect 0 = .ok (.aload_n 2, 1) := by decide +kernel
theorem dL_collect_1 : decode cL_collect 1 = .ok (.iconst 0, 1) := by decide +kernel
theorem dL_collect_2 : decode cL_collect 2 = .ok (.aload_n 0, 1) := by decide +kernel
theorem dL_collect_3 : decode cL_collect 3 = .ok (.iload_n 1, 1) := by decide +kernel
theorem dL_collect_4 : decode cL_collect 4 = .ok (.invokevirtual 38, 3) := by decide +kernel
theorem dL_collect_7 : decode cL_collect 7 = .ok (.i2l, 1) := by decide +kernel
theorem dL_collect_8 : decode cL_collect 8 = .ok (.lastore, 1) := by decide +kernel
theorem dL_collect_9 : decode cL_collect 9 = .ok (.goto 6, 3) := by decide +kernel
theorem dL_collect_12 : decode cL_collect 12 = .ok (.astore_n 3, 1) := by decide +kernel
theorem dL_collect_13 : decode cL_collect 13 = .ok (.iconst 1, 1) := by decide +kernel
theorem dL_collect_14 : decode cL_collect 14 = .ok (.ireturn, 1) := by decide +kernel
theorem dL_collect_15 : decode cL_collect 15 = .ok (.iconst 0, 1) := by decide +kernel
theorem dL_collect_16 : decode cL_collect 16 = .ok (.ireturn, 1) := by decide +kernel
theorem dL_come_0 : decode cL_come 0 = .ok (.aload 4, 2) := by decide +kernel
theorem dL_come_2 : decode cL_come 2 = .ok (.iconst 0, 1) := by decide +kernel
theorem dL_come_3 : decode cL_come 3 = .ok (.aload_n 0, 1) := by decide +kernel
theorem dL_come_4 : decode cL_come 4 = .ok (.iload_n 1, 1) := by decide +kernel
theorem dL_come_5 : decode cL_come 5 = .ok (.iload_n 2, 1) := by decide +kernel
theorem dL_come_6 : decode cL_come 6 = .ok (.iload_n 3, 1) := by decide +kernel
theorem dL_come_7 : decode cL_come 7 = .ok (.invokevirtual 41, 3) := by decide +kernel
theorem dL_come_10 : decode cL_come 10 = .ok (.i2l, 1) := by decide +kernel
theorem dL_come_11 : decode cL_come 11 = .ok (.lastore, 1) := by decide +kernel
theorem dL_come_12 : decode cL_come 12 = .ok (.goto 15, 3) := by decide +kernel
theorem dL_come_15 : decode cL_come 15 = .ok (.astore 5, 2) := by decide +kernel
theorem dL_come_17 : decode cL_come 17 = .ok (.iconst 1, 1) := by decide +kernel
theorem dL_come_18 : decode cL_come 18 = .ok (.ireturn, 1) := by decide +kernel
theorem dL_come_19 : decode cL_come 19 = .ok (.astore 5, 2) := by decide +kernel
theorem dL_come_21 : decode cL_come 21 = .ok (.iconst 2, 1) := by decide +kernel
theorem dL_come_22 : decode cL_come 22 = .ok (.ireturn, 1) := by decide +kernel
theorem dL_come_23 : decode cL_come 23 = .ok (.astore 5, 2) := by decide +kernel
theorem dL_come_25 : decode cL_come 25 = .ok (.iconst 3, 1) := by decide +kernel
theorem dL_come_26 : decode cL_come 26 = .ok (.ireturn, 1) := by decide +kernel
theorem dL_come_27 : decode cL_come 27 = .ok (.iconst 0, 1) := by decide +kernel
theorem dL_come_28 : decode cL_come 28 = .ok (.ireturn, 1) := by decide +kernel
theorem dL_setRain_0 : decode cL_setRain 0 = .ok (.aload_n 3, 1) := by decide +kernel
theorem dL_setRain_1 : decode cL_setRain 1 = .ok (.iconst 0, 1) := by decide +kernel
theorem dL_setRain_2 : decode cL_setRain 2 = .ok (.aload_n 0, 1) := by decide +kernel
theorem dL_setRain_3 : decode cL_setRain 3 = .ok (.iload_n 1, 1) := by decide +kernel
theorem dL_setRain_4 : decode cL_setRain 4 = .ok (.iload_n 2, 1) := by decide +kernel
theorem dL_setRain_5 : decode cL_setRain 5 = .ok (.invokevirtual 45, 3) := by decide +kernel
theorem dL_setRain_8 : decode cL_setRain 8 = .ok (.i2l, 1) := by decide +kernel
theorem dL_setRain_9 : decode cL_setRain 9 = .ok (.lastore, 1) := by decide +kernel
theorem dL_setRain_10 : decode cL_setRain 10 = .ok (.goto 11, 3) := by decide +kernel
theorem dL_setRain_13 : decode cL_setRain 13 = .ok (.astore 4, 2) := by decide +kernel
theorem dL_setRain_15 : decode cL_setRain 15 = .ok (.iconst 1, 1) := by decide +kernel
theorem dL_setRain_16 : decode cL_setRain 16 = .ok (.ireturn, 1) := by decide +kernel
theorem dL_setRain_17 : decode cL_setRain 17 = .ok (.astore 4, 2) := by decide +kernel
theorem dL_setRain_19 : decode cL_setRain 19 = .ok (.iconst 2, 1) := by decide +kernel
theorem dL_setRain_20 : decode cL_setRain 20 = .ok (.ireturn, 1) := by decide +kernel
theorem dL_setRain_21 : decode cL_setRain 21 = .ok (.iconst 0, 1) := by decide +kernel
theorem dL_setRain_22 : decode cL_setRain 22 = .ok (.ireturn, 1) := by decide +kernel
theorem dL_pass_0 : decode cL_pass 0 = .ok (.aload_n 2, 1) := by decide +kernel
theorem dL_pass_1 : decode cL_pass 1 = .ok (.iconst 0, 1) := by decide +kernel
theorem dL_pass_2 : decode cL_pass 2 = .ok (.aload_n 0, 1) := by decide +kernel
theorem dL_pass_3 : decode cL_pass 3 = .ok (.iload_n 1, 1) := by decide +kernel
theorem dL_pass_4 : decode cL_pass 4 = .ok (.invokevirtual 48, 3) := by decide +kernel
theorem dL_pass_7 : decode cL_pass 7 = .ok (.i2l, 1) := by decide +kernel
theorem dL_pass_8 : decode cL_pass 8 = .ok (.lastore, 1) := by decide +kernel
theorem dL_pass_9 : decode cL_pass 9 = .ok (.goto 9, 3) := by decide +kernel
theorem dL_pass_12 : decode cL_pass 12 = .ok (.astore_n 3, 1) := by decide +kernel
theorem dL_pass_13 : decode cL_pass 13 = .ok (.iconst 1, 1) := by decide +kernel
theorem dL_pass_14 : decode cL_pass 14 = .ok (.ireturn, 1) := by decide +kernel
theorem dL_pass_15 : decode cL_pass 15 = .ok (.astore_n 3, 1) := by decide +kernel
theorem dL_pass_16 : decode cL_pass 16 = .ok (.iconst 2, 1) := by decide +kernel
theorem dL_pass_17 : decode cL_pass 17 = .ok (.ireturn, 1) := by decide +kernel
theorem dL_pass_18 : decode cL_pass 18 = .ok (.iconst 0, 1) := by decide +kernel
theorem dL_pass_19 : decode cL_pass 19 = .ok (.ireturn, 1) := by decide +kernel
theorem dL_type_0 : decode cL_type 0 = .ok (.aload_n 2, 1) := by decide +kernel
theorem dL_type_1 : decode cL_type 1 = .ok (.iconst 0, 1) := by decide +kernel
theorem dL_type_2 : decode cL_type 2 = .ok (.aload_n 0, 1) := by decide +kernel
theorem dL_type_3 : decode cL_type 3 = .ok (.iload_n 1, 1) := by decide +kernel
theorem dL_type_4 : decode cL_type 4 = .ok (.invokevirtual 51, 3) := by decide +kernel
theorem dL_type_7 : decode cL_type 7 = .ok (.i2l, 1) := by decide +kernel
theorem dL_type_8 : decode cL_type 8 = .ok (.lastore, 1) := by decide +kernel
theorem dL_type_9 : decode cL_type 9 = .ok (.goto 6, 3) := by decide +kernel
theorem dL_type_12 : decode cL_type 12 = .ok (.astore_n 3, 1) := by decide +kernel
theorem dL_type_13 : decode cL_type 13 = .ok (.iconst 1, 1) := by decide +kernel
theorem dL_type_14 : decode cL_type 14 = .ok (.ireturn, 1) := by decide +kernel
theorem dL_type_15 : decode cL_type 15 = .ok (.iconst 0, 1) := by decide +kernel
theorem dL_type_16 : decode cL_type 16 = .ok (.ireturn, 1) := by decide +kernel
theorem dL_impossibleOrder_0 : decode cL_impossibleOrder 0 = .ok (.aload_n 1, 1) := by decide +kernel
theorem dL_impossibleOrder_1 : decode cL_impossibleOrder 1 = .ok (.iconst 0, 1) := by decide +kernel
theorem dL_impossibleOrder_2 : decode cL_impossibleOrder 2 = .ok (.aload_n 0, 1) := by decide +kernel
theorem dL_impossibleOrder_3 : decode cL_impossibleOrder 3 = .ok (.invokevirtual 55, 3) := by decide +kernel
theorem dL_impossibleOrder_6 : decode cL_impossibleOrder 6 = .ok (.i2l, 1) := by decide +kernel
theorem dL_impossibleOrder_7 : decode cL_impossibleOrder 7 = .ok (.lastore, 1) := by decide +kernel
theorem dL_impossibleOrder_8 : decode cL_impossibleOrder 8 = .ok (.goto 6, 3) := by decide +kernel
theorem dL_impossibleOrder_11 : decode cL_impossibleOrder 11 = .ok (.astore_n 2, 1) := by decide +kernel
theorem dL_impossibleOrder_12 : decode cL_impossibleOrder 12 = .ok (.iconst 1, 1) := by decide +kernel
theorem dL_impossibleOrder_13 : decode cL_impossibleOrder 13 = .ok (.ireturn, 1) := by decide +kernel
theorem dL_impossibleOrder_14 : decode cL_impossibleOrder 14 = .ok (.iconst 0, 1) := by decide +kernel
theorem dL_impossibleOrder_15 : decode cL_impossibleOrder 15 = .ok (.ireturn, 1) := by decide +kernel
theorem dL_carryOut_0 : decode cL_carryOut 0 = .ok (.aload_n 1, 1) := by decide +kernel
theorem dL_carryOut_1 : decode cL_carryOut 1 = .ok (.iconst 0, 1) := by decide +kernel
theorem dL_carryOut_2 : decode cL_carryOut 2 = .ok (.aload_n 0, 1) := by decide +kernel
theorem dL_carryOut_3 : decode cL_carryOut 3 = .ok (.invokevirtual 59, 3) := by decide +kernel
theorem dL_carryOut_6 : decode cL_carryOut 6 = .ok (.i2l, 1) := by decide +kernel
theorem dL_carryOut_7 : decode cL_carryOut 7 = .ok (.lastore, 1) := by decide +kernel
theorem dL_carryOut_8 : decode cL_carryOut 8 = .ok (.goto 6, 3) := by decide +kernel
theorem dL_carryOut_11 : decode cL_carryOut 11 = .ok (.astore_n 2, 1) := by decide +kernel
theorem dL_carryOut_12 : decode cL_carryOut 12 = .ok (.iconst 1, 1) := by decide +kernel
theorem dL_carryOut_13 : decode cL_carryOut 13 = .ok (.ireturn, 1) := by decide +kernel
theorem dL_carryOut_14 : decode cL_carryOut 14 = .ok (.iconst 0, 1) := by decide +kernel
theorem dL_carryOut_15 : decode cL_carryOut 15 = .ok (.ireturn, 1) := by decide +kernel
theorem dL_undo_0 : decode cL_undo 0 = .ok (.aload_n 1, 1) := by decide +kernel
theorem dL_undo_1 : decode cL_undo 1 = .ok (.iconst 0, 1) := by decide +kernel
theorem dL_undo_2 : decode cL_undo 2 = .ok (.aload_n 0, 1) := by decide +kernel
theorem dL_undo_3 : decode cL_undo 3 = .ok (.invokevirtual 62, 3) := by decide +kernel
theorem dL_undo_6 : decode cL_undo 6 = .ok (.i2l, 1) := by decide +kernel
theorem dL_undo_7 : decode cL_undo 7 = .ok (.lastore, 1) := by decide +kernel
theorem dL_undo_8 : decode cL_undo 8 = .ok (.goto 6, 3) := by decide +kernel
theorem dL_undo_11 : decode cL_undo 11 = .ok (.astore_n 2, 1) := by decide +kernel
theorem dL_undo_12 : decode cL_undo 12 = .ok (.iconst 1, 1) := by decide +kernel
theorem dL_undo_13 : decode cL_undo 13 = .ok (.ireturn, 1) := by decide +kernel
theorem dL_undo_14 : decode cL_undo 14 = .ok (.iconst 0, 1) := by decide +kernel
theorem dL_undo_15 : decode cL_undo 15 = .ok (.ireturn, 1) := by decide +kernel
theorem dL_restoreSnapshot_0 : decode cL_restoreSnapshot 0 = .ok (.aload_n 1, 1) := by decide +kernel
theorem dL_restoreSnapshot_1 : decode cL_restoreSnapshot 1 = .ok (.iconst 0, 1) := by decide +kernel
theorem dL_restoreSnapshot_2 : decode cL_restoreSnapshot 2 = .ok (.aload_n 0, 1) := by decide +kernel
theorem dL_restoreSnapshot_3 : decode cL_restoreSnapshot 3 = .ok (.invokevirtual 65, 3) := by decide +kernel
theorem dL_restoreSnapshot_6 : decode cL_restoreSnapshot 6 = .ok (.i2l, 1) := by decide +kernel
theorem dL_restoreSnapshot_7 : decode cL_restoreSnapshot 7 = .ok (.lastore, 1) := by decide +kernel
theorem dL_restoreSnapshot_8 : decode cL_restoreSnapshot 8 = .ok (.goto 6, 3) := by decide +kernel
theorem dL_restoreSnapshot_11 : decode cL_restoreSnapshot 11 = .ok (.astore_n 2, 1) := by decide +kernel
theorem dL_restoreSnapshot_12 : decode cL_restoreSnapshot 12 = .ok (.iconst 1, 1) := by decide +kernel
theorem dL_restoreSnapshot_13 : decode cL_restoreSnapshot 13 = .ok (.ireturn, 1) := by decide +kernel
theorem dL_restoreSnapshot_14 : decode cL_restoreSnapshot 14 = .ok (.iconst 0, 1) := by decide +kernel
theorem dL_restoreSnapshot_15 : decode cL_restoreSnapshot 15 = .ok (.ireturn, 1) := by decide +kernel
theorem dL_pitchOf_0 : decode cL_pitchOf 0 = .ok (.aload_n 2, 1) := by decide +kernel
theorem dL_pitchOf_1 : decode cL_pitchOf 1 = .ok (.iconst 0, 1) := by decide +kernel
theorem dL_pitchOf_2 : decode cL_pitchOf 2 = .ok (.aload_n 0, 1) := by decide +kernel
theorem dL_pitchOf_3 : decode cL_pitchOf 3 = .ok (.iload_n 1, 1) := by decide +kernel
theorem dL_pitchOf_4 : decode cL_pitchOf 4 = .ok (.invokevirtual 68, 3) := by decide +kernel
theorem dL_pitchOf_7 : decode cL_pitchOf 7 = .ok (.i2l, 1) := by decide +kernel
theorem dL_pitchOf_8 : decode cL_pitchOf 8 = .ok (.lastore, 1) := by decide +kernel
theorem dL_pitchOf_9 : decode cL_pitchOf 9 = .ok (.goto 6, 3) := by decide +kernel
theorem dL_pitchOf_12 : decode cL_pitchOf 12 = .ok (.astore_n 3, 1) := by decide +kernel
theorem dL_pitchOf_13 : decode cL_pitchOf 13 = .ok (.iconst 1, 1) := by decide +kernel
theorem dL_pitchOf_14 : decode cL_pitchOf 14 = .ok (.ireturn, 1) := by decide +kernel
theorem dL_pitchOf_15 : decode cL_pitchOf 15 = .ok (.iconst 0, 1) := by decide +kernel
theorem dL_pitchOf_16 : decode cL_pitchOf 16 = .ok (.ireturn, 1) := by decide +kernel
theorem dL_stallOn_0 : decode cL_stallOn 0 = .ok (.aload_n 2, 1) := by decide +kernel
theorem dL_stallOn_1 : decode cL_stallOn 1 = .ok (.iconst 0, 1) := by decide +kernel
theorem dL_stallOn_2 : decode cL_stallOn 2 = .ok (.aload_n 0, 1) := by decide +kernel
theorem dL_stallOn_3 : decode cL_stallOn 3 = .ok (.iload_n 1, 1) := by decide +kernel
theorem dL_stallOn_4 : decode cL_stallOn 4 = .ok (.invokevirtual 71, 3) := by decide +kernel
theorem dL_stallOn_7 : decode cL_stallOn 7 = .ok (.i2l, 1) := by decide +kernel
theorem dL_stallOn_8 : decode cL_stallOn 8 = .ok (.lastore, 1) := by decide +kernel
theorem dL_stallOn_9 : decode cL_stallOn 9 = .ok (.goto 6, 3) := by decide +kernel
theorem dL_stallOn_12 : decode cL_stallOn 12 = .ok (.astore_n 3, 1) := by decide +kernel
theorem dL_stallOn_13 : decode cL_stallOn 13 = .ok (.iconst 1, 1) := by decide +kernel
theorem dL_stallOn_14 : decode cL_stallOn 14 = .ok (.ireturn, 1) := by decide +kernel
theorem dL_stallOn_15 : decode cL_stallOn 15 = .ok (.iconst 0, 1) := by decide +kernel
theorem dL_stallOn_16 : decode cL_stallOn 16 = .ok (.ireturn, 1) := by decide +kernel
theorem dL_priceOf_0 : decode cL_priceOf 0 = .ok (.aload_n 2, 1) := by decide +kernel
theorem dL_priceOf_1 : decode cL_priceOf 1 = .ok (.iconst 0, 1) := by decide +kernel
theorem dL_priceOf_2 : decode cL_priceOf 2 = .ok (.aload_n 0, 1) := by decide +kernel
theorem dL_priceOf_3 : decode cL_priceOf 3 = .ok (.iload_n 1, 1) := by decide +kernel
theorem dL_priceOf_4 : decode cL_priceOf 4 = .ok (.invokevirtual 74, 3) := by decide +kernel
theorem dL_priceOf_7 : decode cL_priceOf 7 = .ok (.i2l, 1) := by decide +kernel
theorem dL_priceOf_8 : decode cL_priceOf 8 = .ok (.lastore, 1) := by decide +kernel
