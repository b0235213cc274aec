/-! decode rows -/
theorem dDB_init_0 : decode cDB_init 0 = .ok (.aload_n 0, 1) := by decide +kernel
theorem dDB_init_1 : decode cDB_init 1 = .ok (.invokespecial 1, 3) := by decide +kernel
theorem dDB_init_4 : decode cDB_init 4 = .ok (.aload_n 0, 1) := by decide +kernel
theorem dDB_init_5 : decode cDB_init 5 = .ok (.iload_n 1, 1) := by decide +kernel
theorem dDB_init_6 : decode cDB_init 6 = .ok (.ifCond .lt 13, 3) := by decide +kernel
theorem dDB_init_9 : decode cDB_init 9 = .ok (.iload_n 1, 1) := by decide +kernel
theorem dDB_init_10 : decode cDB_init 10 = .ok (.bipush 64, 2) := by decide +kernel
theorem dDB_init_12 : decode cDB_init 12 = .ok (.if_icmp .ge 7, 3) := by decide +kernel
theorem dDB_init_15 : decode cDB_init 15 = .ok (.iload_n 1, 1) := by decide +kernel
theorem dDB_init_16 : decode cDB_init 16 = .ok (.goto 4, 3) := by decide +kernel
theorem dDB_init_19 : decode cDB_init 19 = .ok (.iconst 0, 1) := by decide +kernel
theorem dDB_init_20 : decode cDB_init 20 = .ok (.putfield 9, 3) := by decide +kernel
theorem dDB_init_23 : decode cDB_init 23 = .ok (.aload_n 0, 1) := by decide +kernel
theorem dDB_init_24 : decode cDB_init 24 = .ok (.new 13, 3) := by decide +kernel
theorem dDB_init_27 : decode cDB_init 27 = .ok (.dup, 1) := by decide +kernel
theorem dDB_init_28 : decode cDB_init 28 = .ok (.invokespecial 15, 3) := by decide +kernel
theorem dDB_init_31 : decode cDB_init 31 = .ok (.putfield 16, 3) := by decide +kernel
theorem dDB_init_34 : decode cDB_init 34 = .ok (.aload_n 0, 1) := by decide +kernel
theorem dDB_init_35 : decode cDB_init 35 = .ok (.new 20, 3) := by decide +kernel
theorem dDB_init_38 : decode cDB_init 38 = .ok (.dup, 1) := by decide +kernel
theorem dDB_init_39 : decode cDB_init 39 = .ok (.invokespecial 22, 3) := by decide +kernel
theorem dDB_init_42 : decode cDB_init 42 = .ok (.putfield 23, 3) := by decide +kernel
theorem dDB_init_45 : decode cDB_init 45 = .ok (.aload_n 0, 1) := by decide +kernel
theorem dDB_init_46 : decode cDB_init 46 = .ok (.new 27, 3) := by decide +kernel
theorem dDB_init_49 : decode cDB_init 49 = .ok (.dup, 1) := by decide +kernel
theorem dDB_init_50 : decode cDB_init 50 = .ok (.invokespecial 29, 3) := by decide +kernel
theorem dDB_init_53 : decode cDB_init 53 = .ok (.putfield 30, 3) := by decide +kernel
theorem dDB_init_56 : decode cDB_init 56 = .ok (.aload_n 0, 1) := by decide +kernel
theorem dDB_init_57 : decode cDB_init 57 = .ok (.new 34, 3) := by decide +kernel
theorem dDB_init_60 : decode cDB_init 60 = .ok (.dup, 1) := by decide +kernel
theorem dDB_init_61 : decode cDB_init 61 = .ok (.invokespecial 36, 3) := by decide +kernel
theorem dDB_init_64 : decode cDB_init 64 = .ok (.putfield 37, 3) := by decide +kernel
theorem dDB_init_67 : decode cDB_init 67 = .ok (.return_, 1) := by decide +kernel
theorem dAD_init_0 : decode cAD_init 0 = .ok (.aload_n 0, 1) := by decide +kernel
theorem dAD_init_1 : decode cAD_init 1 = .ok (.invokespecial 3, 3) := by decide +kernel
theorem dAD_init_4 : decode cAD_init 4 = .ok (.aload_n 0, 1) := by decide +kernel
theorem dAD_init_5 : decode cAD_init 5 = .ok (.bipush 64, 2) := by decide +kernel
theorem dAD_init_7 : decode cAD_init 7 = .ok (.newarray .int, 2) := by decide +kernel
theorem dAD_init_9 : decode cAD_init 9 = .ok (.putfield 9, 3) := by decide +kernel
theorem dAD_init_12 : decode cAD_init 12 = .ok (.aload_n 0, 1) := by decide +kernel
theorem dAD_init_13 : decode cAD_init 13 = .ok (.bipush 64, 2) := by decide +kernel
theorem dAD_init_15 : decode cAD_init 15 = .ok (.newarray .int, 2) := by decide +kernel
theorem dAD_init_17 : decode cAD_init 17 = .ok (.putfield 15, 3) := by decide +kernel
theorem dAD_init_20 : decode cAD_init 20 = .ok (.return_, 1) := by decide +kernel
theorem dNB_init_0 : decode cNB_init 0 = .ok (.aload_n 0, 1) := by decide +kernel
theorem dNB_init_1 : decode cNB_init 1 = .ok (.invokespecial 3, 3) := by decide +kernel
theorem dNB_init_4 : decode cNB_init 4 = .ok (.aload_n 0, 1) := by decide +kernel
theorem dNB_init_5 : decode cNB_init 5 = .ok (.bipush 16, 2) := by decide +kernel
theorem dNB_init_7 : decode cNB_init 7 = .ok (.newarray .int, 2) := by decide +kernel
theorem dNB_init_9 : decode cNB_init 9 = .ok (.putfield 9, 3) := by decide +kernel
theorem dNB_init_12 : decode cNB_init 12 = .ok (.aload_n 0, 1) := by decide +kernel
theorem dNB_init_13 : decode cNB_init 13 = .ok (.bipush 16, 2) := by decide +kernel
theorem dNB_init_15 : decode cNB_init 15 = .ok (.newarray .int, 2) := by decide +kernel
theorem dNB_init_17 : decode cNB_init 17 = .ok (.putfield 15, 3) := by decide +kernel
theorem dNB_init_20 : decode cNB_init 20 = .ok (.aload_n 0, 1) := by decide +kernel
theorem dNB_init_21 : decode cNB_init 21 = .ok (.bipush 16, 2) := by decide +kernel
theorem dNB_init_23 : decode cNB_init 23 = .ok (.newarray .int, 2) := by decide +kernel
theorem dNB_init_25 : decode cNB_init 25 = .ok (.putfield 18, 3) := by decide +kernel
theorem dNB_init_28 : decode cNB_init 28 = .ok (.aload_n 0, 1) := by decide +kernel
theorem dNB_init_29 : decode cNB_init 29 = .ok (.bipush 16, 2) := by decide +kernel
theorem dNB_init_31 : decode cNB_init 31 = .ok (.newarray .int, 2) := by decide +kernel
theorem dNB_init_33 : decode cNB_init 33 = .ok (.putfield 21, 3) := by decide +kernel
theorem dNB_init_36 : decode cNB_init 36 = .ok (.aload_n 0, 1) := by decide +kernel
theorem dNB_init_37 : decode cNB_init 37 = .ok (.bipush 16, 2) := by decide +kernel
theorem dNB_init_39 : decode cNB_init 39 = .ok (.newarray .long, 2) := by decide +kernel
theorem dNB_init_41 : decode cNB_init 41 = .ok (.putfield 24, 3) := by decide +kernel
theorem dNB_init_44 : decode cNB_init 44 = .ok (.aload_n 0, 1) := by decide +kernel
theorem dNB_init_45 : decode cNB_init 45 = .ok (.bipush 16, 2) := by decide +kernel
theorem dNB_init_47 : decode cNB_init 47 = .ok (.newarray .long, 2) := by decide +kernel
theorem dNB_init_49 : decode cNB_init 49 = .ok (.putfield 28, 3) := by decide +kernel
theorem dNB_init_52 : decode cNB_init 52 = .ok (.aload_n 0, 1) := by decide +kernel
theorem dNB_init_53 : decode cNB_init 53 = .ok (.sipush 1024, 3) := by decide +kernel
theorem dNB_init_56 : decode cNB_init 56 = .ok (.newarray .int, 2) := by decide +kernel
theorem dNB_init_58 : decode cNB_init 58 = .ok (.putfield 31, 3) := by decide +kernel
theorem dNB_init_61 : decode cNB_init 61 = .ok (.return_, 1) := by decide +kernel
theorem dTQ_init_0 : decode cTQ_init 0 = .ok (.aload_n 0, 1) := by decide +kernel
theorem dTQ_init_1 : decode cTQ_init 1 = .ok (.invokespecial 3, 3) := by decide +kernel
theorem dTQ_init_4 : decode cTQ_init 4 = .ok (.aload_n 0, 1) := by decide +kernel
theorem dTQ_init_5 : decode cTQ_init 5 = .ok (.bipush 64, 2) := by decide +kernel
theorem dTQ_init_7 : decode cTQ_init 7 = .ok (.newarray .int, 2) := by decide +kernel
theorem dTQ_init_9 : decode cTQ_init 9 = .ok (.putfield 9, 3) := by decide +kernel
theorem dTQ_init_12 : decode cTQ_init 12 = .ok (.aload_n 0, 1) := by decide +kernel
theorem dTQ_init_13 : decode cTQ_init 13 = .ok (.bipush 64, 2) := by decide +kernel
theorem dTQ_init_15 : decode cTQ_init 15 = .ok (.newarray .int, 2) := by decide +kernel
theorem dTQ_init_17 : decode cTQ_init 17 = .ok (.putfield 15, 3) := by decide +kernel
theorem dTQ_init_20 : decode cTQ_init 20 = .ok (.aload_n 0, 1) := by decide +kernel
theorem dTQ_init_21 : decode cTQ_init 21 = .ok (.bipush 64, 2) := by decide +kernel
theorem dTQ_init_23 : decode cTQ_init 23 = .ok (.newarray .int, 2) := by decide +kernel
theorem dTQ_init_25 : decode cTQ_init 25 = .ok (.putfield 18, 3) := by decide +kernel
theorem dTQ_init_28 : decode cTQ_init 28 = .ok (.aload_n 0, 1) := by decide +kernel
theorem dTQ_init_29 : decode cTQ_init 29 = .ok (.bipush 64, 2) := by decide +kernel
theorem dTQ_init_31 : decode cTQ_init 31 = .ok (.newarray .int, 2) := by decide +kernel
theorem dTQ_init_33 : decode cTQ_init 33 = .ok (.putfield 21, 3) := by decide +kernel
theorem dTQ_init_36 : decode cTQ_init 36 = .ok (.return_, 1) := by decide +kernel
theorem dMS_init_0 : decode cMS_init 0 = .ok (.aload_n 0, 1) := by decide +kernel
theorem dMS_init_1 : decode cMS_init 1 = .ok (.invokespecial 3, 3) := by decide +kernel
theorem dMS_init_4 : decode cMS_init 4 = .ok (.aload_n 0, 1) := by decide +kernel
theorem dMS_init_5 : decode cMS_init 5 = .ok (.bipush 6, 2) := by decide +kernel
theorem dMS_init_7 : decode cMS_init 7 = .ok (.newarray .int, 2) := by decide +kernel
theorem dMS_init_9 : decode cMS_init 9 = .ok (.putfield 11, 3) := by decide +kernel
theorem dMS_init_12 : decode cMS_init 12 = .ok (.return_, 1) := by decide +kernel
theorem dDB_own_0 : decode cDB_own 0 = .ok (.aload_n 0, 1) := by decide +kernel
theorem dDB_own_1 : decode cDB_own 1 = .ok (.dup, 1) := by decide +kernel
theorem dDB_own_2 : decode cDB_own 2 = .ok (.getfield 104, 3) := by decide +kernel
theorem dDB_own_5 : decode cDB_own 5 = .ok (.iconst 1, 1) := by decide +kernel
theorem dDB_own_6 : decode cDB_own 6 = .ok (.iadd, 1) := by decide +kernel
theorem dDB_own_7 : decode cDB_own 7 = .ok (.putfield 104, 3) := by decide +kernel
theorem dDB_own_10 : decode cDB_own 10 = .ok (.aload_n 0, 1) := by decide +kernel
theorem dDB_own_11 : decode cDB_own 11 = .ok (.getfield 16, 3) := by decide +kernel
theorem dDB_own_14 : decode cDB_own 14 = .ok (.aload_n 0, 1) := by decide +kernel
theorem dDB_own_15 : decode cDB_own 15 = .ok (.getfield 9, 3) := by decide +kernel
theorem dDB_own_18 : decode cDB_own 18 = .ok (.aload_n 0, 1) := by decide +kernel
theorem dDB_own_19 : decode cDB_own 19 = .ok (.getfield 104, 3) := by decide +kernel
theorem dDB_own_22 : decode cDB_own 22 = .ok (.iload_n 1, 1) := by decide +kernel
theorem dDB_own_23 : decode cDB_own 23 = .ok (.invokevirtual 107, 3) := by decide +kernel
theorem dDB_own_26 : decode cDB_own 26 = .ok (.aload_n 0, 1) := by decide +kernel
theorem dDB_own_27 : decode cDB_own 27 = .ok (.getfield 23, 3) := by decide +kernel
theorem dDB_own_30 : decode cDB_own 30 = .ok (.iconst (-1), 1) := by decide +kernel
theorem dDB_own_31 : decode cDB_own 31 = .ok (.aload_n 0, 1) := by decide +kernel
theorem dDB_own_32 : decode cDB_own 32 = .ok (.getfield 9, 3) := by decide +kernel
theorem dDB_own_35 : decode cDB_own 35 = .ok (.invokevirtual 111, 3) := by decide +kernel
theorem dDB_own_38 : decode cDB_own 38 = .ok (.aload_n 0, 1) := by decide +kernel
theorem dDB_own_39 : decode cDB_own 39 = .ok (.getfield 104, 3) := by decide +kernel
theorem dDB_own_42 : decode cDB_own 42 = .ok (.ireturn, 1) := by decide +kernel
theorem dAD_put_0 : decode cAD_put 0 = .ok (.aload_n 0, 1) := by decide +kernel
theorem dAD_put_1 : decode cAD_put 1 = .ok (.getfield 9, 3) := by decide +kernel
theorem dAD_put_4 : decode cAD_put 4 = .ok (.iload_n 1, 1) := by decide +kernel
theorem dAD_put_5 : decode cAD_put 5 = .ok (.iload_n 2, 1) := by decide +kernel
theorem dAD_put_6 : decode cAD_put 6 = .ok (.iastore, 1) := by decide +kernel
theorem dAD_put_7 : decode cAD_put 7 = .ok (.aload_n 0, 1) := by decide +kernel
theorem dAD_put_8 : decode cAD_put 8 = .ok (.getfield 15, 3) := by decide +kernel
theorem dAD_put_11 : decode cAD_put 11 = .ok (.iload_n 1, 1) := by decide +kernel
theorem dAD_put_12 : decode cAD_put 12 = .ok (.iload_n 3, 1) := by decide +kernel
theorem dAD_put_13 : decode cAD_put 13 = .ok (.iastore, 1) := by decide +kernel
theorem dAD_put_14 : decode cAD_put 14 = .ok (.return_, 1) := by decide +kernel
theorem dNB_oweToFriendsBut_0 : decode cNB_oweToFriendsBut 0 = .ok (.iconst 0, 1) := by decide +kernel
theorem dNB_oweToFriendsBut_1 : decode cNB_oweToFriendsBut 1 = .ok (.istore_n 3, 1) := by decide +kernel
theorem dNB_oweToFriendsBut_2 : decode cNB_oweToFriendsBut 2 = .ok (.iload_n 3, 1) := by decide +kernel
theorem dNB_oweToFriendsBut_3 : decode cNB_oweToFriendsBut 3 = .ok (.bipush 16, 2) := by decide +kernel
theorem dNB_oweToFriendsBut_5 : decode cNB_oweToFriendsBut 5 = .ok (.if_icmp .ge 30, 3) := by decide +kernel
theorem dNB_oweToFriendsBut_8 : decode cNB_oweToFriendsBut 8 = .ok (.aload_n 0, 1) := by decide +kernel
theorem dNB_oweToFriendsBut_9 : decode cNB_oweToFriendsBut 9 = .ok (.getfield 9, 3) := by decide +kernel
theorem dNB_oweToFriendsBut_12 : decode cNB_oweToFriendsBut 12 = .ok (.iload_n 3, 1) := by decide +kernel
theorem dNB_oweToFriendsBut_13 : decode cNB_oweToFriendsBut 13 = .ok (.iaload, 1) := by decide +kernel
theorem dNB_oweToFriendsBut_14 : decode cNB_oweToFriendsBut 14 = .ok (.iconst 2, 1) := by decide +kernel
theorem dNB_oweToFriendsBut_15 : decode cNB_oweToFriendsBut 15 = .ok (.if_icmp .ne 14, 3) := by decide +kernel
theorem dNB_oweToFriendsBut_18 : decode cNB_oweToFriendsBut 18 = .ok (.iload_n 3, 1) := by decide +kernel
theorem dNB_oweToFriendsBut_19 : decode cNB_oweToFriendsBut 19 = .ok (.iload_n 1, 1) := by decide +kernel
theorem dNB_oweToFriendsBut_20 : decode cNB_oweToFriendsBut 20 = .ok (.if_icmp .eq 9, 3) := by decide +kernel
theorem dNB_oweToFriendsBut_23 : decode cNB_oweToFriendsBut 23 = .ok (.aload_n 0, 1) := by decide +kernel
theorem dNB_oweToFriendsBut_24 : decode cNB_oweToFriendsBut 24 = .ok (.iload_n 3, 1) := by decide +kernel
theorem dNB_oweToFriendsBut_25 : decode cNB_oweToFriendsBut 25 = .ok (.iload_n 2, 1) := by decide +kernel
theorem dNB_oweToFriendsBut_26 : decode cNB_oweToFriendsBut 26 = .ok (.invokevirtual 49, 3) := by decide +kernel
theorem dNB_oweToFriendsBut_29 : decode cNB_oweToFriendsBut 29 = .ok (.iinc 3 1, 3) := by decide +kernel
theorem dNB_oweToFriendsBut_32 : decode cNB_oweToFriendsBut 32 = .ok (.goto (-30), 3) := by decide +kernel
theorem dNB_oweToFriendsBut_35 : decode cNB_oweToFriendsBut 35 = .ok (.return_, 1) := by decide +kernel
theorem dNB_owe_0 : decode cNB_owe 0 = .ok (.aload_n 0, 1) := by decide +kernel
theorem dNB_owe_1 : decode cNB_owe 1 = .ok (.getfield 24, 3) := by decide +kernel
theorem dNB_owe_4 : decode cNB_owe 4 = .ok (.iload_n 1, 1) := by decide +kernel
theorem dNB_owe_5 : decode cNB_owe 5 = .ok (.dup2, 1) := by decide +kernel
theorem dNB_owe_6 : decode cNB_owe 6 = .ok (.laload, 1) := by decide +kernel
theorem dNB_owe_7 : decode cNB_owe 7 = .ok (.lconst 1, 1) := by decide +kernel
theorem dNB_owe_8 : decode cNB_owe 8 = .ok (.iload_n 2, 1) := by decide +kernel
theorem dNB_owe_9 : decode cNB_owe 9 = .ok (.lshl, 1) := by decide +kernel
theorem dNB_owe_10 : decode cNB_owe 10 = .ok (.lor, 1) := by decide +kernel
theorem dNB_owe_11 : decode cNB_owe 11 = .ok (.lastore, 1) := by decide +kernel
theorem dNB_owe_12 : decode cNB_owe 12 = .ok (.aload_n 0, 1) := by decide +kernel
theorem dNB_owe_13 : decode cNB_owe 13 = .ok (.getfield 28, 3) := by decide +kernel
theorem dNB_owe_16 : decode cNB_owe 16 = .ok (.iload_n 1, 1) := by decide +kernel
theorem dNB_owe_17 : decode cNB_owe 17 = .ok (.dup2, 1) := by decide +kernel
theorem dNB_owe_18 : decode cNB_owe 18 = .ok (.laload, 1) := by decide +kernel
theorem dNB_owe_19 : decode cNB_owe 19 = .ok (.lconst 1, 1) := by decide +kernel
theorem dNB_owe_20 : decode cNB_owe 20 = .ok (.iload_n 2, 1) := by decide +kernel
theorem dNB_owe_21 : decode cNB_owe 21 = .ok (.lshl, 1) := by decide +kernel
theorem dNB_owe_22 : decode cNB_owe 22 = .ok (.lor, 1) := by decide +kernel
theorem dNB_owe_23 : decode cNB_owe 23 = .ok (.lastore, 1) := by decide +kernel
theorem dNB_owe_24 : decode cNB_owe 24 = .ok (.return_, 1) := by decide +kernel
theorem dDB_next_0 : decode cDB_next 0 = .ok (.aload_n 0, 1) := by decide +kernel
theorem dDB_next_1 : decode cDB_next 1 = .ok (.invokevirtual 143, 3) := by decide +kernel
theorem dDB_next_4 : decode cDB_next 4 = .ok (.ifCond .ne 17, 3) := by decide +kernel
theorem dDB_next_7 : decode cDB_next 7 = .ok (.aload_n 0, 1) := by decide +kernel
theorem dDB_next_8 : decode cDB_next 8 = .ok (.invokevirtual 147, 3) := by decide +kernel
theorem dDB_next_11 : decode cDB_next 11 = .ok (.ifCond .ne 10, 3) := by decide +kernel
theorem dDB_next_14 : decode cDB_next 14 = .ok (.aload_n 0, 1) := by decide +kernel
theorem dDB_next_15 : decode cDB_next 15 = .ok (.invokevirtual 150, 3) := by decide +kernel
theorem dDB_next_18 : decode cDB_next 18 = .ok (.ifCond .eq 7, 3) := by decide +kernel
theorem dDB_next_21 : decode cDB_next 21 = .ok (.iconst 1, 1) := by decide +kernel
theorem dDB_next_22 : decode cDB_next 22 = .ok (.goto 4, 3) := by decide +kernel
theorem dDB_next_25 : decode cDB_next 25 = .ok (.iconst 0, 1) := by decide +kernel
theorem dDB_next_26 : decode cDB_next 26 = .ok (.ireturn, 1) := by decide +kernel
theorem dDB_makeGreeting_0 : decode cDB_makeGreeting 0 = .ok (.iconst 0, 1) := by decide +kernel
theorem dDB_makeGreeting_1 : decode cDB_makeGreeting 1 = .ok (.istore_n 1, 1) := by decide +kernel
theorem dDB_makeGreeting_2 : decode cDB_makeGreeting 2 = .ok (.iload_n 1, 1) := by decide +kernel
theorem dDB_makeGreeting_3 : decode cDB_makeGreeting 3 = .ok (.bipush 8, 2) := by decide +kernel
theorem dDB_makeGreeting_5 : decode cDB_makeGreeting 5 = .ok (.if_icmp .ge 52, 3) := by decide +kernel
theorem dDB_makeGreeting_8 : decode cDB_makeGreeting 8 = .ok (.iconst 1, 1) := by decide +kernel
theorem dDB_makeGreeting_9 : decode cDB_makeGreeting 9 = .ok (.iload_n 1, 1) := by decide +kernel
theorem dDB_makeGreeting_10 : decode cDB_makeGreeting 10 = .ok (.ishl, 1) := by decide +kernel
theorem dDB_makeGreeting_11 : decode cDB_makeGreeting 11 = .ok (.istore_n 2, 1) := by decide +kernel
theorem dDB_makeGreeting_12 : decode cDB_makeGreeting 12 = .ok (.aload_n 0, 1) := by decide +kernel
theorem dDB_makeGreeting_13 : decode cDB_makeGreeting 13 = .ok (.getfield 52, 3) := by decide +kernel
theorem dDB_makeGreeting_16 : decode cDB_makeGreeting 16 = .ok (.iload_n 2, 1) := by decide +kernel
theorem dDB_makeGreeting_17 : decode cDB_makeGreeting 17 = .ok (.iand, 1) := by decide +kernel
theorem dDB_makeGreeting_18 : decode cDB_makeGreeting 18 = .ok (.ifCond .eq 33, 3) := by decide +kernel
theorem dDB_makeGreeting_21 : decode cDB_makeGreeting 21 = .ok (.aload_n 0, 1) := by decide +kernel
theorem dDB_makeGreeting_22 : decode cDB_makeGreeting 22 = .ok (.dup, 1) := by decide +kernel
theorem dDB_makeGreeting_23 : decode cDB_makeGreeting 23 = .ok (.getfield 52, 3) := by decide +kernel
theorem dDB_makeGreeting_26 : decode cDB_makeGreeting 26 = .ok (.iload_n 2, 1) := by decide +kernel
theorem dDB_makeGreeting_27 : decode cDB_makeGreeting 27 = .ok (.iconst (-1), 1) := by decide +kernel
theorem dDB_makeGreeting_28 : decode cDB_makeGreeting 28 = .ok (.ixor, 1) := by decide +kernel
theorem dDB_makeGreeting_29 : decode cDB_makeGreeting 29 = .ok (.iand, 1) := by decide +kernel
theorem dDB_makeGreeting_30 : decode cDB_makeGreeting 30 = .ok (.putfield 52, 3) := by decide +kernel
theorem dDB_makeGreeting_33 : decode cDB_makeGreeting 33 = .ok (.aload_n 0, 1) := by decide +kernel
theorem dDB_makeGreeting_34 : decode cDB_makeGreeting 34 = .ok (.getfield 37, 3) := by decide +kernel
theorem dDB_makeGreeting_37 : decode cDB_makeGreeting 37 = .ok (.iload_n 1, 1) := by decide +kernel
theorem dDB_makeGreeting_38 : decode cDB_makeGreeting 38 = .ok (.aload_n 0, 1) := by decide +kernel
theorem dDB_makeGreeting_39 : decode cDB_makeGreeting 39 = .ok (.getfield 23, 3) := by decide +kernel
theorem dDB_makeGreeting_42 : decode cDB_makeGreeting 42 = .ok (.iload_n 1, 1) := by decide +kernel
theorem dDB_makeGreeting_43 : decode cDB_makeGreeting 43 = .ok (.invokevirtual 198, 3) := by decide +kernel
theorem dDB_makeGreeting_46 : decode cDB_makeGreeting 46 = .ok (.invokevirtual 202, 3) := by decide +kernel
theorem dDB_makeGreeting_49 : decode cDB_makeGreeting 49 = .ok (.iconst 1, 1) := by decide +kernel
theorem dDB_makeGreeting_50 : decode cDB_makeGreeting 50 = .ok (.ireturn, 1) := by decide +kernel
theorem dDB_makeGreeting_51 : decode cDB_makeGreeting 51 = .ok (.iinc 1 1, 3) := by decide +kernel
theorem dDB_makeGreeting_54 : decode cDB_makeGreeting 54 = .ok (.goto (-52), 3) := by decide +kernel
theorem dDB_makeGreeting_57 : decode cDB_makeGreeting 57 = .ok (.iconst 0, 1) := by decide +kernel
theorem dDB_makeGreeting_58 : decode cDB_makeGreeting 58 = .ok (.ireturn, 1) := by decide +kernel
theorem dNB_heardOn_0 : decode cNB_heardOn 0 = .ok (.lconst 0, 1) := by decide +kernel
theorem dNB_heardOn_1 : decode cNB_heardOn 1 = .ok (.lstore_n 2, 1) := by decide +kernel
theorem dNB_heardOn_2 : decode cNB_heardOn 2 = .ok (.iconst 0, 1) := by decide +kernel
theorem dNB_heardOn_3 : decode cNB_heardOn 3 = .ok (.istore 4, 2) := by decide +kernel
theorem dNB_heardOn_5 : decode cNB_heardOn 5 = .ok (.iload 4, 2) := by decide +kernel
theorem dNB_heardOn_7 : decode cNB_heardOn 7 = .ok (.bipush 16, 2) := by decide +kernel
theorem dNB_heardOn_9 : decode cNB_heardOn 9 = .ok (.if_icmp .ge 42, 3) := by decide +kernel
theorem dNB_heardOn_12 : decode cNB_heardOn 12 = .ok (.aload_n 0, 1) := by decide +kernel
theorem dNB_heardOn_13 : decode cNB_heardOn 13 = .ok (.getfield 9, 3) := by decide +kernel
theorem dNB_heardOn_16 : decode cNB_heardOn 16 = .ok (.iload 4, 2) := by decide +kernel
theorem dNB_heardOn_18 : decode cNB_heardOn 18 = .ok (.iaload, 1) := by decide +kernel
theorem dNB_heardOn_19 : decode cNB_heardOn 19 = .ok (.ifCond .eq 26, 3) := by decide +kernel
theorem dNB_heardOn_22 : decode cNB_heardOn 22 = .ok (.aload_n 0, 1) := by decide +kernel
theorem dNB_heardOn_23 : decode cNB_heardOn 23 = .ok (.getfield 15, 3) := by decide +kernel
theorem dNB_heardOn_26 : decode cNB_heardOn 26 = .ok (.iload 4, 2) := by decide +kernel
theorem dNB_heardOn_28 : decode cNB_heardOn 28 = .ok (.iaload, 1) := by decide +kernel
theorem dNB_heardOn_29 : decode cNB_heardOn 29 = .ok (.iload_n 1, 1) := by decide +kernel
theorem dNB_heardOn_30 : decode cNB_heardOn 30 = .ok (.if_icmp .ne 15, 3) := by decide +kernel
theorem dNB_heardOn_33 : decode cNB_heardOn 33 = .ok (.lload_n 2, 1) := by decide +kernel
theorem dNB_heardOn_34 : decode cNB_heardOn 34 = .ok (.lconst 1, 1) := by decide +kernel
theorem dNB_heardOn_35 : decode cNB_heardOn 35 = .ok (.aload_n 0, 1) := by decide +kernel
theorem dNB_heardOn_36 : decode cNB_heardOn 36 = .ok (.getfield 18, 3) := by decide +kernel
theorem dNB_heardOn_39 : decode cNB_heardOn 39 = .ok (.iload 4, 2) := by decide +kernel
theorem dNB_heardOn_41 : decode cNB_heardOn 41 = .ok (.iaload, 1) := by decide +kernel
theorem dNB_heardOn_42 : decode cNB_heardOn 42 = .ok (.lshl, 1) := by decide +kernel
theorem dNB_heardOn_43 : decode cNB_heardOn 43 = .ok (.lor, 1) := by decide +kernel
theorem dNB_heardOn_44 : decode cNB_heardOn 44 = .ok (.lstore_n 2, 1) := by decide +kernel
theorem dNB_heardOn_45 : decode cNB_heardOn 45 = .ok (.iinc 4 1, 3) := by decide +kernel
theorem dNB_heardOn_48 : decode cNB_heardOn 48 = .ok (.goto (-43), 3) := by decide +kernel
theorem dNB_heardOn_51 : decode cNB_heardOn 51 = .ok (.lload_n 2, 1) := by decide +kernel
theorem dNB_heardOn_52 : decode cNB_heardOn 52 = .ok (.lreturn, 1) := by decide +kernel
theorem dMS_makeGreeting_0 : decode cMS_makeGreeting 0 = .ok (.aload_n 0, 1) := by decide +kernel
theorem dMS_makeGreeting_1 : decode cMS_makeGreeting 1 = .ok (.iconst 1, 1) := by decide +kernel
theorem dMS_makeGreeting_2 : decode cMS_makeGreeting 2 = .ok (.iload_n 1, 1) := by decide +kernel
theorem dMS_makeGreeting_3 : decode cMS_makeGreeting 3 = .ok (.iconst (-1), 1) := by decide +kernel
theorem dMS_makeGreeting_4 : decode cMS_makeGreeting 4 = .ok (.invokevirtual 19, 3) := by decide +kernel
theorem dMS_makeGreeting_7 : decode cMS_makeGreeting 7 = .ok (.aload_n 0, 1) := by decide +kernel
theorem dMS_makeGreeting_8 : decode cMS_makeGreeting 8 = .ok (.iconst (-1), 1) := by decide +kernel
theorem dMS_makeGreeting_9 : decode cMS_makeGreeting 9 = .ok (.iconst 0, 1) := by decide +kernel
theorem dMS_makeGreeting_10 : decode cMS_makeGreeting 10 = .ok (.iconst 0, 1) := by decide +kernel
theorem dMS_makeGreeting_11 : decode cMS_makeGreeting 11 = .ok (.invokevirtual 23, 3) := by decide +kernel
theorem dMS_makeGreeting_14 : decode cMS_makeGreeting 14 = .ok (.aload_n 0, 1) := by decide +kernel
theorem dMS_makeGreeting_15 : decode cMS_makeGreeting 15 = .ok (.lload_n 2, 1) := by decide +kernel
theorem dMS_makeGreeting_16 : decode cMS_makeGreeting 16 = .ok (.putfield 15, 3) := by decide +kernel
theorem dMS_makeGreeting_19 : decode cMS_makeGreeting 19 = .ok (.return_, 1) := by decide +kernel
theorem dMS_address_0 : decode cMS_address 0 = .ok (.aload_n 0, 1) := by decide +kernel
theorem dMS_address_1 : decode cMS_address 1 = .ok (.getfield 11, 3) := by decide +kernel
theorem dMS_address_4 : decode cMS_address 4 = .ok (.iconst 0, 1) := by decide +kernel
theorem dMS_address_5 : decode cMS_address 5 = .ok (.iload_n 1, 1) := by decide +kernel
theorem dMS_address_6 : decode cMS_address 6 = .ok (.iastore, 1) := by decide +kernel
theorem dMS_address_7 : decode cMS_address 7 = .ok (.aload_n 0, 1) := by decide +kernel
theorem dMS_address_8 : decode cMS_address 8 = .ok (.getfield 11, 3) := by decide +kernel
theorem dMS_address_11 : decode cMS_address 11 = .ok (.iconst 1, 1) := by decide +kernel
theorem dMS_address_12 : decode cMS_address 12 = .ok (.iload_n 2, 1) := by decide +kernel
theorem dMS_address_13 : decode cMS_address 13 = .ok (.iastore, 1) := by decide +kernel
theorem dMS_address_14 : decode cMS_address 14 = .ok (.aload_n 0, 1) := by decide +kernel
theorem dMS_address_15 : decode cMS_address 15 = .ok (.getfield 11, 3) := by decide +kernel
theorem dMS_address_18 : decode cMS_address 18 = .ok (.iconst 2, 1) := by decide +kernel
theorem dMS_address_19 : decode cMS_address 19 = .ok (.iload_n 3, 1) := by decide +kernel
theorem dMS_address_20 : decode cMS_address 20 = .ok (.iastore, 1) := by decide +kernel
theorem dMS_address_21 : decode cMS_address 21 = .ok (.return_, 1) := by decide +kernel
theorem dMS_fill_0 : decode cMS_fill 0 = .ok (.aload_n 0, 1) := by decide +kernel
theorem dMS_fill_1 : decode cMS_fill 1 = .ok (.getfield 11, 3) := by decide +kernel
theorem dMS_fill_4 : decode cMS_fill 4 = .ok (.iconst 3, 1) := by decide +kernel
theorem dMS_fill_5 : decode cMS_fill 5 = .ok (.iload_n 1, 1) := by decide +kernel
theorem dMS_fill_6 : decode cMS_fill 6 = .ok (.iastore, 1) := by decide +kernel
theorem dMS_fill_7 : decode cMS_fill 7 = .ok (.aload_n 0, 1) := by decide +kernel
theorem dMS_fill_8 : decode cMS_fill 8 = .ok (.getfield 11, 3) := by decide +kernel
theorem dMS_fill_11 : decode cMS_fill 11 = .ok (.iconst 4, 1) := by decide +kernel
theorem dMS_fill_12 : decode cMS_fill 12 = .ok (.iload_n 2, 1) := by decide +kernel
theorem dMS_fill_13 : decode cMS_fill 13 = .ok (.iastore, 1) := by decide +kernel
theorem dMS_fill_14 : decode cMS_fill 14 = .ok (.aload_n 0, 1) := by decide +kernel
theorem dMS_fill_15 : decode cMS_fill 15 = .ok (.getfield 11, 3) := by decide +kernel
theorem dMS_fill_18 : decode cMS_fill 18 = .ok (.iconst 5, 1) := by decide +kernel
theorem dMS_fill_19 : decode cMS_fill 19 = .ok (.iload_n 3, 1) := by decide +kernel
theorem dMS_fill_20 : decode cMS_fill 20 = .ok (.iastore, 1) := by decide +kernel
theorem dMS_fill_21 : decode cMS_fill 21 = .ok (.return_, 1) := by decide +kernel
theorem dDB_makeThanks_0 : decode cDB_makeThanks 0 = .ok (.aload_n 0, 1) := by decide +kernel
theorem dDB_makeThanks_1 : decode cDB_makeThanks 1 = .ok (.getfield 30, 3) := by decide +kernel
theorem dDB_makeThanks_4 : decode cDB_makeThanks 4 = .ok (.invokevirtual 205, 3) := by decide +kernel
theorem dDB_makeThanks_7 : decode cDB_makeThanks 7 = .ok (.ifCond .eq 5, 3) := by decide +kernel
theorem dDB_makeThanks_10 : decode cDB_makeThanks 10 = .ok (.iconst 0, 1) := by decide +kernel
theorem dDB_makeThanks_11 : decode cDB_makeThanks 11 = .ok (.ireturn, 1) := by decide +kernel
theorem dDB_makeThanks_12 : decode cDB_makeThanks 12 = .ok (.aload_n 0, 1) := by decide +kernel
theorem dDB_makeThanks_13 : decode cDB_makeThanks 13 = .ok (.getfield 30, 3) := by decide +kernel
theorem dDB_makeThanks_16 : decode cDB_makeThanks 16 = .ok (.aload_n 0, 1) := by decide +kernel
theorem dDB_makeThanks_17 : decode cDB_makeThanks 17 = .ok (.getfield 37, 3) := by decide +kernel
theorem dDB_makeThanks_20 : decode cDB_makeThanks 20 = .ok (.invokevirtual 208, 3) := by decide +kernel
theorem dDB_makeThanks_23 : decode cDB_makeThanks 23 = .ok (.iconst 1, 1) := by decide +kernel
theorem dDB_makeThanks_24 : decode cDB_makeThanks 24 = .ok (.ireturn, 1) := by decide +kernel
theorem dTQ_isEmpty_0 : decode cTQ_isEmpty 0 = .ok (.aload_n 0, 1) := by decide +kernel
theorem dTQ_isEmpty_1 : decode cTQ_isEmpty 1 = .ok (.getfield 24, 3) := by decide +kernel
theorem dTQ_isEmpty_4 : decode cTQ_isEmpty 4 = .ok (.ifCond .ne 7, 3) := by decide +kernel
theorem dTQ_isEmpty_7 : decode cTQ_isEmpty 7 = .ok (.iconst 1, 1) := by decide +kernel
theorem dTQ_isEmpty_8 : decode cTQ_isEmpty 8 = .ok (.goto 4, 3) := by decide +kernel
theorem dTQ_isEmpty_11 : decode cTQ_isEmpty 11 = .ok (.iconst 0, 1) := by decide +kernel
theorem dTQ_isEmpty_12 : decode cTQ_isEmpty 12 = .ok (.ireturn, 1) := by decide +kernel
theorem dTQ_moveFirstTo_0 : decode cTQ_moveFirstTo 0 = .ok (.aload_n 1, 1) := by decide +kernel
theorem dTQ_moveFirstTo_1 : decode cTQ_moveFirstTo 1 = .ok (.aload_n 0, 1) := by decide +kernel
theorem dTQ_moveFirstTo_2 : decode cTQ_moveFirstTo 2 = .ok (.getfield 9, 3) := by decide +kernel
theorem dTQ_moveFirstTo_5 : decode cTQ_moveFirstTo 5 = .ok (.aload_n 0, 1) := by decide +kernel
theorem dTQ_moveFirstTo_6 : decode cTQ_moveFirstTo 6 = .ok (.getfield 28, 3) := by decide +kernel
theorem dTQ_moveFirstTo_9 : decode cTQ_moveFirstTo 9 = .ok (.iaload, 1) := by decide +kernel
theorem dTQ_moveFirstTo_10 : decode cTQ_moveFirstTo 10 = .ok (.aload_n 0, 1) := by decide +kernel
theorem dTQ_moveFirstTo_11 : decode cTQ_moveFirstTo 11 = .ok (.getfield 15, 3) := by decide +kernel
theorem dTQ_moveFirstTo_14 : decode cTQ_moveFirstTo 14 = .ok (.aload_n 0, 1) := by decide +kernel
theorem dTQ_moveFirstTo_15 : decode cTQ_moveFirstTo 15 = .ok (.getfield 28, 3) := by decide +kernel
theorem dTQ_moveFirstTo_18 : decode cTQ_moveFirstTo 18 = .ok (.iaload, 1) := by decide +kernel
theorem dTQ_moveFirstTo_19 : decode cTQ_moveFirstTo 19 = .ok (.aload_n 0, 1) := by decide +kernel
theorem dTQ_moveFirstTo_20 : decode cTQ_moveFirstTo 20 = .ok (.getfield 18, 3) := by decide +kernel
theorem dTQ_moveFirstTo_23 : decode cTQ_moveFirstTo 23 = .ok (.aload_n 0, 1) := by decide +kernel
theorem dTQ_moveFirstTo_24 : decode cTQ_moveFirstTo 24 = .ok (.getfield 28, 3) := by decide +kernel
theorem dTQ_moveFirstTo_27 : decode cTQ_moveFirstTo 27 = .ok (.iaload, 1) := by decide +kernel
theorem dTQ_moveFirstTo_28 : decode cTQ_moveFirstTo 28 = .ok (.aload_n 0, 1) := by decide +kernel
theorem dTQ_moveFirstTo_29 : decode cTQ_moveFirstTo 29 = .ok (.getfield 21, 3) := by decide +kernel
theorem dTQ_moveFirstTo_32 : decode cTQ_moveFirstTo 32 = .ok (.aload_n 0, 1) := by decide +kernel
theorem dTQ_moveFirstTo_33 : decode cTQ_moveFirstTo 33 = .ok (.getfield 28, 3) := by decide +kernel
theorem dTQ_moveFirstTo_36 : decode cTQ_moveFirstTo 36 = .ok (.iaload, 1) := by decide +kernel
theorem dTQ_moveFirstTo_37 : decode cTQ_moveFirstTo 37 = .ok (.invokevirtual 31, 3) := by decide +kernel
theorem dTQ_moveFirstTo_40 : decode cTQ_moveFirstTo 40 = .ok (.aload_n 0, 1) := by decide +kernel
theorem dTQ_moveFirstTo_41 : decode cTQ_moveFirstTo 41 = .ok (.aload_n 0, 1) := by decide +kernel
theorem dTQ_moveFirstTo_42 : decode cTQ_moveFirstTo 42 = .ok (.getfield 28, 3) := by decide +kernel
theorem dTQ_moveFirstTo_45 : decode cTQ_moveFirstTo 45 = .ok (.iconst 1, 1) := by decide +kernel
theorem dTQ_moveFirstTo_46 : decode cTQ_moveFirstTo 46 = .ok (.iadd, 1) := by decide +kernel
theorem dTQ_moveFirstTo_47 : decode cTQ_moveFirstTo 47 = .ok (.bipush 64, 2) := by decide +kernel
theorem dTQ_moveFirstTo_49 : decode cTQ_moveFirstTo 49 = .ok (.irem, 1) := by decide +kernel
theorem dTQ_moveFirstTo_50 : decode cTQ_moveFirstTo 50 = .ok (.putfield 28, 3) := by decide +kernel
theorem dTQ_moveFirstTo_53 : decode cTQ_moveFirstTo 53 = .ok (.aload_n 0, 1) := by decide +kernel
theorem dTQ_moveFirstTo_54 : decode cTQ_moveFirstTo 54 = .ok (.dup, 1) := by decide +kernel
theorem dTQ_moveFirstTo_55 : decode cTQ_moveFirstTo 55 = .ok (.getfield 24, 3) := by decide +kernel
theorem dTQ_moveFirstTo_58 : decode cTQ_moveFirstTo 58 = .ok (.iconst 1, 1) := by decide +kernel
theorem dTQ_moveFirstTo_59 : decode cTQ_moveFirstTo 59 = .ok (.isub, 1) := by decide +kernel
theorem dTQ_moveFirstTo_60 : decode cTQ_moveFirstTo 60 = .ok (.putfield 24, 3) := by decide +kernel
theorem dTQ_moveFirstTo_63 : decode cTQ_moveFirstTo 63 = .ok (.return_, 1) := by decide +kernel
theorem dMS_makeThanks_0 : decode cMS_makeThanks 0 = .ok (.aload_n 0, 1) := by decide +kernel
theorem dMS_makeThanks_1 : decode cMS_makeThanks 1 = .ok (.iconst 2, 1) := by decide +kernel
theorem dMS_makeThanks_2 : decode cMS_makeThanks 2 = .ok (.iload_n 1, 1) := by decide +kernel
theorem dMS_makeThanks_3 : decode cMS_makeThanks 3 = .ok (.iload_n 2, 1) := by decide +kernel
theorem dMS_makeThanks_4 : decode cMS_makeThanks 4 = .ok (.invokevirtual 19, 3) := by decide +kernel
theorem dMS_makeThanks_7 : decode cMS_makeThanks 7 = .ok (.aload_n 0, 1) := by decide +kernel
theorem dMS_makeThanks_8 : decode cMS_makeThanks 8 = .ok (.iload_n 3, 1) := by decide +kernel
theorem dMS_makeThanks_9 : decode cMS_makeThanks 9 = .ok (.iload 4, 2) := by decide +kernel
theorem dMS_makeThanks_11 : decode cMS_makeThanks 11 = .ok (.iconst 0, 1) := by decide +kernel
theorem dMS_makeThanks_12 : decode cMS_makeThanks 12 = .ok (.invokevirtual 23, 3) := by decide +kernel
theorem dMS_makeThanks_15 : decode cMS_makeThanks 15 = .ok (.aload_n 0, 1) := by decide +kernel
theorem dMS_makeThanks_16 : decode cMS_makeThanks 16 = .ok (.lconst 0, 1) := by decide +kernel
theorem dMS_makeThanks_17 : decode cMS_makeThanks 17 = .ok (.putfield 15, 3) := by decide +kernel
theorem dMS_makeThanks_20 : decode cMS_makeThanks 20 = .ok (.return_, 1) := by decide +kernel
theorem dDB_makeAdvert_0 : decode cDB_makeAdvert 0 = .ok (.aload_n 0, 1) := by decide +kernel
theorem dDB_makeAdvert_1 : decode cDB_makeAdvert 1 = .ok (.getfield 23, 3) := by decide +kernel
theorem dDB_makeAdvert_4 : decode cDB_makeAdvert 4 = .ok (.aload_n 0, 1) := by decide +kernel
theorem dDB_makeAdvert_5 : decode cDB_makeAdvert 5 = .ok (.getfield 68, 3) := by decide +kernel
theorem dDB_makeAdvert_8 : decode cDB_makeAdvert 8 = .ok (.invokevirtual 212, 3) := by decide +kernel
theorem dDB_makeAdvert_11 : decode cDB_makeAdvert 11 = .ok (.istore_n 1, 1) := by decide +kernel
theorem dDB_makeAdvert_12 : decode cDB_makeAdvert 12 = .ok (.iload_n 1, 1) := by decide +kernel
theorem dDB_makeAdvert_13 : decode cDB_makeAdvert 13 = .ok (.iconst (-1), 1) := by decide +kernel
theorem dDB_makeAdvert_14 : decode cDB_makeAdvert 14 = .ok (.if_icmp .ne 5, 3) := by decide +kernel
theorem dDB_makeAdvert_17 : decode cDB_makeAdvert 17 = .ok (.iconst 0, 1) := by decide +kernel
theorem dDB_makeAdvert_18 : decode cDB_makeAdvert 18 = .ok (.ireturn, 1) := by decide +kernel
theorem dDB_makeAdvert_19 : decode cDB_makeAdvert 19 = .ok (.aload_n 0, 1) := by decide +kernel
theorem dDB_makeAdvert_20 : decode cDB_makeAdvert 20 = .ok (.getfield 23, 3) := by decide +kernel
theorem dDB_makeAdvert_23 : decode cDB_makeAdvert 23 = .ok (.iload_n 1, 1) := by decide +kernel
theorem dDB_makeAdvert_24 : decode cDB_makeAdvert 24 = .ok (.aload_n 0, 1) := by decide +kernel
theorem dDB_makeAdvert_25 : decode cDB_makeAdvert 25 = .ok (.getfield 68, 3) := by decide +kernel
theorem dDB_makeAdvert_28 : decode cDB_makeAdvert 28 = .ok (.invokevirtual 215, 3) := by decide +kernel
theorem dDB_makeAdvert_31 : decode cDB_makeAdvert 31 = .ok (.istore_n 2, 1) := by decide +kernel
theorem dDB_makeAdvert_32 : decode cDB_makeAdvert 32 = .ok (.iload_n 2, 1) := by decide +kernel
theorem dDB_makeAdvert_33 : decode cDB_makeAdvert 33 = .ok (.iconst (-1), 1) := by decide +kernel
theorem dDB_makeAdvert_34 : decode cDB_makeAdvert 34 = .ok (.if_icmp .ne 5, 3) := by decide +kernel
theorem dDB_makeAdvert_37 : decode cDB_makeAdvert 37 = .ok (.iconst 0, 1) := by decide +kernel
theorem dDB_makeAdvert_38 : decode cDB_makeAdvert 38 = .ok (.ireturn, 1) := by decide +kernel
theorem dDB_makeAdvert_39 : decode cDB_makeAdvert 39 = .ok (.aload_n 0, 1) := by decide +kernel
theorem dDB_makeAdvert_40 : decode cDB_makeAdvert 40 = .ok (.getfield 23, 3) := by decide +kernel
theorem dDB_makeAdvert_43 : decode cDB_makeAdvert 43 = .ok (.iload_n 1, 1) := by decide +kernel
theorem dDB_makeAdvert_44 : decode cDB_makeAdvert 44 = .ok (.iload_n 2, 1) := by decide +kernel
theorem dDB_makeAdvert_45 : decode cDB_makeAdvert 45 = .ok (.aload_n 0, 1) := by decide +kernel
theorem dDB_makeAdvert_46 : decode cDB_makeAdvert 46 = .ok (.getfield 68, 3) := by decide +kernel
theorem dDB_makeAdvert_49 : decode cDB_makeAdvert 49 = .ok (.invokevirtual 218, 3) := by decide +kernel
theorem dDB_makeAdvert_52 : decode cDB_makeAdvert 52 = .ok (.aload_n 0, 1) := by decide +kernel
theorem dDB_makeAdvert_53 : decode cDB_makeAdvert 53 = .ok (.getfield 37, 3) := by decide +kernel
theorem dDB_makeAdvert_56 : decode cDB_makeAdvert 56 = .ok (.aload_n 0, 1) := by decide +kernel
theorem dDB_makeAdvert_57 : decode cDB_makeAdvert 57 = .ok (.getfield 23, 3) := by decide +kernel
theorem dDB_makeAdvert_60 : decode cDB_makeAdvert 60 = .ok (.iload_n 1, 1) := by decide +kernel
theorem dDB_makeAdvert_61 : decode cDB_makeAdvert 61 = .ok (.invokevirtual 221, 3) := by decide +kernel
theorem dDB_makeAdvert_64 : decode cDB_makeAdvert 64 = .ok (.aload_n 0, 1) := by decide +kernel
theorem dDB_makeAdvert_65 : decode cDB_makeAdvert 65 = .ok (.getfield 23, 3) := by decide +kernel
theorem dDB_makeAdvert_68 : decode cDB_makeAdvert 68 = .ok (.iload_n 1, 1) := by decide +kernel
theorem dDB_makeAdvert_69 : decode cDB_makeAdvert 69 = .ok (.invokevirtual 224, 3) := by decide +kernel
theorem dDB_makeAdvert_72 : decode cDB_makeAdvert 72 = .ok (.iload_n 2, 1) := by decide +kernel
theorem dDB_makeAdvert_73 : decode cDB_makeAdvert 73 = .ok (.aload_n 0, 1) := by decide +kernel
theorem dDB_makeAdvert_74 : decode cDB_makeAdvert 74 = .ok (.getfield 16, 3) := by decide +kernel
theorem dDB_makeAdvert_77 : decode cDB_makeAdvert 77 = .ok (.iload_n 2, 1) := by decide +kernel
theorem dDB_makeAdvert_78 : decode cDB_makeAdvert 78 = .ok (.invokevirtual 89, 3) := by decide +kernel
theorem dDB_makeAdvert_81 : decode cDB_makeAdvert 81 = .ok (.aload_n 0, 1) := by decide +kernel
theorem dDB_makeAdvert_82 : decode cDB_makeAdvert 82 = .ok (.getfield 16, 3) := by decide +kernel
theorem dDB_makeAdvert_85 : decode cDB_makeAdvert 85 = .ok (.iload_n 2, 1) := by decide +kernel
theorem dDB_makeAdvert_86 : decode cDB_makeAdvert 86 = .ok (.invokevirtual 169, 3) := by decide +kernel
theorem dDB_makeAdvert_89 : decode cDB_makeAdvert 89 = .ok (.invokevirtual 227, 3) := by decide +kernel
theorem dDB_makeAdvert_92 : decode cDB_makeAdvert 92 = .ok (.iconst 1, 1) := by decide +kernel
theorem dDB_makeAdvert_93 : decode cDB_makeAdvert 93 = .ok (.ireturn, 1) := by decide +kernel
theorem dNB_firstToServe_0 : decode cNB_firstToServe 0 = .ok (.iconst (-1), 1) := by decide +kernel
theorem dNB_firstToServe_1 : decode cNB_firstToServe 1 = .ok (.istore_n 2, 1) := by decide +kernel
theorem dNB_firstToServe_2 : decode cNB_firstToServe 2 = .ok (.sipush 512, 3) := by decide +kernel
theorem dNB_firstToServe_5 : decode cNB_firstToServe 5 = .ok (.istore_n 3, 1) := by decide +kernel
theorem dNB_firstToServe_6 : decode cNB_firstToServe 6 = .ok (.iconst 0, 1) := by decide +kernel
theorem dNB_firstToServe_7 : decode cNB_firstToServe 7 = .ok (.istore 4, 2) := by decide +kernel
theorem dNB_firstToServe_9 : decode cNB_firstToServe 9 = .ok (.iload 4, 2) := by decide +kernel
theorem dNB_firstToServe_11 : decode cNB_firstToServe 11 = .ok (.bipush 16, 2) := by decide +kernel
theorem dNB_firstToServe_13 : decode cNB_firstToServe 13 = .ok (.if_icmp .ge 64, 3) := by decide +kernel
theorem dNB_firstToServe_16 : decode cNB_firstToServe 16 = .ok (.aload_n 0, 1) := by decide +kernel
theorem dNB_firstToServe_17 : decode cNB_firstToServe 17 = .ok (.getfield 15, 3) := by decide +kernel
theorem dNB_firstToServe_20 : decode cNB_firstToServe 20 = .ok (.iload 4, 2) := by decide +kernel
theorem dNB_firstToServe_22 : decode cNB_firstToServe 22 = .ok (.iaload, 1) := by decide +kernel
theorem dNB_firstToServe_23 : decode cNB_firstToServe 23 = .ok (.bipush 64, 2) := by decide +kernel
theorem dNB_firstToServe_25 : decode cNB_firstToServe 25 = .ok (.imul, 1) := by decide +kernel
theorem dNB_firstToServe_26 : decode cNB_firstToServe 26 = .ok (.aload_n 0, 1) := by decide +kernel
theorem dNB_firstToServe_27 : decode cNB_firstToServe 27 = .ok (.getfield 18, 3) := by decide +kernel
theorem dNB_firstToServe_30 : decode cNB_firstToServe 30 = .ok (.iload 4, 2) := by decide +kernel
theorem dNB_firstToServe_32 : decode cNB_firstToServe 32 = .ok (.iaload, 1) := by decide +kernel
theorem dNB_firstToServe_33 : decode cNB_firstToServe 33 = .ok (.iadd, 1) := by decide +kernel
theorem dNB_firstToServe_34 : decode cNB_firstToServe 34 = .ok (.istore 5, 2) := by decide +kernel
theorem dNB_firstToServe_36 : decode cNB_firstToServe 36 = .ok (.aload_n 0, 1) := by decide +kernel
theorem dNB_firstToServe_37 : decode cNB_firstToServe 37 = .ok (.getfield 24, 3) := by decide +kernel
theorem dNB_firstToServe_40 : decode cNB_firstToServe 40 = .ok (.iload 4, 2) := by decide +kernel
theorem dNB_firstToServe_42 : decode cNB_firstToServe 42 = .ok (.laload, 1) := by decide +kernel
theorem dNB_firstToServe_43 : decode cNB_firstToServe 43 = .ok (.lconst 0, 1) := by decide +kernel
theorem dNB_firstToServe_44 : decode cNB_firstToServe 44 = .ok (.lcmp, 1) := by decide +kernel
theorem dNB_firstToServe_45 : decode cNB_firstToServe 45 = .ok (.ifCond .eq 26, 3) := by decide +kernel
theorem dNB_firstToServe_48 : decode cNB_firstToServe 48 = .ok (.iload 5, 2) := by decide +kernel
theorem dNB_firstToServe_50 : decode cNB_firstToServe 50 = .ok (.iload_n 3, 1) := by decide +kernel
theorem dNB_firstToServe_51 : decode cNB_firstToServe 51 = .ok (.if_icmp .ge 20, 3) := by decide +kernel
theorem dNB_firstToServe_54 : decode cNB_firstToServe 54 = .ok (.aload_n 0, 1) := by decide +kernel
theorem dNB_firstToServe_55 : decode cNB_firstToServe 55 = .ok (.iload 4, 2) := by decide +kernel
theorem dNB_firstToServe_57 : decode cNB_firstToServe 57 = .ok (.iload_n 1, 1) := by decide +kernel
theorem dNB_firstToServe_58 : decode cNB_firstToServe 58 = .ok (.invokevirtual 63, 3) := by decide +kernel
theorem dNB_firstToServe_61 : decode cNB_firstToServe 61 = .ok (.iconst (-1), 1) := by decide +kernel
theorem dNB_firstToServe_62 : decode cNB_firstToServe 62 = .ok (.if_icmp .eq 9, 3) := by decide +kernel
theorem dNB_firstToServe_65 : decode cNB_firstToServe 65 = .ok (.iload 4, 2) := by decide +kernel
theorem dNB_firstToServe_67 : decode cNB_firstToServe 67 = .ok (.istore_n 2, 1) := by decide +kernel
theorem dNB_firstToServe_68 : decode cNB_firstToServe 68 = .ok (.iload 5, 2) := by decide +kernel
theorem dNB_firstToServe_70 : decode cNB_firstToServe 70 = .ok (.istore_n 3, 1) := by decide +kernel
theorem dNB_firstToServe_71 : decode cNB_firstToServe 71 = .ok (.iinc 4 1, 3) := by decide +kernel
theorem dNB_firstToServe_74 : decode cNB_firstToServe 74 = .ok (.goto (-65), 3) := by decide +kernel
theorem dNB_firstToServe_77 : decode cNB_firstToServe 77 = .ok (.iload_n 2, 1) := by decide +kernel
theorem dNB_firstToServe_78 : decode cNB_firstToServe 78 = .ok (.ireturn, 1) := by decide +kernel
theorem dNB_firstToSend_0 : decode cNB_firstToSend 0 = .ok (.iconst 0, 1) := by decide +kernel
theorem dNB_firstToSend_1 : decode cNB_firstToSend 1 = .ok (.istore_n 3, 1) := by decide +kernel
theorem dNB_firstToSend_2 : decode cNB_firstToSend 2 = .ok (.iload_n 3, 1) := by decide +kernel
theorem dNB_firstToSend_3 : decode cNB_firstToSend 3 = .ok (.bipush 64, 2) := by decide +kernel
theorem dNB_firstToSend_5 : decode cNB_firstToSend 5 = .ok (.if_icmp .ge 21, 3) := by decide +kernel
theorem dNB_firstToSend_8 : decode cNB_firstToSend 8 = .ok (.aload_n 0, 1) := by decide +kernel
theorem dNB_firstToSend_9 : decode cNB_firstToSend 9 = .ok (.iload_n 1, 1) := by decide +kernel
theorem dNB_firstToSend_10 : decode cNB_firstToSend 10 = .ok (.iload_n 3, 1) := by decide +kernel
theorem dNB_firstToSend_11 : decode cNB_firstToSend 11 = .ok (.iload_n 2, 1) := by decide +kernel
theorem dNB_firstToSend_12 : decode cNB_firstToSend 12 = .ok (.invokevirtual 59, 3) := by decide +kernel
theorem dNB_firstToSend_15 : decode cNB_firstToSend 15 = .ok (.ifCond .eq 5, 3) := by decide +kernel
theorem dNB_firstToSend_18 : decode cNB_firstToSend 18 = .ok (.iload_n 3, 1) := by decide +kernel
theorem dNB_firstToSend_19 : decode cNB_firstToSend 19 = .ok (.ireturn, 1) := by decide +kernel
theorem dNB_firstToSend_20 : decode cNB_firstToSend 20 = .ok (.iinc 3 1, 3) := by decide +kernel
theorem dNB_firstToSend_23 : decode cNB_firstToSend 23 = .ok (.goto (-21), 3) := by decide +kernel
theorem dNB_firstToSend_26 : decode cNB_firstToSend 26 = .ok (.iconst (-1), 1) := by decide +kernel
theorem dNB_firstToSend_27 : decode cNB_firstToSend 27 = .ok (.ireturn, 1) := by decide +kernel
theorem dNB_isToBeSent_0 : decode cNB_isToBeSent 0 = .ok (.lconst 1, 1) := by decide +kernel
theorem dNB_isToBeSent_1 : decode cNB_isToBeSent 1 = .ok (.iload_n 2, 1) := by decide +kernel
theorem dNB_isToBeSent_2 : decode cNB_isToBeSent 2 = .ok (.lshl, 1) := by decide +kernel
theorem dNB_isToBeSent_3 : decode cNB_isToBeSent 3 = .ok (.lstore 4, 2) := by decide +kernel
theorem dNB_isToBeSent_5 : decode cNB_isToBeSent 5 = .ok (.aload_n 0, 1) := by decide +kernel
theorem dNB_isToBeSent_6 : decode cNB_isToBeSent 6 = .ok (.getfield 24, 3) := by decide +kernel
theorem dNB_isToBeSent_9 : decode cNB_isToBeSent 9 = .ok (.iload_n 1, 1) := by decide +kernel
theorem dNB_isToBeSent_10 : decode cNB_isToBeSent 10 = .ok (.laload, 1) := by decide +kernel
theorem dNB_isToBeSent_11 : decode cNB_isToBeSent 11 = .ok (.lload 4, 2) := by decide +kernel
theorem dNB_isToBeSent_13 : decode cNB_isToBeSent 13 = .ok (.land, 1) := by decide +kernel
theorem dNB_isToBeSent_14 : decode cNB_isToBeSent 14 = .ok (.lconst 0, 1) := by decide +kernel
theorem dNB_isToBeSent_15 : decode cNB_isToBeSent 15 = .ok (.lcmp, 1) := by decide +kernel
theorem dNB_isToBeSent_16 : decode cNB_isToBeSent 16 = .ok (.ifCond .ne 5, 3) := by decide +kernel
theorem dNB_isToBeSent_19 : decode cNB_isToBeSent 19 = .ok (.iconst 0, 1) := by decide +kernel
theorem dNB_isToBeSent_20 : decode cNB_isToBeSent 20 = .ok (.ireturn, 1) := by decide +kernel
theorem dNB_isToBeSent_21 : decode cNB_isToBeSent 21 = .ok (.aload_n 0, 1) := by decide +kernel
theorem dNB_isToBeSent_22 : decode cNB_isToBeSent 22 = .ok (.getfield 28, 3) := by decide +kernel
theorem dNB_isToBeSent_25 : decode cNB_isToBeSent 25 = .ok (.iload_n 1, 1) := by decide +kernel
theorem dNB_isToBeSent_26 : decode cNB_isToBeSent 26 = .ok (.laload, 1) := by decide +kernel
theorem dNB_isToBeSent_27 : decode cNB_isToBeSent 27 = .ok (.lload 4, 2) := by decide +kernel
theorem dNB_isToBeSent_29 : decode cNB_isToBeSent 29 = .ok (.land, 1) := by decide +kernel
theorem dNB_isToBeSent_30 : decode cNB_isToBeSent 30 = .ok (.lconst 0, 1) := by decide +kernel
theorem dNB_isToBeSent_31 : decode cNB_isToBeSent 31 = .ok (.lcmp, 1) := by decide +kernel
theorem dNB_isToBeSent_32 : decode cNB_isToBeSent 32 = .ok (.ifCond .ne 21, 3) := by decide +kernel
theorem dNB_isToBeSent_35 : decode cNB_isToBeSent 35 = .ok (.iload_n 3, 1) := by decide +kernel
theorem dNB_isToBeSent_36 : decode cNB_isToBeSent 36 = .ok (.aload_n 0, 1) := by decide +kernel
theorem dNB_isToBeSent_37 : decode cNB_isToBeSent 37 = .ok (.getfield 31, 3) := by decide +kernel
theorem dNB_isToBeSent_40 : decode cNB_isToBeSent 40 = .ok (.iload_n 1, 1) := by decide +kernel
theorem dNB_isToBeSent_41 : decode cNB_isToBeSent 41 = .ok (.bipush 64, 2) := by decide +kernel
theorem dNB_isToBeSent_43 : decode cNB_isToBeSent 43 = .ok (.imul, 1) := by decide +kernel
theorem dNB_isToBeSent_44 : decode cNB_isToBeSent 44 = .ok (.iload_n 2, 1) := by decide +kernel
theorem dNB_isToBeSent_45 : decode cNB_isToBeSent 45 = .ok (.iadd, 1) := by decide +kernel
theorem dNB_isToBeSent_46 : decode cNB_isToBeSent 46 = .ok (.iaload, 1) := by decide +kernel
theorem dNB_isToBeSent_47 : decode cNB_isToBeSent 47 = .ok (.isub, 1) := by decide +kernel
theorem dNB_isToBeSent_48 : decode cNB_isToBeSent 48 = .ok (.bipush 15, 2) := by decide +kernel
theorem dNB_isToBeSent_50 : decode cNB_isToBeSent 50 = .ok (.if_icmp .lt 7, 3) := by decide +kernel
theorem dNB_isToBeSent_53 : decode cNB_isToBeSent 53 = .ok (.iconst 1, 1) := by decide +kernel
theorem dNB_isToBeSent_54 : decode cNB_isToBeSent 54 = .ok (.goto 4, 3) := by decide +kernel
theorem dNB_isToBeSent_57 : decode cNB_isToBeSent 57 = .ok (.iconst 0, 1) := by decide +kernel
theorem dNB_isToBeSent_58 : decode cNB_isToBeSent 58 = .ok (.ireturn, 1) := by decide +kernel
theorem dNB_sent_0 : decode cNB_sent 0 = .ok (.aload_n 0, 1) := by decide +kernel
theorem dNB_sent_1 : decode cNB_sent 1 = .ok (.getfield 28, 3) := by decide +kernel
theorem dNB_sent_4 : decode cNB_sent 4 = .ok (.iload_n 1, 1) := by decide +kernel
theorem dNB_sent_5 : decode cNB_sent 5 = .ok (.dup2, 1) := by decide +kernel
theorem dNB_sent_6 : decode cNB_sent 6 = .ok (.laload, 1) := by decide +kernel
theorem dNB_sent_7 : decode cNB_sent 7 = .ok (.lconst 1, 1) := by decide +kernel
theorem dNB_sent_8 : decode cNB_sent 8 = .ok (.iload_n 2, 1) := by decide +kernel
theorem dNB_sent_9 : decode cNB_sent 9 = .ok (.lshl, 1) := by decide +kernel
theorem dNB_sent_10 : decode cNB_sent 10 = .ok (.ldc2_w 53, 3) := by decide +kernel
theorem dNB_sent_13 : decode cNB_sent 13 = .ok (.lxor, 1) := by decide +kernel
theorem dNB_sent_14 : decode cNB_sent 14 = .ok (.land, 1) := by decide +kernel
theorem dNB_sent_15 : decode cNB_sent 15 = .ok (.lastore, 1) := by decide +kernel
theorem dNB_sent_16 : decode cNB_sent 16 = .ok (.aload_n 0, 1) := by decide +kernel
theorem dNB_sent_17 : decode cNB_sent 17 = .ok (.getfield 31, 3) := by decide +kernel
theorem dNB_sent_20 : decode cNB_sent 20 = .ok (.iload_n 1, 1) := by decide +kernel
theorem dNB_sent_21 : decode cNB_sent 21 = .ok (.bipush 64, 2) := by decide +kernel
theorem dNB_sent_23 : decode cNB_sent 23 = .ok (.imul, 1) := by decide +kernel
theorem dNB_sent_24 : decode cNB_sent 24 = .ok (.iload_n 2, 1) := by decide +kernel
theorem dNB_sent_25 : decode cNB_sent 25 = .ok (.iadd, 1) := by decide +kernel
theorem dNB_sent_26 : decode cNB_sent 26 = .ok (.iload_n 3, 1) := by decide +kernel
theorem dNB_sent_27 : decode cNB_sent 27 = .ok (.iastore, 1) := by decide +kernel
theorem dNB_sent_28 : decode cNB_sent 28 = .ok (.return_, 1) := by decide +kernel
theorem dNB_portAt_0 : decode cNB_portAt 0 = .ok (.aload_n 0, 1) := by decide +kernel
theorem dNB_portAt_1 : decode cNB_portAt 1 = .ok (.getfield 15, 3) := by decide +kernel
theorem dNB_portAt_4 : decode cNB_portAt 4 = .ok (.iload_n 1, 1) := by decide +kernel
theorem dNB_portAt_5 : decode cNB_portAt 5 = .ok (.iaload, 1) := by decide +kernel
theorem dNB_portAt_6 : decode cNB_portAt 6 = .ok (.ireturn, 1) := by decide +kernel
theorem dNB_routerAt_0 : decode cNB_routerAt 0 = .ok (.aload_n 0, 1) := by decide +kernel
theorem dNB_routerAt_1 : decode cNB_routerAt 1 = .ok (.getfield 18, 3) := by decide +kernel
theorem dNB_routerAt_4 : decode cNB_routerAt 4 = .ok (.iload_n 1, 1) := by decide +kernel
theorem dNB_routerAt_5 : decode cNB_routerAt 5 = .ok (.iaload, 1) := by decide +kernel
theorem dNB_routerAt_6 : decode cNB_routerAt 6 = .ok (.ireturn, 1) := by decide +kernel
theorem dAD_numberOf_0 : decode cAD_numberOf 0 = .ok (.aload_n 0, 1) := by decide +kernel
theorem dAD_numberOf_1 : decode cAD_numberOf 1 = .ok (.getfield 9, 3) := by decide +kernel
theorem dAD_numberOf_4 : decode cAD_numberOf 4 = .ok (.iload_n 1, 1) := by decide +kernel
theorem dAD_numberOf_5 : decode cAD_numberOf 5 = .ok (.iaload, 1) := by decide +kernel
theorem dAD_numberOf_6 : decode cAD_numberOf 6 = .ok (.ireturn, 1) := by decide +kernel
theorem dAD_bodyOf_0 : decode cAD_bodyOf 0 = .ok (.aload_n 0, 1) := by decide +kernel
theorem dAD_bodyOf_1 : decode cAD_bodyOf 1 = .ok (.getfield 15, 3) := by decide +kernel
theorem dAD_bodyOf_4 : decode cAD_bodyOf 4 = .ok (.iload_n 1, 1) := by decide +kernel
theorem dAD_bodyOf_5 : decode cAD_bodyOf 5 = .ok (.iaload, 1) := by decide +kernel
theorem dAD_bodyOf_6 : decode cAD_bodyOf 6 = .ok (.ireturn, 1) := by decide +kernel
theorem dMS_makeAdvert_0 : decode cMS_makeAdvert 0 = .ok (.aload_n 0, 1) := by decide +kernel
theorem dMS_makeAdvert_1 : decode cMS_makeAdvert 1 = .ok (.iconst 3, 1) := by decide +kernel
theorem dMS_makeAdvert_2 : decode cMS_makeAdvert 2 = .ok (.iload_n 1, 1) := by decide +kernel
theorem dMS_makeAdvert_3 : decode cMS_makeAdvert 3 = .ok (.iload_n 2, 1) := by decide +kernel
theorem dMS_makeAdvert_4 : decode cMS_makeAdvert 4 = .ok (.invokevirtual 19, 3) := by decide +kernel
theorem dMS_makeAdvert_7 : decode cMS_makeAdvert 7 = .ok (.aload_n 0, 1) := by decide +kernel
theorem dMS_makeAdvert_8 : decode cMS_makeAdvert 8 = .ok (.iload_n 3, 1) := by decide +kernel
theorem dMS_makeAdvert_9 : decode cMS_makeAdvert 9 = .ok (.iload 4, 2) := by decide +kernel
theorem dMS_makeAdvert_11 : decode cMS_makeAdvert 11 = .ok (.iload 5, 2) := by decide +kernel
theorem dMS_makeAdvert_13 : decode cMS_makeAdvert 13 = .ok (.invokevirtual 23, 3) := by decide +kernel
theorem dMS_makeAdvert_16 : decode cMS_makeAdvert 16 = .ok (.aload_n 0, 1) := by decide +kernel
theorem dMS_makeAdvert_17 : decode cMS_makeAdvert 17 = .ok (.lconst 0, 1) := by decide +kernel
theorem dMS_makeAdvert_18 : decode cMS_makeAdvert 18 = .ok (.putfield 15, 3) := by decide +kernel
theorem dMS_makeAdvert_21 : decode cMS_makeAdvert 21 = .ok (.return_, 1) := by decide +kernel
theorem dDB_named_0 : decode cDB_named 0 = .ok (.aload_n 0, 1) := by decide +kernel
theorem dDB_named_1 : decode cDB_named 1 = .ok (.getfield 37, 3) := by decide +kernel
theorem dDB_named_4 : decode cDB_named 4 = .ok (.invokevirtual 163, 3) := by decide +kernel
theorem dDB_named_7 : decode cDB_named 7 = .ok (.lreturn, 1) := by decide +kernel
theorem dMS_namedRouters_0 : decode cMS_namedRouters 0 = .ok (.aload_n 0, 1) := by decide +kernel
theorem dMS_namedRouters_1 : decode cMS_namedRouters 1 = .ok (.getfield 15, 3) := by decide +kernel
theorem dMS_namedRouters_4 : decode cMS_namedRouters 4 = .ok (.lreturn, 1) := by decide +kernel
theorem dDB_count_0 : decode cDB_count 0 = .ok (.aload_n 0, 1) := by decide +kernel
theorem dDB_count_1 : decode cDB_count 1 = .ok (.getfield 23, 3) := by decide +kernel
theorem dDB_count_4 : decode cDB_count 4 = .ok (.iload_n 1, 1) := by decide +kernel
theorem dDB_count_5 : decode cDB_count 5 = .ok (.ifCond .eq 7, 3) := by decide +kernel
theorem dDB_count_8 : decode cDB_count 8 = .ok (.iconst 2, 1) := by decide +kernel
theorem dDB_count_9 : decode cDB_count 9 = .ok (.goto 4, 3) := by decide +kernel
theorem dDB_count_12 : decode cDB_count 12 = .ok (.iconst 1, 1) := by decide +kernel
theorem dDB_count_13 : decode cDB_count 13 = .ok (.invokevirtual 175, 3) := by decide +kernel
theorem dDB_count_16 : decode cDB_count 16 = .ok (.ireturn, 1) := by decide +kernel
theorem dNB_atLeast_0 : decode cNB_atLeast 0 = .ok (.iconst 0, 1) := by decide +kernel
theorem dNB_atLeast_1 : decode cNB_atLeast 1 = .ok (.istore_n 2, 1) := by decide +kernel
theorem dNB_atLeast_2 : decode cNB_atLeast 2 = .ok (.iconst 0, 1) := by decide +kernel
theorem dNB_atLeast_3 : decode cNB_atLeast 3 = .ok (.istore_n 3, 1) := by decide +kernel
theorem dNB_atLeast_4 : decode cNB_atLeast 4 = .ok (.iload_n 3, 1) := by decide +kernel
theorem dNB_atLeast_5 : decode cNB_atLeast 5 = .ok (.bipush 16, 2) := by decide +kernel
theorem dNB_atLeast_7 : decode cNB_atLeast 7 = .ok (.if_icmp .ge 22, 3) := by decide +kernel
theorem dNB_atLeast_10 : decode cNB_atLeast 10 = .ok (.aload_n 0, 1) := by decide +kernel
theorem dNB_atLeast_11 : decode cNB_atLeast 11 = .ok (.getfield 9, 3) := by decide +kernel
theorem dNB_atLeast_14 : decode cNB_atLeast 14 = .ok (.iload_n 3, 1) := by decide +kernel
theorem dNB_atLeast_15 : decode cNB_atLeast 15 = .ok (.iaload, 1) := by decide +kernel
theorem dNB_atLeast_16 : decode cNB_atLeast 16 = .ok (.iload_n 1, 1) := by decide +kernel
theorem dNB_atLeast_17 : decode cNB_atLeast 17 = .ok (.if_icmp .lt 6, 3) := by decide +kernel
theorem dNB_atLeast_20 : decode cNB_atLeast 20 = .ok (.iinc 2 1, 3) := by decide +kernel
theorem dNB_atLeast_23 : decode cNB_atLeast 23 = .ok (.iinc 3 1, 3) := by decide +kernel
theorem dNB_atLeast_26 : decode cNB_atLeast 26 = .ok (.goto (-22), 3) := by decide +kernel
theorem dNB_atLeast_29 : decode cNB_atLeast 29 = .ok (.iload_n 2, 1) := by decide +kernel
theorem dNB_atLeast_30 : decode cNB_atLeast 30 = .ok (.ireturn, 1) := by decide +kernel
theorem dDB_time_0 : decode cDB_time 0 = .ok (.aload_n 0, 1) := by decide +kernel
theorem dDB_time_1 : decode cDB_time 1 = .ok (.getfield 68, 3) := by decide +kernel
theorem dDB_time_4 : decode cDB_time 4 = .ok (.ireturn, 1) := by decide +kernel
theorem dDB_port_0 : decode cDB_port 0 = .ok (.iload_n 1, 1) := by decide +kernel
theorem dDB_port_1 : decode cDB_port 1 = .ok (.invokestatic 41, 3) := by decide +kernel
theorem dDB_port_4 : decode cDB_port 4 = .ok (.aload_n 0, 1) := by decide +kernel
theorem dDB_port_5 : decode cDB_port 5 = .ok (.iload_n 1, 1) := by decide +kernel
theorem dDB_port_6 : decode cDB_port 6 = .ok (.invokevirtual 45, 3) := by decide +kernel
theorem dDB_port_9 : decode cDB_port 9 = .ok (.iload_n 2, 1) := by decide +kernel
theorem dDB_port_10 : decode cDB_port 10 = .ok (.if_icmp .ne 5, 3) := by decide +kernel
theorem dDB_port_13 : decode cDB_port 13 = .ok (.iconst 0, 1) := by decide +kernel
theorem dDB_port_14 : decode cDB_port 14 = .ok (.ireturn, 1) := by decide +kernel
theorem dDB_port_15 : decode cDB_port 15 = .ok (.iload_n 2, 1) := by decide +kernel
theorem dDB_port_16 : decode cDB_port 16 = .ok (.ifCond .eq 18, 3) := by decide +kernel
theorem dDB_port_19 : decode cDB_port 19 = .ok (.aload_n 0, 1) := by decide +kernel
theorem dDB_port_20 : decode cDB_port 20 = .ok (.dup, 1) := by decide +kernel
theorem dDB_port_21 : decode cDB_port 21 = .ok (.getfield 49, 3) := by decide +kernel
theorem dDB_port_24 : decode cDB_port 24 = .ok (.iconst 1, 1) := by decide +kernel
theorem dDB_port_25 : decode cDB_port 25 = .ok (.iload_n 1, 1) := by decide +kernel
theorem dDB_port_26 : decode cDB_port 26 = .ok (.ishl, 1) := by decide +kernel
theorem dDB_port_27 : decode cDB_port 27 = .ok (.ior, 1) := by decide +kernel
theorem dDB_port_28 : decode cDB_port 28 = .ok (.putfield 49, 3) := by decide +kernel
theorem dDB_port_31 : decode cDB_port 31 = .ok (.goto 39, 3) := by decide +kernel
theorem dDB_port_34 : decode cDB_port 34 = .ok (.aload_n 0, 1) := by decide +kernel
theorem dDB_port_35 : decode cDB_port 35 = .ok (.dup, 1) := by decide +kernel
theorem dDB_port_36 : decode cDB_port 36 = .ok (.getfield 49, 3) := by decide +kernel
theorem dDB_port_39 : decode cDB_port 39 = .ok (.iconst 1, 1) := by decide +kernel
theorem dDB_port_40 : decode cDB_port 40 = .ok (.iload_n 1, 1) := by decide +kernel
theorem dDB_port_41 : decode cDB_port 41 = .ok (.ishl, 1) := by decide +kernel
theorem dDB_port_42 : decode cDB_port 42 = .ok (.iconst (-1), 1) := by decide +kernel
theorem dDB_port_43 : decode cDB_port 43 = .ok (.ixor, 1) := by decide +kernel
theorem dDB_port_44 : decode cDB_port 44 = .ok (.iand, 1) := by decide +kernel
theorem dDB_port_45 : decode cDB_port 45 = .ok (.putfield 49, 3) := by decide +kernel
theorem dDB_port_48 : decode cDB_port 48 = .ok (.aload_n 0, 1) := by decide +kernel
theorem dDB_port_49 : decode cDB_port 49 = .ok (.dup, 1) := by decide +kernel
theorem dDB_port_50 : decode cDB_port 50 = .ok (.getfield 52, 3) := by decide +kernel
theorem dDB_port_53 : decode cDB_port 53 = .ok (.iconst 1, 1) := by decide +kernel
theorem dDB_port_54 : decode cDB_port 54 = .ok (.iload_n 1, 1) := by decide +kernel
theorem dDB_port_55 : decode cDB_port 55 = .ok (.ishl, 1) := by decide +kernel
theorem dDB_port_56 : decode cDB_port 56 = .ok (.iconst (-1), 1) := by decide +kernel
theorem dDB_port_57 : decode cDB_port 57 = .ok (.ixor, 1) := by decide +kernel
theorem dDB_port_58 : decode cDB_port 58 = .ok (.iand, 1) := by decide +kernel
theorem dDB_port_59 : decode cDB_port 59 = .ok (.putfield 52, 3) := by decide +kernel
theorem dDB_port_62 : decode cDB_port 62 = .ok (.aload_n 0, 1) := by decide +kernel
theorem dDB_port_63 : decode cDB_port 63 = .ok (.getfield 23, 3) := by decide +kernel
theorem dDB_port_66 : decode cDB_port 66 = .ok (.iload_n 1, 1) := by decide +kernel
theorem dDB_port_67 : decode cDB_port 67 = .ok (.invokevirtual 55, 3) := by decide +kernel
theorem dDB_port_70 : decode cDB_port 70 = .ok (.iconst 1, 1) := by decide +kernel
theorem dDB_port_71 : decode cDB_port 71 = .ok (.ireturn, 1) := by decide +kernel
theorem dDB_requirePort_0 : decode cDB_requirePort 0 = .ok (.iload_n 0, 1) := by decide +kernel
theorem dDB_requirePort_1 : decode cDB_requirePort 1 = .ok (.ifCond .lt 9, 3) := by decide +kernel
theorem dDB_requirePort_4 : decode cDB_requirePort 4 = .ok (.iload_n 0, 1) := by decide +kernel
theorem dDB_requirePort_5 : decode cDB_requirePort 5 = .ok (.bipush 8, 2) := by decide +kernel
theorem dDB_requirePort_7 : decode cDB_requirePort 7 = .ok (.if_icmp .lt 13, 3) := by decide +kernel
theorem dDB_requirePort_10 : decode cDB_requirePort 10 = .ok (.new 127, 3) := by decide +kernel
theorem dDB_requirePort_13 : decode cDB_requirePort 13 = .ok (.dup, 1) := by decide +kernel
theorem dDB_requirePort_14 : decode cDB_requirePort 14 = .ok (.ldc 183, 2) := by decide +kernel
theorem dDB_requirePort_16 : decode cDB_requirePort 16 = .ok (.invokespecial 131, 3) := by decide +kernel
theorem dDB_requirePort_19 : decode cDB_requirePort 19 = .ok (.athrow, 1) := by decide +kernel
theorem dDB_requirePort_20 : decode cDB_requirePort 20 = .ok (.return_, 1) := by decide +kernel
theorem dDB_isOn_0 : decode cDB_isOn 0 = .ok (.aload_n 0, 1) := by decide +kernel
theorem dDB_isOn_1 : decode cDB_isOn 1 = .ok (.getfield 49, 3) := by decide +kernel
theorem dDB_isOn_4 : decode cDB_isOn 4 = .ok (.iconst 1, 1) := by decide +kernel
theorem dDB_isOn_5 : decode cDB_isOn 5 = .ok (.iload_n 1, 1) := by decide +kernel
theorem dDB_isOn_6 : decode cDB_isOn 6 = .ok (.ishl, 1) := by decide +kernel
theorem dDB_isOn_7 : decode cDB_isOn 7 = .ok (.iand, 1) := by decide +kernel
theorem dDB_isOn_8 : decode cDB_isOn 8 = .ok (.ifCond .eq 7, 3) := by decide +kernel
theorem dDB_isOn_11 : decode cDB_isOn 11 = .ok (.iconst 1, 1) := by decide +kernel
theorem dDB_isOn_12 : decode cDB_isOn 12 = .ok (.goto 4, 3) := by decide +kernel
theorem dDB_isOn_15 : decode cDB_isOn 15 = .ok (.iconst 0, 1) := by decide +kernel
theorem dDB_isOn_16 : decode cDB_isOn 16 = .ok (.ireturn, 1) := by decide +kernel
theorem dNB_dropPort_0 : decode cNB_dropPort 0 = .ok (.iconst 0, 1) := by decide +kernel
theorem dNB_dropPort_1 : decode cNB_dropPort 1 = .ok (.istore_n 2, 1) := by decide +kernel
theorem dNB_dropPort_2 : decode cNB_dropPort 2 = .ok (.iload_n 2, 1) := by decide +kernel
theorem dNB_dropPort_3 : decode cNB_dropPort 3 = .ok (.bipush 16, 2) := by decide +kernel
theorem dNB_dropPort_5 : decode cNB_dropPort 5 = .ok (.if_icmp .ge 33, 3) := by decide +kernel
theorem dNB_dropPort_8 : decode cNB_dropPort 8 = .ok (.aload_n 0, 1) := by decide +kernel
theorem dNB_dropPort_9 : decode cNB_dropPort 9 = .ok (.getfield 9, 3) := by decide +kernel
theorem dNB_dropPort_12 : decode cNB_dropPort 12 = .ok (.iload_n 2, 1) := by decide +kernel
theorem dNB_dropPort_13 : decode cNB_dropPort 13 = .ok (.iaload, 1) := by decide +kernel
theorem dNB_dropPort_14 : decode cNB_dropPort 14 = .ok (.ifCond .eq 18, 3) := by decide +kernel
theorem dNB_dropPort_17 : decode cNB_dropPort 17 = .ok (.aload_n 0, 1) := by decide +kernel
theorem dNB_dropPort_18 : decode cNB_dropPort 18 = .ok (.getfield 15, 3) := by decide +kernel
theorem dNB_dropPort_21 : decode cNB_dropPort 21 = .ok (.iload_n 2, 1) := by decide +kernel
theorem dNB_dropPort_22 : decode cNB_dropPort 22 = .ok (.iaload, 1) := by decide +kernel
theorem dNB_dropPort_23 : decode cNB_dropPort 23 = .ok (.iload_n 1, 1) := by decide +kernel
theorem dNB_dropPort_24 : decode cNB_dropPort 24 = .ok (.if_icmp .ne 8, 3) := by decide +kernel
theorem dNB_dropPort_27 : decode cNB_dropPort 27 = .ok (.aload_n 0, 1) := by decide +kernel
theorem dNB_dropPort_28 : decode cNB_dropPort 28 = .ok (.iload_n 2, 1) := by decide +kernel
theorem dNB_dropPort_29 : decode cNB_dropPort 29 = .ok (.invokevirtual 45, 3) := by decide +kernel
theorem dNB_dropPort_32 : decode cNB_dropPort 32 = .ok (.iinc 2 1, 3) := by decide +kernel
theorem dNB_dropPort_35 : decode cNB_dropPort 35 = .ok (.goto (-33), 3) := by decide +kernel
theorem dNB_dropPort_38 : decode cNB_dropPort 38 = .ok (.return_, 1) := by decide +kernel
theorem dNB_drop_0 : decode cNB_drop 0 = .ok (.aload_n 0, 1) := by decide +kernel
theorem dNB_drop_1 : decode cNB_drop 1 = .ok (.getfield 9, 3) := by decide +kernel
theorem dNB_drop_4 : decode cNB_drop 4 = .ok (.iload_n 1, 1) := by decide +kernel
theorem dNB_drop_5 : decode cNB_drop 5 = .ok (.iconst 0, 1) := by decide +kernel
theorem dNB_drop_6 : decode cNB_drop 6 = .ok (.iastore, 1) := by decide +kernel
theorem dNB_drop_7 : decode cNB_drop 7 = .ok (.aload_n 0, 1) := by decide +kernel
theorem dNB_drop_8 : decode cNB_drop 8 = .ok (.iload_n 1, 1) := by decide +kernel
theorem dNB_drop_9 : decode cNB_drop 9 = .ok (.lconst 0, 1) := by decide +kernel
theorem dNB_drop_10 : decode cNB_drop 10 = .ok (.invokevirtual 41, 3) := by decide +kernel
theorem dNB_drop_13 : decode cNB_drop 13 = .ok (.return_, 1) := by decide +kernel
theorem dNB_oweExactly_0 : decode cNB_oweExactly 0 = .ok (.aload_n 0, 1) := by decide +kernel
theorem dNB_oweExactly_1 : decode cNB_oweExactly 1 = .ok (.getfield 24, 3) := by decide +kernel
theorem dNB_oweExactly_4 : decode cNB_oweExactly 4 = .ok (.iload_n 1, 1) := by decide +kernel
theorem dNB_oweExactly_5 : decode cNB_oweExactly 5 = .ok (.lload_n 2, 1) := by decide +kernel
theorem dNB_oweExactly_6 : decode cNB_oweExactly 6 = .ok (.lastore, 1) := by decide +kernel
theorem dNB_oweExactly_7 : decode cNB_oweExactly 7 = .ok (.aload_n 0, 1) := by decide +kernel
theorem dNB_oweExactly_8 : decode cNB_oweExactly 8 = .ok (.getfield 28, 3) := by decide +kernel
theorem dNB_oweExactly_11 : decode cNB_oweExactly 11 = .ok (.iload_n 1, 1) := by decide +kernel
theorem dNB_oweExactly_12 : decode cNB_oweExactly 12 = .ok (.lload_n 2, 1) := by decide +kernel
theorem dNB_oweExactly_13 : decode cNB_oweExactly 13 = .ok (.lastore, 1) := by decide +kernel
theorem dNB_oweExactly_14 : decode cNB_oweExactly 14 = .ok (.return_, 1) := by decide +kernel
theorem dDB_greeting_0 : decode cDB_greeting 0 = .ok (.iload_n 1, 1) := by decide +kernel
theorem dDB_greeting_1 : decode cDB_greeting 1 = .ok (.invokestatic 41, 3) := by decide +kernel
theorem dDB_greeting_4 : decode cDB_greeting 4 = .ok (.aload_n 0, 1) := by decide +kernel
theorem dDB_greeting_5 : decode cDB_greeting 5 = .ok (.iload_n 2, 1) := by decide +kernel
theorem dDB_greeting_6 : decode cDB_greeting 6 = .ok (.invokevirtual 58, 3) := by decide +kernel
theorem dDB_greeting_9 : decode cDB_greeting 9 = .ok (.aload_n 0, 1) := by decide +kernel
theorem dDB_greeting_10 : decode cDB_greeting 10 = .ok (.iload_n 1, 1) := by decide +kernel
theorem dDB_greeting_11 : decode cDB_greeting 11 = .ok (.invokevirtual 61, 3) := by decide +kernel
theorem dDB_greeting_14 : decode cDB_greeting 14 = .ok (.aload_n 0, 1) := by decide +kernel
theorem dDB_greeting_15 : decode cDB_greeting 15 = .ok (.getfield 23, 3) := by decide +kernel
theorem dDB_greeting_18 : decode cDB_greeting 18 = .ok (.iload_n 1, 1) := by decide +kernel
theorem dDB_greeting_19 : decode cDB_greeting 19 = .ok (.iload_n 2, 1) := by decide +kernel
theorem dDB_greeting_20 : decode cDB_greeting 20 = .ok (.invokevirtual 64, 3) := by decide +kernel
theorem dDB_greeting_23 : decode cDB_greeting 23 = .ok (.istore 4, 2) := by decide +kernel
theorem dDB_greeting_25 : decode cDB_greeting 25 = .ok (.iload 4, 2) := by decide +kernel
theorem dDB_greeting_27 : decode cDB_greeting 27 = .ok (.iconst (-1), 1) := by decide +kernel
theorem dDB_greeting_28 : decode cDB_greeting 28 = .ok (.if_icmp .ne 5, 3) := by decide +kernel
theorem dDB_greeting_31 : decode cDB_greeting 31 = .ok (.iconst 0, 1) := by decide +kernel
theorem dDB_greeting_32 : decode cDB_greeting 32 = .ok (.ireturn, 1) := by decide +kernel
theorem dDB_greeting_33 : decode cDB_greeting 33 = .ok (.aload_n 0, 1) := by decide +kernel
theorem dDB_greeting_34 : decode cDB_greeting 34 = .ok (.getfield 23, 3) := by decide +kernel
theorem dDB_greeting_37 : decode cDB_greeting 37 = .ok (.iload 4, 2) := by decide +kernel
theorem dDB_greeting_39 : decode cDB_greeting 39 = .ok (.aload_n 0, 1) := by decide +kernel
theorem dDB_greeting_40 : decode cDB_greeting 40 = .ok (.getfield 68, 3) := by decide +kernel
theorem dDB_greeting_43 : decode cDB_greeting 43 = .ok (.iload_n 3, 1) := by decide +kernel
theorem dDB_greeting_44 : decode cDB_greeting 44 = .ok (.aload_n 0, 1) := by decide +kernel
theorem dDB_greeting_45 : decode cDB_greeting 45 = .ok (.getfield 16, 3) := by decide +kernel
theorem dDB_greeting_48 : decode cDB_greeting 48 = .ok (.invokevirtual 71, 3) := by decide +kernel
theorem dDB_greeting_51 : decode cDB_greeting 51 = .ok (.invokevirtual 75, 3) := by decide +kernel
theorem dDB_greeting_54 : decode cDB_greeting 54 = .ok (.ireturn, 1) := by decide +kernel
theorem dDB_requireSender_0 : decode cDB_requireSender 0 = .ok (.iload_n 1, 1) := by decide +kernel
theorem dDB_requireSender_1 : decode cDB_requireSender 1 = .ok (.invokestatic 178, 3) := by decide +kernel
theorem dDB_requireSender_4 : decode cDB_requireSender 4 = .ok (.ifCond .eq 11, 3) := by decide +kernel
theorem dDB_requireSender_7 : decode cDB_requireSender 7 = .ok (.iload_n 1, 1) := by decide +kernel
theorem dDB_requireSender_8 : decode cDB_requireSender 8 = .ok (.aload_n 0, 1) := by decide +kernel
theorem dDB_requireSender_9 : decode cDB_requireSender 9 = .ok (.getfield 9, 3) := by decide +kernel
theorem dDB_requireSender_12 : decode cDB_requireSender 12 = .ok (.if_icmp .ne 13, 3) := by decide +kernel
theorem dDB_requireSender_15 : decode cDB_requireSender 15 = .ok (.new 127, 3) := by decide +kernel
theorem dDB_requireSender_18 : decode cDB_requireSender 18 = .ok (.dup, 1) := by decide +kernel
theorem dDB_requireSender_19 : decode cDB_requireSender 19 = .ok (.ldc 188, 2) := by decide +kernel
theorem dDB_requireSender_21 : decode cDB_requireSender 21 = .ok (.invokespecial 131, 3) := by decide +kernel
theorem dDB_requireSender_24 : decode cDB_requireSender 24 = .ok (.athrow, 1) := by decide +kernel
theorem dDB_requireSender_25 : decode cDB_requireSender 25 = .ok (.return_, 1) := by decide +kernel
theorem dDB_isRouter_0 : decode cDB_isRouter 0 = .ok (.iload_n 0, 1) := by decide +kernel
theorem dDB_isRouter_1 : decode cDB_isRouter 1 = .ok (.ifCond .lt 13, 3) := by decide +kernel
theorem dDB_isRouter_4 : decode cDB_isRouter 4 = .ok (.iload_n 0, 1) := by decide +kernel
theorem dDB_isRouter_5 : decode cDB_isRouter 5 = .ok (.bipush 64, 2) := by decide +kernel
theorem dDB_isRouter_7 : decode cDB_isRouter 7 = .ok (.if_icmp .ge 7, 3) := by decide +kernel
theorem dDB_isRouter_10 : decode cDB_isRouter 10 = .ok (.iconst 1, 1) := by decide +kernel
theorem dDB_isRouter_11 : decode cDB_isRouter 11 = .ok (.goto 4, 3) := by decide +kernel
theorem dDB_isRouter_14 : decode cDB_isRouter 14 = .ok (.iconst 0, 1) := by decide +kernel
theorem dDB_isRouter_15 : decode cDB_isRouter 15 = .ok (.ireturn, 1) := by decide +kernel
theorem dDB_requireOn_0 : decode cDB_requireOn 0 = .ok (.aload_n 0, 1) := by decide +kernel
theorem dDB_requireOn_1 : decode cDB_requireOn 1 = .ok (.iload_n 1, 1) := by decide +kernel
theorem dDB_requireOn_2 : decode cDB_requireOn 2 = .ok (.invokevirtual 45, 3) := by decide +kernel
theorem dDB_requireOn_5 : decode cDB_requireOn 5 = .ok (.ifCond .ne 13, 3) := by decide +kernel
theorem dDB_requireOn_8 : decode cDB_requireOn 8 = .ok (.new 135, 3) := by decide +kernel
theorem dDB_requireOn_11 : decode cDB_requireOn 11 = .ok (.dup, 1) := by decide +kernel
theorem dDB_requireOn_12 : decode cDB_requireOn 12 = .ok (.ldc 190, 2) := by decide +kernel
theorem dDB_requireOn_14 : decode cDB_requireOn 14 = .ok (.invokespecial 139, 3) := by decide +kernel
theorem dDB_requireOn_17 : decode cDB_requireOn 17 = .ok (.athrow, 1) := by decide +kernel
theorem dDB_requireOn_18 : decode cDB_requireOn 18 = .ok (.return_, 1) := by decide +kernel
theorem dNB_placeFor_0 : decode cNB_placeFor 0 = .ok (.aload_n 0, 1) := by decide +kernel
theorem dNB_placeFor_1 : decode cNB_placeFor 1 = .ok (.iload_n 1, 1) := by decide +kernel
theorem dNB_placeFor_2 : decode cNB_placeFor 2 = .ok (.iload_n 2, 1) := by decide +kernel
theorem dNB_placeFor_3 : decode cNB_placeFor 3 = .ok (.invokevirtual 34, 3) := by decide +kernel
theorem dNB_placeFor_6 : decode cNB_placeFor 6 = .ok (.istore_n 3, 1) := by decide +kernel
theorem dNB_placeFor_7 : decode cNB_placeFor 7 = .ok (.iload_n 3, 1) := by decide +kernel
theorem dNB_placeFor_8 : decode cNB_placeFor 8 = .ok (.iconst (-1), 1) := by decide +kernel
theorem dNB_placeFor_9 : decode cNB_placeFor 9 = .ok (.if_icmp .eq 7, 3) := by decide +kernel
theorem dNB_placeFor_12 : decode cNB_placeFor 12 = .ok (.iload_n 3, 1) := by decide +kernel
theorem dNB_placeFor_13 : decode cNB_placeFor 13 = .ok (.goto 9, 3) := by decide +kernel
theorem dNB_placeFor_16 : decode cNB_placeFor 16 = .ok (.aload_n 0, 1) := by decide +kernel
theorem dNB_placeFor_17 : decode cNB_placeFor 17 = .ok (.iload_n 1, 1) := by decide +kernel
theorem dNB_placeFor_18 : decode cNB_placeFor 18 = .ok (.iload_n 2, 1) := by decide +kernel
theorem dNB_placeFor_19 : decode cNB_placeFor 19 = .ok (.invokevirtual 38, 3) := by decide +kernel
theorem dNB_placeFor_22 : decode cNB_placeFor 22 = .ok (.ireturn, 1) := by decide +kernel
theorem dNB_heardPlace_0 : decode cNB_heardPlace 0 = .ok (.iconst 0, 1) := by decide +kernel
theorem dNB_heardPlace_1 : decode cNB_heardPlace 1 = .ok (.istore_n 3, 1) := by decide +kernel
theorem dNB_heardPlace_2 : decode cNB_heardPlace 2 = .ok (.iload_n 3, 1) := by decide +kernel
theorem dNB_heardPlace_3 : decode cNB_heardPlace 3 = .ok (.bipush 16, 2) := by decide +kernel
theorem dNB_heardPlace_5 : decode cNB_heardPlace 5 = .ok (.if_icmp .ge 40, 3) := by decide +kernel
theorem dNB_heardPlace_8 : decode cNB_heardPlace 8 = .ok (.aload_n 0, 1) := by decide +kernel
theorem dNB_heardPlace_9 : decode cNB_heardPlace 9 = .ok (.getfield 9, 3) := by decide +kernel
theorem dNB_heardPlace_12 : decode cNB_heardPlace 12 = .ok (.iload_n 3, 1) := by decide +kernel
theorem dNB_heardPlace_13 : decode cNB_heardPlace 13 = .ok (.iaload, 1) := by decide +kernel
theorem dNB_heardPlace_14 : decode cNB_heardPlace 14 = .ok (.ifCond .eq 25, 3) := by decide +kernel
theorem dNB_heardPlace_17 : decode cNB_heardPlace 17 = .ok (.aload_n 0, 1) := by decide +kernel
theorem dNB_heardPlace_18 : decode cNB_heardPlace 18 = .ok (.getfield 15, 3) := by decide +kernel
theorem dNB_heardPlace_21 : decode cNB_heardPlace 21 = .ok (.iload_n 3, 1) := by decide +kernel
theorem dNB_heardPlace_22 : decode cNB_heardPlace 22 = .ok (.iaload, 1) := by decide +kernel
theorem dNB_heardPlace_23 : decode cNB_heardPlace 23 = .ok (.iload_n 1, 1) := by decide +kernel
theorem dNB_heardPlace_24 : decode cNB_heardPlace 24 = .ok (.if_icmp .ne 15, 3) := by decide +kernel
theorem dNB_heardPlace_27 : decode cNB_heardPlace 27 = .ok (.aload_n 0, 1) := by decide +kernel
theorem dNB_heardPlace_28 : decode cNB_heardPlace 28 = .ok (.getfield 18, 3) := by decide +kernel
theorem dNB_heardPlace_31 : decode cNB_heardPlace 31 = .ok (.iload_n 3, 1) := by decide +kernel
theorem dNB_heardPlace_32 : decode cNB_heardPlace 32 = .ok (.iaload, 1) := by decide +kernel
theorem dNB_heardPlace_33 : decode cNB_heardPlace 33 = .ok (.iload_n 2, 1) := by decide +kernel
theorem dNB_heardPlace_34 : decode cNB_heardPlace 34 = .ok (.if_icmp .ne 5, 3) := by decide +kernel
theorem dNB_heardPlace_37 : decode cNB_heardPlace 37 = .ok (.iload_n 3, 1) := by decide +kernel
theorem dNB_heardPlace_38 : decode cNB_heardPlace 38 = .ok (.ireturn, 1) := by decide +kernel
theorem dNB_heardPlace_39 : decode cNB_heardPlace 39 = .ok (.iinc 3 1, 3) := by decide +kernel
theorem dNB_heardPlace_42 : decode cNB_heardPlace 42 = .ok (.goto (-40), 3) := by decide +kernel
theorem dNB_heardPlace_45 : decode cNB_heardPlace 45 = .ok (.iconst (-1), 1) := by decide +kernel
theorem dNB_heardPlace_46 : decode cNB_heardPlace 46 = .ok (.ireturn, 1) := by decide +kernel
theorem dNB_takeFreePlace_0 : decode cNB_takeFreePlace 0 = .ok (.iconst 0, 1) := by decide +kernel
theorem dNB_takeFreePlace_1 : decode cNB_takeFreePlace 1 = .ok (.istore_n 3, 1) := by decide +kernel
theorem dNB_takeFreePlace_2 : decode cNB_takeFreePlace 2 = .ok (.iload_n 3, 1) := by decide +kernel
theorem dNB_takeFreePlace_3 : decode cNB_takeFreePlace 3 = .ok (.bipush 16, 2) := by decide +kernel
theorem dNB_takeFreePlace_5 : decode cNB_takeFreePlace 5 = .ok (.if_icmp .ge 41, 3) := by decide +kernel
theorem dNB_takeFreePlace_8 : decode cNB_takeFreePlace 8 = .ok (.aload_n 0, 1) := by decide +kernel
theorem dNB_takeFreePlace_9 : decode cNB_takeFreePlace 9 = .ok (.getfield 9, 3) := by decide +kernel
theorem dNB_takeFreePlace_12 : decode cNB_takeFreePlace 12 = .ok (.iload_n 3, 1) := by decide +kernel
theorem dNB_takeFreePlace_13 : decode cNB_takeFreePlace 13 = .ok (.iaload, 1) := by decide +kernel
theorem dNB_takeFreePlace_14 : decode cNB_takeFreePlace 14 = .ok (.ifCond .ne 26, 3) := by decide +kernel
theorem dNB_takeFreePlace_17 : decode cNB_takeFreePlace 17 = .ok (.aload_n 0, 1) := by decide +kernel
theorem dNB_takeFreePlace_18 : decode cNB_takeFreePlace 18 = .ok (.getfield 9, 3) := by decide +kernel
theorem dNB_takeFreePlace_21 : decode cNB_takeFreePlace 21 = .ok (.iload_n 3, 1) := by decide +kernel
theorem dNB_takeFreePlace_22 : decode cNB_takeFreePlace 22 = .ok (.iconst 1, 1) := by decide +kernel
theorem dNB_takeFreePlace_23 : decode cNB_takeFreePlace 23 = .ok (.iastore, 1) := by decide +kernel
theorem dNB_takeFreePlace_24 : decode cNB_takeFreePlace 24 = .ok (.aload_n 0, 1) := by decide +kernel
theorem dNB_takeFreePlace_25 : decode cNB_takeFreePlace 25 = .ok (.getfield 15, 3) := by decide +kernel
theorem dNB_takeFreePlace_28 : decode cNB_takeFreePlace 28 = .ok (.iload_n 3, 1) := by decide +kernel
theorem dNB_takeFreePlace_29 : decode cNB_takeFreePlace 29 = .ok (.iload_n 1, 1) := by decide +kernel
theorem dNB_takeFreePlace_30 : decode cNB_takeFreePlace 30 = .ok (.iastore, 1) := by decide +kernel
theorem dNB_takeFreePlace_31 : decode cNB_takeFreePlace 31 = .ok (.aload_n 0, 1) := by decide +kernel
theorem dNB_takeFreePlace_32 : decode cNB_takeFreePlace 32 = .ok (.getfield 18, 3) := by decide +kernel
theorem dNB_takeFreePlace_35 : decode cNB_takeFreePlace 35 = .ok (.iload_n 3, 1) := by decide +kernel
theorem dNB_takeFreePlace_36 : decode cNB_takeFreePlace 36 = .ok (.iload_n 2, 1) := by decide +kernel
theorem dNB_takeFreePlace_37 : decode cNB_takeFreePlace 37 = .ok (.iastore, 1) := by decide +kernel
theorem dNB_takeFreePlace_38 : decode cNB_takeFreePlace 38 = .ok (.iload_n 3, 1) := by decide +kernel
theorem dNB_takeFreePlace_39 : decode cNB_takeFreePlace 39 = .ok (.ireturn, 1) := by decide +kernel
theorem dNB_takeFreePlace_40 : decode cNB_takeFreePlace 40 = .ok (.iinc 3 1, 3) := by decide +kernel
theorem dNB_takeFreePlace_43 : decode cNB_takeFreePlace 43 = .ok (.goto (-41), 3) := by decide +kernel
theorem dNB_takeFreePlace_46 : decode cNB_takeFreePlace 46 = .ok (.iconst (-1), 1) := by decide +kernel
theorem dNB_takeFreePlace_47 : decode cNB_takeFreePlace 47 = .ok (.ireturn, 1) := by decide +kernel
theorem dAD_allOrigins_0 : decode cAD_allOrigins 0 = .ok (.lconst 0, 1) := by decide +kernel
theorem dAD_allOrigins_1 : decode cAD_allOrigins 1 = .ok (.lstore_n 1, 1) := by decide +kernel
theorem dAD_allOrigins_2 : decode cAD_allOrigins 2 = .ok (.iconst 0, 1) := by decide +kernel
theorem dAD_allOrigins_3 : decode cAD_allOrigins 3 = .ok (.istore_n 3, 1) := by decide +kernel
theorem dAD_allOrigins_4 : decode cAD_allOrigins 4 = .ok (.iload_n 3, 1) := by decide +kernel
theorem dAD_allOrigins_5 : decode cAD_allOrigins 5 = .ok (.bipush 64, 2) := by decide +kernel
theorem dAD_allOrigins_7 : decode cAD_allOrigins 7 = .ok (.if_icmp .ge 24, 3) := by decide +kernel
theorem dAD_allOrigins_10 : decode cAD_allOrigins 10 = .ok (.aload_n 0, 1) := by decide +kernel
theorem dAD_allOrigins_11 : decode cAD_allOrigins 11 = .ok (.getfield 9, 3) := by decide +kernel
theorem dAD_allOrigins_14 : decode cAD_allOrigins 14 = .ok (.iload_n 3, 1) := by decide +kernel
theorem dAD_allOrigins_15 : decode cAD_allOrigins 15 = .ok (.iaload, 1) := by decide +kernel
theorem dAD_allOrigins_16 : decode cAD_allOrigins 16 = .ok (.ifCond .eq 9, 3) := by decide +kernel
theorem dAD_allOrigins_19 : decode cAD_allOrigins 19 = .ok (.lload_n 1, 1) := by decide +kernel
theorem dAD_allOrigins_20 : decode cAD_allOrigins 20 = .ok (.lconst 1, 1) := by decide +kernel
theorem dAD_allOrigins_21 : decode cAD_allOrigins 21 = .ok (.iload_n 3, 1) := by decide +kernel
theorem dAD_allOrigins_22 : decode cAD_allOrigins 22 = .ok (.lshl, 1) := by decide +kernel
theorem dAD_allOrigins_23 : decode cAD_allOrigins 23 = .ok (.lor, 1) := by decide +kernel
theorem dAD_allOrigins_24 : decode cAD_allOrigins 24 = .ok (.lstore_n 1, 1) := by decide +kernel
theorem dAD_allOrigins_25 : decode cAD_allOrigins 25 = .ok (.iinc 3 1, 3) := by decide +kernel
theorem dAD_allOrigins_28 : decode cAD_allOrigins 28 = .ok (.goto (-24), 3) := by decide +kernel
theorem dAD_allOrigins_31 : decode cAD_allOrigins 31 = .ok (.lload_n 1, 1) := by decide +kernel
theorem dAD_allOrigins_32 : decode cAD_allOrigins 32 = .ok (.lreturn, 1) := by decide +kernel
theorem dNB_greeted_0 : decode cNB_greeted 0 = .ok (.aload_n 0, 1) := by decide +kernel
theorem dNB_greeted_1 : decode cNB_greeted 1 = .ok (.getfield 21, 3) := by decide +kernel
theorem dNB_greeted_4 : decode cNB_greeted 4 = .ok (.iload_n 1, 1) := by decide +kernel
theorem dNB_greeted_5 : decode cNB_greeted 5 = .ok (.iload_n 2, 1) := by decide +kernel
theorem dNB_greeted_6 : decode cNB_greeted 6 = .ok (.iastore, 1) := by decide +kernel
theorem dNB_greeted_7 : decode cNB_greeted 7 = .ok (.iload_n 3, 1) := by decide +kernel
theorem dNB_greeted_8 : decode cNB_greeted 8 = .ok (.ifCond .ne 19, 3) := by decide +kernel
theorem dNB_greeted_11 : decode cNB_greeted 11 = .ok (.aload_n 0, 1) := by decide +kernel
theorem dNB_greeted_12 : decode cNB_greeted 12 = .ok (.getfield 9, 3) := by decide +kernel
theorem dNB_greeted_15 : decode cNB_greeted 15 = .ok (.iload_n 1, 1) := by decide +kernel
theorem dNB_greeted_16 : decode cNB_greeted 16 = .ok (.iconst 1, 1) := by decide +kernel
theorem dNB_greeted_17 : decode cNB_greeted 17 = .ok (.iastore, 1) := by decide +kernel
theorem dNB_greeted_18 : decode cNB_greeted 18 = .ok (.aload_n 0, 1) := by decide +kernel
theorem dNB_greeted_19 : decode cNB_greeted 19 = .ok (.iload_n 1, 1) := by decide +kernel
theorem dNB_greeted_20 : decode cNB_greeted 20 = .ok (.lconst 0, 1) := by decide +kernel
theorem dNB_greeted_21 : decode cNB_greeted 21 = .ok (.invokevirtual 41, 3) := by decide +kernel
theorem dNB_greeted_24 : decode cNB_greeted 24 = .ok (.goto 27, 3) := by decide +kernel
theorem dNB_greeted_27 : decode cNB_greeted 27 = .ok (.aload_n 0, 1) := by decide +kernel
theorem dNB_greeted_28 : decode cNB_greeted 28 = .ok (.getfield 9, 3) := by decide +kernel
theorem dNB_greeted_31 : decode cNB_greeted 31 = .ok (.iload_n 1, 1) := by decide +kernel
theorem dNB_greeted_32 : decode cNB_greeted 32 = .ok (.iaload, 1) := by decide +kernel
theorem dNB_greeted_33 : decode cNB_greeted 33 = .ok (.iconst 2, 1) := by decide +kernel
theorem dNB_greeted_34 : decode cNB_greeted 34 = .ok (.if_icmp .eq 17, 3) := by decide +kernel
theorem dNB_greeted_37 : decode cNB_greeted 37 = .ok (.aload_n 0, 1) := by decide +kernel
theorem dNB_greeted_38 : decode cNB_greeted 38 = .ok (.getfield 9, 3) := by decide +kernel
theorem dNB_greeted_41 : decode cNB_greeted 41 = .ok (.iload_n 1, 1) := by decide +kernel
theorem dNB_greeted_42 : decode cNB_greeted 42 = .ok (.iconst 2, 1) := by decide +kernel
theorem dNB_greeted_43 : decode cNB_greeted 43 = .ok (.iastore, 1) := by decide +kernel
theorem dNB_greeted_44 : decode cNB_greeted 44 = .ok (.aload_n 0, 1) := by decide +kernel
theorem dNB_greeted_45 : decode cNB_greeted 45 = .ok (.iload_n 1, 1) := by decide +kernel
theorem dNB_greeted_46 : decode cNB_greeted 46 = .ok (.lload 4, 2) := by decide +kernel
theorem dNB_greeted_48 : decode cNB_greeted 48 = .ok (.invokevirtual 41, 3) := by decide +kernel
theorem dNB_greeted_51 : decode cNB_greeted 51 = .ok (.aload_n 0, 1) := by decide +kernel
theorem dNB_greeted_52 : decode cNB_greeted 52 = .ok (.getfield 9, 3) := by decide +kernel
theorem dNB_greeted_55 : decode cNB_greeted 55 = .ok (.iload_n 1, 1) := by decide +kernel
theorem dNB_greeted_56 : decode cNB_greeted 56 = .ok (.iaload, 1) := by decide +kernel
theorem dNB_greeted_57 : decode cNB_greeted 57 = .ok (.ireturn, 1) := by decide +kernel
theorem dDB_advert_0 : decode cDB_advert 0 = .ok (.aload_n 0, 1) := by decide +kernel
theorem dDB_advert_1 : decode cDB_advert 1 = .ok (.iload_n 1, 1) := by decide +kernel
theorem dDB_advert_2 : decode cDB_advert 2 = .ok (.iload_n 2, 1) := by decide +kernel
theorem dDB_advert_3 : decode cDB_advert 3 = .ok (.iload_n 3, 1) := by decide +kernel
theorem dDB_advert_4 : decode cDB_advert 4 = .ok (.iload 4, 2) := by decide +kernel
theorem dDB_advert_6 : decode cDB_advert 6 = .ok (.invokevirtual 79, 3) := by decide +kernel
theorem dDB_advert_9 : decode cDB_advert 9 = .ok (.aload_n 0, 1) := by decide +kernel
theorem dDB_advert_10 : decode cDB_advert 10 = .ok (.getfield 23, 3) := by decide +kernel
theorem dDB_advert_13 : decode cDB_advert 13 = .ok (.iload_n 1, 1) := by decide +kernel
theorem dDB_advert_14 : decode cDB_advert 14 = .ok (.iload_n 2, 1) := by decide +kernel
theorem dDB_advert_15 : decode cDB_advert 15 = .ok (.invokevirtual 83, 3) := by decide +kernel
theorem dDB_advert_18 : decode cDB_advert 18 = .ok (.istore 6, 2) := by decide +kernel
theorem dDB_advert_20 : decode cDB_advert 20 = .ok (.iload 6, 2) := by decide +kernel
theorem dDB_advert_22 : decode cDB_advert 22 = .ok (.iconst (-1), 1) := by decide +kernel
theorem dDB_advert_23 : decode cDB_advert 23 = .ok (.if_icmp .ne 5, 3) := by decide +kernel
theorem dDB_advert_26 : decode cDB_advert 26 = .ok (.iconst (-1), 1) := by decide +kernel
theorem dDB_advert_27 : decode cDB_advert 27 = .ok (.ireturn, 1) := by decide +kernel
theorem dDB_advert_28 : decode cDB_advert 28 = .ok (.aload_n 0, 1) := by decide +kernel
theorem dDB_advert_29 : decode cDB_advert 29 = .ok (.getfield 30, 3) := by decide +kernel
theorem dDB_advert_32 : decode cDB_advert 32 = .ok (.iload_n 1, 1) := by decide +kernel
theorem dDB_advert_33 : decode cDB_advert 33 = .ok (.iload_n 2, 1) := by decide +kernel
theorem dDB_advert_34 : decode cDB_advert 34 = .ok (.iload_n 3, 1) := by decide +kernel
theorem dDB_advert_35 : decode cDB_advert 35 = .ok (.iload 4, 2) := by decide +kernel
theorem dDB_advert_37 : decode cDB_advert 37 = .ok (.invokevirtual 86, 3) := by decide +kernel
theorem dDB_advert_40 : decode cDB_advert 40 = .ok (.iload 4, 2) := by decide +kernel
theorem dDB_advert_42 : decode cDB_advert 42 = .ok (.aload_n 0, 1) := by decide +kernel
theorem dDB_advert_43 : decode cDB_advert 43 = .ok (.getfield 16, 3) := by decide +kernel
theorem dDB_advert_46 : decode cDB_advert 46 = .ok (.iload_n 3, 1) := by decide +kernel
theorem dDB_advert_47 : decode cDB_advert 47 = .ok (.invokevirtual 89, 3) := by decide +kernel
theorem dDB_advert_50 : decode cDB_advert 50 = .ok (.if_icmp .lt 14, 3) := by decide +kernel
theorem dDB_advert_53 : decode cDB_advert 53 = .ok (.aload_n 0, 1) := by decide +kernel
theorem dDB_advert_54 : decode cDB_advert 54 = .ok (.getfield 23, 3) := by decide +kernel
theorem dDB_advert_57 : decode cDB_advert 57 = .ok (.iload 6, 2) := by decide +kernel
theorem dDB_advert_59 : decode cDB_advert 59 = .ok (.iload_n 3, 1) := by decide +kernel
theorem dDB_advert_60 : decode cDB_advert 60 = .ok (.invokevirtual 93, 3) := by decide +kernel
theorem dDB_advert_63 : decode cDB_advert 63 = .ok (.pop, 1) := by decide +kernel
theorem dDB_advert_64 : decode cDB_advert 64 = .ok (.iload_n 3, 1) := by decide +kernel
theorem dDB_advert_65 : decode cDB_advert 65 = .ok (.aload_n 0, 1) := by decide +kernel
theorem dDB_advert_66 : decode cDB_advert 66 = .ok (.getfield 9, 3) := by decide +kernel
theorem dDB_advert_69 : decode cDB_advert 69 = .ok (.if_icmp .ne 12, 3) := by decide +kernel
theorem dDB_advert_72 : decode cDB_advert 72 = .ok (.aload_n 0, 1) := by decide +kernel
theorem dDB_advert_73 : decode cDB_advert 73 = .ok (.iload 6, 2) := by decide +kernel
theorem dDB_advert_75 : decode cDB_advert 75 = .ok (.iload 4, 2) := by decide +kernel
theorem dDB_advert_77 : decode cDB_advert 77 = .ok (.invokevirtual 97, 3) := by decide +kernel
theorem dDB_advert_80 : decode cDB_advert 80 = .ok (.ireturn, 1) := by decide +kernel
theorem dDB_advert_81 : decode cDB_advert 81 = .ok (.aload_n 0, 1) := by decide +kernel
theorem dDB_advert_82 : decode cDB_advert 82 = .ok (.iload 6, 2) := by decide +kernel
theorem dDB_advert_84 : decode cDB_advert 84 = .ok (.iload_n 3, 1) := by decide +kernel
theorem dDB_advert_85 : decode cDB_advert 85 = .ok (.iload 4, 2) := by decide +kernel
theorem dDB_advert_87 : decode cDB_advert 87 = .ok (.iload 5, 2) := by decide +kernel
theorem dDB_advert_89 : decode cDB_advert 89 = .ok (.invokevirtual 100, 3) := by decide +kernel
theorem dDB_advert_92 : decode cDB_advert 92 = .ok (.ireturn, 1) := by decide +kernel
theorem dDB_requireLegal_0 : decode cDB_requireLegal 0 = .ok (.iload_n 1, 1) := by decide +kernel
theorem dDB_requireLegal_1 : decode cDB_requireLegal 1 = .ok (.invokestatic 41, 3) := by decide +kernel
theorem dDB_requireLegal_4 : decode cDB_requireLegal 4 = .ok (.aload_n 0, 1) := by decide +kernel
theorem dDB_requireLegal_5 : decode cDB_requireLegal 5 = .ok (.iload_n 2, 1) := by decide +kernel
theorem dDB_requireLegal_6 : decode cDB_requireLegal 6 = .ok (.invokevirtual 58, 3) := by decide +kernel
theorem dDB_requireLegal_9 : decode cDB_requireLegal 9 = .ok (.iload_n 3, 1) := by decide +kernel
theorem dDB_requireLegal_10 : decode cDB_requireLegal 10 = .ok (.invokestatic 115, 3) := by decide +kernel
theorem dDB_requireLegal_13 : decode cDB_requireLegal 13 = .ok (.iload 4, 2) := by decide +kernel
theorem dDB_requireLegal_15 : decode cDB_requireLegal 15 = .ok (.invokestatic 192, 3) := by decide +kernel
theorem dDB_requireLegal_18 : decode cDB_requireLegal 18 = .ok (.aload_n 0, 1) := by decide +kernel
theorem dDB_requireLegal_19 : decode cDB_requireLegal 19 = .ok (.iload_n 1, 1) := by decide +kernel
theorem dDB_requireLegal_20 : decode cDB_requireLegal 20 = .ok (.invokevirtual 61, 3) := by decide +kernel
theorem dDB_requireLegal_23 : decode cDB_requireLegal 23 = .ok (.return_, 1) := by decide +kernel
theorem dDB_requireRouter_0 : decode cDB_requireRouter 0 = .ok (.iload_n 0, 1) := by decide +kernel
theorem dDB_requireRouter_1 : decode cDB_requireRouter 1 = .ok (.invokestatic 178, 3) := by decide +kernel
theorem dDB_requireRouter_4 : decode cDB_requireRouter 4 = .ok (.ifCond .ne 13, 3) := by decide +kernel
theorem dDB_requireRouter_7 : decode cDB_requireRouter 7 = .ok (.new 127, 3) := by decide +kernel
theorem dDB_requireRouter_10 : decode cDB_requireRouter 10 = .ok (.dup, 1) := by decide +kernel
theorem dDB_requireRouter_11 : decode cDB_requireRouter 11 = .ok (.ldc 181, 2) := by decide +kernel
theorem dDB_requireRouter_13 : decode cDB_requireRouter 13 = .ok (.invokespecial 131, 3) := by decide +kernel
theorem dDB_requireRouter_16 : decode cDB_requireRouter 16 = .ok (.athrow, 1) := by decide +kernel
theorem dDB_requireRouter_17 : decode cDB_requireRouter 17 = .ok (.return_, 1) := by decide +kernel
theorem dDB_requireNumber_0 : decode cDB_requireNumber 0 = .ok (.iload_n 0, 1) := by decide +kernel
theorem dDB_requireNumber_1 : decode cDB_requireNumber 1 = .ok (.iconst 1, 1) := by decide +kernel
theorem dDB_requireNumber_2 : decode cDB_requireNumber 2 = .ok (.if_icmp .lt 9, 3) := by decide +kernel
theorem dDB_requireNumber_5 : decode cDB_requireNumber 5 = .ok (.iload_n 0, 1) := by decide +kernel
theorem dDB_requireNumber_6 : decode cDB_requireNumber 6 = .ok (.ldc 185, 2) := by decide +kernel
theorem dDB_requireNumber_8 : decode cDB_requireNumber 8 = .ok (.if_icmp .le 13, 3) := by decide +kernel
theorem dDB_requireNumber_11 : decode cDB_requireNumber 11 = .ok (.new 127, 3) := by decide +kernel
theorem dDB_requireNumber_14 : decode cDB_requireNumber 14 = .ok (.dup, 1) := by decide +kernel
theorem dDB_requireNumber_15 : decode cDB_requireNumber 15 = .ok (.ldc 186, 2) := by decide +kernel
theorem dDB_requireNumber_17 : decode cDB_requireNumber 17 = .ok (.invokespecial 131, 3) := by decide +kernel
theorem dDB_requireNumber_20 : decode cDB_requireNumber 20 = .ok (.athrow, 1) := by decide +kernel
theorem dDB_requireNumber_21 : decode cDB_requireNumber 21 = .ok (.return_, 1) := by decide +kernel
theorem dNB_friendPlace_0 : decode cNB_friendPlace 0 = .ok (.aload_n 0, 1) := by decide +kernel
theorem dNB_friendPlace_1 : decode cNB_friendPlace 1 = .ok (.iload_n 1, 1) := by decide +kernel
theorem dNB_friendPlace_2 : decode cNB_friendPlace 2 = .ok (.iload_n 2, 1) := by decide +kernel
theorem dNB_friendPlace_3 : decode cNB_friendPlace 3 = .ok (.invokevirtual 34, 3) := by decide +kernel
theorem dNB_friendPlace_6 : decode cNB_friendPlace 6 = .ok (.istore_n 3, 1) := by decide +kernel
theorem dNB_friendPlace_7 : decode cNB_friendPlace 7 = .ok (.iload_n 3, 1) := by decide +kernel
theorem dNB_friendPlace_8 : decode cNB_friendPlace 8 = .ok (.iconst (-1), 1) := by decide +kernel
theorem dNB_friendPlace_9 : decode cNB_friendPlace 9 = .ok (.if_icmp .eq 17, 3) := by decide +kernel
theorem dNB_friendPlace_12 : decode cNB_friendPlace 12 = .ok (.aload_n 0, 1) := by decide +kernel
theorem dNB_friendPlace_13 : decode cNB_friendPlace 13 = .ok (.getfield 9, 3) := by decide +kernel
theorem dNB_friendPlace_16 : decode cNB_friendPlace 16 = .ok (.iload_n 3, 1) := by decide +kernel
theorem dNB_friendPlace_17 : decode cNB_friendPlace 17 = .ok (.iaload, 1) := by decide +kernel
theorem dNB_friendPlace_18 : decode cNB_friendPlace 18 = .ok (.iconst 2, 1) := by decide +kernel
theorem dNB_friendPlace_19 : decode cNB_friendPlace 19 = .ok (.if_icmp .ne 7, 3) := by decide +kernel
theorem dNB_friendPlace_22 : decode cNB_friendPlace 22 = .ok (.iload_n 3, 1) := by decide +kernel
theorem dNB_friendPlace_23 : decode cNB_friendPlace 23 = .ok (.goto 4, 3) := by decide +kernel
theorem dNB_friendPlace_26 : decode cNB_friendPlace 26 = .ok (.iconst (-1), 1) := by decide +kernel
theorem dNB_friendPlace_27 : decode cNB_friendPlace 27 = .ok (.ireturn, 1) := by decide +kernel
theorem dTQ_add_0 : decode cTQ_add 0 = .ok (.aload_n 0, 1) := by decide +kernel
theorem dTQ_add_1 : decode cTQ_add 1 = .ok (.getfield 24, 3) := by decide +kernel
theorem dTQ_add_4 : decode cTQ_add 4 = .ok (.bipush 64, 2) := by decide +kernel
theorem dTQ_add_6 : decode cTQ_add 6 = .ok (.if_icmp .lt 4, 3) := by decide +kernel
theorem dTQ_add_9 : decode cTQ_add 9 = .ok (.return_, 1) := by decide +kernel
theorem dTQ_add_10 : decode cTQ_add 10 = .ok (.aload_n 0, 1) := by decide +kernel
theorem dTQ_add_11 : decode cTQ_add 11 = .ok (.getfield 28, 3) := by decide +kernel
theorem dTQ_add_14 : decode cTQ_add 14 = .ok (.aload_n 0, 1) := by decide +kernel
theorem dTQ_add_15 : decode cTQ_add 15 = .ok (.getfield 24, 3) := by decide +kernel
theorem dTQ_add_18 : decode cTQ_add 18 = .ok (.iadd, 1) := by decide +kernel
theorem dTQ_add_19 : decode cTQ_add 19 = .ok (.bipush 64, 2) := by decide +kernel
theorem dTQ_add_21 : decode cTQ_add 21 = .ok (.irem, 1) := by decide +kernel
theorem dTQ_add_22 : decode cTQ_add 22 = .ok (.istore 5, 2) := by decide +kernel
theorem dTQ_add_24 : decode cTQ_add 24 = .ok (.aload_n 0, 1) := by decide +kernel
theorem dTQ_add_25 : decode cTQ_add 25 = .ok (.getfield 9, 3) := by decide +kernel
theorem dTQ_add_28 : decode cTQ_add 28 = .ok (.iload 5, 2) := by decide +kernel
theorem dTQ_add_30 : decode cTQ_add 30 = .ok (.iload_n 1, 1) := by decide +kernel
theorem dTQ_add_31 : decode cTQ_add 31 = .ok (.iastore, 1) := by decide +kernel
theorem dTQ_add_32 : decode cTQ_add 32 = .ok (.aload_n 0, 1) := by decide +kernel
theorem dTQ_add_33 : decode cTQ_add 33 = .ok (.getfield 15, 3) := by decide +kernel
theorem dTQ_add_36 : decode cTQ_add 36 = .ok (.iload 5, 2) := by decide +kernel
theorem dTQ_add_38 : decode cTQ_add 38 = .ok (.iload_n 2, 1) := by decide +kernel
theorem dTQ_add_39 : decode cTQ_add 39 = .ok (.iastore, 1) := by decide +kernel
theorem dTQ_add_40 : decode cTQ_add 40 = .ok (.aload_n 0, 1) := by decide +kernel
theorem dTQ_add_41 : decode cTQ_add 41 = .ok (.getfield 18, 3) := by decide +kernel
theorem dTQ_add_44 : decode cTQ_add 44 = .ok (.iload 5, 2) := by decide +kernel
theorem dTQ_add_46 : decode cTQ_add 46 = .ok (.iload_n 3, 1) := by decide +kernel
theorem dTQ_add_47 : decode cTQ_add 47 = .ok (.iastore, 1) := by decide +kernel
theorem dTQ_add_48 : decode cTQ_add 48 = .ok (.aload_n 0, 1) := by decide +kernel
theorem dTQ_add_49 : decode cTQ_add 49 = .ok (.getfield 21, 3) := by decide +kernel
theorem dTQ_add_52 : decode cTQ_add 52 = .ok (.iload 5, 2) := by decide +kernel
theorem dTQ_add_54 : decode cTQ_add 54 = .ok (.iload 4, 2) := by decide +kernel
theorem dTQ_add_56 : decode cTQ_add 56 = .ok (.iastore, 1) := by decide +kernel
theorem dTQ_add_57 : decode cTQ_add 57 = .ok (.aload_n 0, 1) := by decide +kernel
theorem dTQ_add_58 : decode cTQ_add 58 = .ok (.dup, 1) := by decide +kernel
theorem dTQ_add_59 : decode cTQ_add 59 = .ok (.getfield 24, 3) := by decide +kernel
theorem dTQ_add_62 : decode cTQ_add 62 = .ok (.iconst 1, 1) := by decide +kernel
theorem dTQ_add_63 : decode cTQ_add 63 = .ok (.iadd, 1) := by decide +kernel
theorem dTQ_add_64 : decode cTQ_add 64 = .ok (.putfield 24, 3) := by decide +kernel
theorem dTQ_add_67 : decode cTQ_add 67 = .ok (.return_, 1) := by decide +kernel
theorem dNB_settle_0 : decode cNB_settle 0 = .ok (.lconst 1, 1) := by decide +kernel
theorem dNB_settle_1 : decode cNB_settle 1 = .ok (.iload_n 2, 1) := by decide +kernel
theorem dNB_settle_2 : decode cNB_settle 2 = .ok (.lshl, 1) := by decide +kernel
theorem dNB_settle_3 : decode cNB_settle 3 = .ok (.lstore_n 3, 1) := by decide +kernel
theorem dNB_settle_4 : decode cNB_settle 4 = .ok (.aload_n 0, 1) := by decide +kernel
theorem dNB_settle_5 : decode cNB_settle 5 = .ok (.getfield 24, 3) := by decide +kernel
theorem dNB_settle_8 : decode cNB_settle 8 = .ok (.iload_n 1, 1) := by decide +kernel
theorem dNB_settle_9 : decode cNB_settle 9 = .ok (.laload, 1) := by decide +kernel
theorem dNB_settle_10 : decode cNB_settle 10 = .ok (.lload_n 3, 1) := by decide +kernel
theorem dNB_settle_11 : decode cNB_settle 11 = .ok (.land, 1) := by decide +kernel
theorem dNB_settle_12 : decode cNB_settle 12 = .ok (.lconst 0, 1) := by decide +kernel
theorem dNB_settle_13 : decode cNB_settle 13 = .ok (.lcmp, 1) := by decide +kernel
theorem dNB_settle_14 : decode cNB_settle 14 = .ok (.ifCond .eq 7, 3) := by decide +kernel
theorem dNB_settle_17 : decode cNB_settle 17 = .ok (.iconst 1, 1) := by decide +kernel
theorem dNB_settle_18 : decode cNB_settle 18 = .ok (.goto 4, 3) := by decide +kernel
theorem dNB_settle_21 : decode cNB_settle 21 = .ok (.iconst 0, 1) := by decide +kernel
theorem dNB_settle_22 : decode cNB_settle 22 = .ok (.istore 5, 2) := by decide +kernel
theorem dNB_settle_24 : decode cNB_settle 24 = .ok (.aload_n 0, 1) := by decide +kernel
theorem dNB_settle_25 : decode cNB_settle 25 = .ok (.getfield 24, 3) := by decide +kernel
theorem dNB_settle_28 : decode cNB_settle 28 = .ok (.iload_n 1, 1) := by decide +kernel
theorem dNB_settle_29 : decode cNB_settle 29 = .ok (.dup2, 1) := by decide +kernel
theorem dNB_settle_30 : decode cNB_settle 30 = .ok (.laload, 1) := by decide +kernel
theorem dNB_settle_31 : decode cNB_settle 31 = .ok (.lload_n 3, 1) := by decide +kernel
theorem dNB_settle_32 : decode cNB_settle 32 = .ok (.ldc2_w 53, 3) := by decide +kernel
theorem dNB_settle_35 : decode cNB_settle 35 = .ok (.lxor, 1) := by decide +kernel
theorem dNB_settle_36 : decode cNB_settle 36 = .ok (.land, 1) := by decide +kernel
theorem dNB_settle_37 : decode cNB_settle 37 = .ok (.lastore, 1) := by decide +kernel
theorem dNB_settle_38 : decode cNB_settle 38 = .ok (.aload_n 0, 1) := by decide +kernel
theorem dNB_settle_39 : decode cNB_settle 39 = .ok (.getfield 28, 3) := by decide +kernel
theorem dNB_settle_42 : decode cNB_settle 42 = .ok (.iload_n 1, 1) := by decide +kernel
theorem dNB_settle_43 : decode cNB_settle 43 = .ok (.dup2, 1) := by decide +kernel
theorem dNB_settle_44 : decode cNB_settle 44 = .ok (.laload, 1) := by decide +kernel
theorem dNB_settle_45 : decode cNB_settle 45 = .ok (.lload_n 3, 1) := by decide +kernel
theorem dNB_settle_46 : decode cNB_settle 46 = .ok (.ldc2_w 53, 3) := by decide +kernel
theorem dNB_settle_49 : decode cNB_settle 49 = .ok (.lxor, 1) := by decide +kernel
theorem dNB_settle_50 : decode cNB_settle 50 = .ok (.land, 1) := by decide +kernel
theorem dNB_settle_51 : decode cNB_settle 51 = .ok (.lastore, 1) := by decide +kernel
theorem dNB_settle_52 : decode cNB_settle 52 = .ok (.iload 5, 2) := by decide +kernel
theorem dNB_settle_54 : decode cNB_settle 54 = .ok (.ireturn, 1) := by decide +kernel
theorem dDB_takeOwnBack_0 : decode cDB_takeOwnBack 0 = .ok (.iload_n 2, 1) := by decide +kernel
theorem dDB_takeOwnBack_1 : decode cDB_takeOwnBack 1 = .ok (.aload_n 0, 1) := by decide +kernel
theorem dDB_takeOwnBack_2 : decode cDB_takeOwnBack 2 = .ok (.getfield 104, 3) := by decide +kernel
theorem dDB_takeOwnBack_5 : decode cDB_takeOwnBack 5 = .ok (.if_icmp .le 10, 3) := by decide +kernel
theorem dDB_takeOwnBack_8 : decode cDB_takeOwnBack 8 = .ok (.aload_n 0, 1) := by decide +kernel
theorem dDB_takeOwnBack_9 : decode cDB_takeOwnBack 9 = .ok (.iload_n 2, 1) := by decide +kernel
theorem dDB_takeOwnBack_10 : decode cDB_takeOwnBack 10 = .ok (.putfield 104, 3) := by decide +kernel
theorem dDB_takeOwnBack_13 : decode cDB_takeOwnBack 13 = .ok (.iconst 3, 1) := by decide +kernel
theorem dDB_takeOwnBack_14 : decode cDB_takeOwnBack 14 = .ok (.ireturn, 1) := by decide +kernel
theorem dDB_takeOwnBack_15 : decode cDB_takeOwnBack 15 = .ok (.aload_n 0, 1) := by decide +kernel
theorem dDB_takeOwnBack_16 : decode cDB_takeOwnBack 16 = .ok (.getfield 16, 3) := by decide +kernel
theorem dDB_takeOwnBack_19 : decode cDB_takeOwnBack 19 = .ok (.aload_n 0, 1) := by decide +kernel
theorem dDB_takeOwnBack_20 : decode cDB_takeOwnBack 20 = .ok (.getfield 9, 3) := by decide +kernel
theorem dDB_takeOwnBack_23 : decode cDB_takeOwnBack 23 = .ok (.invokevirtual 89, 3) := by decide +kernel
theorem dDB_takeOwnBack_26 : decode cDB_takeOwnBack 26 = .ok (.iload_n 2, 1) := by decide +kernel
theorem dDB_takeOwnBack_27 : decode cDB_takeOwnBack 27 = .ok (.if_icmp .le 17, 3) := by decide +kernel
theorem dDB_takeOwnBack_30 : decode cDB_takeOwnBack 30 = .ok (.aload_n 0, 1) := by decide +kernel
theorem dDB_takeOwnBack_31 : decode cDB_takeOwnBack 31 = .ok (.getfield 23, 3) := by decide +kernel
theorem dDB_takeOwnBack_34 : decode cDB_takeOwnBack 34 = .ok (.iload_n 1, 1) := by decide +kernel
theorem dDB_takeOwnBack_35 : decode cDB_takeOwnBack 35 = .ok (.aload_n 0, 1) := by decide +kernel
theorem dDB_takeOwnBack_36 : decode cDB_takeOwnBack 36 = .ok (.getfield 9, 3) := by decide +kernel
theorem dDB_takeOwnBack_39 : decode cDB_takeOwnBack 39 = .ok (.invokevirtual 195, 3) := by decide +kernel
theorem dDB_takeOwnBack_42 : decode cDB_takeOwnBack 42 = .ok (.iconst 2, 1) := by decide +kernel
theorem dDB_takeOwnBack_43 : decode cDB_takeOwnBack 43 = .ok (.ireturn, 1) := by decide +kernel
theorem dDB_takeOwnBack_44 : decode cDB_takeOwnBack 44 = .ok (.iconst 1, 1) := by decide +kernel
theorem dDB_takeOwnBack_45 : decode cDB_takeOwnBack 45 = .ok (.ireturn, 1) := by decide +kernel
theorem dDB_takeAdvert_0 : decode cDB_takeAdvert 0 = .ok (.aload_n 0, 1) := by decide +kernel
theorem dDB_takeAdvert_1 : decode cDB_takeAdvert 1 = .ok (.getfield 16, 3) := by decide +kernel
theorem dDB_takeAdvert_4 : decode cDB_takeAdvert 4 = .ok (.iload_n 2, 1) := by decide +kernel
theorem dDB_takeAdvert_5 : decode cDB_takeAdvert 5 = .ok (.invokevirtual 89, 3) := by decide +kernel
theorem dDB_takeAdvert_8 : decode cDB_takeAdvert 8 = .ok (.istore 5, 2) := by decide +kernel
theorem dDB_takeAdvert_10 : decode cDB_takeAdvert 10 = .ok (.iload_n 3, 1) := by decide +kernel
theorem dDB_takeAdvert_11 : decode cDB_takeAdvert 11 = .ok (.iload 5, 2) := by decide +kernel
theorem dDB_takeAdvert_13 : decode cDB_takeAdvert 13 = .ok (.if_icmp .le 25, 3) := by decide +kernel
theorem dDB_takeAdvert_16 : decode cDB_takeAdvert 16 = .ok (.aload_n 0, 1) := by decide +kernel
theorem dDB_takeAdvert_17 : decode cDB_takeAdvert 17 = .ok (.getfield 16, 3) := by decide +kernel
theorem dDB_takeAdvert_20 : decode cDB_takeAdvert 20 = .ok (.iload_n 2, 1) := by decide +kernel
theorem dDB_takeAdvert_21 : decode cDB_takeAdvert 21 = .ok (.iload_n 3, 1) := by decide +kernel
theorem dDB_takeAdvert_22 : decode cDB_takeAdvert 22 = .ok (.iload 4, 2) := by decide +kernel
theorem dDB_takeAdvert_24 : decode cDB_takeAdvert 24 = .ok (.invokevirtual 107, 3) := by decide +kernel
theorem dDB_takeAdvert_27 : decode cDB_takeAdvert 27 = .ok (.aload_n 0, 1) := by decide +kernel
theorem dDB_takeAdvert_28 : decode cDB_takeAdvert 28 = .ok (.getfield 23, 3) := by decide +kernel
theorem dDB_takeAdvert_31 : decode cDB_takeAdvert 31 = .ok (.iload_n 1, 1) := by decide +kernel
theorem dDB_takeAdvert_32 : decode cDB_takeAdvert 32 = .ok (.iload_n 2, 1) := by decide +kernel
theorem dDB_takeAdvert_33 : decode cDB_takeAdvert 33 = .ok (.invokevirtual 111, 3) := by decide +kernel
theorem dDB_takeAdvert_36 : decode cDB_takeAdvert 36 = .ok (.iconst 0, 1) := by decide +kernel
theorem dDB_takeAdvert_37 : decode cDB_takeAdvert 37 = .ok (.ireturn, 1) := by decide +kernel
theorem dDB_takeAdvert_38 : decode cDB_takeAdvert 38 = .ok (.iload_n 3, 1) := by decide +kernel
theorem dDB_takeAdvert_39 : decode cDB_takeAdvert 39 = .ok (.iload 5, 2) := by decide +kernel
theorem dDB_takeAdvert_41 : decode cDB_takeAdvert 41 = .ok (.if_icmp .ne 5, 3) := by decide +kernel
theorem dDB_takeAdvert_44 : decode cDB_takeAdvert 44 = .ok (.iconst 1, 1) := by decide +kernel
theorem dDB_takeAdvert_45 : decode cDB_takeAdvert 45 = .ok (.ireturn, 1) := by decide +kernel
theorem dDB_takeAdvert_46 : decode cDB_takeAdvert 46 = .ok (.aload_n 0, 1) := by decide +kernel
theorem dDB_takeAdvert_47 : decode cDB_takeAdvert 47 = .ok (.getfield 23, 3) := by decide +kernel
theorem dDB_takeAdvert_50 : decode cDB_takeAdvert 50 = .ok (.iload_n 1, 1) := by decide +kernel
theorem dDB_takeAdvert_51 : decode cDB_takeAdvert 51 = .ok (.iload_n 2, 1) := by decide +kernel
theorem dDB_takeAdvert_52 : decode cDB_takeAdvert 52 = .ok (.invokevirtual 195, 3) := by decide +kernel
theorem dDB_takeAdvert_55 : decode cDB_takeAdvert 55 = .ok (.iconst 2, 1) := by decide +kernel
theorem dDB_takeAdvert_56 : decode cDB_takeAdvert 56 = .ok (.ireturn, 1) := by decide +kernel
theorem dDB_thanks_0 : decode cDB_thanks 0 = .ok (.aload_n 0, 1) := by decide +kernel
theorem dDB_thanks_1 : decode cDB_thanks 1 = .ok (.iload_n 1, 1) := by decide +kernel
theorem dDB_thanks_2 : decode cDB_thanks 2 = .ok (.iload_n 2, 1) := by decide +kernel
theorem dDB_thanks_3 : decode cDB_thanks 3 = .ok (.iload_n 3, 1) := by decide +kernel
theorem dDB_thanks_4 : decode cDB_thanks 4 = .ok (.iload 4, 2) := by decide +kernel
theorem dDB_thanks_6 : decode cDB_thanks 6 = .ok (.invokevirtual 79, 3) := by decide +kernel
theorem dDB_thanks_9 : decode cDB_thanks 9 = .ok (.aload_n 0, 1) := by decide +kernel
theorem dDB_thanks_10 : decode cDB_thanks 10 = .ok (.getfield 23, 3) := by decide +kernel
theorem dDB_thanks_13 : decode cDB_thanks 13 = .ok (.iload_n 1, 1) := by decide +kernel
theorem dDB_thanks_14 : decode cDB_thanks 14 = .ok (.iload_n 2, 1) := by decide +kernel
theorem dDB_thanks_15 : decode cDB_thanks 15 = .ok (.invokevirtual 83, 3) := by decide +kernel
theorem dDB_thanks_18 : decode cDB_thanks 18 = .ok (.istore 5, 2) := by decide +kernel
theorem dDB_thanks_20 : decode cDB_thanks 20 = .ok (.iload 5, 2) := by decide +kernel
theorem dDB_thanks_22 : decode cDB_thanks 22 = .ok (.iconst (-1), 1) := by decide +kernel
theorem dDB_thanks_23 : decode cDB_thanks 23 = .ok (.if_icmp .eq 16, 3) := by decide +kernel
theorem dDB_thanks_26 : decode cDB_thanks 26 = .ok (.iload 4, 2) := by decide +kernel
theorem dDB_thanks_28 : decode cDB_thanks 28 = .ok (.aload_n 0, 1) := by decide +kernel
theorem dDB_thanks_29 : decode cDB_thanks 29 = .ok (.getfield 16, 3) := by decide +kernel
theorem dDB_thanks_32 : decode cDB_thanks 32 = .ok (.iload_n 3, 1) := by decide +kernel
theorem dDB_thanks_33 : decode cDB_thanks 33 = .ok (.invokevirtual 89, 3) := by decide +kernel
theorem dDB_thanks_36 : decode cDB_thanks 36 = .ok (.if_icmp .eq 5, 3) := by decide +kernel
theorem dDB_thanks_39 : decode cDB_thanks 39 = .ok (.iconst 0, 1) := by decide +kernel
theorem dDB_thanks_40 : decode cDB_thanks 40 = .ok (.ireturn, 1) := by decide +kernel
theorem dDB_thanks_41 : decode cDB_thanks 41 = .ok (.aload_n 0, 1) := by decide +kernel
theorem dDB_thanks_42 : decode cDB_thanks 42 = .ok (.getfield 23, 3) := by decide +kernel
theorem dDB_thanks_45 : decode cDB_thanks 45 = .ok (.iload 5, 2) := by decide +kernel
theorem dDB_thanks_47 : decode cDB_thanks 47 = .ok (.iload_n 3, 1) := by decide +kernel
theorem dDB_thanks_48 : decode cDB_thanks 48 = .ok (.invokevirtual 93, 3) := by decide +kernel
theorem dDB_thanks_51 : decode cDB_thanks 51 = .ok (.ireturn, 1) := by decide +kernel
theorem dDB_forget_0 : decode cDB_forget 0 = .ok (.iload_n 1, 1) := by decide +kernel
theorem dDB_forget_1 : decode cDB_forget 1 = .ok (.invokestatic 115, 3) := by decide +kernel
theorem dDB_forget_4 : decode cDB_forget 4 = .ok (.aload_n 0, 1) := by decide +kernel
theorem dDB_forget_5 : decode cDB_forget 5 = .ok (.getfield 16, 3) := by decide +kernel
theorem dDB_forget_8 : decode cDB_forget 8 = .ok (.iload_n 1, 1) := by decide +kernel
theorem dDB_forget_9 : decode cDB_forget 9 = .ok (.invokevirtual 118, 3) := by decide +kernel
theorem dDB_forget_12 : decode cDB_forget 12 = .ok (.ifCond .ne 5, 3) := by decide +kernel
theorem dDB_forget_15 : decode cDB_forget 15 = .ok (.iconst 0, 1) := by decide +kernel
theorem dDB_forget_16 : decode cDB_forget 16 = .ok (.ireturn, 1) := by decide +kernel
theorem dDB_forget_17 : decode cDB_forget 17 = .ok (.aload_n 0, 1) := by decide +kernel
theorem dDB_forget_18 : decode cDB_forget 18 = .ok (.getfield 16, 3) := by decide +kernel
theorem dDB_forget_21 : decode cDB_forget 21 = .ok (.iload_n 1, 1) := by decide +kernel
theorem dDB_forget_22 : decode cDB_forget 22 = .ok (.invokevirtual 121, 3) := by decide +kernel
theorem dDB_forget_25 : decode cDB_forget 25 = .ok (.aload_n 0, 1) := by decide +kernel
theorem dDB_forget_26 : decode cDB_forget 26 = .ok (.getfield 23, 3) := by decide +kernel
theorem dDB_forget_29 : decode cDB_forget 29 = .ok (.iload_n 1, 1) := by decide +kernel
theorem dDB_forget_30 : decode cDB_forget 30 = .ok (.invokevirtual 124, 3) := by decide +kernel
theorem dDB_forget_33 : decode cDB_forget 33 = .ok (.iconst 1, 1) := by decide +kernel
theorem dDB_forget_34 : decode cDB_forget 34 = .ok (.ireturn, 1) := by decide +kernel
theorem dAD_has_0 : decode cAD_has 0 = .ok (.aload_n 0, 1) := by decide +kernel
theorem dAD_has_1 : decode cAD_has 1 = .ok (.getfield 9, 3) := by decide +kernel
theorem dAD_has_4 : decode cAD_has 4 = .ok (.iload_n 1, 1) := by decide +kernel
theorem dAD_has_5 : decode cAD_has 5 = .ok (.iaload, 1) := by decide +kernel
theorem dAD_has_6 : decode cAD_has 6 = .ok (.ifCond .eq 7, 3) := by decide +kernel
theorem dAD_has_9 : decode cAD_has 9 = .ok (.iconst 1, 1) := by decide +kernel
theorem dAD_has_10 : decode cAD_has 10 = .ok (.goto 4, 3) := by decide +kernel
theorem dAD_has_13 : decode cAD_has 13 = .ok (.iconst 0, 1) := by decide +kernel
theorem dAD_has_14 : decode cAD_has 14 = .ok (.ireturn, 1) := by decide +kernel
theorem dAD_remove_0 : decode cAD_remove 0 = .ok (.aload_n 0, 1) := by decide +kernel
theorem dAD_remove_1 : decode cAD_remove 1 = .ok (.iload_n 1, 1) := by decide +kernel
theorem dAD_remove_2 : decode cAD_remove 2 = .ok (.iconst 0, 1) := by decide +kernel
theorem dAD_remove_3 : decode cAD_remove 3 = .ok (.iconst 0, 1) := by decide +kernel
theorem dAD_remove_4 : decode cAD_remove 4 = .ok (.invokevirtual 18, 3) := by decide +kernel
theorem dAD_remove_7 : decode cAD_remove 7 = .ok (.return_, 1) := by decide +kernel
theorem dNB_settleAll_0 : decode cNB_settleAll 0 = .ok (.iconst 0, 1) := by decide +kernel
theorem dNB_settleAll_1 : decode cNB_settleAll 1 = .ok (.istore_n 2, 1) := by decide +kernel
theorem dNB_settleAll_2 : decode cNB_settleAll 2 = .ok (.iload_n 2, 1) := by decide +kernel
theorem dNB_settleAll_3 : decode cNB_settleAll 3 = .ok (.bipush 16, 2) := by decide +kernel
theorem dNB_settleAll_5 : decode cNB_settleAll 5 = .ok (.if_icmp .ge 16, 3) := by decide +kernel
theorem dNB_settleAll_8 : decode cNB_settleAll 8 = .ok (.aload_n 0, 1) := by decide +kernel
theorem dNB_settleAll_9 : decode cNB_settleAll 9 = .ok (.iload_n 2, 1) := by decide +kernel
theorem dNB_settleAll_10 : decode cNB_settleAll 10 = .ok (.iload_n 1, 1) := by decide +kernel
theorem dNB_settleAll_11 : decode cNB_settleAll 11 = .ok (.invokevirtual 55, 3) := by decide +kernel
theorem dNB_settleAll_14 : decode cNB_settleAll 14 = .ok (.pop, 1) := by decide +kernel
theorem dNB_settleAll_15 : decode cNB_settleAll 15 = .ok (.iinc 2 1, 3) := by decide +kernel
theorem dNB_settleAll_18 : decode cNB_settleAll 18 = .ok (.goto (-16), 3) := by decide +kernel
theorem dNB_settleAll_21 : decode cNB_settleAll 21 = .ok (.return_, 1) := by decide +kernel
theorem dDB_run_0 : decode cDB_run 0 = .ok (.iload_n 1, 1) := by decide +kernel
theorem dDB_run_1 : decode cDB_run 1 = .ok (.iconst 1, 1) := by decide +kernel
theorem dDB_run_2 : decode cDB_run 2 = .ok (.if_icmp .lt 10, 3) := by decide +kernel
theorem dDB_run_5 : decode cDB_run 5 = .ok (.iload_n 1, 1) := by decide +kernel
theorem dDB_run_6 : decode cDB_run 6 = .ok (.sipush 2000, 3) := by decide +kernel
theorem dDB_run_9 : decode cDB_run 9 = .ok (.if_icmp .le 13, 3) := by decide +kernel
theorem dDB_run_12 : decode cDB_run 12 = .ok (.new 127, 3) := by decide +kernel
theorem dDB_run_15 : decode cDB_run 15 = .ok (.dup, 1) := by decide +kernel
theorem dDB_run_16 : decode cDB_run 16 = .ok (.ldc 129, 2) := by decide +kernel
theorem dDB_run_18 : decode cDB_run 18 = .ok (.invokespecial 131, 3) := by decide +kernel
theorem dDB_run_21 : decode cDB_run 21 = .ok (.athrow, 1) := by decide +kernel
theorem dDB_run_22 : decode cDB_run 22 = .ok (.iload_n 1, 1) := by decide +kernel
theorem dDB_run_23 : decode cDB_run 23 = .ok (.ldc 134, 2) := by decide +kernel
theorem dDB_run_25 : decode cDB_run 25 = .ok (.aload_n 0, 1) := by decide +kernel
theorem dDB_run_26 : decode cDB_run 26 = .ok (.getfield 68, 3) := by decide +kernel
theorem dDB_run_29 : decode cDB_run 29 = .ok (.isub, 1) := by decide +kernel
theorem dDB_run_30 : decode cDB_run 30 = .ok (.if_icmp .le 13, 3) := by decide +kernel
theorem dDB_run_33 : decode cDB_run 33 = .ok (.new 135, 3) := by decide +kernel
theorem dDB_run_36 : decode cDB_run 36 = .ok (.dup, 1) := by decide +kernel
theorem dDB_run_37 : decode cDB_run 37 = .ok (.ldc 137, 2) := by decide +kernel
theorem dDB_run_39 : decode cDB_run 39 = .ok (.invokespecial 139, 3) := by decide +kernel
theorem dDB_run_42 : decode cDB_run 42 = .ok (.athrow, 1) := by decide +kernel
theorem dDB_run_43 : decode cDB_run 43 = .ok (.aload_n 0, 1) := by decide +kernel
theorem dDB_run_44 : decode cDB_run 44 = .ok (.getfield 68, 3) := by decide +kernel
theorem dDB_run_47 : decode cDB_run 47 = .ok (.bipush 20, 2) := by decide +kernel
theorem dDB_run_49 : decode cDB_run 49 = .ok (.idiv, 1) := by decide +kernel
theorem dDB_run_50 : decode cDB_run 50 = .ok (.istore_n 2, 1) := by decide +kernel
theorem dDB_run_51 : decode cDB_run 51 = .ok (.aload_n 0, 1) := by decide +kernel
theorem dDB_run_52 : decode cDB_run 52 = .ok (.dup, 1) := by decide +kernel
theorem dDB_run_53 : decode cDB_run 53 = .ok (.getfield 68, 3) := by decide +kernel
theorem dDB_run_56 : decode cDB_run 56 = .ok (.iload_n 1, 1) := by decide +kernel
theorem dDB_run_57 : decode cDB_run 57 = .ok (.iadd, 1) := by decide +kernel
theorem dDB_run_58 : decode cDB_run 58 = .ok (.putfield 68, 3) := by decide +kernel
theorem dDB_run_61 : decode cDB_run 61 = .ok (.aload_n 0, 1) := by decide +kernel
theorem dDB_run_62 : decode cDB_run 62 = .ok (.getfield 68, 3) := by decide +kernel
theorem dDB_run_65 : decode cDB_run 65 = .ok (.bipush 20, 2) := by decide +kernel
theorem dDB_run_67 : decode cDB_run 67 = .ok (.idiv, 1) := by decide +kernel
theorem dDB_run_68 : decode cDB_run 68 = .ok (.iload_n 2, 1) := by decide +kernel
theorem dDB_run_69 : decode cDB_run 69 = .ok (.if_icmp .le 11, 3) := by decide +kernel
theorem dDB_run_72 : decode cDB_run 72 = .ok (.aload_n 0, 1) := by decide +kernel
theorem dDB_run_73 : decode cDB_run 73 = .ok (.aload_n 0, 1) := by decide +kernel
theorem dDB_run_74 : decode cDB_run 74 = .ok (.getfield 49, 3) := by decide +kernel
theorem dDB_run_77 : decode cDB_run 77 = .ok (.putfield 52, 3) := by decide +kernel
theorem dDB_run_80 : decode cDB_run 80 = .ok (.aload_n 0, 1) := by decide +kernel
theorem dDB_run_81 : decode cDB_run 81 = .ok (.getfield 23, 3) := by decide +kernel
theorem dDB_run_84 : decode cDB_run 84 = .ok (.aload_n 0, 1) := by decide +kernel
theorem dDB_run_85 : decode cDB_run 85 = .ok (.getfield 68, 3) := by decide +kernel
theorem dDB_run_88 : decode cDB_run 88 = .ok (.invokevirtual 140, 3) := by decide +kernel
theorem dDB_run_91 : decode cDB_run 91 = .ok (.aload_n 0, 1) := by decide +kernel
theorem dDB_run_92 : decode cDB_run 92 = .ok (.getfield 68, 3) := by decide +kernel
theorem dDB_run_95 : decode cDB_run 95 = .ok (.ireturn, 1) := by decide +kernel
theorem dNB_dropSilent_0 : decode cNB_dropSilent 0 = .ok (.iconst 0, 1) := by decide +kernel
theorem dNB_dropSilent_1 : decode cNB_dropSilent 1 = .ok (.istore_n 2, 1) := by decide +kernel
theorem dNB_dropSilent_2 : decode cNB_dropSilent 2 = .ok (.iload_n 2, 1) := by decide +kernel
theorem dNB_dropSilent_3 : decode cNB_dropSilent 3 = .ok (.bipush 16, 2) := by decide +kernel
theorem dNB_dropSilent_5 : decode cNB_dropSilent 5 = .ok (.if_icmp .ge 36, 3) := by decide +kernel
theorem dNB_dropSilent_8 : decode cNB_dropSilent 8 = .ok (.aload_n 0, 1) := by decide +kernel
theorem dNB_dropSilent_9 : decode cNB_dropSilent 9 = .ok (.getfield 9, 3) := by decide +kernel
theorem dNB_dropSilent_12 : decode cNB_dropSilent 12 = .ok (.iload_n 2, 1) := by decide +kernel
theorem dNB_dropSilent_13 : decode cNB_dropSilent 13 = .ok (.iaload, 1) := by decide +kernel
theorem dNB_dropSilent_14 : decode cNB_dropSilent 14 = .ok (.ifCond .eq 21, 3) := by decide +kernel
theorem dNB_dropSilent_17 : decode cNB_dropSilent 17 = .ok (.iload_n 1, 1) := by decide +kernel
theorem dNB_dropSilent_18 : decode cNB_dropSilent 18 = .ok (.aload_n 0, 1) := by decide +kernel
theorem dNB_dropSilent_19 : decode cNB_dropSilent 19 = .ok (.getfield 21, 3) := by decide +kernel
theorem dNB_dropSilent_22 : decode cNB_dropSilent 22 = .ok (.iload_n 2, 1) := by decide +kernel
theorem dNB_dropSilent_23 : decode cNB_dropSilent 23 = .ok (.iaload, 1) := by decide +kernel
theorem dNB_dropSilent_24 : decode cNB_dropSilent 24 = .ok (.isub, 1) := by decide +kernel
theorem dNB_dropSilent_25 : decode cNB_dropSilent 25 = .ok (.bipush 80, 2) := by decide +kernel
theorem dNB_dropSilent_27 : decode cNB_dropSilent 27 = .ok (.if_icmp .lt 8, 3) := by decide +kernel
theorem dNB_dropSilent_30 : decode cNB_dropSilent 30 = .ok (.aload_n 0, 1) := by decide +kernel
theorem dNB_dropSilent_31 : decode cNB_dropSilent 31 = .ok (.iload_n 2, 1) := by decide +kernel
theorem dNB_dropSilent_32 : decode cNB_dropSilent 32 = .ok (.invokevirtual 45, 3) := by decide +kernel
theorem dNB_dropSilent_35 : decode cNB_dropSilent 35 = .ok (.iinc 2 1, 3) := by decide +kernel
theorem dNB_dropSilent_38 : decode cNB_dropSilent 38 = .ok (.goto (-36), 3) := by decide +kernel
theorem dNB_dropSilent_41 : decode cNB_dropSilent 41 = .ok (.return_, 1) := by decide +kernel
theorem dDB_message_0 : decode cDB_message 0 = .ok (.iload_n 1, 1) := by decide +kernel
theorem dDB_message_1 : decode cDB_message 1 = .ok (.ifCond .lt 9, 3) := by decide +kernel
theorem dDB_message_4 : decode cDB_message 4 = .ok (.iload_n 1, 1) := by decide +kernel
theorem dDB_message_5 : decode cDB_message 5 = .ok (.bipush 6, 2) := by decide +kernel
theorem dDB_message_7 : decode cDB_message 7 = .ok (.if_icmp .lt 13, 3) := by decide +kernel
theorem dDB_message_10 : decode cDB_message 10 = .ok (.new 127, 3) := by decide +kernel
theorem dDB_message_13 : decode cDB_message 13 = .ok (.dup, 1) := by decide +kernel
theorem dDB_message_14 : decode cDB_message 14 = .ok (.ldc 153, 2) := by decide +kernel
theorem dDB_message_16 : decode cDB_message 16 = .ok (.invokespecial 131, 3) := by decide +kernel
theorem dDB_message_19 : decode cDB_message 19 = .ok (.athrow, 1) := by decide +kernel
theorem dDB_message_20 : decode cDB_message 20 = .ok (.aload_n 0, 1) := by decide +kernel
theorem dDB_message_21 : decode cDB_message 21 = .ok (.getfield 37, 3) := by decide +kernel
theorem dDB_message_24 : decode cDB_message 24 = .ok (.invokevirtual 155, 3) := by decide +kernel
theorem dDB_message_27 : decode cDB_message 27 = .ok (.ifCond .ne 13, 3) := by decide +kernel
theorem dDB_message_30 : decode cDB_message 30 = .ok (.new 135, 3) := by decide +kernel
theorem dDB_message_33 : decode cDB_message 33 = .ok (.dup, 1) := by decide +kernel
theorem dDB_message_34 : decode cDB_message 34 = .ok (.ldc 158, 2) := by decide +kernel
theorem dDB_message_36 : decode cDB_message 36 = .ok (.invokespecial 139, 3) := by decide +kernel
theorem dDB_message_39 : decode cDB_message 39 = .ok (.athrow, 1) := by decide +kernel
theorem dDB_message_40 : decode cDB_message 40 = .ok (.aload_n 0, 1) := by decide +kernel
theorem dDB_message_41 : decode cDB_message 41 = .ok (.getfield 37, 3) := by decide +kernel
theorem dDB_message_44 : decode cDB_message 44 = .ok (.iload_n 1, 1) := by decide +kernel
theorem dDB_message_45 : decode cDB_message 45 = .ok (.invokevirtual 160, 3) := by decide +kernel
theorem dDB_message_48 : decode cDB_message 48 = .ok (.ireturn, 1) := by decide +kernel
theorem dMS_isMade_0 : decode cMS_isMade 0 = .ok (.aload_n 0, 1) := by decide +kernel
theorem dMS_isMade_1 : decode cMS_isMade 1 = .ok (.getfield 11, 3) := by decide +kernel
theorem dMS_isMade_4 : decode cMS_isMade 4 = .ok (.iconst 0, 1) := by decide +kernel
theorem dMS_isMade_5 : decode cMS_isMade 5 = .ok (.iaload, 1) := by decide +kernel
theorem dMS_isMade_6 : decode cMS_isMade 6 = .ok (.ifCond .eq 7, 3) := by decide +kernel
theorem dMS_isMade_9 : decode cMS_isMade 9 = .ok (.iconst 1, 1) := by decide +kernel
theorem dMS_isMade_10 : decode cMS_isMade 10 = .ok (.goto 4, 3) := by decide +kernel
theorem dMS_isMade_13 : decode cMS_isMade 13 = .ok (.iconst 0, 1) := by decide +kernel
theorem dMS_isMade_14 : decode cMS_isMade 14 = .ok (.ireturn, 1) := by decide +kernel
theorem dMS_part_0 : decode cMS_part 0 = .ok (.aload_n 0, 1) := by decide +kernel
theorem dMS_part_1 : decode cMS_part 1 = .ok (.getfield 11, 3) := by decide +kernel
theorem dMS_part_4 : decode cMS_part 4 = .ok (.iload_n 1, 1) := by decide +kernel
theorem dMS_part_5 : decode cMS_part 5 = .ok (.iaload, 1) := by decide +kernel
theorem dMS_part_6 : decode cMS_part 6 = .ok (.ireturn, 1) := by decide +kernel
theorem dDB_state_0 : decode cDB_state 0 = .ok (.iload_n 1, 1) := by decide +kernel
theorem dDB_state_1 : decode cDB_state 1 = .ok (.invokestatic 41, 3) := by decide +kernel
theorem dDB_state_4 : decode cDB_state 4 = .ok (.iload_n 2, 1) := by decide +kernel
theorem dDB_state_5 : decode cDB_state 5 = .ok (.invokestatic 115, 3) := by decide +kernel
theorem dDB_state_8 : decode cDB_state 8 = .ok (.aload_n 0, 1) := by decide +kernel
theorem dDB_state_9 : decode cDB_state 9 = .ok (.getfield 23, 3) := by decide +kernel
theorem dDB_state_12 : decode cDB_state 12 = .ok (.iload_n 1, 1) := by decide +kernel
theorem dDB_state_13 : decode cDB_state 13 = .ok (.iload_n 2, 1) := by decide +kernel
theorem dDB_state_14 : decode cDB_state 14 = .ok (.invokevirtual 166, 3) := by decide +kernel
theorem dDB_state_17 : decode cDB_state 17 = .ok (.ireturn, 1) := by decide +kernel
theorem dNB_standingOf_0 : decode cNB_standingOf 0 = .ok (.aload_n 0, 1) := by decide +kernel
theorem dNB_standingOf_1 : decode cNB_standingOf 1 = .ok (.iload_n 1, 1) := by decide +kernel
theorem dNB_standingOf_2 : decode cNB_standingOf 2 = .ok (.iload_n 2, 1) := by decide +kernel
theorem dNB_standingOf_3 : decode cNB_standingOf 3 = .ok (.invokevirtual 34, 3) := by decide +kernel
theorem dNB_standingOf_6 : decode cNB_standingOf 6 = .ok (.istore_n 3, 1) := by decide +kernel
theorem dNB_standingOf_7 : decode cNB_standingOf 7 = .ok (.iload_n 3, 1) := by decide +kernel
theorem dNB_standingOf_8 : decode cNB_standingOf 8 = .ok (.iconst (-1), 1) := by decide +kernel
theorem dNB_standingOf_9 : decode cNB_standingOf 9 = .ok (.if_icmp .ne 7, 3) := by decide +kernel
theorem dNB_standingOf_12 : decode cNB_standingOf 12 = .ok (.iconst 0, 1) := by decide +kernel
theorem dNB_standingOf_13 : decode cNB_standingOf 13 = .ok (.goto 9, 3) := by decide +kernel
theorem dNB_standingOf_16 : decode cNB_standingOf 16 = .ok (.aload_n 0, 1) := by decide +kernel
theorem dNB_standingOf_17 : decode cNB_standingOf 17 = .ok (.getfield 9, 3) := by decide +kernel
theorem dNB_standingOf_20 : decode cNB_standingOf 20 = .ok (.iload_n 3, 1) := by decide +kernel
theorem dNB_standingOf_21 : decode cNB_standingOf 21 = .ok (.iaload, 1) := by decide +kernel
theorem dNB_standingOf_22 : decode cNB_standingOf 22 = .ok (.ireturn, 1) := by decide +kernel
theorem dDB_known_0 : decode cDB_known 0 = .ok (.iload_n 1, 1) := by decide +kernel
theorem dDB_known_1 : decode cDB_known 1 = .ok (.invokestatic 115, 3) := by decide +kernel
theorem dDB_known_4 : decode cDB_known 4 = .ok (.aload_n 0, 1) := by decide +kernel
theorem dDB_known_5 : decode cDB_known 5 = .ok (.getfield 16, 3) := by decide +kernel
theorem dDB_known_8 : decode cDB_known 8 = .ok (.iload_n 1, 1) := by decide +kernel
theorem dDB_known_9 : decode cDB_known 9 = .ok (.invokevirtual 118, 3) := by decide +kernel
theorem dDB_known_12 : decode cDB_known 12 = .ok (.ifCond .eq 14, 3) := by decide +kernel
theorem dDB_known_15 : decode cDB_known 15 = .ok (.aload_n 0, 1) := by decide +kernel
theorem dDB_known_16 : decode cDB_known 16 = .ok (.getfield 16, 3) := by decide +kernel
theorem dDB_known_19 : decode cDB_known 19 = .ok (.iload_n 1, 1) := by decide +kernel
theorem dDB_known_20 : decode cDB_known 20 = .ok (.invokevirtual 89, 3) := by decide +kernel
theorem dDB_known_23 : decode cDB_known 23 = .ok (.goto 4, 3) := by decide +kernel
theorem dDB_known_26 : decode cDB_known 26 = .ok (.iconst (-1), 1) := by decide +kernel
theorem dDB_known_27 : decode cDB_known 27 = .ok (.ireturn, 1) := by decide +kernel
theorem dDB_body_0 : decode cDB_body 0 = .ok (.iload_n 1, 1) := by decide +kernel
theorem dDB_body_1 : decode cDB_body 1 = .ok (.invokestatic 115, 3) := by decide +kernel
theorem dDB_body_4 : decode cDB_body 4 = .ok (.aload_n 0, 1) := by decide +kernel
theorem dDB_body_5 : decode cDB_body 5 = .ok (.getfield 16, 3) := by decide +kernel
theorem dDB_body_8 : decode cDB_body 8 = .ok (.iload_n 1, 1) := by decide +kernel
theorem dDB_body_9 : decode cDB_body 9 = .ok (.invokevirtual 169, 3) := by decide +kernel
theorem dDB_body_12 : decode cDB_body 12 = .ok (.ireturn, 1) := by decide +kernel
theorem dDB_due_0 : decode cDB_due 0 = .ok (.iload_n 1, 1) := by decide +kernel
theorem dDB_due_1 : decode cDB_due 1 = .ok (.invokestatic 41, 3) := by decide +kernel
theorem dDB_due_4 : decode cDB_due 4 = .ok (.iload_n 2, 1) := by decide +kernel
theorem dDB_due_5 : decode cDB_due 5 = .ok (.invokestatic 115, 3) := by decide +kernel
theorem dDB_due_8 : decode cDB_due 8 = .ok (.aload_n 0, 1) := by decide +kernel
theorem dDB_due_9 : decode cDB_due 9 = .ok (.getfield 23, 3) := by decide +kernel
theorem dDB_due_12 : decode cDB_due 12 = .ok (.iload_n 1, 1) := by decide +kernel
theorem dDB_due_13 : decode cDB_due 13 = .ok (.iload_n 2, 1) := by decide +kernel
theorem dDB_due_14 : decode cDB_due 14 = .ok (.invokevirtual 172, 3) := by decide +kernel
theorem dDB_due_17 : decode cDB_due 17 = .ok (.ireturn, 1) := by decide +kernel
theorem dNB_owedTo_0 : decode cNB_owedTo 0 = .ok (.aload_n 0, 1) := by decide +kernel
theorem dNB_owedTo_1 : decode cNB_owedTo 1 = .ok (.iload_n 1, 1) := by decide +kernel
theorem dNB_owedTo_2 : decode cNB_owedTo 2 = .ok (.iload_n 2, 1) := by decide +kernel
theorem dNB_owedTo_3 : decode cNB_owedTo 3 = .ok (.invokevirtual 34, 3) := by decide +kernel
theorem dNB_owedTo_6 : decode cNB_owedTo 6 = .ok (.istore_n 3, 1) := by decide +kernel
theorem dNB_owedTo_7 : decode cNB_owedTo 7 = .ok (.iload_n 3, 1) := by decide +kernel
theorem dNB_owedTo_8 : decode cNB_owedTo 8 = .ok (.iconst (-1), 1) := by decide +kernel
theorem dNB_owedTo_9 : decode cNB_owedTo 9 = .ok (.if_icmp .ne 7, 3) := by decide +kernel
theorem dNB_owedTo_12 : decode cNB_owedTo 12 = .ok (.iconst 0, 1) := by decide +kernel
theorem dNB_owedTo_13 : decode cNB_owedTo 13 = .ok (.goto 12, 3) := by decide +kernel
theorem dNB_owedTo_16 : decode cNB_owedTo 16 = .ok (.aload_n 0, 1) := by decide +kernel
theorem dNB_owedTo_17 : decode cNB_owedTo 17 = .ok (.getfield 24, 3) := by decide +kernel
theorem dNB_owedTo_20 : decode cNB_owedTo 20 = .ok (.iload_n 3, 1) := by decide +kernel
theorem dNB_owedTo_21 : decode cNB_owedTo 21 = .ok (.laload, 1) := by decide +kernel
theorem dNB_owedTo_22 : decode cNB_owedTo 22 = .ok (.invokestatic 66, 3) := by decide +kernel
theorem dNB_owedTo_25 : decode cNB_owedTo 25 = .ok (.ireturn, 1) := by decide +kernel
theorem dLG_bitCount_0 : decode cLG_bitCount 0 = .ok (.lload_n 0, 1) := by decide +kernel
theorem dLG_bitCount_1 : decode cLG_bitCount 1 = .ok (.lload_n 0, 1) := by decide +kernel
theorem dLG_bitCount_2 : decode cLG_bitCount 2 = .ok (.iconst 1, 1) := by decide +kernel
theorem dLG_bitCount_3 : decode cLG_bitCount 3 = .ok (.lushr, 1) := by decide +kernel
theorem dLG_bitCount_4 : decode cLG_bitCount 4 = .ok (.ldc2_w 314, 3) := by decide +kernel
theorem dLG_bitCount_7 : decode cLG_bitCount 7 = .ok (.land, 1) := by decide +kernel
theorem dLG_bitCount_8 : decode cLG_bitCount 8 = .ok (.lsub, 1) := by decide +kernel
theorem dLG_bitCount_9 : decode cLG_bitCount 9 = .ok (.lstore_n 0, 1) := by decide +kernel
theorem dLG_bitCount_10 : decode cLG_bitCount 10 = .ok (.lload_n 0, 1) := by decide +kernel
theorem dLG_bitCount_11 : decode cLG_bitCount 11 = .ok (.ldc2_w 316, 3) := by decide +kernel
theorem dLG_bitCount_14 : decode cLG_bitCount 14 = .ok (.land, 1) := by decide +kernel
theorem dLG_bitCount_15 : decode cLG_bitCount 15 = .ok (.lload_n 0, 1) := by decide +kernel
theorem dLG_bitCount_16 : decode cLG_bitCount 16 = .ok (.iconst 2, 1) := by decide +kernel
theorem dLG_bitCount_17 : decode cLG_bitCount 17 = .ok (.lushr, 1) := by decide +kernel
theorem dLG_bitCount_18 : decode cLG_bitCount 18 = .ok (.ldc2_w 316, 3) := by decide +kernel
theorem dLG_bitCount_21 : decode cLG_bitCount 21 = .ok (.land, 1) := by decide +kernel
theorem dLG_bitCount_22 : decode cLG_bitCount 22 = .ok (.ladd, 1) := by decide +kernel
theorem dLG_bitCount_23 : decode cLG_bitCount 23 = .ok (.lstore_n 0, 1) := by decide +kernel
theorem dLG_bitCount_24 : decode cLG_bitCount 24 = .ok (.lload_n 0, 1) := by decide +kernel
theorem dLG_bitCount_25 : decode cLG_bitCount 25 = .ok (.lload_n 0, 1) := by decide +kernel
theorem dLG_bitCount_26 : decode cLG_bitCount 26 = .ok (.iconst 4, 1) := by decide +kernel
theorem dLG_bitCount_27 : decode cLG_bitCount 27 = .ok (.lushr, 1) := by decide +kernel
theorem dLG_bitCount_28 : decode cLG_bitCount 28 = .ok (.ladd, 1) := by decide +kernel
theorem dLG_bitCount_29 : decode cLG_bitCount 29 = .ok (.ldc2_w 318, 3) := by decide +kernel
theorem dLG_bitCount_32 : decode cLG_bitCount 32 = .ok (.land, 1) := by decide +kernel
theorem dLG_bitCount_33 : decode cLG_bitCount 33 = .ok (.lstore_n 0, 1) := by decide +kernel
theorem dLG_bitCount_34 : decode cLG_bitCount 34 = .ok (.lload_n 0, 1) := by decide +kernel
theorem dLG_bitCount_35 : decode cLG_bitCount 35 = .ok (.lload_n 0, 1) := by decide +kernel
theorem dLG_bitCount_36 : decode cLG_bitCount 36 = .ok (.bipush 8, 2) := by decide +kernel
theorem dLG_bitCount_38 : decode cLG_bitCount 38 = .ok (.lushr, 1) := by decide +kernel
theorem dLG_bitCount_39 : decode cLG_bitCount 39 = .ok (.ladd, 1) := by decide +kernel
theorem dLG_bitCount_40 : decode cLG_bitCount 40 = .ok (.lstore_n 0, 1) := by decide +kernel
theorem dLG_bitCount_41 : decode cLG_bitCount 41 = .ok (.lload_n 0, 1) := by decide +kernel
theorem dLG_bitCount_42 : decode cLG_bitCount 42 = .ok (.lload_n 0, 1) := by decide +kernel
theorem dLG_bitCount_43 : decode cLG_bitCount 43 = .ok (.bipush 16, 2) := by decide +kernel
theorem dLG_bitCount_45 : decode cLG_bitCount 45 = .ok (.lushr, 1) := by decide +kernel
theorem dLG_bitCount_46 : decode cLG_bitCount 46 = .ok (.ladd, 1) := by decide +kernel
theorem dLG_bitCount_47 : decode cLG_bitCount 47 = .ok (.lstore_n 0, 1) := by decide +kernel
theorem dLG_bitCount_48 : decode cLG_bitCount 48 = .ok (.lload_n 0, 1) := by decide +kernel
theorem dLG_bitCount_49 : decode cLG_bitCount 49 = .ok (.lload_n 0, 1) := by decide +kernel
theorem dLG_bitCount_50 : decode cLG_bitCount 50 = .ok (.bipush 32, 2) := by decide +kernel
theorem dLG_bitCount_52 : decode cLG_bitCount 52 = .ok (.lushr, 1) := by decide +kernel
theorem dLG_bitCount_53 : decode cLG_bitCount 53 = .ok (.ladd, 1) := by decide +kernel
theorem dLG_bitCount_54 : decode cLG_bitCount 54 = .ok (.lstore_n 0, 1) := by decide +kernel
theorem dLG_bitCount_55 : decode cLG_bitCount 55 = .ok (.lload_n 0, 1) := by decide +kernel
theorem dLG_bitCount_56 : decode cLG_bitCount 56 = .ok (.l2i, 1) := by decide +kernel
theorem dLG_bitCount_57 : decode cLG_bitCount 57 = .ok (.bipush 127, 2) := by decide +kernel
theorem dLG_bitCount_59 : decode cLG_bitCount 59 = .ok (.iand, 1) := by decide +kernel
theorem dLG_bitCount_60 : decode cLG_bitCount 60 = .ok (.ireturn, 1) := by decide +kernel
