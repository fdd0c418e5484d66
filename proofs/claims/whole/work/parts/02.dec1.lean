theorem dX0_init_0 : decode cX0_init 0 = .ok (.aload_n 0, 1) := by decide +kernel
theorem dX0_init_1 : decode cX0_init 1 = .ok (.invokespecial 3, 3) := by decide +kernel
theorem dX0_init_4 : decode cX0_init 4 = .ok (.aload_n 0, 1) := by decide +kernel
theorem dX0_init_5 : decode cX0_init 5 = .ok (.bipush 12, 2) := by decide +kernel
theorem dX0_init_7 : decode cX0_init 7 = .ok (.anewarray 9, 3) := by decide +kernel
theorem dX0_init_10 : decode cX0_init 10 = .ok (.putfield 11, 3) := by decide +kernel
theorem dX0_init_13 : decode cX0_init 13 = .ok (.aload_n 0, 1) := by decide +kernel
theorem dX0_init_14 : decode cX0_init 14 = .ok (.bipush 12, 2) := by decide +kernel
theorem dX0_init_16 : decode cX0_init 16 = .ok (.newarray .int, 2) := by decide +kernel
theorem dX0_init_18 : decode cX0_init 18 = .ok (.putfield 17, 3) := by decide +kernel
theorem dX0_init_21 : decode cX0_init 21 = .ok (.aload_n 0, 1) := by decide +kernel
theorem dX0_init_22 : decode cX0_init 22 = .ok (.iconst 0, 1) := by decide +kernel
theorem dX0_init_23 : decode cX0_init 23 = .ok (.putfield 21, 3) := by decide +kernel
theorem dX0_init_26 : decode cX0_init 26 = .ok (.aload_n 0, 1) := by decide +kernel
theorem dX0_init_27 : decode cX0_init 27 = .ok (.iconst 0, 1) := by decide +kernel
theorem dX0_init_28 : decode cX0_init 28 = .ok (.putfield 25, 3) := by decide +kernel
theorem dX0_init_31 : decode cX0_init 31 = .ok (.iconst 0, 1) := by decide +kernel
theorem dX0_init_32 : decode cX0_init 32 = .ok (.istore_n 1, 1) := by decide +kernel
theorem dX0_init_33 : decode cX0_init 33 = .ok (.iload_n 1, 1) := by decide +kernel
theorem dX0_init_34 : decode cX0_init 34 = .ok (.bipush 12, 2) := by decide +kernel
theorem dX0_init_36 : decode cX0_init 36 = .ok (.if_icmp .ge 22, 3) := by decide +kernel
theorem dX0_init_39 : decode cX0_init 39 = .ok (.aload_n 0, 1) := by decide +kernel
theorem dX0_init_40 : decode cX0_init 40 = .ok (.getfield 11, 3) := by decide +kernel
theorem dX0_init_43 : decode cX0_init 43 = .ok (.iload_n 1, 1) := by decide +kernel
theorem dX0_init_44 : decode cX0_init 44 = .ok (.new 9, 3) := by decide +kernel
theorem dX0_init_47 : decode cX0_init 47 = .ok (.dup, 1) := by decide +kernel
theorem dX0_init_48 : decode cX0_init 48 = .ok (.invokespecial 28, 3) := by decide +kernel
theorem dX0_init_51 : decode cX0_init 51 = .ok (.aastore, 1) := by decide +kernel
theorem dX0_init_52 : decode cX0_init 52 = .ok (.iinc 1 1, 3) := by decide +kernel
theorem dX0_init_55 : decode cX0_init 55 = .ok (.goto (-22), 3) := by decide +kernel
theorem dX0_init_58 : decode cX0_init 58 = .ok (.return_, 1) := by decide +kernel
theorem dX0_keep_0 : decode cX0_keep 0 = .ok (.aload_n 0, 1) := by decide +kernel
theorem dX0_keep_1 : decode cX0_keep 1 = .ok (.aload_n 0, 1) := by decide +kernel
theorem dX0_keep_2 : decode cX0_keep 2 = .ok (.getfield 25, 3) := by decide +kernel
theorem dX0_keep_5 : decode cX0_keep 5 = .ok (.iconst 1, 1) := by decide +kernel
theorem dX0_keep_6 : decode cX0_keep 6 = .ok (.iadd, 1) := by decide +kernel
theorem dX0_keep_7 : decode cX0_keep 7 = .ok (.bipush 12, 2) := by decide +kernel
theorem dX0_keep_9 : decode cX0_keep 9 = .ok (.irem, 1) := by decide +kernel
theorem dX0_keep_10 : decode cX0_keep 10 = .ok (.putfield 25, 3) := by decide +kernel
theorem dX0_keep_13 : decode cX0_keep 13 = .ok (.aload_n 0, 1) := by decide +kernel
theorem dX0_keep_14 : decode cX0_keep 14 = .ok (.getfield 11, 3) := by decide +kernel
theorem dX0_keep_17 : decode cX0_keep 17 = .ok (.aload_n 0, 1) := by decide +kernel
theorem dX0_keep_18 : decode cX0_keep 18 = .ok (.getfield 25, 3) := by decide +kernel
theorem dX0_keep_21 : decode cX0_keep 21 = .ok (.aaload, 1) := by decide +kernel
theorem dX0_keep_22 : decode cX0_keep 22 = .ok (.aload_n 2, 1) := by decide +kernel
theorem dX0_keep_23 : decode cX0_keep 23 = .ok (.invokevirtual 29, 3) := by decide +kernel
theorem dX0_keep_26 : decode cX0_keep 26 = .ok (.aload_n 0, 1) := by decide +kernel
theorem dX0_keep_27 : decode cX0_keep 27 = .ok (.getfield 17, 3) := by decide +kernel
theorem dX0_keep_30 : decode cX0_keep 30 = .ok (.aload_n 0, 1) := by decide +kernel
theorem dX0_keep_31 : decode cX0_keep 31 = .ok (.getfield 25, 3) := by decide +kernel
theorem dX0_keep_34 : decode cX0_keep 34 = .ok (.iload_n 1, 1) := by decide +kernel
theorem dX0_keep_35 : decode cX0_keep 35 = .ok (.iastore, 1) := by decide +kernel
theorem dX0_keep_36 : decode cX0_keep 36 = .ok (.aload_n 0, 1) := by decide +kernel
theorem dX0_keep_37 : decode cX0_keep 37 = .ok (.aload_n 0, 1) := by decide +kernel
theorem dX0_keep_38 : decode cX0_keep 38 = .ok (.getfield 21, 3) := by decide +kernel
theorem dX0_keep_41 : decode cX0_keep 41 = .ok (.iconst 1, 1) := by decide +kernel
theorem dX0_keep_42 : decode cX0_keep 42 = .ok (.iadd, 1) := by decide +kernel
theorem dX0_keep_43 : decode cX0_keep 43 = .ok (.bipush 12, 2) := by decide +kernel
theorem dX0_keep_45 : decode cX0_keep 45 = .ok (.invokestatic 33, 3) := by decide +kernel
theorem dX0_keep_48 : decode cX0_keep 48 = .ok (.putfield 21, 3) := by decide +kernel
theorem dX0_keep_51 : decode cX0_keep 51 = .ok (.return_, 1) := by decide +kernel
theorem dX0_latestKeeper_0 : decode cX0_latestKeeper 0 = .ok (.aload_n 0, 1) := by decide +kernel
theorem dX0_latestKeeper_1 : decode cX0_latestKeeper 1 = .ok (.getfield 17, 3) := by decide +kernel
theorem dX0_latestKeeper_4 : decode cX0_latestKeeper 4 = .ok (.aload_n 0, 1) := by decide +kernel
theorem dX0_latestKeeper_5 : decode cX0_latestKeeper 5 = .ok (.getfield 25, 3) := by decide +kernel
theorem dX0_latestKeeper_8 : decode cX0_latestKeeper 8 = .ok (.iaload, 1) := by decide +kernel
theorem dX0_latestKeeper_9 : decode cX0_latestKeeper 9 = .ok (.ireturn, 1) := by decide +kernel
theorem dX0_takeBack_0 : decode cX0_takeBack 0 = .ok (.aload_n 1, 1) := by decide +kernel
theorem dX0_takeBack_1 : decode cX0_takeBack 1 = .ok (.aload_n 0, 1) := by decide +kernel
theorem dX0_takeBack_2 : decode cX0_takeBack 2 = .ok (.getfield 11, 3) := by decide +kernel
theorem dX0_takeBack_5 : decode cX0_takeBack 5 = .ok (.aload_n 0, 1) := by decide +kernel
theorem dX0_takeBack_6 : decode cX0_takeBack 6 = .ok (.getfield 25, 3) := by decide +kernel
theorem dX0_takeBack_9 : decode cX0_takeBack 9 = .ok (.aaload, 1) := by decide +kernel
theorem dX0_takeBack_10 : decode cX0_takeBack 10 = .ok (.invokevirtual 29, 3) := by decide +kernel
theorem dX0_takeBack_13 : decode cX0_takeBack 13 = .ok (.aload_n 0, 1) := by decide +kernel
theorem dX0_takeBack_14 : decode cX0_takeBack 14 = .ok (.aload_n 0, 1) := by decide +kernel
theorem dX0_takeBack_15 : decode cX0_takeBack 15 = .ok (.getfield 25, 3) := by decide +kernel
theorem dX0_takeBack_18 : decode cX0_takeBack 18 = .ok (.bipush 12, 2) := by decide +kernel
theorem dX0_takeBack_20 : decode cX0_takeBack 20 = .ok (.iadd, 1) := by decide +kernel
theorem dX0_takeBack_21 : decode cX0_takeBack 21 = .ok (.iconst 1, 1) := by decide +kernel
theorem dX0_takeBack_22 : decode cX0_takeBack 22 = .ok (.isub, 1) := by decide +kernel
theorem dX0_takeBack_23 : decode cX0_takeBack 23 = .ok (.bipush 12, 2) := by decide +kernel
theorem dX0_takeBack_25 : decode cX0_takeBack 25 = .ok (.irem, 1) := by decide +kernel
theorem dX0_takeBack_26 : decode cX0_takeBack 26 = .ok (.putfield 25, 3) := by decide +kernel
theorem dX0_takeBack_29 : decode cX0_takeBack 29 = .ok (.aload_n 0, 1) := by decide +kernel
theorem dX0_takeBack_30 : decode cX0_takeBack 30 = .ok (.dup, 1) := by decide +kernel
theorem dX0_takeBack_31 : decode cX0_takeBack 31 = .ok (.getfield 21, 3) := by decide +kernel
theorem dX0_takeBack_34 : decode cX0_takeBack 34 = .ok (.iconst 1, 1) := by decide +kernel
theorem dX0_takeBack_35 : decode cX0_takeBack 35 = .ok (.isub, 1) := by decide +kernel
theorem dX0_takeBack_36 : decode cX0_takeBack 36 = .ok (.putfield 21, 3) := by decide +kernel
theorem dX0_takeBack_39 : decode cX0_takeBack 39 = .ok (.return_, 1) := by decide +kernel
theorem dX1_init_0 : decode cX1_init 0 = .ok (.aload_n 0, 1) := by decide +kernel
theorem dX1_init_1 : decode cX1_init 1 = .ok (.invokespecial 3, 3) := by decide +kernel
theorem dX1_init_4 : decode cX1_init 4 = .ok (.aload_n 0, 1) := by decide +kernel
theorem dX1_init_5 : decode cX1_init 5 = .ok (.iconst 0, 1) := by decide +kernel
theorem dX1_init_6 : decode cX1_init 6 = .ok (.putfield 9, 3) := by decide +kernel
theorem dX1_init_9 : decode cX1_init 9 = .ok (.aload_n 0, 1) := by decide +kernel
theorem dX1_init_10 : decode cX1_init 10 = .ok (.iconst 0, 1) := by decide +kernel
theorem dX1_init_11 : decode cX1_init 11 = .ok (.putfield 15, 3) := by decide +kernel
theorem dX1_init_14 : decode cX1_init 14 = .ok (.aload_n 0, 1) := by decide +kernel
theorem dX1_init_15 : decode cX1_init 15 = .ok (.iconst 3, 1) := by decide +kernel
theorem dX1_init_16 : decode cX1_init 16 = .ok (.newarray .int, 2) := by decide +kernel
theorem dX1_init_18 : decode cX1_init 18 = .ok (.putfield 19, 3) := by decide +kernel
theorem dX1_init_21 : decode cX1_init 21 = .ok (.aload_n 0, 1) := by decide +kernel
theorem dX1_init_22 : decode cX1_init 22 = .ok (.sipush 150, 3) := by decide +kernel
theorem dX1_init_25 : decode cX1_init 25 = .ok (.newarray .long, 2) := by decide +kernel
theorem dX1_init_27 : decode cX1_init 27 = .ok (.putfield 23, 3) := by decide +kernel
theorem dX1_init_30 : decode cX1_init 30 = .ok (.return_, 1) := by decide +kernel
theorem dX1_renew_0 : decode cX1_renew 0 = .ok (.aload_n 0, 1) := by decide +kernel
theorem dX1_renew_1 : decode cX1_renew 1 = .ok (.iconst 1, 1) := by decide +kernel
theorem dX1_renew_2 : decode cX1_renew 2 = .ok (.putfield 9, 3) := by decide +kernel
theorem dX1_renew_5 : decode cX1_renew 5 = .ok (.aload_n 0, 1) := by decide +kernel
theorem dX1_renew_6 : decode cX1_renew 6 = .ok (.iload_n 1, 1) := by decide +kernel
theorem dX1_renew_7 : decode cX1_renew 7 = .ok (.putfield 15, 3) := by decide +kernel
theorem dX1_renew_10 : decode cX1_renew 10 = .ok (.aload_n 0, 1) := by decide +kernel
theorem dX1_renew_11 : decode cX1_renew 11 = .ok (.getfield 19, 3) := by decide +kernel
theorem dX1_renew_14 : decode cX1_renew 14 = .ok (.iconst 0, 1) := by decide +kernel
theorem dX1_renew_15 : decode cX1_renew 15 = .ok (.invokestatic 27, 3) := by decide +kernel
theorem dX1_renew_18 : decode cX1_renew 18 = .ok (.aload_n 0, 1) := by decide +kernel
theorem dX1_renew_19 : decode cX1_renew 19 = .ok (.getfield 23, 3) := by decide +kernel
theorem dX1_renew_22 : decode cX1_renew 22 = .ok (.lconst 0, 1) := by decide +kernel
theorem dX1_renew_23 : decode cX1_renew 23 = .ok (.invokestatic 33, 3) := by decide +kernel
theorem dX1_renew_26 : decode cX1_renew 26 = .ok (.return_, 1) := by decide +kernel
theorem dX1_become_0 : decode cX1_become 0 = .ok (.aload_n 0, 1) := by decide +kernel
theorem dX1_become_1 : decode cX1_become 1 = .ok (.aload_n 1, 1) := by decide +kernel
theorem dX1_become_2 : decode cX1_become 2 = .ok (.getfield 9, 3) := by decide +kernel
theorem dX1_become_5 : decode cX1_become 5 = .ok (.putfield 9, 3) := by decide +kernel
theorem dX1_become_8 : decode cX1_become 8 = .ok (.aload_n 0, 1) := by decide +kernel
theorem dX1_become_9 : decode cX1_become 9 = .ok (.aload_n 1, 1) := by decide +kernel
theorem dX1_become_10 : decode cX1_become 10 = .ok (.getfield 15, 3) := by decide +kernel
theorem dX1_become_13 : decode cX1_become 13 = .ok (.putfield 15, 3) := by decide +kernel
theorem dX1_become_16 : decode cX1_become 16 = .ok (.aload_n 1, 1) := by decide +kernel
theorem dX1_become_17 : decode cX1_become 17 = .ok (.getfield 19, 3) := by decide +kernel
theorem dX1_become_20 : decode cX1_become 20 = .ok (.iconst 0, 1) := by decide +kernel
theorem dX1_become_21 : decode cX1_become 21 = .ok (.aload_n 0, 1) := by decide +kernel
theorem dX1_become_22 : decode cX1_become 22 = .ok (.getfield 19, 3) := by decide +kernel
theorem dX1_become_25 : decode cX1_become 25 = .ok (.iconst 0, 1) := by decide +kernel
theorem dX1_become_26 : decode cX1_become 26 = .ok (.aload_n 0, 1) := by decide +kernel
theorem dX1_become_27 : decode cX1_become 27 = .ok (.getfield 19, 3) := by decide +kernel
theorem dX1_become_30 : decode cX1_become 30 = .ok (.arraylength, 1) := by decide +kernel
theorem dX1_become_31 : decode cX1_become 31 = .ok (.invokestatic 36, 3) := by decide +kernel
theorem dX1_become_34 : decode cX1_become 34 = .ok (.aload_n 1, 1) := by decide +kernel
theorem dX1_become_35 : decode cX1_become 35 = .ok (.getfield 23, 3) := by decide +kernel
theorem dX1_become_38 : decode cX1_become 38 = .ok (.iconst 0, 1) := by decide +kernel
theorem dX1_become_39 : decode cX1_become 39 = .ok (.aload_n 0, 1) := by decide +kernel
theorem dX1_become_40 : decode cX1_become 40 = .ok (.getfield 23, 3) := by decide +kernel
theorem dX1_become_43 : decode cX1_become 43 = .ok (.iconst 0, 1) := by decide +kernel
theorem dX1_become_44 : decode cX1_become 44 = .ok (.sipush 150, 3) := by decide +kernel
theorem dX1_become_47 : decode cX1_become 47 = .ok (.invokestatic 36, 3) := by decide +kernel
theorem dX1_become_50 : decode cX1_become 50 = .ok (.return_, 1) := by decide +kernel
theorem dX1_state_0 : decode cX1_state 0 = .ok (.aload_n 0, 1) := by decide +kernel
theorem dX1_state_1 : decode cX1_state 1 = .ok (.getfield 19, 3) := by decide +kernel
theorem dX1_state_4 : decode cX1_state 4 = .ok (.iconst 0, 1) := by decide +kernel
theorem dX1_state_5 : decode cX1_state 5 = .ok (.iaload, 1) := by decide +kernel
theorem dX1_state_6 : decode cX1_state 6 = .ok (.ifCond .gt 21, 3) := by decide +kernel
theorem dX1_state_9 : decode cX1_state 9 = .ok (.aload_n 0, 1) := by decide +kernel
theorem dX1_state_10 : decode cX1_state 10 = .ok (.getfield 19, 3) := by decide +kernel
theorem dX1_state_13 : decode cX1_state 13 = .ok (.iconst 1, 1) := by decide +kernel
theorem dX1_state_14 : decode cX1_state 14 = .ok (.iaload, 1) := by decide +kernel
theorem dX1_state_15 : decode cX1_state 15 = .ok (.ifCond .le 14, 3) := by decide +kernel
theorem dX1_state_18 : decode cX1_state 18 = .ok (.aload_n 0, 1) := by decide +kernel
theorem dX1_state_19 : decode cX1_state 19 = .ok (.getfield 19, 3) := by decide +kernel
theorem dX1_state_22 : decode cX1_state 22 = .ok (.iconst 2, 1) := by decide +kernel
theorem dX1_state_23 : decode cX1_state 23 = .ok (.iaload, 1) := by decide +kernel
theorem dX1_state_24 : decode cX1_state 24 = .ok (.ifCond .le 5, 3) := by decide +kernel
theorem dX1_state_27 : decode cX1_state 27 = .ok (.iconst 3, 1) := by decide +kernel
theorem dX1_state_28 : decode cX1_state 28 = .ok (.ireturn, 1) := by decide +kernel
theorem dX1_state_29 : decode cX1_state 29 = .ok (.aload_n 0, 1) := by decide +kernel
theorem dX1_state_30 : decode cX1_state 30 = .ok (.getfield 19, 3) := by decide +kernel
theorem dX1_state_33 : decode cX1_state 33 = .ok (.iconst 1, 1) := by decide +kernel
theorem dX1_state_34 : decode cX1_state 34 = .ok (.iaload, 1) := by decide +kernel
theorem dX1_state_35 : decode cX1_state 35 = .ok (.ifCond .le 5, 3) := by decide +kernel
theorem dX1_state_38 : decode cX1_state 38 = .ok (.iconst 1, 1) := by decide +kernel
theorem dX1_state_39 : decode cX1_state 39 = .ok (.ireturn, 1) := by decide +kernel
theorem dX1_state_40 : decode cX1_state 40 = .ok (.aload_n 0, 1) := by decide +kernel
theorem dX1_state_41 : decode cX1_state 41 = .ok (.getfield 19, 3) := by decide +kernel
theorem dX1_state_44 : decode cX1_state 44 = .ok (.iconst 2, 1) := by decide +kernel
theorem dX1_state_45 : decode cX1_state 45 = .ok (.iaload, 1) := by decide +kernel
theorem dX1_state_46 : decode cX1_state 46 = .ok (.ifCond .le 7, 3) := by decide +kernel
theorem dX1_state_49 : decode cX1_state 49 = .ok (.iconst 2, 1) := by decide +kernel
theorem dX1_state_50 : decode cX1_state 50 = .ok (.goto 4, 3) := by decide +kernel
theorem dX1_state_53 : decode cX1_state 53 = .ok (.iconst 0, 1) := by decide +kernel
theorem dX1_state_54 : decode cX1_state 54 = .ok (.ireturn, 1) := by decide +kernel
theorem dX1_isBelow_0 : decode cX1_isBelow 0 = .ok (.aload_n 0, 1) := by decide +kernel
theorem dX1_isBelow_1 : decode cX1_isBelow 1 = .ok (.getfield 23, 3) := by decide +kernel
theorem dX1_isBelow_4 : decode cX1_isBelow 4 = .ok (.sipush 149, 3) := by decide +kernel
theorem dX1_isBelow_7 : decode cX1_isBelow 7 = .ok (.laload, 1) := by decide +kernel
theorem dX1_isBelow_8 : decode cX1_isBelow 8 = .ok (.lconst 0, 1) := by decide +kernel
theorem dX1_isBelow_9 : decode cX1_isBelow 9 = .ok (.lcmp, 1) := by decide +kernel
theorem dX1_isBelow_10 : decode cX1_isBelow 10 = .ok (.ifCond .ge 7, 3) := by decide +kernel
theorem dX1_isBelow_13 : decode cX1_isBelow 13 = .ok (.iconst 1, 1) := by decide +kernel
theorem dX1_isBelow_14 : decode cX1_isBelow 14 = .ok (.goto 4, 3) := by decide +kernel
theorem dX1_isBelow_17 : decode cX1_isBelow 17 = .ok (.iconst 0, 1) := by decide +kernel
theorem dX1_isBelow_18 : decode cX1_isBelow 18 = .ok (.ireturn, 1) := by decide +kernel
theorem dX1_isNought_0 : decode cX1_isNought 0 = .ok (.aload_n 0, 1) := by decide +kernel
theorem dX1_isNought_1 : decode cX1_isNought 1 = .ok (.getfield 23, 3) := by decide +kernel
theorem dX1_isNought_4 : decode cX1_isNought 4 = .ok (.astore_n 1, 1) := by decide +kernel
theorem dX1_isNought_5 : decode cX1_isNought 5 = .ok (.aload_n 1, 1) := by decide +kernel
theorem dX1_isNought_6 : decode cX1_isNought 6 = .ok (.arraylength, 1) := by decide +kernel
theorem dX1_isNought_7 : decode cX1_isNought 7 = .ok (.istore_n 2, 1) := by decide +kernel
theorem dX1_isNought_8 : decode cX1_isNought 8 = .ok (.iconst 0, 1) := by decide +kernel
theorem dX1_isNought_9 : decode cX1_isNought 9 = .ok (.istore_n 3, 1) := by decide +kernel
theorem dX1_isNought_10 : decode cX1_isNought 10 = .ok (.iload_n 3, 1) := by decide +kernel
theorem dX1_isNought_11 : decode cX1_isNought 11 = .ok (.iload_n 2, 1) := by decide +kernel
theorem dX1_isNought_12 : decode cX1_isNought 12 = .ok (.if_icmp .ge 23, 3) := by decide +kernel
theorem dX1_isNought_15 : decode cX1_isNought 15 = .ok (.aload_n 1, 1) := by decide +kernel
theorem dX1_isNought_16 : decode cX1_isNought 16 = .ok (.iload_n 3, 1) := by decide +kernel
theorem dX1_isNought_17 : decode cX1_isNought 17 = .ok (.laload, 1) := by decide +kernel
theorem dX1_isNought_18 : decode cX1_isNought 18 = .ok (.lstore 4, 2) := by decide +kernel
theorem dX1_isNought_20 : decode cX1_isNought 20 = .ok (.lload 4, 2) := by decide +kernel
theorem dX1_isNought_22 : decode cX1_isNought 22 = .ok (.lconst 0, 1) := by decide +kernel
theorem dX1_isNought_23 : decode cX1_isNought 23 = .ok (.lcmp, 1) := by decide +kernel
theorem dX1_isNought_24 : decode cX1_isNought 24 = .ok (.ifCond .eq 5, 3) := by decide +kernel
theorem dX1_isNought_27 : decode cX1_isNought 27 = .ok (.iconst 0, 1) := by decide +kernel
theorem dX1_isNought_28 : decode cX1_isNought 28 = .ok (.ireturn, 1) := by decide +kernel
theorem dX1_isNought_29 : decode cX1_isNought 29 = .ok (.iinc 3 1, 3) := by decide +kernel
theorem dX1_isNought_32 : decode cX1_isNought 32 = .ok (.goto (-22), 3) := by decide +kernel
theorem dX1_isNought_35 : decode cX1_isNought 35 = .ok (.iconst 1, 1) := by decide +kernel
theorem dX1_isNought_36 : decode cX1_isNought 36 = .ok (.ireturn, 1) := by decide +kernel
theorem dX1_comparedWith_0 : decode cX1_comparedWith 0 = .ok (.sipush 149, 3) := by decide +kernel
theorem dX1_comparedWith_3 : decode cX1_comparedWith 3 = .ok (.istore_n 2, 1) := by decide +kernel
theorem dX1_comparedWith_4 : decode cX1_comparedWith 4 = .ok (.iload_n 2, 1) := by decide +kernel
theorem dX1_comparedWith_5 : decode cX1_comparedWith 5 = .ok (.ifCond .lt 47, 3) := by decide +kernel
theorem dX1_comparedWith_8 : decode cX1_comparedWith 8 = .ok (.aload_n 0, 1) := by decide +kernel
theorem dX1_comparedWith_9 : decode cX1_comparedWith 9 = .ok (.getfield 23, 3) := by decide +kernel
theorem dX1_comparedWith_12 : decode cX1_comparedWith 12 = .ok (.iload_n 2, 1) := by decide +kernel
theorem dX1_comparedWith_13 : decode cX1_comparedWith 13 = .ok (.laload, 1) := by decide +kernel
theorem dX1_comparedWith_14 : decode cX1_comparedWith 14 = .ok (.aload_n 1, 1) := by decide +kernel
theorem dX1_comparedWith_15 : decode cX1_comparedWith 15 = .ok (.getfield 23, 3) := by decide +kernel
theorem dX1_comparedWith_18 : decode cX1_comparedWith 18 = .ok (.iload_n 2, 1) := by decide +kernel
theorem dX1_comparedWith_19 : decode cX1_comparedWith 19 = .ok (.laload, 1) := by decide +kernel
theorem dX1_comparedWith_20 : decode cX1_comparedWith 20 = .ok (.lcmp, 1) := by decide +kernel
theorem dX1_comparedWith_21 : decode cX1_comparedWith 21 = .ok (.ifCond .eq 25, 3) := by decide +kernel
theorem dX1_comparedWith_24 : decode cX1_comparedWith 24 = .ok (.aload_n 0, 1) := by decide +kernel
theorem dX1_comparedWith_25 : decode cX1_comparedWith 25 = .ok (.getfield 23, 3) := by decide +kernel
theorem dX1_comparedWith_28 : decode cX1_comparedWith 28 = .ok (.iload_n 2, 1) := by decide +kernel
theorem dX1_comparedWith_29 : decode cX1_comparedWith 29 = .ok (.laload, 1) := by decide +kernel
theorem dX1_comparedWith_30 : decode cX1_comparedWith 30 = .ok (.aload_n 1, 1) := by decide +kernel
theorem dX1_comparedWith_31 : decode cX1_comparedWith 31 = .ok (.getfield 23, 3) := by decide +kernel
theorem dX1_comparedWith_34 : decode cX1_comparedWith 34 = .ok (.iload_n 2, 1) := by decide +kernel
theorem dX1_comparedWith_35 : decode cX1_comparedWith 35 = .ok (.laload, 1) := by decide +kernel
theorem dX1_comparedWith_36 : decode cX1_comparedWith 36 = .ok (.lcmp, 1) := by decide +kernel
theorem dX1_comparedWith_37 : decode cX1_comparedWith 37 = .ok (.ifCond .ge 7, 3) := by decide +kernel
theorem dX1_comparedWith_40 : decode cX1_comparedWith 40 = .ok (.iconst (-1), 1) := by decide +kernel
theorem dX1_comparedWith_41 : decode cX1_comparedWith 41 = .ok (.goto 4, 3) := by decide +kernel
theorem dX1_comparedWith_44 : decode cX1_comparedWith 44 = .ok (.iconst 1, 1) := by decide +kernel
theorem dX1_comparedWith_45 : decode cX1_comparedWith 45 = .ok (.ireturn, 1) := by decide +kernel
theorem dX1_comparedWith_46 : decode cX1_comparedWith 46 = .ok (.iinc 2 (-1), 3) := by decide +kernel
theorem dX1_comparedWith_49 : decode cX1_comparedWith 49 = .ok (.goto (-45), 3) := by decide +kernel
theorem dX1_comparedWith_52 : decode cX1_comparedWith 52 = .ok (.iconst 0, 1) := by decide +kernel
theorem dX1_comparedWith_53 : decode cX1_comparedWith 53 = .ok (.ireturn, 1) := by decide +kernel
theorem dX1_gather_0 : decode cX1_gather 0 = .ok (.iload_n 3, 1) := by decide +kernel
theorem dX1_gather_1 : decode cX1_gather 1 = .ok (.istore 6, 2) := by decide +kernel
theorem dX1_gather_3 : decode cX1_gather 3 = .ok (.iload 6, 2) := by decide +kernel
theorem dX1_gather_5 : decode cX1_gather 5 = .ok (.iload_n 3, 1) := by decide +kernel
theorem dX1_gather_6 : decode cX1_gather 6 = .ok (.iload 4, 2) := by decide +kernel
theorem dX1_gather_8 : decode cX1_gather 8 = .ok (.iadd, 1) := by decide +kernel
theorem dX1_gather_9 : decode cX1_gather 9 = .ok (.if_icmp .ge 69, 3) := by decide +kernel
theorem dX1_gather_12 : decode cX1_gather 12 = .ok (.aload_n 1, 1) := by decide +kernel
theorem dX1_gather_13 : decode cX1_gather 13 = .ok (.aload_n 2, 1) := by decide +kernel
theorem dX1_gather_14 : decode cX1_gather 14 = .ok (.iload 6, 2) := by decide +kernel
theorem dX1_gather_16 : decode cX1_gather 16 = .ok (.invokestatic 42, 3) := by decide +kernel
theorem dX1_gather_19 : decode cX1_gather 19 = .ok (.istore 7, 2) := by decide +kernel
theorem dX1_gather_21 : decode cX1_gather 21 = .ok (.iload 7, 2) := by decide +kernel
theorem dX1_gather_23 : decode cX1_gather 23 = .ok (.ifCond .ne 41, 3) := by decide +kernel
theorem dX1_gather_26 : decode cX1_gather 26 = .ok (.aload_n 0, 1) := by decide +kernel
theorem dX1_gather_27 : decode cX1_gather 27 = .ok (.aload_n 1, 1) := by decide +kernel
theorem dX1_gather_28 : decode cX1_gather 28 = .ok (.getfield 46, 3) := by decide +kernel
theorem dX1_gather_31 : decode cX1_gather 31 = .ok (.iload 6, 2) := by decide +kernel
theorem dX1_gather_33 : decode cX1_gather 33 = .ok (.laload, 1) := by decide +kernel
theorem dX1_gather_34 : decode cX1_gather 34 = .ok (.aload_n 2, 1) := by decide +kernel
theorem dX1_gather_35 : decode cX1_gather 35 = .ok (.getfield 46, 3) := by decide +kernel
theorem dX1_gather_38 : decode cX1_gather 38 = .ok (.iload 6, 2) := by decide +kernel
theorem dX1_gather_40 : decode cX1_gather 40 = .ok (.laload, 1) := by decide +kernel
theorem dX1_gather_41 : decode cX1_gather 41 = .ok (.aload_n 1, 1) := by decide +kernel
theorem dX1_gather_42 : decode cX1_gather 42 = .ok (.getfield 51, 3) := by decide +kernel
theorem dX1_gather_45 : decode cX1_gather 45 = .ok (.iload 6, 2) := by decide +kernel
theorem dX1_gather_47 : decode cX1_gather 47 = .ok (.iaload, 1) := by decide +kernel
theorem dX1_gather_48 : decode cX1_gather 48 = .ok (.aload_n 2, 1) := by decide +kernel
theorem dX1_gather_49 : decode cX1_gather 49 = .ok (.getfield 51, 3) := by decide +kernel
theorem dX1_gather_52 : decode cX1_gather 52 = .ok (.iload 6, 2) := by decide +kernel
theorem dX1_gather_54 : decode cX1_gather 54 = .ok (.iaload, 1) := by decide +kernel
theorem dX1_gather_55 : decode cX1_gather 55 = .ok (.iadd, 1) := by decide +kernel
theorem dX1_gather_56 : decode cX1_gather 56 = .ok (.iload 5, 2) := by decide +kernel
theorem dX1_gather_58 : decode cX1_gather 58 = .ok (.invokevirtual 54, 3) := by decide +kernel
theorem dX1_gather_61 : decode cX1_gather 61 = .ok (.goto 11, 3) := by decide +kernel
theorem dX1_gather_64 : decode cX1_gather 64 = .ok (.aload_n 0, 1) := by decide +kernel
theorem dX1_gather_65 : decode cX1_gather 65 = .ok (.iload 7, 2) := by decide +kernel
theorem dX1_gather_67 : decode cX1_gather 67 = .ok (.iload 5, 2) := by decide +kernel
theorem dX1_gather_69 : decode cX1_gather 69 = .ok (.invokevirtual 58, 3) := by decide +kernel
theorem dX1_gather_72 : decode cX1_gather 72 = .ok (.iinc 6 1, 3) := by decide +kernel
theorem dX1_gather_75 : decode cX1_gather 75 = .ok (.goto (-72), 3) := by decide +kernel
theorem dX1_gather_78 : decode cX1_gather 78 = .ok (.aload_n 0, 1) := by decide +kernel
theorem dX1_gather_79 : decode cX1_gather 79 = .ok (.invokevirtual 62, 3) := by decide +kernel
theorem dX1_gather_82 : decode cX1_gather 82 = .ok (.return_, 1) := by decide +kernel
theorem dX1_gainAll_0 : decode cX1_gainAll 0 = .ok (.iconst 0, 1) := by decide +kernel
theorem dX1_gainAll_1 : decode cX1_gainAll 1 = .ok (.istore_n 2, 1) := by decide +kernel
theorem dX1_gainAll_2 : decode cX1_gainAll 2 = .ok (.iload_n 2, 1) := by decide +kernel
theorem dX1_gainAll_3 : decode cX1_gainAll 3 = .ok (.sipush 150, 3) := by decide +kernel
theorem dX1_gainAll_6 : decode cX1_gainAll 6 = .ok (.if_icmp .ge 24, 3) := by decide +kernel
theorem dX1_gainAll_9 : decode cX1_gainAll 9 = .ok (.aload_n 0, 1) := by decide +kernel
theorem dX1_gainAll_10 : decode cX1_gainAll 10 = .ok (.getfield 23, 3) := by decide +kernel
theorem dX1_gainAll_13 : decode cX1_gainAll 13 = .ok (.iload_n 2, 1) := by decide +kernel
theorem dX1_gainAll_14 : decode cX1_gainAll 14 = .ok (.dup2, 1) := by decide +kernel
theorem dX1_gainAll_15 : decode cX1_gainAll 15 = .ok (.laload, 1) := by decide +kernel
theorem dX1_gainAll_16 : decode cX1_gainAll 16 = .ok (.aload_n 1, 1) := by decide +kernel
theorem dX1_gainAll_17 : decode cX1_gainAll 17 = .ok (.getfield 23, 3) := by decide +kernel
theorem dX1_gainAll_20 : decode cX1_gainAll 20 = .ok (.iload_n 2, 1) := by decide +kernel
theorem dX1_gainAll_21 : decode cX1_gainAll 21 = .ok (.laload, 1) := by decide +kernel
theorem dX1_gainAll_22 : decode cX1_gainAll 22 = .ok (.ladd, 1) := by decide +kernel
theorem dX1_gainAll_23 : decode cX1_gainAll 23 = .ok (.lastore, 1) := by decide +kernel
theorem dX1_gainAll_24 : decode cX1_gainAll 24 = .ok (.iinc 2 1, 3) := by decide +kernel
theorem dX1_gainAll_27 : decode cX1_gainAll 27 = .ok (.goto (-25), 3) := by decide +kernel
theorem dX1_gainAll_30 : decode cX1_gainAll 30 = .ok (.aload_n 0, 1) := by decide +kernel
theorem dX1_gainAll_31 : decode cX1_gainAll 31 = .ok (.invokevirtual 62, 3) := by decide +kernel
theorem dX1_gainAll_34 : decode cX1_gainAll 34 = .ok (.iconst 0, 1) := by decide +kernel
theorem dX1_gainAll_35 : decode cX1_gainAll 35 = .ok (.istore_n 2, 1) := by decide +kernel
theorem dX1_gainAll_36 : decode cX1_gainAll 36 = .ok (.iload_n 2, 1) := by decide +kernel
theorem dX1_gainAll_37 : decode cX1_gainAll 37 = .ok (.aload_n 0, 1) := by decide +kernel
theorem dX1_gainAll_38 : decode cX1_gainAll 38 = .ok (.getfield 19, 3) := by decide +kernel
theorem dX1_gainAll_41 : decode cX1_gainAll 41 = .ok (.arraylength, 1) := by decide +kernel
theorem dX1_gainAll_42 : decode cX1_gainAll 42 = .ok (.if_icmp .ge 33, 3) := by decide +kernel
theorem dX1_gainAll_45 : decode cX1_gainAll 45 = .ok (.aload_n 0, 1) := by decide +kernel
theorem dX1_gainAll_46 : decode cX1_gainAll 46 = .ok (.getfield 19, 3) := by decide +kernel
theorem dX1_gainAll_49 : decode cX1_gainAll 49 = .ok (.iload_n 2, 1) := by decide +kernel
theorem dX1_gainAll_50 : decode cX1_gainAll 50 = .ok (.aload_n 0, 1) := by decide +kernel
theorem dX1_gainAll_51 : decode cX1_gainAll 51 = .ok (.getfield 19, 3) := by decide +kernel
theorem dX1_gainAll_54 : decode cX1_gainAll 54 = .ok (.iload_n 2, 1) := by decide +kernel
theorem dX1_gainAll_55 : decode cX1_gainAll 55 = .ok (.iaload, 1) := by decide +kernel
theorem dX1_gainAll_56 : decode cX1_gainAll 56 = .ok (.aload_n 1, 1) := by decide +kernel
theorem dX1_gainAll_57 : decode cX1_gainAll 57 = .ok (.getfield 19, 3) := by decide +kernel
theorem dX1_gainAll_60 : decode cX1_gainAll 60 = .ok (.iload_n 2, 1) := by decide +kernel
theorem dX1_gainAll_61 : decode cX1_gainAll 61 = .ok (.iaload, 1) := by decide +kernel
theorem dX1_gainAll_62 : decode cX1_gainAll 62 = .ok (.iadd, 1) := by decide +kernel
theorem dX1_gainAll_63 : decode cX1_gainAll 63 = .ok (.ldc 65, 2) := by decide +kernel
theorem dX1_gainAll_65 : decode cX1_gainAll 65 = .ok (.invokestatic 66, 3) := by decide +kernel
theorem dX1_gainAll_68 : decode cX1_gainAll 68 = .ok (.iastore, 1) := by decide +kernel
theorem dX1_gainAll_69 : decode cX1_gainAll 69 = .ok (.iinc 2 1, 3) := by decide +kernel
theorem dX1_gainAll_72 : decode cX1_gainAll 72 = .ok (.goto (-36), 3) := by decide +kernel
theorem dX1_gainAll_75 : decode cX1_gainAll 75 = .ok (.return_, 1) := by decide +kernel
theorem dX1_sortOfProduct_0 : decode cX1_sortOfProduct 0 = .ok (.aload_n 0, 1) := by decide +kernel
theorem dX1_sortOfProduct_1 : decode cX1_sortOfProduct 1 = .ok (.iload_n 2, 1) := by decide +kernel
theorem dX1_sortOfProduct_2 : decode cX1_sortOfProduct 2 = .ok (.invokevirtual 72, 3) := by decide +kernel
theorem dX1_sortOfProduct_5 : decode cX1_sortOfProduct 5 = .ok (.istore_n 3, 1) := by decide +kernel
theorem dX1_sortOfProduct_6 : decode cX1_sortOfProduct 6 = .ok (.aload_n 1, 1) := by decide +kernel
theorem dX1_sortOfProduct_7 : decode cX1_sortOfProduct 7 = .ok (.iload_n 2, 1) := by decide +kernel
theorem dX1_sortOfProduct_8 : decode cX1_sortOfProduct 8 = .ok (.invokevirtual 72, 3) := by decide +kernel
theorem dX1_sortOfProduct_11 : decode cX1_sortOfProduct 11 = .ok (.istore 4, 2) := by decide +kernel
theorem dX1_sortOfProduct_13 : decode cX1_sortOfProduct 13 = .ok (.iload_n 3, 1) := by decide +kernel
theorem dX1_sortOfProduct_14 : decode cX1_sortOfProduct 14 = .ok (.iconst 3, 1) := by decide +kernel
theorem dX1_sortOfProduct_15 : decode cX1_sortOfProduct 15 = .ok (.if_icmp .eq 9, 3) := by decide +kernel
theorem dX1_sortOfProduct_18 : decode cX1_sortOfProduct 18 = .ok (.iload 4, 2) := by decide +kernel
theorem dX1_sortOfProduct_20 : decode cX1_sortOfProduct 20 = .ok (.iconst 3, 1) := by decide +kernel
theorem dX1_sortOfProduct_21 : decode cX1_sortOfProduct 21 = .ok (.if_icmp .ne 5, 3) := by decide +kernel
theorem dX1_sortOfProduct_24 : decode cX1_sortOfProduct 24 = .ok (.iconst 3, 1) := by decide +kernel
theorem dX1_sortOfProduct_25 : decode cX1_sortOfProduct 25 = .ok (.ireturn, 1) := by decide +kernel
theorem dX1_sortOfProduct_26 : decode cX1_sortOfProduct 26 = .ok (.iload_n 3, 1) := by decide +kernel
theorem dX1_sortOfProduct_27 : decode cX1_sortOfProduct 27 = .ok (.ifCond .ne 10, 3) := by decide +kernel
theorem dX1_sortOfProduct_30 : decode cX1_sortOfProduct 30 = .ok (.iload 4, 2) := by decide +kernel
theorem dX1_sortOfProduct_32 : decode cX1_sortOfProduct 32 = .ok (.ifCond .ne 5, 3) := by decide +kernel
theorem dX1_sortOfProduct_35 : decode cX1_sortOfProduct 35 = .ok (.iconst 0, 1) := by decide +kernel
theorem dX1_sortOfProduct_36 : decode cX1_sortOfProduct 36 = .ok (.ireturn, 1) := by decide +kernel
theorem dX1_sortOfProduct_37 : decode cX1_sortOfProduct 37 = .ok (.iload_n 3, 1) := by decide +kernel
theorem dX1_sortOfProduct_38 : decode cX1_sortOfProduct 38 = .ok (.ifCond .ne 14, 3) := by decide +kernel
theorem dX1_sortOfProduct_41 : decode cX1_sortOfProduct 41 = .ok (.aload_n 0, 1) := by decide +kernel
theorem dX1_sortOfProduct_42 : decode cX1_sortOfProduct 42 = .ok (.getfield 46, 3) := by decide +kernel
theorem dX1_sortOfProduct_45 : decode cX1_sortOfProduct 45 = .ok (.iload_n 2, 1) := by decide +kernel
theorem dX1_sortOfProduct_46 : decode cX1_sortOfProduct 46 = .ok (.laload, 1) := by decide +kernel
theorem dX1_sortOfProduct_47 : decode cX1_sortOfProduct 47 = .ok (.lconst 0, 1) := by decide +kernel
theorem dX1_sortOfProduct_48 : decode cX1_sortOfProduct 48 = .ok (.lcmp, 1) := by decide +kernel
theorem dX1_sortOfProduct_49 : decode cX1_sortOfProduct 49 = .ok (.ifCond .eq 19, 3) := by decide +kernel
theorem dX1_sortOfProduct_52 : decode cX1_sortOfProduct 52 = .ok (.iload 4, 2) := by decide +kernel
theorem dX1_sortOfProduct_54 : decode cX1_sortOfProduct 54 = .ok (.ifCond .ne 16, 3) := by decide +kernel
theorem dX1_sortOfProduct_57 : decode cX1_sortOfProduct 57 = .ok (.aload_n 1, 1) := by decide +kernel
theorem dX1_sortOfProduct_58 : decode cX1_sortOfProduct 58 = .ok (.getfield 46, 3) := by decide +kernel
theorem dX1_sortOfProduct_61 : decode cX1_sortOfProduct 61 = .ok (.iload_n 2, 1) := by decide +kernel
theorem dX1_sortOfProduct_62 : decode cX1_sortOfProduct 62 = .ok (.laload, 1) := by decide +kernel
theorem dX1_sortOfProduct_63 : decode cX1_sortOfProduct 63 = .ok (.lconst 0, 1) := by decide +kernel
theorem dX1_sortOfProduct_64 : decode cX1_sortOfProduct 64 = .ok (.lcmp, 1) := by decide +kernel
theorem dX1_sortOfProduct_65 : decode cX1_sortOfProduct 65 = .ok (.ifCond .ne 5, 3) := by decide +kernel
theorem dX1_sortOfProduct_68 : decode cX1_sortOfProduct 68 = .ok (.iconst 3, 1) := by decide +kernel
theorem dX1_sortOfProduct_69 : decode cX1_sortOfProduct 69 = .ok (.ireturn, 1) := by decide +kernel
theorem dX1_sortOfProduct_70 : decode cX1_sortOfProduct 70 = .ok (.iload_n 3, 1) := by decide +kernel
theorem dX1_sortOfProduct_71 : decode cX1_sortOfProduct 71 = .ok (.iconst 2, 1) := by decide +kernel
theorem dX1_sortOfProduct_72 : decode cX1_sortOfProduct 72 = .ok (.if_icmp .eq 14, 3) := by decide +kernel
theorem dX1_sortOfProduct_75 : decode cX1_sortOfProduct 75 = .ok (.aload_n 0, 1) := by decide +kernel
theorem dX1_sortOfProduct_76 : decode cX1_sortOfProduct 76 = .ok (.getfield 46, 3) := by decide +kernel
theorem dX1_sortOfProduct_79 : decode cX1_sortOfProduct 79 = .ok (.iload_n 2, 1) := by decide +kernel
theorem dX1_sortOfProduct_80 : decode cX1_sortOfProduct 80 = .ok (.laload, 1) := by decide +kernel
theorem dX1_sortOfProduct_81 : decode cX1_sortOfProduct 81 = .ok (.lconst 0, 1) := by decide +kernel
theorem dX1_sortOfProduct_82 : decode cX1_sortOfProduct 82 = .ok (.lcmp, 1) := by decide +kernel
theorem dX1_sortOfProduct_83 : decode cX1_sortOfProduct 83 = .ok (.ifCond .ge 7, 3) := by decide +kernel
theorem dX1_sortOfProduct_86 : decode cX1_sortOfProduct 86 = .ok (.iconst 1, 1) := by decide +kernel
theorem dX1_sortOfProduct_87 : decode cX1_sortOfProduct 87 = .ok (.goto 4, 3) := by decide +kernel
theorem dX1_sortOfProduct_90 : decode cX1_sortOfProduct 90 = .ok (.iconst 0, 1) := by decide +kernel
theorem dX1_sortOfProduct_91 : decode cX1_sortOfProduct 91 = .ok (.istore 5, 2) := by decide +kernel
theorem dX1_sortOfProduct_93 : decode cX1_sortOfProduct 93 = .ok (.iload 4, 2) := by decide +kernel
theorem dX1_sortOfProduct_95 : decode cX1_sortOfProduct 95 = .ok (.iconst 2, 1) := by decide +kernel
theorem dX1_sortOfProduct_96 : decode cX1_sortOfProduct 96 = .ok (.if_icmp .eq 14, 3) := by decide +kernel
theorem dX1_sortOfProduct_99 : decode cX1_sortOfProduct 99 = .ok (.aload_n 1, 1) := by decide +kernel
theorem dX1_sortOfProduct_100 : decode cX1_sortOfProduct 100 = .ok (.getfield 46, 3) := by decide +kernel
theorem dX1_sortOfProduct_103 : decode cX1_sortOfProduct 103 = .ok (.iload_n 2, 1) := by decide +kernel
theorem dX1_sortOfProduct_104 : decode cX1_sortOfProduct 104 = .ok (.laload, 1) := by decide +kernel
theorem dX1_sortOfProduct_105 : decode cX1_sortOfProduct 105 = .ok (.lconst 0, 1) := by decide +kernel
theorem dX1_sortOfProduct_106 : decode cX1_sortOfProduct 106 = .ok (.lcmp, 1) := by decide +kernel
theorem dX1_sortOfProduct_107 : decode cX1_sortOfProduct 107 = .ok (.ifCond .ge 7, 3) := by decide +kernel
theorem dX1_sortOfProduct_110 : decode cX1_sortOfProduct 110 = .ok (.iconst 1, 1) := by decide +kernel
theorem dX1_sortOfProduct_111 : decode cX1_sortOfProduct 111 = .ok (.goto 4, 3) := by decide +kernel
theorem dX1_sortOfProduct_114 : decode cX1_sortOfProduct 114 = .ok (.iconst 0, 1) := by decide +kernel
theorem dX1_sortOfProduct_115 : decode cX1_sortOfProduct 115 = .ok (.istore 6, 2) := by decide +kernel
theorem dX1_sortOfProduct_117 : decode cX1_sortOfProduct 117 = .ok (.iload 5, 2) := by decide +kernel
theorem dX1_sortOfProduct_119 : decode cX1_sortOfProduct 119 = .ok (.iload 6, 2) := by decide +kernel
theorem dX1_sortOfProduct_121 : decode cX1_sortOfProduct 121 = .ok (.if_icmp .ne 7, 3) := by decide +kernel
theorem dX1_sortOfProduct_124 : decode cX1_sortOfProduct 124 = .ok (.iconst 1, 1) := by decide +kernel
theorem dX1_sortOfProduct_125 : decode cX1_sortOfProduct 125 = .ok (.goto 4, 3) := by decide +kernel
theorem dX1_sortOfProduct_128 : decode cX1_sortOfProduct 128 = .ok (.iconst 2, 1) := by decide +kernel
theorem dX1_sortOfProduct_129 : decode cX1_sortOfProduct 129 = .ok (.ireturn, 1) := by decide +kernel
theorem dX1_meet_0 : decode cX1_meet 0 = .ok (.iconst 0, 1) := by decide +kernel
theorem dX1_meet_1 : decode cX1_meet 1 = .ok (.istore_n 3, 1) := by decide +kernel
theorem dX1_meet_2 : decode cX1_meet 2 = .ok (.iload_n 1, 1) := by decide +kernel
theorem dX1_meet_3 : decode cX1_meet 3 = .ok (.iconst 3, 1) := by decide +kernel
theorem dX1_meet_4 : decode cX1_meet 4 = .ok (.if_icmp .eq 23, 3) := by decide +kernel
theorem dX1_meet_7 : decode cX1_meet 7 = .ok (.iload_n 1, 1) := by decide +kernel
theorem dX1_meet_8 : decode cX1_meet 8 = .ok (.iconst 1, 1) := by decide +kernel
theorem dX1_meet_9 : decode cX1_meet 9 = .ok (.if_icmp .ne 7, 3) := by decide +kernel
theorem dX1_meet_12 : decode cX1_meet 12 = .ok (.iconst 1, 1) := by decide +kernel
theorem dX1_meet_13 : decode cX1_meet 13 = .ok (.goto 4, 3) := by decide +kernel
theorem dX1_meet_16 : decode cX1_meet 16 = .ok (.iconst 0, 1) := by decide +kernel
theorem dX1_meet_17 : decode cX1_meet 17 = .ok (.iload_n 2, 1) := by decide +kernel
theorem dX1_meet_18 : decode cX1_meet 18 = .ok (.if_icmp .ne 7, 3) := by decide +kernel
theorem dX1_meet_21 : decode cX1_meet 21 = .ok (.iconst 2, 1) := by decide +kernel
theorem dX1_meet_22 : decode cX1_meet 22 = .ok (.goto 4, 3) := by decide +kernel
theorem dX1_meet_25 : decode cX1_meet 25 = .ok (.iconst 1, 1) := by decide +kernel
theorem dX1_meet_26 : decode cX1_meet 26 = .ok (.istore_n 3, 1) := by decide +kernel
theorem dX1_meet_27 : decode cX1_meet 27 = .ok (.aload_n 0, 1) := by decide +kernel
theorem dX1_meet_28 : decode cX1_meet 28 = .ok (.getfield 19, 3) := by decide +kernel
theorem dX1_meet_31 : decode cX1_meet 31 = .ok (.iload_n 3, 1) := by decide +kernel
theorem dX1_meet_32 : decode cX1_meet 32 = .ok (.aload_n 0, 1) := by decide +kernel
theorem dX1_meet_33 : decode cX1_meet 33 = .ok (.getfield 19, 3) := by decide +kernel
theorem dX1_meet_36 : decode cX1_meet 36 = .ok (.iload_n 3, 1) := by decide +kernel
theorem dX1_meet_37 : decode cX1_meet 37 = .ok (.iaload, 1) := by decide +kernel
theorem dX1_meet_38 : decode cX1_meet 38 = .ok (.iconst 1, 1) := by decide +kernel
theorem dX1_meet_39 : decode cX1_meet 39 = .ok (.iadd, 1) := by decide +kernel
theorem dX1_meet_40 : decode cX1_meet 40 = .ok (.ldc 65, 2) := by decide +kernel
theorem dX1_meet_42 : decode cX1_meet 42 = .ok (.invokestatic 66, 3) := by decide +kernel
theorem dX1_meet_45 : decode cX1_meet 45 = .ok (.iastore, 1) := by decide +kernel
theorem dX1_meet_46 : decode cX1_meet 46 = .ok (.return_, 1) := by decide +kernel
theorem dX1_gain_0 : decode cX1_gain 0 = .ok (.lload_n 1, 1) := by decide +kernel
theorem dX1_gain_1 : decode cX1_gain 1 = .ok (.invokestatic 76, 3) := by decide +kernel
theorem dX1_gain_4 : decode cX1_gain 4 = .ok (.lstore 7, 2) := by decide +kernel
theorem dX1_gain_6 : decode cX1_gain 6 = .ok (.lload_n 3, 1) := by decide +kernel
theorem dX1_gain_7 : decode cX1_gain 7 = .ok (.invokestatic 76, 3) := by decide +kernel
theorem dX1_gain_10 : decode cX1_gain 10 = .ok (.lstore 9, 2) := by decide +kernel
theorem dX1_gain_12 : decode cX1_gain 12 = .ok (.lload_n 1, 1) := by decide +kernel
theorem dX1_gain_13 : decode cX1_gain 13 = .ok (.lconst 0, 1) := by decide +kernel
theorem dX1_gain_14 : decode cX1_gain 14 = .ok (.lcmp, 1) := by decide +kernel
theorem dX1_gain_15 : decode cX1_gain 15 = .ok (.ifCond .ge 7, 3) := by decide +kernel
theorem dX1_gain_18 : decode cX1_gain 18 = .ok (.iconst 1, 1) := by decide +kernel
theorem dX1_gain_19 : decode cX1_gain 19 = .ok (.goto 4, 3) := by decide +kernel
theorem dX1_gain_22 : decode cX1_gain 22 = .ok (.iconst 0, 1) := by decide +kernel
theorem dX1_gain_23 : decode cX1_gain 23 = .ok (.lload_n 3, 1) := by decide +kernel
theorem dX1_gain_24 : decode cX1_gain 24 = .ok (.lconst 0, 1) := by decide +kernel
theorem dX1_gain_25 : decode cX1_gain 25 = .ok (.lcmp, 1) := by decide +kernel
theorem dX1_gain_26 : decode cX1_gain 26 = .ok (.ifCond .ge 7, 3) := by decide +kernel
theorem dX1_gain_29 : decode cX1_gain 29 = .ok (.iconst 1, 1) := by decide +kernel
theorem dX1_gain_30 : decode cX1_gain 30 = .ok (.goto 4, 3) := by decide +kernel
theorem dX1_gain_33 : decode cX1_gain 33 = .ok (.iconst 0, 1) := by decide +kernel
theorem dX1_gain_34 : decode cX1_gain 34 = .ok (.if_icmp .eq 7, 3) := by decide +kernel
theorem dX1_gain_37 : decode cX1_gain 37 = .ok (.iconst 1, 1) := by decide +kernel
theorem dX1_gain_38 : decode cX1_gain 38 = .ok (.goto 4, 3) := by decide +kernel
theorem dX1_gain_41 : decode cX1_gain 41 = .ok (.iconst 0, 1) := by decide +kernel
theorem dX1_gain_42 : decode cX1_gain 42 = .ok (.iload 6, 2) := by decide +kernel
theorem dX1_gain_44 : decode cX1_gain 44 = .ok (.if_icmp .eq 7, 3) := by decide +kernel
theorem dX1_gain_47 : decode cX1_gain 47 = .ok (.iconst 1, 1) := by decide +kernel
theorem dX1_gain_48 : decode cX1_gain 48 = .ok (.goto 4, 3) := by decide +kernel
theorem dX1_gain_51 : decode cX1_gain 51 = .ok (.iconst 0, 1) := by decide +kernel
theorem dX1_gain_52 : decode cX1_gain 52 = .ok (.istore 11, 2) := by decide +kernel
theorem dX1_gain_54 : decode cX1_gain 54 = .ok (.iload 5, 2) := by decide +kernel
theorem dX1_gain_56 : decode cX1_gain 56 = .ok (.sipush (-2148), 3) := by decide +kernel
theorem dX1_gain_59 : decode cX1_gain 59 = .ok (.isub, 1) := by decide +kernel
theorem dX1_gain_60 : decode cX1_gain 60 = .ok (.istore 12, 2) := by decide +kernel
theorem dX1_gain_62 : decode cX1_gain 62 = .ok (.aload_n 0, 1) := by decide +kernel
theorem dX1_gain_63 : decode cX1_gain 63 = .ok (.lload 7, 2) := by decide +kernel
theorem dX1_gain_65 : decode cX1_gain 65 = .ok (.ldc2_w 80, 3) := by decide +kernel
theorem dX1_gain_68 : decode cX1_gain 68 = .ok (.land, 1) := by decide +kernel
theorem dX1_gain_69 : decode cX1_gain 69 = .ok (.lload 9, 2) := by decide +kernel
theorem dX1_gain_71 : decode cX1_gain 71 = .ok (.ldc2_w 80, 3) := by decide +kernel
theorem dX1_gain_74 : decode cX1_gain 74 = .ok (.land, 1) := by decide +kernel
theorem dX1_gain_75 : decode cX1_gain 75 = .ok (.lmul, 1) := by decide +kernel
theorem dX1_gain_76 : decode cX1_gain 76 = .ok (.iload 12, 2) := by decide +kernel
theorem dX1_gain_78 : decode cX1_gain 78 = .ok (.iload 11, 2) := by decide +kernel
theorem dX1_gain_80 : decode cX1_gain 80 = .ok (.invokevirtual 82, 3) := by decide +kernel
theorem dX1_gain_83 : decode cX1_gain 83 = .ok (.aload_n 0, 1) := by decide +kernel
theorem dX1_gain_84 : decode cX1_gain 84 = .ok (.lload 7, 2) := by decide +kernel
theorem dX1_gain_86 : decode cX1_gain 86 = .ok (.ldc2_w 80, 3) := by decide +kernel
theorem dX1_gain_89 : decode cX1_gain 89 = .ok (.land, 1) := by decide +kernel
theorem dX1_gain_90 : decode cX1_gain 90 = .ok (.lload 9, 2) := by decide +kernel
theorem dX1_gain_92 : decode cX1_gain 92 = .ok (.bipush 32, 2) := by decide +kernel
theorem dX1_gain_94 : decode cX1_gain 94 = .ok (.lushr, 1) := by decide +kernel
theorem dX1_gain_95 : decode cX1_gain 95 = .ok (.lmul, 1) := by decide +kernel
theorem dX1_gain_96 : decode cX1_gain 96 = .ok (.iload 12, 2) := by decide +kernel
theorem dX1_gain_98 : decode cX1_gain 98 = .ok (.bipush 32, 2) := by decide +kernel
theorem dX1_gain_100 : decode cX1_gain 100 = .ok (.iadd, 1) := by decide +kernel
theorem dX1_gain_101 : decode cX1_gain 101 = .ok (.iload 11, 2) := by decide +kernel
theorem dX1_gain_103 : decode cX1_gain 103 = .ok (.invokevirtual 82, 3) := by decide +kernel
theorem dX1_gain_106 : decode cX1_gain 106 = .ok (.aload_n 0, 1) := by decide +kernel
theorem dX1_gain_107 : decode cX1_gain 107 = .ok (.lload 7, 2) := by decide +kernel
theorem dX1_gain_109 : decode cX1_gain 109 = .ok (.bipush 32, 2) := by decide +kernel
theorem dX1_gain_111 : decode cX1_gain 111 = .ok (.lushr, 1) := by decide +kernel
theorem dX1_gain_112 : decode cX1_gain 112 = .ok (.lload 9, 2) := by decide +kernel
theorem dX1_gain_114 : decode cX1_gain 114 = .ok (.ldc2_w 80, 3) := by decide +kernel
theorem dX1_gain_117 : decode cX1_gain 117 = .ok (.land, 1) := by decide +kernel
theorem dX1_gain_118 : decode cX1_gain 118 = .ok (.lmul, 1) := by decide +kernel
theorem dX1_gain_119 : decode cX1_gain 119 = .ok (.iload 12, 2) := by decide +kernel
theorem dX1_gain_121 : decode cX1_gain 121 = .ok (.bipush 32, 2) := by decide +kernel
theorem dX1_gain_123 : decode cX1_gain 123 = .ok (.iadd, 1) := by decide +kernel
theorem dX1_gain_124 : decode cX1_gain 124 = .ok (.iload 11, 2) := by decide +kernel
theorem dX1_gain_126 : decode cX1_gain 126 = .ok (.invokevirtual 82, 3) := by decide +kernel
theorem dX1_gain_129 : decode cX1_gain 129 = .ok (.aload_n 0, 1) := by decide +kernel
theorem dX1_gain_130 : decode cX1_gain 130 = .ok (.lload 7, 2) := by decide +kernel
theorem dX1_gain_132 : decode cX1_gain 132 = .ok (.bipush 32, 2) := by decide +kernel
theorem dX1_gain_134 : decode cX1_gain 134 = .ok (.lushr, 1) := by decide +kernel
theorem dX1_gain_135 : decode cX1_gain 135 = .ok (.lload 9, 2) := by decide +kernel
theorem dX1_gain_137 : decode cX1_gain 137 = .ok (.bipush 32, 2) := by decide +kernel
theorem dX1_gain_139 : decode cX1_gain 139 = .ok (.lushr, 1) := by decide +kernel
theorem dX1_gain_140 : decode cX1_gain 140 = .ok (.lmul, 1) := by decide +kernel
theorem dX1_gain_141 : decode cX1_gain 141 = .ok (.iload 12, 2) := by decide +kernel
theorem dX1_gain_143 : decode cX1_gain 143 = .ok (.bipush 64, 2) := by decide +kernel
theorem dX1_gain_145 : decode cX1_gain 145 = .ok (.iadd, 1) := by decide +kernel
theorem dX1_gain_146 : decode cX1_gain 146 = .ok (.iload 11, 2) := by decide +kernel
theorem dX1_gain_148 : decode cX1_gain 148 = .ok (.invokevirtual 82, 3) := by decide +kernel
theorem dX1_gain_151 : decode cX1_gain 151 = .ok (.return_, 1) := by decide +kernel
theorem dX1_gainPart_0 : decode cX1_gainPart 0 = .ok (.aload_n 0, 1) := by decide +kernel
theorem dX1_gainPart_1 : decode cX1_gainPart 1 = .ok (.lload_n 1, 1) := by decide +kernel
theorem dX1_gainPart_2 : decode cX1_gainPart 2 = .ok (.ldc2_w 80, 3) := by decide +kernel
theorem dX1_gainPart_5 : decode cX1_gainPart 5 = .ok (.land, 1) := by decide +kernel
theorem dX1_gainPart_6 : decode cX1_gainPart 6 = .ok (.iload_n 3, 1) := by decide +kernel
theorem dX1_gainPart_7 : decode cX1_gainPart 7 = .ok (.iload 4, 2) := by decide +kernel
theorem dX1_gainPart_9 : decode cX1_gainPart 9 = .ok (.invokevirtual 86, 3) := by decide +kernel
theorem dX1_gainPart_12 : decode cX1_gainPart 12 = .ok (.aload_n 0, 1) := by decide +kernel
theorem dX1_gainPart_13 : decode cX1_gainPart 13 = .ok (.lload_n 1, 1) := by decide +kernel
theorem dX1_gainPart_14 : decode cX1_gainPart 14 = .ok (.bipush 32, 2) := by decide +kernel
theorem dX1_gainPart_16 : decode cX1_gainPart 16 = .ok (.lushr, 1) := by decide +kernel
theorem dX1_gainPart_17 : decode cX1_gainPart 17 = .ok (.iload_n 3, 1) := by decide +kernel
theorem dX1_gainPart_18 : decode cX1_gainPart 18 = .ok (.bipush 32, 2) := by decide +kernel
theorem dX1_gainPart_20 : decode cX1_gainPart 20 = .ok (.iadd, 1) := by decide +kernel
theorem dX1_gainPart_21 : decode cX1_gainPart 21 = .ok (.iload 4, 2) := by decide +kernel
theorem dX1_gainPart_23 : decode cX1_gainPart 23 = .ok (.invokevirtual 86, 3) := by decide +kernel
theorem dX1_gainPart_26 : decode cX1_gainPart 26 = .ok (.return_, 1) := by decide +kernel
theorem dX1_gainHalf_0 : decode cX1_gainHalf 0 = .ok (.iload_n 3, 1) := by decide +kernel
theorem dX1_gainHalf_1 : decode cX1_gainHalf 1 = .ok (.bipush 32, 2) := by decide +kernel
theorem dX1_gainHalf_3 : decode cX1_gainHalf 3 = .ok (.idiv, 1) := by decide +kernel
theorem dX1_gainHalf_4 : decode cX1_gainHalf 4 = .ok (.istore 5, 2) := by decide +kernel
theorem dX1_gainHalf_6 : decode cX1_gainHalf 6 = .ok (.lload_n 1, 1) := by decide +kernel
theorem dX1_gainHalf_7 : decode cX1_gainHalf 7 = .ok (.lconst 0, 1) := by decide +kernel
theorem dX1_gainHalf_8 : decode cX1_gainHalf 8 = .ok (.lcmp, 1) := by decide +kernel
theorem dX1_gainHalf_9 : decode cX1_gainHalf 9 = .ok (.ifCond .eq 15, 3) := by decide +kernel
theorem dX1_gainHalf_12 : decode cX1_gainHalf 12 = .ok (.iload_n 3, 1) := by decide +kernel
theorem dX1_gainHalf_13 : decode cX1_gainHalf 13 = .ok (.ifCond .lt 11, 3) := by decide +kernel
theorem dX1_gainHalf_16 : decode cX1_gainHalf 16 = .ok (.iload 5, 2) := by decide +kernel
theorem dX1_gainHalf_18 : decode cX1_gainHalf 18 = .ok (.sipush 149, 3) := by decide +kernel
theorem dX1_gainHalf_21 : decode cX1_gainHalf 21 = .ok (.if_icmp .lt 4, 3) := by decide +kernel
theorem dX1_gainHalf_24 : decode cX1_gainHalf 24 = .ok (.return_, 1) := by decide +kernel
theorem dX1_gainHalf_25 : decode cX1_gainHalf 25 = .ok (.lload_n 1, 1) := by decide +kernel
theorem dX1_gainHalf_26 : decode cX1_gainHalf 26 = .ok (.iload_n 3, 1) := by decide +kernel
theorem dX1_gainHalf_27 : decode cX1_gainHalf 27 = .ok (.bipush 32, 2) := by decide +kernel
theorem dX1_gainHalf_29 : decode cX1_gainHalf 29 = .ok (.irem, 1) := by decide +kernel
theorem dX1_gainHalf_30 : decode cX1_gainHalf 30 = .ok (.lshl, 1) := by decide +kernel
theorem dX1_gainHalf_31 : decode cX1_gainHalf 31 = .ok (.lstore 6, 2) := by decide +kernel
theorem dX1_gainHalf_33 : decode cX1_gainHalf 33 = .ok (.lload 6, 2) := by decide +kernel
theorem dX1_gainHalf_35 : decode cX1_gainHalf 35 = .ok (.ldc2_w 80, 3) := by decide +kernel
theorem dX1_gainHalf_38 : decode cX1_gainHalf 38 = .ok (.land, 1) := by decide +kernel
theorem dX1_gainHalf_39 : decode cX1_gainHalf 39 = .ok (.lstore 8, 2) := by decide +kernel
theorem dX1_gainHalf_41 : decode cX1_gainHalf 41 = .ok (.lload 6, 2) := by decide +kernel
theorem dX1_gainHalf_43 : decode cX1_gainHalf 43 = .ok (.bipush 32, 2) := by decide +kernel
theorem dX1_gainHalf_45 : decode cX1_gainHalf 45 = .ok (.lushr, 1) := by decide +kernel
theorem dX1_gainHalf_46 : decode cX1_gainHalf 46 = .ok (.lstore 10, 2) := by decide +kernel
theorem dX1_gainHalf_48 : decode cX1_gainHalf 48 = .ok (.aload_n 0, 1) := by decide +kernel
theorem dX1_gainHalf_49 : decode cX1_gainHalf 49 = .ok (.getfield 23, 3) := by decide +kernel
theorem dX1_gainHalf_52 : decode cX1_gainHalf 52 = .ok (.iload 5, 2) := by decide +kernel
theorem dX1_gainHalf_54 : decode cX1_gainHalf 54 = .ok (.dup2, 1) := by decide +kernel
theorem dX1_gainHalf_55 : decode cX1_gainHalf 55 = .ok (.laload, 1) := by decide +kernel
theorem dX1_gainHalf_56 : decode cX1_gainHalf 56 = .ok (.iload 4, 2) := by decide +kernel
theorem dX1_gainHalf_58 : decode cX1_gainHalf 58 = .ok (.ifCond .eq 9, 3) := by decide +kernel
theorem dX1_gainHalf_61 : decode cX1_gainHalf 61 = .ok (.lload 8, 2) := by decide +kernel
theorem dX1_gainHalf_63 : decode cX1_gainHalf 63 = .ok (.lneg, 1) := by decide +kernel
theorem dX1_gainHalf_64 : decode cX1_gainHalf 64 = .ok (.goto 5, 3) := by decide +kernel
theorem dX1_gainHalf_67 : decode cX1_gainHalf 67 = .ok (.lload 8, 2) := by decide +kernel
theorem dX1_gainHalf_69 : decode cX1_gainHalf 69 = .ok (.ladd, 1) := by decide +kernel
theorem dX1_gainHalf_70 : decode cX1_gainHalf 70 = .ok (.lastore, 1) := by decide +kernel
theorem dX1_gainHalf_71 : decode cX1_gainHalf 71 = .ok (.aload_n 0, 1) := by decide +kernel
theorem dX1_gainHalf_72 : decode cX1_gainHalf 72 = .ok (.getfield 23, 3) := by decide +kernel
theorem dX1_gainHalf_75 : decode cX1_gainHalf 75 = .ok (.iload 5, 2) := by decide +kernel
theorem dX1_gainHalf_77 : decode cX1_gainHalf 77 = .ok (.iconst 1, 1) := by decide +kernel
theorem dX1_gainHalf_78 : decode cX1_gainHalf 78 = .ok (.iadd, 1) := by decide +kernel
theorem dX1_gainHalf_79 : decode cX1_gainHalf 79 = .ok (.dup2, 1) := by decide +kernel
theorem dX1_gainHalf_80 : decode cX1_gainHalf 80 = .ok (.laload, 1) := by decide +kernel
theorem dX1_gainHalf_81 : decode cX1_gainHalf 81 = .ok (.iload 4, 2) := by decide +kernel
theorem dX1_gainHalf_83 : decode cX1_gainHalf 83 = .ok (.ifCond .eq 9, 3) := by decide +kernel
theorem dX1_gainHalf_86 : decode cX1_gainHalf 86 = .ok (.lload 10, 2) := by decide +kernel
theorem dX1_gainHalf_88 : decode cX1_gainHalf 88 = .ok (.lneg, 1) := by decide +kernel
theorem dX1_gainHalf_89 : decode cX1_gainHalf 89 = .ok (.goto 5, 3) := by decide +kernel
theorem dX1_gainHalf_92 : decode cX1_gainHalf 92 = .ok (.lload 10, 2) := by decide +kernel
theorem dX1_gainHalf_94 : decode cX1_gainHalf 94 = .ok (.ladd, 1) := by decide +kernel
theorem dX1_gainHalf_95 : decode cX1_gainHalf 95 = .ok (.lastore, 1) := by decide +kernel
theorem dX1_gainHalf_96 : decode cX1_gainHalf 96 = .ok (.return_, 1) := by decide +kernel
theorem dX1_carry_0 : decode cX1_carry 0 = .ok (.lconst 0, 1) := by decide +kernel
theorem dX1_carry_1 : decode cX1_carry 1 = .ok (.lstore_n 1, 1) := by decide +kernel
theorem dX1_carry_2 : decode cX1_carry 2 = .ok (.iconst 0, 1) := by decide +kernel
theorem dX1_carry_3 : decode cX1_carry 3 = .ok (.istore_n 3, 1) := by decide +kernel
theorem dX1_carry_4 : decode cX1_carry 4 = .ok (.iload_n 3, 1) := by decide +kernel
theorem dX1_carry_5 : decode cX1_carry 5 = .ok (.sipush 149, 3) := by decide +kernel
theorem dX1_carry_8 : decode cX1_carry 8 = .ok (.if_icmp .ge 37, 3) := by decide +kernel
theorem dX1_carry_11 : decode cX1_carry 11 = .ok (.aload_n 0, 1) := by decide +kernel
theorem dX1_carry_12 : decode cX1_carry 12 = .ok (.getfield 23, 3) := by decide +kernel
theorem dX1_carry_15 : decode cX1_carry 15 = .ok (.iload_n 3, 1) := by decide +kernel
theorem dX1_carry_16 : decode cX1_carry 16 = .ok (.laload, 1) := by decide +kernel
theorem dX1_carry_17 : decode cX1_carry 17 = .ok (.lload_n 1, 1) := by decide +kernel
theorem dX1_carry_18 : decode cX1_carry 18 = .ok (.ladd, 1) := by decide +kernel
theorem dX1_carry_19 : decode cX1_carry 19 = .ok (.lstore 4, 2) := by decide +kernel
theorem dX1_carry_21 : decode cX1_carry 21 = .ok (.aload_n 0, 1) := by decide +kernel
theorem dX1_carry_22 : decode cX1_carry 22 = .ok (.getfield 23, 3) := by decide +kernel
theorem dX1_carry_25 : decode cX1_carry 25 = .ok (.iload_n 3, 1) := by decide +kernel
theorem dX1_carry_26 : decode cX1_carry 26 = .ok (.lload 4, 2) := by decide +kernel
theorem dX1_carry_28 : decode cX1_carry 28 = .ok (.ldc2_w 80, 3) := by decide +kernel
theorem dX1_carry_31 : decode cX1_carry 31 = .ok (.land, 1) := by decide +kernel
theorem dX1_carry_32 : decode cX1_carry 32 = .ok (.lastore, 1) := by decide +kernel
theorem dX1_carry_33 : decode cX1_carry 33 = .ok (.lload 4, 2) := by decide +kernel
theorem dX1_carry_35 : decode cX1_carry 35 = .ok (.bipush 32, 2) := by decide +kernel
theorem dX1_carry_37 : decode cX1_carry 37 = .ok (.lshr, 1) := by decide +kernel
theorem dX1_carry_38 : decode cX1_carry 38 = .ok (.lstore_n 1, 1) := by decide +kernel
theorem dX1_carry_39 : decode cX1_carry 39 = .ok (.iinc 3 1, 3) := by decide +kernel
theorem dX1_carry_42 : decode cX1_carry 42 = .ok (.goto (-38), 3) := by decide +kernel
theorem dX1_carry_45 : decode cX1_carry 45 = .ok (.aload_n 0, 1) := by decide +kernel
theorem dX1_carry_46 : decode cX1_carry 46 = .ok (.getfield 23, 3) := by decide +kernel
theorem dX1_carry_49 : decode cX1_carry 49 = .ok (.sipush 149, 3) := by decide +kernel
theorem dX1_carry_52 : decode cX1_carry 52 = .ok (.dup2, 1) := by decide +kernel
theorem dX1_carry_53 : decode cX1_carry 53 = .ok (.laload, 1) := by decide +kernel
theorem dX1_carry_54 : decode cX1_carry 54 = .ok (.lload_n 1, 1) := by decide +kernel
theorem dX1_carry_55 : decode cX1_carry 55 = .ok (.ladd, 1) := by decide +kernel
theorem dX1_carry_56 : decode cX1_carry 56 = .ok (.lastore, 1) := by decide +kernel
theorem dX1_carry_57 : decode cX1_carry 57 = .ok (.return_, 1) := by decide +kernel
theorem dX2_init_0 : decode cX2_init 0 = .ok (.aload_n 0, 1) := by decide +kernel
theorem dX2_init_1 : decode cX2_init 1 = .ok (.invokespecial 3, 3) := by decide +kernel
theorem dX2_init_4 : decode cX2_init 4 = .ok (.aload_n 0, 1) := by decide +kernel
theorem dX2_init_5 : decode cX2_init 5 = .ok (.iconst 0, 1) := by decide +kernel
theorem dX2_init_6 : decode cX2_init 6 = .ok (.putfield 9, 3) := by decide +kernel
theorem dX2_init_9 : decode cX2_init 9 = .ok (.aload_n 0, 1) := by decide +kernel
theorem dX2_init_10 : decode cX2_init 10 = .ok (.iconst 0, 1) := by decide +kernel
theorem dX2_init_11 : decode cX2_init 11 = .ok (.putfield 15, 3) := by decide +kernel
theorem dX2_init_14 : decode cX2_init 14 = .ok (.aload_n 0, 1) := by decide +kernel
theorem dX2_init_15 : decode cX2_init 15 = .ok (.iconst 0, 1) := by decide +kernel
theorem dX2_init_16 : decode cX2_init 16 = .ok (.putfield 19, 3) := by decide +kernel
theorem dX2_init_19 : decode cX2_init 19 = .ok (.aload_n 0, 1) := by decide +kernel
theorem dX2_init_20 : decode cX2_init 20 = .ok (.bipush 40, 2) := by decide +kernel
theorem dX2_init_22 : decode cX2_init 22 = .ok (.newarray .long, 2) := by decide +kernel
theorem dX2_init_24 : decode cX2_init 24 = .ok (.putfield 22, 3) := by decide +kernel
theorem dX2_init_27 : decode cX2_init 27 = .ok (.aload_n 0, 1) := by decide +kernel
theorem dX2_init_28 : decode cX2_init 28 = .ok (.bipush 40, 2) := by decide +kernel
theorem dX2_init_30 : decode cX2_init 30 = .ok (.newarray .int, 2) := by decide +kernel
theorem dX2_init_32 : decode cX2_init 32 = .ok (.putfield 26, 3) := by decide +kernel
theorem dX2_init_35 : decode cX2_init 35 = .ok (.aload_n 0, 1) := by decide +kernel
theorem dX2_init_36 : decode cX2_init 36 = .ok (.bipush 40, 2) := by decide +kernel
theorem dX2_init_38 : decode cX2_init 38 = .ok (.newarray .int, 2) := by decide +kernel
theorem dX2_init_40 : decode cX2_init 40 = .ok (.putfield 30, 3) := by decide +kernel
theorem dX2_init_43 : decode cX2_init 43 = .ok (.return_, 1) := by decide +kernel
theorem dX2_renew_0 : decode cX2_renew 0 = .ok (.aload_n 0, 1) := by decide +kernel
theorem dX2_renew_1 : decode cX2_renew 1 = .ok (.iconst 1, 1) := by decide +kernel
theorem dX2_renew_2 : decode cX2_renew 2 = .ok (.putfield 9, 3) := by decide +kernel
theorem dX2_renew_5 : decode cX2_renew 5 = .ok (.aload_n 0, 1) := by decide +kernel
theorem dX2_renew_6 : decode cX2_renew 6 = .ok (.iload_n 1, 1) := by decide +kernel
theorem dX2_renew_7 : decode cX2_renew 7 = .ok (.putfield 15, 3) := by decide +kernel
theorem dX2_renew_10 : decode cX2_renew 10 = .ok (.aload_n 0, 1) := by decide +kernel
theorem dX2_renew_11 : decode cX2_renew 11 = .ok (.iload_n 2, 1) := by decide +kernel
theorem dX2_renew_12 : decode cX2_renew 12 = .ok (.putfield 19, 3) := by decide +kernel
theorem dX2_renew_15 : decode cX2_renew 15 = .ok (.aload_n 0, 1) := by decide +kernel
theorem dX2_renew_16 : decode cX2_renew 16 = .ok (.getfield 22, 3) := by decide +kernel
theorem dX2_renew_19 : decode cX2_renew 19 = .ok (.lconst 0, 1) := by decide +kernel
theorem dX2_renew_20 : decode cX2_renew 20 = .ok (.invokestatic 33, 3) := by decide +kernel
theorem dX2_renew_23 : decode cX2_renew 23 = .ok (.aload_n 0, 1) := by decide +kernel
theorem dX2_renew_24 : decode cX2_renew 24 = .ok (.getfield 26, 3) := by decide +kernel
theorem dX2_renew_27 : decode cX2_renew 27 = .ok (.iconst 0, 1) := by decide +kernel
theorem dX2_renew_28 : decode cX2_renew 28 = .ok (.invokestatic 39, 3) := by decide +kernel
theorem dX2_renew_31 : decode cX2_renew 31 = .ok (.aload_n 0, 1) := by decide +kernel
theorem dX2_renew_32 : decode cX2_renew 32 = .ok (.getfield 30, 3) := by decide +kernel
theorem dX2_renew_35 : decode cX2_renew 35 = .ok (.iconst 0, 1) := by decide +kernel
theorem dX2_renew_36 : decode cX2_renew 36 = .ok (.invokestatic 39, 3) := by decide +kernel
theorem dX2_renew_39 : decode cX2_renew 39 = .ok (.return_, 1) := by decide +kernel
theorem dX2_isFloating_0 : decode cX2_isFloating 0 = .ok (.aload_n 0, 1) := by decide +kernel
theorem dX2_isFloating_1 : decode cX2_isFloating 1 = .ok (.getfield 15, 3) := by decide +kernel
theorem dX2_isFloating_4 : decode cX2_isFloating 4 = .ok (.iconst 4, 1) := by decide +kernel
theorem dX2_isFloating_5 : decode cX2_isFloating 5 = .ok (.if_icmp .eq 11, 3) := by decide +kernel
theorem dX2_isFloating_8 : decode cX2_isFloating 8 = .ok (.aload_n 0, 1) := by decide +kernel
theorem dX2_isFloating_9 : decode cX2_isFloating 9 = .ok (.getfield 15, 3) := by decide +kernel
theorem dX2_isFloating_12 : decode cX2_isFloating 12 = .ok (.iconst 5, 1) := by decide +kernel
theorem dX2_isFloating_13 : decode cX2_isFloating 13 = .ok (.if_icmp .ne 7, 3) := by decide +kernel
theorem dX2_isFloating_16 : decode cX2_isFloating 16 = .ok (.iconst 1, 1) := by decide +kernel
theorem dX2_isFloating_17 : decode cX2_isFloating 17 = .ok (.goto 4, 3) := by decide +kernel
theorem dX2_isFloating_20 : decode cX2_isFloating 20 = .ok (.iconst 0, 1) := by decide +kernel
theorem dX2_isFloating_21 : decode cX2_isFloating 21 = .ok (.ireturn, 1) := by decide +kernel
theorem dX2_has_0 : decode cX2_has 0 = .ok (.iload_n 1, 1) := by decide +kernel
theorem dX2_has_1 : decode cX2_has 1 = .ok (.ifCond .lt 17, 3) := by decide +kernel
theorem dX2_has_4 : decode cX2_has 4 = .ok (.iload_n 1, 1) := by decide +kernel
theorem dX2_has_5 : decode cX2_has 5 = .ok (.aload_n 0, 1) := by decide +kernel
theorem dX2_has_6 : decode cX2_has 6 = .ok (.getfield 19, 3) := by decide +kernel
theorem dX2_has_9 : decode cX2_has 9 = .ok (.iload_n 2, 1) := by decide +kernel
theorem dX2_has_10 : decode cX2_has 10 = .ok (.isub, 1) := by decide +kernel
theorem dX2_has_11 : decode cX2_has 11 = .ok (.if_icmp .gt 7, 3) := by decide +kernel
theorem dX2_has_14 : decode cX2_has 14 = .ok (.iconst 1, 1) := by decide +kernel
theorem dX2_has_15 : decode cX2_has 15 = .ok (.goto 4, 3) := by decide +kernel
theorem dX2_has_18 : decode cX2_has 18 = .ok (.iconst 0, 1) := by decide +kernel
theorem dX2_has_19 : decode cX2_has 19 = .ok (.ireturn, 1) := by decide +kernel
theorem dX2_sortAt_0 : decode cX2_sortAt 0 = .ok (.aload_n 0, 1) := by decide +kernel
theorem dX2_sortAt_1 : decode cX2_sortAt 1 = .ok (.getfield 30, 3) := by decide +kernel
theorem dX2_sortAt_4 : decode cX2_sortAt 4 = .ok (.iload_n 1, 1) := by decide +kernel
theorem dX2_sortAt_5 : decode cX2_sortAt 5 = .ok (.iaload, 1) := by decide +kernel
theorem dX2_sortAt_6 : decode cX2_sortAt 6 = .ok (.iconst 4, 1) := by decide +kernel
theorem dX2_sortAt_7 : decode cX2_sortAt 7 = .ok (.if_icmp .ne 7, 3) := by decide +kernel
theorem dX2_sortAt_10 : decode cX2_sortAt 10 = .ok (.iconst 0, 1) := by decide +kernel
theorem dX2_sortAt_11 : decode cX2_sortAt 11 = .ok (.goto 9, 3) := by decide +kernel
theorem dX2_sortAt_14 : decode cX2_sortAt 14 = .ok (.aload_n 0, 1) := by decide +kernel
theorem dX2_sortAt_15 : decode cX2_sortAt 15 = .ok (.getfield 30, 3) := by decide +kernel
theorem dX2_sortAt_18 : decode cX2_sortAt 18 = .ok (.iload_n 1, 1) := by decide +kernel
theorem dX2_sortAt_19 : decode cX2_sortAt 19 = .ok (.iaload, 1) := by decide +kernel
theorem dX2_sortAt_20 : decode cX2_sortAt 20 = .ok (.ireturn, 1) := by decide +kernel
theorem dX2_asDouble_0 : decode cX2_asDouble 0 = .ok (.aload_n 0, 1) := by decide +kernel
theorem dX2_asDouble_1 : decode cX2_asDouble 1 = .ok (.getfield 30, 3) := by decide +kernel
theorem dX2_asDouble_4 : decode cX2_asDouble 4 = .ok (.iload_n 1, 1) := by decide +kernel
theorem dX2_asDouble_5 : decode cX2_asDouble 5 = .ok (.iaload, 1) := by decide +kernel
theorem dX2_asDouble_6 : decode cX2_asDouble 6 = .ok (.tableswitch 45 1 4 #[30, 34, 43, 39], 30) := by decide +kernel
theorem dX2_asDouble_36 : decode cX2_asDouble 36 = .ok (.invokestatic 42, 3) := by decide +kernel
theorem dX2_asDouble_39 : decode cX2_asDouble 39 = .ok (.dreturn, 1) := by decide +kernel
theorem dX2_asDouble_40 : decode cX2_asDouble 40 = .ok (.invokestatic 42, 3) := by decide +kernel
theorem dX2_asDouble_43 : decode cX2_asDouble 43 = .ok (.dneg, 1) := by decide +kernel
theorem dX2_asDouble_44 : decode cX2_asDouble 44 = .ok (.dreturn, 1) := by decide +kernel
theorem dX2_asDouble_45 : decode cX2_asDouble 45 = .ok (.ldc2_w 46, 3) := by decide +kernel
theorem dX2_asDouble_48 : decode cX2_asDouble 48 = .ok (.dreturn, 1) := by decide +kernel
theorem dX2_asDouble_49 : decode cX2_asDouble 49 = .ok (.dconst 0, 1) := by decide +kernel
theorem dX2_asDouble_50 : decode cX2_asDouble 50 = .ok (.dreturn, 1) := by decide +kernel
theorem dX2_asDouble_51 : decode cX2_asDouble 51 = .ok (.aload_n 0, 1) := by decide +kernel
theorem dX2_asDouble_52 : decode cX2_asDouble 52 = .ok (.getfield 22, 3) := by decide +kernel
theorem dX2_asDouble_55 : decode cX2_asDouble 55 = .ok (.iload_n 1, 1) := by decide +kernel
theorem dX2_asDouble_56 : decode cX2_asDouble 56 = .ok (.laload, 1) := by decide +kernel
theorem dX2_asDouble_57 : decode cX2_asDouble 57 = .ok (.l2d, 1) := by decide +kernel
theorem dX2_asDouble_58 : decode cX2_asDouble 58 = .ok (.aload_n 0, 1) := by decide +kernel
theorem dX2_asDouble_59 : decode cX2_asDouble 59 = .ok (.getfield 26, 3) := by decide +kernel
theorem dX2_asDouble_62 : decode cX2_asDouble 62 = .ok (.iload_n 1, 1) := by decide +kernel
theorem dX2_asDouble_63 : decode cX2_asDouble 63 = .ok (.iaload, 1) := by decide +kernel
theorem dX2_asDouble_64 : decode cX2_asDouble 64 = .ok (.invokestatic 48, 3) := by decide +kernel
theorem dX2_asDouble_67 : decode cX2_asDouble 67 = .ok (.dmul, 1) := by decide +kernel
theorem dX2_asDouble_68 : decode cX2_asDouble 68 = .ok (.dreturn, 1) := by decide +kernel
theorem dX2_write_0 : decode cX2_write 0 = .ok (.aload_n 0, 1) := by decide +kernel
theorem dX2_write_1 : decode cX2_write 1 = .ok (.getfield 15, 3) := by decide +kernel
theorem dX2_write_4 : decode cX2_write 4 = .ok (.tableswitch 95 0 4 #[36, 49, 62, 74, 84], 36) := by decide +kernel
theorem dX2_write_40 : decode cX2_write 40 = .ok (.aload_n 0, 1) := by decide +kernel
theorem dX2_write_41 : decode cX2_write 41 = .ok (.iload_n 1, 1) := by decide +kernel
theorem dX2_write_42 : decode cX2_write 42 = .ok (.lload_n 2, 1) := by decide +kernel
theorem dX2_write_43 : decode cX2_write 43 = .ok (.l2i, 1) := by decide +kernel
theorem dX2_write_44 : decode cX2_write 44 = .ok (.i2b, 1) := by decide +kernel
theorem dX2_write_45 : decode cX2_write 45 = .ok (.i2l, 1) := by decide +kernel
theorem dX2_write_46 : decode cX2_write 46 = .ok (.iconst 0, 1) := by decide +kernel
theorem dX2_write_47 : decode cX2_write 47 = .ok (.invokevirtual 52, 3) := by decide +kernel
theorem dX2_write_50 : decode cX2_write 50 = .ok (.goto 57, 3) := by decide +kernel
theorem dX2_write_53 : decode cX2_write 53 = .ok (.aload_n 0, 1) := by decide +kernel
theorem dX2_write_54 : decode cX2_write 54 = .ok (.iload_n 1, 1) := by decide +kernel
theorem dX2_write_55 : decode cX2_write 55 = .ok (.lload_n 2, 1) := by decide +kernel
theorem dX2_write_56 : decode cX2_write 56 = .ok (.l2i, 1) := by decide +kernel
theorem dX2_write_57 : decode cX2_write 57 = .ok (.i2s, 1) := by decide +kernel
theorem dX2_write_58 : decode cX2_write 58 = .ok (.i2l, 1) := by decide +kernel
theorem dX2_write_59 : decode cX2_write 59 = .ok (.iconst 0, 1) := by decide +kernel
theorem dX2_write_60 : decode cX2_write 60 = .ok (.invokevirtual 52, 3) := by decide +kernel
theorem dX2_write_63 : decode cX2_write 63 = .ok (.goto 44, 3) := by decide +kernel
theorem dX2_write_66 : decode cX2_write 66 = .ok (.aload_n 0, 1) := by decide +kernel
theorem dX2_write_67 : decode cX2_write 67 = .ok (.iload_n 1, 1) := by decide +kernel
theorem dX2_write_68 : decode cX2_write 68 = .ok (.lload_n 2, 1) := by decide +kernel
theorem dX2_write_69 : decode cX2_write 69 = .ok (.l2i, 1) := by decide +kernel
theorem dX2_write_70 : decode cX2_write 70 = .ok (.i2l, 1) := by decide +kernel
theorem dX2_write_71 : decode cX2_write 71 = .ok (.iconst 0, 1) := by decide +kernel
theorem dX2_write_72 : decode cX2_write 72 = .ok (.invokevirtual 52, 3) := by decide +kernel
theorem dX2_write_75 : decode cX2_write 75 = .ok (.goto 32, 3) := by decide +kernel
theorem dX2_write_78 : decode cX2_write 78 = .ok (.aload_n 0, 1) := by decide +kernel
theorem dX2_write_79 : decode cX2_write 79 = .ok (.iload_n 1, 1) := by decide +kernel
theorem dX2_write_80 : decode cX2_write 80 = .ok (.lload_n 2, 1) := by decide +kernel
theorem dX2_write_81 : decode cX2_write 81 = .ok (.iconst 0, 1) := by decide +kernel
theorem dX2_write_82 : decode cX2_write 82 = .ok (.invokevirtual 52, 3) := by decide +kernel
theorem dX2_write_85 : decode cX2_write 85 = .ok (.goto 22, 3) := by decide +kernel
theorem dX2_write_88 : decode cX2_write 88 = .ok (.aload_n 0, 1) := by decide +kernel
theorem dX2_write_89 : decode cX2_write 89 = .ok (.iload_n 1, 1) := by decide +kernel
theorem dX2_write_90 : decode cX2_write 90 = .ok (.lload_n 2, 1) := by decide +kernel
theorem dX2_write_91 : decode cX2_write 91 = .ok (.iload 4, 2) := by decide +kernel
theorem dX2_write_93 : decode cX2_write 93 = .ok (.invokevirtual 56, 3) := by decide +kernel
theorem dX2_write_96 : decode cX2_write 96 = .ok (.goto 11, 3) := by decide +kernel
theorem dX2_write_99 : decode cX2_write 99 = .ok (.aload_n 0, 1) := by decide +kernel
theorem dX2_write_100 : decode cX2_write 100 = .ok (.iload_n 1, 1) := by decide +kernel
theorem dX2_write_101 : decode cX2_write 101 = .ok (.lload_n 2, 1) := by decide +kernel
theorem dX2_write_102 : decode cX2_write 102 = .ok (.iload 4, 2) := by decide +kernel
theorem dX2_write_104 : decode cX2_write 104 = .ok (.invokevirtual 52, 3) := by decide +kernel
theorem dX2_write_107 : decode cX2_write 107 = .ok (.return_, 1) := by decide +kernel
theorem dX2_writeMark_0 : decode cX2_writeMark 0 = .ok (.aload_n 0, 1) := by decide +kernel
theorem dX2_writeMark_1 : decode cX2_writeMark 1 = .ok (.getfield 15, 3) := by decide +kernel
theorem dX2_writeMark_4 : decode cX2_writeMark 4 = .ok (.iconst 4, 1) := by decide +kernel
theorem dX2_writeMark_5 : decode cX2_writeMark 5 = .ok (.if_icmp .ne 7, 3) := by decide +kernel
theorem dX2_writeMark_8 : decode cX2_writeMark 8 = .ok (.iconst 1, 1) := by decide +kernel
theorem dX2_writeMark_9 : decode cX2_writeMark 9 = .ok (.goto 4, 3) := by decide +kernel
theorem dX2_writeMark_12 : decode cX2_writeMark 12 = .ok (.iconst 0, 1) := by decide +kernel
theorem dX2_writeMark_13 : decode cX2_writeMark 13 = .ok (.istore_n 3, 1) := by decide +kernel
theorem dX2_writeMark_14 : decode cX2_writeMark 14 = .ok (.iload_n 2, 1) := by decide +kernel
theorem dX2_writeMark_15 : decode cX2_writeMark 15 = .ok (.tableswitch 108 0 4 #[33, 42, 51, 60, 69], 33) := by decide +kernel
theorem dX2_writeMark_48 : decode cX2_writeMark 48 = .ok (.aload_n 0, 1) := by decide +kernel
theorem dX2_writeMark_49 : decode cX2_writeMark 49 = .ok (.iload_n 1, 1) := by decide +kernel
theorem dX2_writeMark_50 : decode cX2_writeMark 50 = .ok (.iconst 1, 1) := by decide +kernel
theorem dX2_writeMark_51 : decode cX2_writeMark 51 = .ok (.invokevirtual 59, 3) := by decide +kernel
theorem dX2_writeMark_54 : decode cX2_writeMark 54 = .ok (.goto 88, 3) := by decide +kernel
theorem dX2_writeMark_57 : decode cX2_writeMark 57 = .ok (.aload_n 0, 1) := by decide +kernel
theorem dX2_writeMark_58 : decode cX2_writeMark 58 = .ok (.iload_n 1, 1) := by decide +kernel
theorem dX2_writeMark_59 : decode cX2_writeMark 59 = .ok (.iconst 2, 1) := by decide +kernel
theorem dX2_writeMark_60 : decode cX2_writeMark 60 = .ok (.invokevirtual 59, 3) := by decide +kernel
theorem dX2_writeMark_63 : decode cX2_writeMark 63 = .ok (.goto 79, 3) := by decide +kernel
theorem dX2_writeMark_66 : decode cX2_writeMark 66 = .ok (.aload_n 0, 1) := by decide +kernel
theorem dX2_writeMark_67 : decode cX2_writeMark 67 = .ok (.iload_n 1, 1) := by decide +kernel
theorem dX2_writeMark_68 : decode cX2_writeMark 68 = .ok (.iconst 3, 1) := by decide +kernel
theorem dX2_writeMark_69 : decode cX2_writeMark 69 = .ok (.invokevirtual 59, 3) := by decide +kernel
theorem dX2_writeMark_72 : decode cX2_writeMark 72 = .ok (.goto 70, 3) := by decide +kernel
theorem dX2_writeMark_75 : decode cX2_writeMark 75 = .ok (.aload_n 0, 1) := by decide +kernel
theorem dX2_writeMark_76 : decode cX2_writeMark 76 = .ok (.iload_n 1, 1) := by decide +kernel
theorem dX2_writeMark_77 : decode cX2_writeMark 77 = .ok (.iconst 4, 1) := by decide +kernel
theorem dX2_writeMark_78 : decode cX2_writeMark 78 = .ok (.invokevirtual 59, 3) := by decide +kernel
theorem dX2_writeMark_81 : decode cX2_writeMark 81 = .ok (.goto 61, 3) := by decide +kernel
theorem dX2_writeMark_84 : decode cX2_writeMark 84 = .ok (.lconst 1, 1) := by decide +kernel
theorem dX2_writeMark_85 : decode cX2_writeMark 85 = .ok (.iload_n 3, 1) := by decide +kernel
theorem dX2_writeMark_86 : decode cX2_writeMark 86 = .ok (.ifCond .eq 8, 3) := by decide +kernel
theorem dX2_writeMark_89 : decode cX2_writeMark 89 = .ok (.bipush 24, 2) := by decide +kernel
theorem dX2_writeMark_91 : decode cX2_writeMark 91 = .ok (.goto 5, 3) := by decide +kernel
theorem dX2_writeMark_94 : decode cX2_writeMark 94 = .ok (.bipush 53, 2) := by decide +kernel
theorem dX2_writeMark_96 : decode cX2_writeMark 96 = .ok (.lshl, 1) := by decide +kernel
theorem dX2_writeMark_97 : decode cX2_writeMark 97 = .ok (.lconst 1, 1) := by decide +kernel
theorem dX2_writeMark_98 : decode cX2_writeMark 98 = .ok (.lsub, 1) := by decide +kernel
theorem dX2_writeMark_99 : decode cX2_writeMark 99 = .ok (.lstore 4, 2) := by decide +kernel
theorem dX2_writeMark_101 : decode cX2_writeMark 101 = .ok (.aload_n 0, 1) := by decide +kernel
theorem dX2_writeMark_102 : decode cX2_writeMark 102 = .ok (.iload_n 1, 1) := by decide +kernel
theorem dX2_writeMark_103 : decode cX2_writeMark 103 = .ok (.lload 4, 2) := by decide +kernel
theorem dX2_writeMark_105 : decode cX2_writeMark 105 = .ok (.iload_n 3, 1) := by decide +kernel
theorem dX2_writeMark_106 : decode cX2_writeMark 106 = .ok (.ifCond .eq 8, 3) := by decide +kernel
theorem dX2_writeMark_109 : decode cX2_writeMark 109 = .ok (.bipush 104, 2) := by decide +kernel
theorem dX2_writeMark_111 : decode cX2_writeMark 111 = .ok (.goto 6, 3) := by decide +kernel
theorem dX2_writeMark_114 : decode cX2_writeMark 114 = .ok (.sipush 971, 3) := by decide +kernel
theorem dX2_writeMark_117 : decode cX2_writeMark 117 = .ok (.invokevirtual 52, 3) := by decide +kernel
theorem dX2_writeMark_120 : decode cX2_writeMark 120 = .ok (.goto 22, 3) := by decide +kernel
theorem dX2_writeMark_123 : decode cX2_writeMark 123 = .ok (.aload_n 0, 1) := by decide +kernel
theorem dX2_writeMark_124 : decode cX2_writeMark 124 = .ok (.iload_n 1, 1) := by decide +kernel
theorem dX2_writeMark_125 : decode cX2_writeMark 125 = .ok (.lconst 1, 1) := by decide +kernel
theorem dX2_writeMark_126 : decode cX2_writeMark 126 = .ok (.iload_n 3, 1) := by decide +kernel
theorem dX2_writeMark_127 : decode cX2_writeMark 127 = .ok (.ifCond .eq 9, 3) := by decide +kernel
theorem dX2_writeMark_130 : decode cX2_writeMark 130 = .ok (.sipush (-149), 3) := by decide +kernel
theorem dX2_writeMark_133 : decode cX2_writeMark 133 = .ok (.goto 6, 3) := by decide +kernel
theorem dX2_writeMark_136 : decode cX2_writeMark 136 = .ok (.sipush (-1074), 3) := by decide +kernel
theorem dX2_writeMark_139 : decode cX2_writeMark 139 = .ok (.invokevirtual 52, 3) := by decide +kernel
theorem dX2_writeMark_142 : decode cX2_writeMark 142 = .ok (.return_, 1) := by decide +kernel
theorem dX2_writeAll_0 : decode cX2_writeAll 0 = .ok (.aload_n 1, 1) := by decide +kernel
theorem dX2_writeAll_1 : decode cX2_writeAll 1 = .ok (.getfield 22, 3) := by decide +kernel
theorem dX2_writeAll_4 : decode cX2_writeAll 4 = .ok (.iload_n 2, 1) := by decide +kernel
theorem dX2_writeAll_5 : decode cX2_writeAll 5 = .ok (.aload_n 0, 1) := by decide +kernel
theorem dX2_writeAll_6 : decode cX2_writeAll 6 = .ok (.getfield 22, 3) := by decide +kernel
theorem dX2_writeAll_9 : decode cX2_writeAll 9 = .ok (.iload_n 3, 1) := by decide +kernel
theorem dX2_writeAll_10 : decode cX2_writeAll 10 = .ok (.iload 4, 2) := by decide +kernel
theorem dX2_writeAll_12 : decode cX2_writeAll 12 = .ok (.invokestatic 63, 3) := by decide +kernel
theorem dX2_writeAll_15 : decode cX2_writeAll 15 = .ok (.aload_n 1, 1) := by decide +kernel
theorem dX2_writeAll_16 : decode cX2_writeAll 16 = .ok (.getfield 26, 3) := by decide +kernel
theorem dX2_writeAll_19 : decode cX2_writeAll 19 = .ok (.iload_n 2, 1) := by decide +kernel
theorem dX2_writeAll_20 : decode cX2_writeAll 20 = .ok (.aload_n 0, 1) := by decide +kernel
theorem dX2_writeAll_21 : decode cX2_writeAll 21 = .ok (.getfield 26, 3) := by decide +kernel
theorem dX2_writeAll_24 : decode cX2_writeAll 24 = .ok (.iload_n 3, 1) := by decide +kernel
theorem dX2_writeAll_25 : decode cX2_writeAll 25 = .ok (.iload 4, 2) := by decide +kernel
theorem dX2_writeAll_27 : decode cX2_writeAll 27 = .ok (.invokestatic 63, 3) := by decide +kernel
theorem dX2_writeAll_30 : decode cX2_writeAll 30 = .ok (.aload_n 1, 1) := by decide +kernel
theorem dX2_writeAll_31 : decode cX2_writeAll 31 = .ok (.getfield 30, 3) := by decide +kernel
theorem dX2_writeAll_34 : decode cX2_writeAll 34 = .ok (.iload_n 2, 1) := by decide +kernel
theorem dX2_writeAll_35 : decode cX2_writeAll 35 = .ok (.aload_n 0, 1) := by decide +kernel
theorem dX2_writeAll_36 : decode cX2_writeAll 36 = .ok (.getfield 30, 3) := by decide +kernel
theorem dX2_writeAll_39 : decode cX2_writeAll 39 = .ok (.iload_n 3, 1) := by decide +kernel
theorem dX2_writeAll_40 : decode cX2_writeAll 40 = .ok (.iload 4, 2) := by decide +kernel
theorem dX2_writeAll_42 : decode cX2_writeAll 42 = .ok (.invokestatic 63, 3) := by decide +kernel
theorem dX2_writeAll_45 : decode cX2_writeAll 45 = .ok (.return_, 1) := by decide +kernel
theorem dX2_writeDouble_0 : decode cX2_writeDouble 0 = .ok (.dload_n 2, 1) := by decide +kernel
theorem dX2_writeDouble_1 : decode cX2_writeDouble 1 = .ok (.dconst 0, 1) := by decide +kernel
theorem dX2_writeDouble_2 : decode cX2_writeDouble 2 = .ok (.dcmp .g, 1) := by decide +kernel
theorem dX2_writeDouble_3 : decode cX2_writeDouble 3 = .ok (.ifCond .ge 8, 3) := by decide +kernel
theorem dX2_writeDouble_6 : decode cX2_writeDouble 6 = .ok (.dload_n 2, 1) := by decide +kernel
theorem dX2_writeDouble_7 : decode cX2_writeDouble 7 = .ok (.dneg, 1) := by decide +kernel
theorem dX2_writeDouble_8 : decode cX2_writeDouble 8 = .ok (.goto 4, 3) := by decide +kernel
theorem dX2_writeDouble_11 : decode cX2_writeDouble 11 = .ok (.dload_n 2, 1) := by decide +kernel
theorem dX2_writeDouble_12 : decode cX2_writeDouble 12 = .ok (.dstore 4, 2) := by decide +kernel
theorem dX2_writeDouble_14 : decode cX2_writeDouble 14 = .ok (.dload 4, 2) := by decide +kernel
theorem dX2_writeDouble_16 : decode cX2_writeDouble 16 = .ok (.iconst 0, 1) := by decide +kernel
theorem dX2_writeDouble_17 : decode cX2_writeDouble 17 = .ok (.invokestatic 69, 3) := by decide +kernel
theorem dX2_writeDouble_20 : decode cX2_writeDouble 20 = .ok (.dcmp .l, 1) := by decide +kernel
theorem dX2_writeDouble_21 : decode cX2_writeDouble 21 = .ok (.ifCond .le 20, 3) := by decide +kernel
theorem dX2_writeDouble_24 : decode cX2_writeDouble 24 = .ok (.aload_n 0, 1) := by decide +kernel
theorem dX2_writeDouble_25 : decode cX2_writeDouble 25 = .ok (.iload_n 1, 1) := by decide +kernel
theorem dX2_writeDouble_26 : decode cX2_writeDouble 26 = .ok (.dload_n 2, 1) := by decide +kernel
theorem dX2_writeDouble_27 : decode cX2_writeDouble 27 = .ok (.dconst 0, 1) := by decide +kernel
theorem dX2_writeDouble_28 : decode cX2_writeDouble 28 = .ok (.dcmp .g, 1) := by decide +kernel
theorem dX2_writeDouble_29 : decode cX2_writeDouble 29 = .ok (.ifCond .ge 7, 3) := by decide +kernel
theorem dX2_writeDouble_32 : decode cX2_writeDouble 32 = .ok (.iconst 2, 1) := by decide +kernel
theorem dX2_writeDouble_33 : decode cX2_writeDouble 33 = .ok (.goto 4, 3) := by decide +kernel
theorem dX2_writeDouble_36 : decode cX2_writeDouble 36 = .ok (.iconst 1, 1) := by decide +kernel
theorem dX2_writeDouble_37 : decode cX2_writeDouble 37 = .ok (.invokevirtual 59, 3) := by decide +kernel
theorem dX2_writeDouble_40 : decode cX2_writeDouble 40 = .ok (.return_, 1) := by decide +kernel
theorem dX2_writeDouble_41 : decode cX2_writeDouble 41 = .ok (.dload 4, 2) := by decide +kernel
theorem dX2_writeDouble_43 : decode cX2_writeDouble 43 = .ok (.dconst 0, 1) := by decide +kernel
theorem dX2_writeDouble_44 : decode cX2_writeDouble 44 = .ok (.dcmp .l, 1) := by decide +kernel
theorem dX2_writeDouble_45 : decode cX2_writeDouble 45 = .ok (.ifCond .ne 11, 3) := by decide +kernel
theorem dX2_writeDouble_48 : decode cX2_writeDouble 48 = .ok (.aload_n 0, 1) := by decide +kernel
theorem dX2_writeDouble_49 : decode cX2_writeDouble 49 = .ok (.iload_n 1, 1) := by decide +kernel
theorem dX2_writeDouble_50 : decode cX2_writeDouble 50 = .ok (.lconst 0, 1) := by decide +kernel
theorem dX2_writeDouble_51 : decode cX2_writeDouble 51 = .ok (.iconst 0, 1) := by decide +kernel
theorem dX2_writeDouble_52 : decode cX2_writeDouble 52 = .ok (.invokevirtual 52, 3) := by decide +kernel
theorem dX2_writeDouble_55 : decode cX2_writeDouble 55 = .ok (.return_, 1) := by decide +kernel
theorem dX2_writeDouble_56 : decode cX2_writeDouble 56 = .ok (.dload 4, 2) := by decide +kernel
theorem dX2_writeDouble_58 : decode cX2_writeDouble 58 = .ok (.invokestatic 73, 3) := by decide +kernel
theorem dX2_writeDouble_61 : decode cX2_writeDouble 61 = .ok (.bipush 53, 2) := by decide +kernel
theorem dX2_writeDouble_63 : decode cX2_writeDouble 63 = .ok (.isub, 1) := by decide +kernel
theorem dX2_writeDouble_64 : decode cX2_writeDouble 64 = .ok (.iconst 1, 1) := by decide +kernel
theorem dX2_writeDouble_65 : decode cX2_writeDouble 65 = .ok (.iadd, 1) := by decide +kernel
theorem dX2_writeDouble_66 : decode cX2_writeDouble 66 = .ok (.sipush (-1074), 3) := by decide +kernel
theorem dX2_writeDouble_69 : decode cX2_writeDouble 69 = .ok (.invokestatic 77, 3) := by decide +kernel
theorem dX2_writeDouble_72 : decode cX2_writeDouble 72 = .ok (.istore 6, 2) := by decide +kernel
theorem dX2_writeDouble_74 : decode cX2_writeDouble 74 = .ok (.dload 4, 2) := by decide +kernel
theorem dX2_writeDouble_76 : decode cX2_writeDouble 76 = .ok (.iload 6, 2) := by decide +kernel
theorem dX2_writeDouble_78 : decode cX2_writeDouble 78 = .ok (.invokestatic 48, 3) := by decide +kernel
theorem dX2_writeDouble_81 : decode cX2_writeDouble 81 = .ok (.ddiv, 1) := by decide +kernel
theorem dX2_writeDouble_82 : decode cX2_writeDouble 82 = .ok (.d2l, 1) := by decide +kernel
theorem dX2_writeDouble_83 : decode cX2_writeDouble 83 = .ok (.lstore 7, 2) := by decide +kernel
theorem dX2_writeDouble_85 : decode cX2_writeDouble 85 = .ok (.aload_n 0, 1) := by decide +kernel
theorem dX2_writeDouble_86 : decode cX2_writeDouble 86 = .ok (.iload_n 1, 1) := by decide +kernel
theorem dX2_writeDouble_87 : decode cX2_writeDouble 87 = .ok (.dload_n 2, 1) := by decide +kernel
theorem dX2_writeDouble_88 : decode cX2_writeDouble 88 = .ok (.dconst 0, 1) := by decide +kernel
theorem dX2_writeDouble_89 : decode cX2_writeDouble 89 = .ok (.dcmp .g, 1) := by decide +kernel
theorem dX2_writeDouble_90 : decode cX2_writeDouble 90 = .ok (.ifCond .ge 9, 3) := by decide +kernel
theorem dX2_writeDouble_93 : decode cX2_writeDouble 93 = .ok (.lload 7, 2) := by decide +kernel
theorem dX2_writeDouble_95 : decode cX2_writeDouble 95 = .ok (.lneg, 1) := by decide +kernel
theorem dX2_writeDouble_96 : decode cX2_writeDouble 96 = .ok (.goto 5, 3) := by decide +kernel
theorem dX2_writeDouble_99 : decode cX2_writeDouble 99 = .ok (.lload 7, 2) := by decide +kernel
theorem dX2_writeDouble_101 : decode cX2_writeDouble 101 = .ok (.iload 6, 2) := by decide +kernel
theorem dX2_writeDouble_103 : decode cX2_writeDouble 103 = .ok (.invokevirtual 52, 3) := by decide +kernel
theorem dX2_writeDouble_106 : decode cX2_writeDouble 106 = .ok (.return_, 1) := by decide +kernel
theorem dX2_summedPlainly_0 : decode cX2_summedPlainly 0 = .ok (.dconst 0, 1) := by decide +kernel
theorem dX2_summedPlainly_1 : decode cX2_summedPlainly 1 = .ok (.dstore_n 3, 1) := by decide +kernel
theorem dX2_summedPlainly_2 : decode cX2_summedPlainly 2 = .ok (.iload_n 1, 1) := by decide +kernel
theorem dX2_summedPlainly_3 : decode cX2_summedPlainly 3 = .ok (.istore 5, 2) := by decide +kernel
theorem dX2_summedPlainly_5 : decode cX2_summedPlainly 5 = .ok (.iload 5, 2) := by decide +kernel
theorem dX2_summedPlainly_7 : decode cX2_summedPlainly 7 = .ok (.iload_n 1, 1) := by decide +kernel
theorem dX2_summedPlainly_8 : decode cX2_summedPlainly 8 = .ok (.iload_n 2, 1) := by decide +kernel
theorem dX2_summedPlainly_9 : decode cX2_summedPlainly 9 = .ok (.iadd, 1) := by decide +kernel
theorem dX2_summedPlainly_10 : decode cX2_summedPlainly 10 = .ok (.if_icmp .ge 44, 3) := by decide +kernel
theorem dX2_summedPlainly_13 : decode cX2_summedPlainly 13 = .ok (.aload_n 0, 1) := by decide +kernel
theorem dX2_summedPlainly_14 : decode cX2_summedPlainly 14 = .ok (.iload 5, 2) := by decide +kernel
theorem dX2_summedPlainly_16 : decode cX2_summedPlainly 16 = .ok (.invokevirtual 83, 3) := by decide +kernel
theorem dX2_summedPlainly_19 : decode cX2_summedPlainly 19 = .ok (.dstore 6, 2) := by decide +kernel
theorem dX2_summedPlainly_21 : decode cX2_summedPlainly 21 = .ok (.aload_n 0, 1) := by decide +kernel
theorem dX2_summedPlainly_22 : decode cX2_summedPlainly 22 = .ok (.getfield 30, 3) := by decide +kernel
theorem dX2_summedPlainly_25 : decode cX2_summedPlainly 25 = .ok (.iload 5, 2) := by decide +kernel
theorem dX2_summedPlainly_27 : decode cX2_summedPlainly 27 = .ok (.iaload, 1) := by decide +kernel
theorem dX2_summedPlainly_28 : decode cX2_summedPlainly 28 = .ok (.iconst 3, 1) := by decide +kernel
theorem dX2_summedPlainly_29 : decode cX2_summedPlainly 29 = .ok (.if_icmp .eq 12, 3) := by decide +kernel
theorem dX2_summedPlainly_32 : decode cX2_summedPlainly 32 = .ok (.dload_n 3, 1) := by decide +kernel
theorem dX2_summedPlainly_33 : decode cX2_summedPlainly 33 = .ok (.dload 6, 2) := by decide +kernel
theorem dX2_summedPlainly_35 : decode cX2_summedPlainly 35 = .ok (.invokestatic 86, 3) := by decide +kernel
theorem dX2_summedPlainly_38 : decode cX2_summedPlainly 38 = .ok (.ifCond .eq 5, 3) := by decide +kernel
theorem dX2_summedPlainly_41 : decode cX2_summedPlainly 41 = .ok (.dconst 0, 1) := by decide +kernel
theorem dX2_summedPlainly_42 : decode cX2_summedPlainly 42 = .ok (.dreturn, 1) := by decide +kernel
theorem dX2_summedPlainly_43 : decode cX2_summedPlainly 43 = .ok (.dload_n 3, 1) := by decide +kernel
theorem dX2_summedPlainly_44 : decode cX2_summedPlainly 44 = .ok (.dload 6, 2) := by decide +kernel
theorem dX2_summedPlainly_46 : decode cX2_summedPlainly 46 = .ok (.dadd, 1) := by decide +kernel
theorem dX2_summedPlainly_47 : decode cX2_summedPlainly 47 = .ok (.dstore_n 3, 1) := by decide +kernel
theorem dX2_summedPlainly_48 : decode cX2_summedPlainly 48 = .ok (.iinc 5 1, 3) := by decide +kernel
theorem dX2_summedPlainly_51 : decode cX2_summedPlainly 51 = .ok (.goto (-46), 3) := by decide +kernel
theorem dX2_summedPlainly_54 : decode cX2_summedPlainly 54 = .ok (.dload_n 3, 1) := by decide +kernel
theorem dX2_summedPlainly_55 : decode cX2_summedPlainly 55 = .ok (.dreturn, 1) := by decide +kernel
theorem dX2_areOpposedEndless_0 : decode cX2_areOpposedEndless 0 = .ok (.iconst 0, 1) := by decide +kernel
theorem dX2_areOpposedEndless_1 : decode cX2_areOpposedEndless 1 = .ok (.invokestatic 69, 3) := by decide +kernel
theorem dX2_areOpposedEndless_4 : decode cX2_areOpposedEndless 4 = .ok (.dstore 4, 2) := by decide +kernel
theorem dX2_areOpposedEndless_6 : decode cX2_areOpposedEndless 6 = .ok (.dload_n 0, 1) := by decide +kernel
theorem dX2_areOpposedEndless_7 : decode cX2_areOpposedEndless 7 = .ok (.dload 4, 2) := by decide +kernel
theorem dX2_areOpposedEndless_9 : decode cX2_areOpposedEndless 9 = .ok (.dcmp .l, 1) := by decide +kernel
theorem dX2_areOpposedEndless_10 : decode cX2_areOpposedEndless 10 = .ok (.ifCond .le 11, 3) := by decide +kernel
theorem dX2_areOpposedEndless_13 : decode cX2_areOpposedEndless 13 = .ok (.dload_n 2, 1) := by decide +kernel
theorem dX2_areOpposedEndless_14 : decode cX2_areOpposedEndless 14 = .ok (.dload 4, 2) := by decide +kernel
theorem dX2_areOpposedEndless_16 : decode cX2_areOpposedEndless 16 = .ok (.dneg, 1) := by decide +kernel
theorem dX2_areOpposedEndless_17 : decode cX2_areOpposedEndless 17 = .ok (.dcmp .g, 1) := by decide +kernel
theorem dX2_areOpposedEndless_18 : decode cX2_areOpposedEndless 18 = .ok (.ifCond .lt 18, 3) := by decide +kernel
theorem dX2_areOpposedEndless_21 : decode cX2_areOpposedEndless 21 = .ok (.dload_n 0, 1) := by decide +kernel
theorem dX2_areOpposedEndless_22 : decode cX2_areOpposedEndless 22 = .ok (.dload 4, 2) := by decide +kernel
theorem dX2_areOpposedEndless_24 : decode cX2_areOpposedEndless 24 = .ok (.dneg, 1) := by decide +kernel
theorem dX2_areOpposedEndless_25 : decode cX2_areOpposedEndless 25 = .ok (.dcmp .g, 1) := by decide +kernel
theorem dX2_areOpposedEndless_26 : decode cX2_areOpposedEndless 26 = .ok (.ifCond .ge 14, 3) := by decide +kernel
theorem dX2_areOpposedEndless_29 : decode cX2_areOpposedEndless 29 = .ok (.dload_n 2, 1) := by decide +kernel
theorem dX2_areOpposedEndless_30 : decode cX2_areOpposedEndless 30 = .ok (.dload 4, 2) := by decide +kernel
theorem dX2_areOpposedEndless_32 : decode cX2_areOpposedEndless 32 = .ok (.dcmp .l, 1) := by decide +kernel
theorem dX2_areOpposedEndless_33 : decode cX2_areOpposedEndless 33 = .ok (.ifCond .le 7, 3) := by decide +kernel
theorem dX2_areOpposedEndless_36 : decode cX2_areOpposedEndless 36 = .ok (.iconst 1, 1) := by decide +kernel
theorem dX2_areOpposedEndless_37 : decode cX2_areOpposedEndless 37 = .ok (.goto 4, 3) := by decide +kernel
theorem dX2_areOpposedEndless_40 : decode cX2_areOpposedEndless 40 = .ok (.iconst 0, 1) := by decide +kernel
theorem dX2_areOpposedEndless_41 : decode cX2_areOpposedEndless 41 = .ok (.ireturn, 1) := by decide +kernel
theorem dX2_topPower_0 : decode cX2_topPower 0 = .ok (.sipush (-1074), 3) := by decide +kernel
theorem dX2_topPower_3 : decode cX2_topPower 3 = .ok (.istore_n 2, 1) := by decide +kernel
theorem dX2_topPower_4 : decode cX2_topPower 4 = .ok (.sipush 2048, 3) := by decide +kernel
theorem dX2_topPower_7 : decode cX2_topPower 7 = .ok (.istore_n 3, 1) := by decide +kernel
theorem dX2_topPower_8 : decode cX2_topPower 8 = .ok (.iload_n 3, 1) := by decide +kernel
theorem dX2_topPower_9 : decode cX2_topPower 9 = .ok (.ifCond .le 36, 3) := by decide +kernel
theorem dX2_topPower_12 : decode cX2_topPower 12 = .ok (.iload_n 2, 1) := by decide +kernel
theorem dX2_topPower_13 : decode cX2_topPower 13 = .ok (.iload_n 3, 1) := by decide +kernel
theorem dX2_topPower_14 : decode cX2_topPower 14 = .ok (.iadd, 1) := by decide +kernel
theorem dX2_topPower_15 : decode cX2_topPower 15 = .ok (.istore 4, 2) := by decide +kernel
theorem dX2_topPower_17 : decode cX2_topPower 17 = .ok (.iload 4, 2) := by decide +kernel
theorem dX2_topPower_19 : decode cX2_topPower 19 = .ok (.sipush 1024, 3) := by decide +kernel
theorem dX2_topPower_22 : decode cX2_topPower 22 = .ok (.if_icmp .ge 16, 3) := by decide +kernel
theorem dX2_topPower_25 : decode cX2_topPower 25 = .ok (.dload_n 0, 1) := by decide +kernel
theorem dX2_topPower_26 : decode cX2_topPower 26 = .ok (.iload 4, 2) := by decide +kernel
theorem dX2_topPower_28 : decode cX2_topPower 28 = .ok (.invokestatic 48, 3) := by decide +kernel
theorem dX2_topPower_31 : decode cX2_topPower 31 = .ok (.dcmp .l, 1) := by decide +kernel
theorem dX2_topPower_32 : decode cX2_topPower 32 = .ok (.ifCond .lt 6, 3) := by decide +kernel
theorem dX2_topPower_35 : decode cX2_topPower 35 = .ok (.iload 4, 2) := by decide +kernel
theorem dX2_topPower_37 : decode cX2_topPower 37 = .ok (.istore_n 2, 1) := by decide +kernel
theorem dX2_topPower_38 : decode cX2_topPower 38 = .ok (.iload_n 3, 1) := by decide +kernel
theorem dX2_topPower_39 : decode cX2_topPower 39 = .ok (.iconst 1, 1) := by decide +kernel
theorem dX2_topPower_40 : decode cX2_topPower 40 = .ok (.ishr, 1) := by decide +kernel
theorem dX2_topPower_41 : decode cX2_topPower 41 = .ok (.istore_n 3, 1) := by decide +kernel
theorem dX2_topPower_42 : decode cX2_topPower 42 = .ok (.goto (-34), 3) := by decide +kernel
theorem dX2_topPower_45 : decode cX2_topPower 45 = .ok (.iload_n 2, 1) := by decide +kernel
theorem dX2_topPower_46 : decode cX2_topPower 46 = .ok (.ireturn, 1) := by decide +kernel
theorem dX2_writeFloat_0 : decode cX2_writeFloat 0 = .ok (.lload_n 2, 1) := by decide +kernel
theorem dX2_writeFloat_1 : decode cX2_writeFloat 1 = .ok (.invokestatic 90, 3) := by decide +kernel
theorem dX2_writeFloat_4 : decode cX2_writeFloat 4 = .ok (.lstore 5, 2) := by decide +kernel
theorem dX2_writeFloat_6 : decode cX2_writeFloat 6 = .ok (.iload 4, 2) := by decide +kernel
theorem dX2_writeFloat_8 : decode cX2_writeFloat 8 = .ok (.lload 5, 2) := by decide +kernel
theorem dX2_writeFloat_10 : decode cX2_writeFloat 10 = .ok (.invokestatic 94, 3) := by decide +kernel
theorem dX2_writeFloat_13 : decode cX2_writeFloat 13 = .ok (.iload 4, 2) := by decide +kernel
theorem dX2_writeFloat_15 : decode cX2_writeFloat 15 = .ok (.iadd, 1) := by decide +kernel
theorem dX2_writeFloat_16 : decode cX2_writeFloat 16 = .ok (.bipush 24, 2) := by decide +kernel
theorem dX2_writeFloat_18 : decode cX2_writeFloat 18 = .ok (.isub, 1) := by decide +kernel
theorem dX2_writeFloat_19 : decode cX2_writeFloat 19 = .ok (.sipush (-149), 3) := by decide +kernel
theorem dX2_writeFloat_22 : decode cX2_writeFloat 22 = .ok (.invokestatic 77, 3) := by decide +kernel
theorem dX2_writeFloat_25 : decode cX2_writeFloat 25 = .ok (.invokestatic 77, 3) := by decide +kernel
theorem dX2_writeFloat_28 : decode cX2_writeFloat 28 = .ok (.istore 7, 2) := by decide +kernel
theorem dX2_writeFloat_30 : decode cX2_writeFloat 30 = .ok (.lload 5, 2) := by decide +kernel
theorem dX2_writeFloat_32 : decode cX2_writeFloat 32 = .ok (.iload 7, 2) := by decide +kernel
theorem dX2_writeFloat_34 : decode cX2_writeFloat 34 = .ok (.iload 4, 2) := by decide +kernel
theorem dX2_writeFloat_36 : decode cX2_writeFloat 36 = .ok (.isub, 1) := by decide +kernel
theorem dX2_writeFloat_37 : decode cX2_writeFloat 37 = .ok (.invokestatic 98, 3) := by decide +kernel
theorem dX2_writeFloat_40 : decode cX2_writeFloat 40 = .ok (.lstore 8, 2) := by decide +kernel
theorem dX2_writeFloat_42 : decode cX2_writeFloat 42 = .ok (.lload 8, 2) := by decide +kernel
theorem dX2_writeFloat_44 : decode cX2_writeFloat 44 = .ok (.lconst 0, 1) := by decide +kernel
theorem dX2_writeFloat_45 : decode cX2_writeFloat 45 = .ok (.lcmp, 1) := by decide +kernel
theorem dX2_writeFloat_46 : decode cX2_writeFloat 46 = .ok (.ifCond .ne 22, 3) := by decide +kernel
theorem dX2_writeFloat_49 : decode cX2_writeFloat 49 = .ok (.aload_n 0, 1) := by decide +kernel
theorem dX2_writeFloat_50 : decode cX2_writeFloat 50 = .ok (.iload_n 1, 1) := by decide +kernel
theorem dX2_writeFloat_51 : decode cX2_writeFloat 51 = .ok (.lload_n 2, 1) := by decide +kernel
theorem dX2_writeFloat_52 : decode cX2_writeFloat 52 = .ok (.lconst 0, 1) := by decide +kernel
theorem dX2_writeFloat_53 : decode cX2_writeFloat 53 = .ok (.lcmp, 1) := by decide +kernel
theorem dX2_writeFloat_54 : decode cX2_writeFloat 54 = .ok (.ifCond .ge 7, 3) := by decide +kernel
theorem dX2_writeFloat_57 : decode cX2_writeFloat 57 = .ok (.iconst 4, 1) := by decide +kernel
theorem dX2_writeFloat_58 : decode cX2_writeFloat 58 = .ok (.goto 4, 3) := by decide +kernel
theorem dX2_writeFloat_61 : decode cX2_writeFloat 61 = .ok (.iconst 0, 1) := by decide +kernel
theorem dX2_writeFloat_62 : decode cX2_writeFloat 62 = .ok (.invokevirtual 59, 3) := by decide +kernel
theorem dX2_writeFloat_65 : decode cX2_writeFloat 65 = .ok (.goto 57, 3) := by decide +kernel
theorem dX2_writeFloat_68 : decode cX2_writeFloat 68 = .ok (.lload 8, 2) := by decide +kernel
theorem dX2_writeFloat_70 : decode cX2_writeFloat 70 = .ok (.invokestatic 94, 3) := by decide +kernel
theorem dX2_writeFloat_73 : decode cX2_writeFloat 73 = .ok (.iload 7, 2) := by decide +kernel
theorem dX2_writeFloat_75 : decode cX2_writeFloat 75 = .ok (.iadd, 1) := by decide +kernel
theorem dX2_writeFloat_76 : decode cX2_writeFloat 76 = .ok (.sipush 128, 3) := by decide +kernel
theorem dX2_writeFloat_79 : decode cX2_writeFloat 79 = .ok (.if_icmp .le 22, 3) := by decide +kernel
theorem dX2_writeFloat_82 : decode cX2_writeFloat 82 = .ok (.aload_n 0, 1) := by decide +kernel
theorem dX2_writeFloat_83 : decode cX2_writeFloat 83 = .ok (.iload_n 1, 1) := by decide +kernel
theorem dX2_writeFloat_84 : decode cX2_writeFloat 84 = .ok (.lload_n 2, 1) := by decide +kernel
theorem dX2_writeFloat_85 : decode cX2_writeFloat 85 = .ok (.lconst 0, 1) := by decide +kernel
theorem dX2_writeFloat_86 : decode cX2_writeFloat 86 = .ok (.lcmp, 1) := by decide +kernel
theorem dX2_writeFloat_87 : decode cX2_writeFloat 87 = .ok (.ifCond .ge 7, 3) := by decide +kernel
theorem dX2_writeFloat_90 : decode cX2_writeFloat 90 = .ok (.iconst 2, 1) := by decide +kernel
theorem dX2_writeFloat_91 : decode cX2_writeFloat 91 = .ok (.goto 4, 3) := by decide +kernel
theorem dX2_writeFloat_94 : decode cX2_writeFloat 94 = .ok (.iconst 1, 1) := by decide +kernel
theorem dX2_writeFloat_95 : decode cX2_writeFloat 95 = .ok (.invokevirtual 59, 3) := by decide +kernel
theorem dX2_writeFloat_98 : decode cX2_writeFloat 98 = .ok (.goto 24, 3) := by decide +kernel
theorem dX2_writeFloat_101 : decode cX2_writeFloat 101 = .ok (.aload_n 0, 1) := by decide +kernel
theorem dX2_writeFloat_102 : decode cX2_writeFloat 102 = .ok (.iload_n 1, 1) := by decide +kernel
theorem dX2_writeFloat_103 : decode cX2_writeFloat 103 = .ok (.lload_n 2, 1) := by decide +kernel
theorem dX2_writeFloat_104 : decode cX2_writeFloat 104 = .ok (.lconst 0, 1) := by decide +kernel
theorem dX2_writeFloat_105 : decode cX2_writeFloat 105 = .ok (.lcmp, 1) := by decide +kernel
theorem dX2_writeFloat_106 : decode cX2_writeFloat 106 = .ok (.ifCond .ge 9, 3) := by decide +kernel
theorem dX2_writeFloat_109 : decode cX2_writeFloat 109 = .ok (.lload 8, 2) := by decide +kernel
theorem dX2_writeFloat_111 : decode cX2_writeFloat 111 = .ok (.lneg, 1) := by decide +kernel
theorem dX2_writeFloat_112 : decode cX2_writeFloat 112 = .ok (.goto 5, 3) := by decide +kernel
theorem dX2_writeFloat_115 : decode cX2_writeFloat 115 = .ok (.lload 8, 2) := by decide +kernel
theorem dX2_writeFloat_117 : decode cX2_writeFloat 117 = .ok (.iload 7, 2) := by decide +kernel
theorem dX2_writeFloat_119 : decode cX2_writeFloat 119 = .ok (.invokevirtual 52, 3) := by decide +kernel
theorem dX2_writeFloat_122 : decode cX2_writeFloat 122 = .ok (.return_, 1) := by decide +kernel
theorem dX2_withoutBits_0 : decode cX2_withoutBits 0 = .ok (.iload_n 2, 1) := by decide +kernel
theorem dX2_withoutBits_1 : decode cX2_withoutBits 1 = .ok (.ifCond .gt 5, 3) := by decide +kernel
theorem dX2_withoutBits_4 : decode cX2_withoutBits 4 = .ok (.lload_n 0, 1) := by decide +kernel
theorem dX2_withoutBits_5 : decode cX2_withoutBits 5 = .ok (.lreturn, 1) := by decide +kernel
theorem dX2_withoutBits_6 : decode cX2_withoutBits 6 = .ok (.iload_n 2, 1) := by decide +kernel
theorem dX2_withoutBits_7 : decode cX2_withoutBits 7 = .ok (.bipush 53, 2) := by decide +kernel
theorem dX2_withoutBits_9 : decode cX2_withoutBits 9 = .ok (.if_icmp .le 5, 3) := by decide +kernel
theorem dX2_withoutBits_12 : decode cX2_withoutBits 12 = .ok (.lconst 0, 1) := by decide +kernel
theorem dX2_withoutBits_13 : decode cX2_withoutBits 13 = .ok (.lreturn, 1) := by decide +kernel
theorem dX2_withoutBits_14 : decode cX2_withoutBits 14 = .ok (.lload_n 0, 1) := by decide +kernel
theorem dX2_withoutBits_15 : decode cX2_withoutBits 15 = .ok (.iload_n 2, 1) := by decide +kernel
theorem dX2_withoutBits_16 : decode cX2_withoutBits 16 = .ok (.lushr, 1) := by decide +kernel
theorem dX2_withoutBits_17 : decode cX2_withoutBits 17 = .ok (.lstore_n 3, 1) := by decide +kernel
theorem dX2_withoutBits_18 : decode cX2_withoutBits 18 = .ok (.lload_n 0, 1) := by decide +kernel
theorem dX2_withoutBits_19 : decode cX2_withoutBits 19 = .ok (.iload_n 2, 1) := by decide +kernel
theorem dX2_withoutBits_20 : decode cX2_withoutBits 20 = .ok (.iconst 1, 1) := by decide +kernel
theorem dX2_withoutBits_21 : decode cX2_withoutBits 21 = .ok (.isub, 1) := by decide +kernel
theorem dX2_withoutBits_22 : decode cX2_withoutBits 22 = .ok (.lushr, 1) := by decide +kernel
theorem dX2_withoutBits_23 : decode cX2_withoutBits 23 = .ok (.lconst 1, 1) := by decide +kernel
theorem dX2_withoutBits_24 : decode cX2_withoutBits 24 = .ok (.land, 1) := by decide +kernel
theorem dX2_withoutBits_25 : decode cX2_withoutBits 25 = .ok (.lconst 1, 1) := by decide +kernel
theorem dX2_withoutBits_26 : decode cX2_withoutBits 26 = .ok (.lcmp, 1) := by decide +kernel
theorem dX2_withoutBits_27 : decode cX2_withoutBits 27 = .ok (.ifCond .ne 7, 3) := by decide +kernel
theorem dX2_withoutBits_30 : decode cX2_withoutBits 30 = .ok (.iconst 1, 1) := by decide +kernel
theorem dX2_withoutBits_31 : decode cX2_withoutBits 31 = .ok (.goto 4, 3) := by decide +kernel
theorem dX2_withoutBits_34 : decode cX2_withoutBits 34 = .ok (.iconst 0, 1) := by decide +kernel
theorem dX2_withoutBits_35 : decode cX2_withoutBits 35 = .ok (.istore 5, 2) := by decide +kernel
theorem dX2_withoutBits_37 : decode cX2_withoutBits 37 = .ok (.lload_n 0, 1) := by decide +kernel
theorem dX2_withoutBits_38 : decode cX2_withoutBits 38 = .ok (.lconst 1, 1) := by decide +kernel
theorem dX2_withoutBits_39 : decode cX2_withoutBits 39 = .ok (.iload_n 2, 1) := by decide +kernel
theorem dX2_withoutBits_40 : decode cX2_withoutBits 40 = .ok (.iconst 1, 1) := by decide +kernel
theorem dX2_withoutBits_41 : decode cX2_withoutBits 41 = .ok (.isub, 1) := by decide +kernel
theorem dX2_withoutBits_42 : decode cX2_withoutBits 42 = .ok (.lshl, 1) := by decide +kernel
theorem dX2_withoutBits_43 : decode cX2_withoutBits 43 = .ok (.lconst 1, 1) := by decide +kernel
theorem dX2_withoutBits_44 : decode cX2_withoutBits 44 = .ok (.lsub, 1) := by decide +kernel
theorem dX2_withoutBits_45 : decode cX2_withoutBits 45 = .ok (.land, 1) := by decide +kernel
theorem dX2_withoutBits_46 : decode cX2_withoutBits 46 = .ok (.lconst 0, 1) := by decide +kernel
theorem dX2_withoutBits_47 : decode cX2_withoutBits 47 = .ok (.lcmp, 1) := by decide +kernel
theorem dX2_withoutBits_48 : decode cX2_withoutBits 48 = .ok (.ifCond .eq 7, 3) := by decide +kernel
theorem dX2_withoutBits_51 : decode cX2_withoutBits 51 = .ok (.iconst 1, 1) := by decide +kernel
theorem dX2_withoutBits_52 : decode cX2_withoutBits 52 = .ok (.goto 4, 3) := by decide +kernel
theorem dX2_withoutBits_55 : decode cX2_withoutBits 55 = .ok (.iconst 0, 1) := by decide +kernel
theorem dX2_withoutBits_56 : decode cX2_withoutBits 56 = .ok (.istore 6, 2) := by decide +kernel
theorem dX2_withoutBits_58 : decode cX2_withoutBits 58 = .ok (.lload_n 3, 1) := by decide +kernel
theorem dX2_withoutBits_59 : decode cX2_withoutBits 59 = .ok (.iload 5, 2) := by decide +kernel
theorem dX2_withoutBits_61 : decode cX2_withoutBits 61 = .ok (.iload 6, 2) := by decide +kernel
theorem dX2_withoutBits_63 : decode cX2_withoutBits 63 = .ok (.iconst 0, 1) := by decide +kernel
theorem dX2_withoutBits_64 : decode cX2_withoutBits 64 = .ok (.iconst 0, 1) := by decide +kernel
theorem dX2_withoutBits_65 : decode cX2_withoutBits 65 = .ok (.invokestatic 102, 3) := by decide +kernel
theorem dX2_withoutBits_68 : decode cX2_withoutBits 68 = .ok (.ifCond .eq 9, 3) := by decide +kernel
theorem dX2_withoutBits_71 : decode cX2_withoutBits 71 = .ok (.lload_n 3, 1) := by decide +kernel
theorem dX2_withoutBits_72 : decode cX2_withoutBits 72 = .ok (.lconst 1, 1) := by decide +kernel
theorem dX2_withoutBits_73 : decode cX2_withoutBits 73 = .ok (.ladd, 1) := by decide +kernel
theorem dX2_withoutBits_74 : decode cX2_withoutBits 74 = .ok (.goto 4, 3) := by decide +kernel
theorem dX2_withoutBits_77 : decode cX2_withoutBits 77 = .ok (.lload_n 3, 1) := by decide +kernel
theorem dX2_withoutBits_78 : decode cX2_withoutBits 78 = .ok (.lreturn, 1) := by decide +kernel
theorem dX2_writeNumber_0 : decode cX2_writeNumber 0 = .ok (.aload_n 0, 1) := by decide +kernel
theorem dX2_writeNumber_1 : decode cX2_writeNumber 1 = .ok (.getfield 22, 3) := by decide +kernel
theorem dX2_writeNumber_4 : decode cX2_writeNumber 4 = .ok (.iload_n 1, 1) := by decide +kernel
theorem dX2_writeNumber_5 : decode cX2_writeNumber 5 = .ok (.lload_n 2, 1) := by decide +kernel
theorem dX2_writeNumber_6 : decode cX2_writeNumber 6 = .ok (.lastore, 1) := by decide +kernel
theorem dX2_writeNumber_7 : decode cX2_writeNumber 7 = .ok (.aload_n 0, 1) := by decide +kernel
theorem dX2_writeNumber_8 : decode cX2_writeNumber 8 = .ok (.getfield 26, 3) := by decide +kernel
theorem dX2_writeNumber_11 : decode cX2_writeNumber 11 = .ok (.iload_n 1, 1) := by decide +kernel
theorem dX2_writeNumber_12 : decode cX2_writeNumber 12 = .ok (.iload 4, 2) := by decide +kernel
theorem dX2_writeNumber_14 : decode cX2_writeNumber 14 = .ok (.iastore, 1) := by decide +kernel
theorem dX2_writeNumber_15 : decode cX2_writeNumber 15 = .ok (.aload_n 0, 1) := by decide +kernel
theorem dX2_writeNumber_16 : decode cX2_writeNumber 16 = .ok (.getfield 30, 3) := by decide +kernel
theorem dX2_writeNumber_19 : decode cX2_writeNumber 19 = .ok (.iload_n 1, 1) := by decide +kernel
theorem dX2_writeNumber_20 : decode cX2_writeNumber 20 = .ok (.iconst 0, 1) := by decide +kernel
theorem dX2_writeNumber_21 : decode cX2_writeNumber 21 = .ok (.iastore, 1) := by decide +kernel
theorem dX2_writeNumber_22 : decode cX2_writeNumber 22 = .ok (.return_, 1) := by decide +kernel
theorem dX2_writeSort_0 : decode cX2_writeSort 0 = .ok (.aload_n 0, 1) := by decide +kernel
theorem dX2_writeSort_1 : decode cX2_writeSort 1 = .ok (.getfield 22, 3) := by decide +kernel
theorem dX2_writeSort_4 : decode cX2_writeSort 4 = .ok (.iload_n 1, 1) := by decide +kernel
theorem dX2_writeSort_5 : decode cX2_writeSort 5 = .ok (.lconst 0, 1) := by decide +kernel
theorem dX2_writeSort_6 : decode cX2_writeSort 6 = .ok (.lastore, 1) := by decide +kernel
theorem dX2_writeSort_7 : decode cX2_writeSort 7 = .ok (.aload_n 0, 1) := by decide +kernel
theorem dX2_writeSort_8 : decode cX2_writeSort 8 = .ok (.getfield 26, 3) := by decide +kernel
theorem dX2_writeSort_11 : decode cX2_writeSort 11 = .ok (.iload_n 1, 1) := by decide +kernel
theorem dX2_writeSort_12 : decode cX2_writeSort 12 = .ok (.iconst 0, 1) := by decide +kernel
theorem dX2_writeSort_13 : decode cX2_writeSort 13 = .ok (.iastore, 1) := by decide +kernel
theorem dX2_writeSort_14 : decode cX2_writeSort 14 = .ok (.aload_n 0, 1) := by decide +kernel
theorem dX2_writeSort_15 : decode cX2_writeSort 15 = .ok (.getfield 30, 3) := by decide +kernel
theorem dX2_writeSort_18 : decode cX2_writeSort 18 = .ok (.iload_n 1, 1) := by decide +kernel
theorem dX2_writeSort_19 : decode cX2_writeSort 19 = .ok (.iload_n 2, 1) := by decide +kernel
theorem dX2_writeSort_20 : decode cX2_writeSort 20 = .ok (.iastore, 1) := by decide +kernel
theorem dX2_writeSort_21 : decode cX2_writeSort 21 = .ok (.return_, 1) := by decide +kernel
theorem dX3_init_0 : decode cX3_init 0 = .ok (.aload_n 0, 1) := by decide +kernel
theorem dX3_init_1 : decode cX3_init 1 = .ok (.invokespecial 3, 3) := by decide +kernel
theorem dX3_init_4 : decode cX3_init 4 = .ok (.aload_n 0, 1) := by decide +kernel
theorem dX3_init_5 : decode cX3_init 5 = .ok (.sipush 150, 3) := by decide +kernel
theorem dX3_init_8 : decode cX3_init 8 = .ok (.newarray .long, 2) := by decide +kernel
theorem dX3_init_10 : decode cX3_init 10 = .ok (.putfield 9, 3) := by decide +kernel
theorem dX3_init_13 : decode cX3_init 13 = .ok (.return_, 1) := by decide +kernel
theorem dX3_load_0 : decode cX3_load 0 = .ok (.aload_n 1, 1) := by decide +kernel
theorem dX3_load_1 : decode cX3_load 1 = .ok (.invokevirtual 15, 3) := by decide +kernel
theorem dX3_load_4 : decode cX3_load 4 = .ok (.istore_n 2, 1) := by decide +kernel
theorem dX3_load_5 : decode cX3_load 5 = .ok (.lconst 0, 1) := by decide +kernel
theorem dX3_load_6 : decode cX3_load 6 = .ok (.lstore_n 3, 1) := by decide +kernel
theorem dX3_load_7 : decode cX3_load 7 = .ok (.iconst 0, 1) := by decide +kernel
theorem dX3_load_8 : decode cX3_load 8 = .ok (.istore 5, 2) := by decide +kernel
theorem dX3_load_10 : decode cX3_load 10 = .ok (.iload 5, 2) := by decide +kernel
theorem dX3_load_12 : decode cX3_load 12 = .ok (.sipush 150, 3) := by decide +kernel
theorem dX3_load_15 : decode cX3_load 15 = .ok (.if_icmp .ge 54, 3) := by decide +kernel
theorem dX3_load_18 : decode cX3_load 18 = .ok (.iload_n 2, 1) := by decide +kernel
theorem dX3_load_19 : decode cX3_load 19 = .ok (.ifCond .eq 14, 3) := by decide +kernel
theorem dX3_load_22 : decode cX3_load 22 = .ok (.aload_n 1, 1) := by decide +kernel
theorem dX3_load_23 : decode cX3_load 23 = .ok (.getfield 21, 3) := by decide +kernel
theorem dX3_load_26 : decode cX3_load 26 = .ok (.iload 5, 2) := by decide +kernel
theorem dX3_load_28 : decode cX3_load 28 = .ok (.laload, 1) := by decide +kernel
theorem dX3_load_29 : decode cX3_load 29 = .ok (.lneg, 1) := by decide +kernel
theorem dX3_load_30 : decode cX3_load 30 = .ok (.goto 10, 3) := by decide +kernel
theorem dX3_load_33 : decode cX3_load 33 = .ok (.aload_n 1, 1) := by decide +kernel
theorem dX3_load_34 : decode cX3_load 34 = .ok (.getfield 21, 3) := by decide +kernel
theorem dX3_load_37 : decode cX3_load 37 = .ok (.iload 5, 2) := by decide +kernel
theorem dX3_load_39 : decode cX3_load 39 = .ok (.laload, 1) := by decide +kernel
theorem dX3_load_40 : decode cX3_load 40 = .ok (.lload_n 3, 1) := by decide +kernel
theorem dX3_load_41 : decode cX3_load 41 = .ok (.ladd, 1) := by decide +kernel
theorem dX3_load_42 : decode cX3_load 42 = .ok (.lstore 6, 2) := by decide +kernel
theorem dX3_load_44 : decode cX3_load 44 = .ok (.aload_n 0, 1) := by decide +kernel
theorem dX3_load_45 : decode cX3_load 45 = .ok (.getfield 9, 3) := by decide +kernel
theorem dX3_load_48 : decode cX3_load 48 = .ok (.iload 5, 2) := by decide +kernel
theorem dX3_load_50 : decode cX3_load 50 = .ok (.lload 6, 2) := by decide +kernel
theorem dX3_load_52 : decode cX3_load 52 = .ok (.ldc2_w 22, 3) := by decide +kernel
theorem dX3_load_55 : decode cX3_load 55 = .ok (.land, 1) := by decide +kernel
theorem dX3_load_56 : decode cX3_load 56 = .ok (.lastore, 1) := by decide +kernel
theorem dX3_load_57 : decode cX3_load 57 = .ok (.lload 6, 2) := by decide +kernel
theorem dX3_load_59 : decode cX3_load 59 = .ok (.bipush 32, 2) := by decide +kernel
theorem dX3_load_61 : decode cX3_load 61 = .ok (.lshr, 1) := by decide +kernel
theorem dX3_load_62 : decode cX3_load 62 = .ok (.lstore_n 3, 1) := by decide +kernel
theorem dX3_load_63 : decode cX3_load 63 = .ok (.iinc 5 1, 3) := by decide +kernel
theorem dX3_load_66 : decode cX3_load 66 = .ok (.goto (-56), 3) := by decide +kernel
theorem dX3_load_69 : decode cX3_load 69 = .ok (.return_, 1) := by decide +kernel
theorem dX3_divideBy_0 : decode cX3_divideBy 0 = .ok (.iload_n 1, 1) := by decide +kernel
theorem dX3_divideBy_1 : decode cX3_divideBy 1 = .ok (.iconst 1, 1) := by decide +kernel
theorem dX3_divideBy_2 : decode cX3_divideBy 2 = .ok (.if_icmp .gt 5, 3) := by decide +kernel
theorem dX3_divideBy_5 : decode cX3_divideBy 5 = .ok (.iconst 0, 1) := by decide +kernel
theorem dX3_divideBy_6 : decode cX3_divideBy 6 = .ok (.ireturn, 1) := by decide +kernel
theorem dX3_divideBy_7 : decode cX3_divideBy 7 = .ok (.lconst 0, 1) := by decide +kernel
theorem dX3_divideBy_8 : decode cX3_divideBy 8 = .ok (.lstore_n 2, 1) := by decide +kernel
theorem dX3_divideBy_9 : decode cX3_divideBy 9 = .ok (.sipush 149, 3) := by decide +kernel
theorem dX3_divideBy_12 : decode cX3_divideBy 12 = .ok (.istore 4, 2) := by decide +kernel
theorem dX3_divideBy_14 : decode cX3_divideBy 14 = .ok (.iload 4, 2) := by decide +kernel
theorem dX3_divideBy_16 : decode cX3_divideBy 16 = .ok (.ifCond .lt 41, 3) := by decide +kernel
theorem dX3_divideBy_19 : decode cX3_divideBy 19 = .ok (.lload_n 2, 1) := by decide +kernel
theorem dX3_divideBy_20 : decode cX3_divideBy 20 = .ok (.bipush 32, 2) := by decide +kernel
theorem dX3_divideBy_22 : decode cX3_divideBy 22 = .ok (.lshl, 1) := by decide +kernel
theorem dX3_divideBy_23 : decode cX3_divideBy 23 = .ok (.aload_n 0, 1) := by decide +kernel
theorem dX3_divideBy_24 : decode cX3_divideBy 24 = .ok (.getfield 9, 3) := by decide +kernel
theorem dX3_divideBy_27 : decode cX3_divideBy 27 = .ok (.iload 4, 2) := by decide +kernel
theorem dX3_divideBy_29 : decode cX3_divideBy 29 = .ok (.laload, 1) := by decide +kernel
theorem dX3_divideBy_30 : decode cX3_divideBy 30 = .ok (.lor, 1) := by decide +kernel
theorem dX3_divideBy_31 : decode cX3_divideBy 31 = .ok (.lstore 5, 2) := by decide +kernel
theorem dX3_divideBy_33 : decode cX3_divideBy 33 = .ok (.aload_n 0, 1) := by decide +kernel
theorem dX3_divideBy_34 : decode cX3_divideBy 34 = .ok (.getfield 9, 3) := by decide +kernel
theorem dX3_divideBy_37 : decode cX3_divideBy 37 = .ok (.iload 4, 2) := by decide +kernel
theorem dX3_divideBy_39 : decode cX3_divideBy 39 = .ok (.lload 5, 2) := by decide +kernel
theorem dX3_divideBy_41 : decode cX3_divideBy 41 = .ok (.iload_n 1, 1) := by decide +kernel
theorem dX3_divideBy_42 : decode cX3_divideBy 42 = .ok (.i2l, 1) := by decide +kernel
theorem dX3_divideBy_43 : decode cX3_divideBy 43 = .ok (.ldiv, 1) := by decide +kernel
theorem dX3_divideBy_44 : decode cX3_divideBy 44 = .ok (.lastore, 1) := by decide +kernel
theorem dX3_divideBy_45 : decode cX3_divideBy 45 = .ok (.lload 5, 2) := by decide +kernel
theorem dX3_divideBy_47 : decode cX3_divideBy 47 = .ok (.iload_n 1, 1) := by decide +kernel
theorem dX3_divideBy_48 : decode cX3_divideBy 48 = .ok (.i2l, 1) := by decide +kernel
theorem dX3_divideBy_49 : decode cX3_divideBy 49 = .ok (.lrem, 1) := by decide +kernel
theorem dX3_divideBy_50 : decode cX3_divideBy 50 = .ok (.lstore_n 2, 1) := by decide +kernel
theorem dX3_divideBy_51 : decode cX3_divideBy 51 = .ok (.iinc 4 (-1), 3) := by decide +kernel
theorem dX3_divideBy_54 : decode cX3_divideBy 54 = .ok (.goto (-40), 3) := by decide +kernel
theorem dX3_divideBy_57 : decode cX3_divideBy 57 = .ok (.lload_n 2, 1) := by decide +kernel
theorem dX3_divideBy_58 : decode cX3_divideBy 58 = .ok (.lconst 0, 1) := by decide +kernel
theorem dX3_divideBy_59 : decode cX3_divideBy 59 = .ok (.lcmp, 1) := by decide +kernel
theorem dX3_divideBy_60 : decode cX3_divideBy 60 = .ok (.ifCond .eq 7, 3) := by decide +kernel
theorem dX3_divideBy_63 : decode cX3_divideBy 63 = .ok (.iconst 1, 1) := by decide +kernel
theorem dX3_divideBy_64 : decode cX3_divideBy 64 = .ok (.goto 4, 3) := by decide +kernel
theorem dX3_divideBy_67 : decode cX3_divideBy 67 = .ok (.iconst 0, 1) := by decide +kernel
theorem dX3_divideBy_68 : decode cX3_divideBy 68 = .ok (.ireturn, 1) := by decide +kernel
theorem dX3_topBit_0 : decode cX3_topBit 0 = .ok (.sipush 149, 3) := by decide +kernel
theorem dX3_topBit_3 : decode cX3_topBit 3 = .ok (.istore_n 1, 1) := by decide +kernel
theorem dX3_topBit_4 : decode cX3_topBit 4 = .ok (.iload_n 1, 1) := by decide +kernel
theorem dX3_topBit_5 : decode cX3_topBit 5 = .ok (.ifCond .lt 37, 3) := by decide +kernel
theorem dX3_topBit_8 : decode cX3_topBit 8 = .ok (.aload_n 0, 1) := by decide +kernel
theorem dX3_topBit_9 : decode cX3_topBit 9 = .ok (.getfield 9, 3) := by decide +kernel
theorem dX3_topBit_12 : decode cX3_topBit 12 = .ok (.iload_n 1, 1) := by decide +kernel
theorem dX3_topBit_13 : decode cX3_topBit 13 = .ok (.laload, 1) := by decide +kernel
theorem dX3_topBit_14 : decode cX3_topBit 14 = .ok (.lconst 0, 1) := by decide +kernel
theorem dX3_topBit_15 : decode cX3_topBit 15 = .ok (.lcmp, 1) := by decide +kernel
theorem dX3_topBit_16 : decode cX3_topBit 16 = .ok (.ifCond .eq 20, 3) := by decide +kernel
theorem dX3_topBit_19 : decode cX3_topBit 19 = .ok (.iload_n 1, 1) := by decide +kernel
theorem dX3_topBit_20 : decode cX3_topBit 20 = .ok (.bipush 32, 2) := by decide +kernel
theorem dX3_topBit_22 : decode cX3_topBit 22 = .ok (.imul, 1) := by decide +kernel
theorem dX3_topBit_23 : decode cX3_topBit 23 = .ok (.aload_n 0, 1) := by decide +kernel
theorem dX3_topBit_24 : decode cX3_topBit 24 = .ok (.getfield 9, 3) := by decide +kernel
theorem dX3_topBit_27 : decode cX3_topBit 27 = .ok (.iload_n 1, 1) := by decide +kernel
theorem dX3_topBit_28 : decode cX3_topBit 28 = .ok (.laload, 1) := by decide +kernel
theorem dX3_topBit_29 : decode cX3_topBit 29 = .ok (.invokestatic 24, 3) := by decide +kernel
theorem dX3_topBit_32 : decode cX3_topBit 32 = .ok (.iadd, 1) := by decide +kernel
theorem dX3_topBit_33 : decode cX3_topBit 33 = .ok (.iconst 1, 1) := by decide +kernel
theorem dX3_topBit_34 : decode cX3_topBit 34 = .ok (.isub, 1) := by decide +kernel
theorem dX3_topBit_35 : decode cX3_topBit 35 = .ok (.ireturn, 1) := by decide +kernel
theorem dX3_topBit_36 : decode cX3_topBit 36 = .ok (.iinc 1 (-1), 3) := by decide +kernel
theorem dX3_topBit_39 : decode cX3_topBit 39 = .ok (.goto (-35), 3) := by decide +kernel
theorem dX3_topBit_42 : decode cX3_topBit 42 = .ok (.iconst (-1), 1) := by decide +kernel
theorem dX3_topBit_43 : decode cX3_topBit 43 = .ok (.ireturn, 1) := by decide +kernel
theorem dX3_bitAt_0 : decode cX3_bitAt 0 = .ok (.aload_n 0, 1) := by decide +kernel
theorem dX3_bitAt_1 : decode cX3_bitAt 1 = .ok (.iload_n 1, 1) := by decide +kernel
theorem dX3_bitAt_2 : decode cX3_bitAt 2 = .ok (.bipush 32, 2) := by decide +kernel
theorem dX3_bitAt_4 : decode cX3_bitAt 4 = .ok (.idiv, 1) := by decide +kernel
theorem dX3_bitAt_5 : decode cX3_bitAt 5 = .ok (.invokevirtual 28, 3) := by decide +kernel
theorem dX3_bitAt_8 : decode cX3_bitAt 8 = .ok (.iload_n 1, 1) := by decide +kernel
theorem dX3_bitAt_9 : decode cX3_bitAt 9 = .ok (.bipush 32, 2) := by decide +kernel
theorem dX3_bitAt_11 : decode cX3_bitAt 11 = .ok (.irem, 1) := by decide +kernel
theorem dX3_bitAt_12 : decode cX3_bitAt 12 = .ok (.lushr, 1) := by decide +kernel
theorem dX3_bitAt_13 : decode cX3_bitAt 13 = .ok (.lconst 1, 1) := by decide +kernel
theorem dX3_bitAt_14 : decode cX3_bitAt 14 = .ok (.land, 1) := by decide +kernel
theorem dX3_bitAt_15 : decode cX3_bitAt 15 = .ok (.l2i, 1) := by decide +kernel
theorem dX3_bitAt_16 : decode cX3_bitAt 16 = .ok (.ireturn, 1) := by decide +kernel
theorem dX3_rounded_0 : decode cX3_rounded 0 = .ok (.aload_n 0, 1) := by decide +kernel
theorem dX3_rounded_1 : decode cX3_rounded 1 = .ok (.invokevirtual 32, 3) := by decide +kernel
theorem dX3_rounded_4 : decode cX3_rounded 4 = .ok (.istore 5, 2) := by decide +kernel
theorem dX3_rounded_6 : decode cX3_rounded 6 = .ok (.iload 4, 2) := by decide +kernel
theorem dX3_rounded_8 : decode cX3_rounded 8 = .ok (.ifCond .eq 9, 3) := by decide +kernel
theorem dX3_rounded_11 : decode cX3_rounded 11 = .ok (.sipush (-149), 3) := by decide +kernel
theorem dX3_rounded_14 : decode cX3_rounded 14 = .ok (.goto 6, 3) := by decide +kernel
theorem dX3_rounded_17 : decode cX3_rounded 17 = .ok (.sipush (-1074), 3) := by decide +kernel
theorem dX3_rounded_20 : decode cX3_rounded 20 = .ok (.sipush (-2148), 3) := by decide +kernel
theorem dX3_rounded_23 : decode cX3_rounded 23 = .ok (.isub, 1) := by decide +kernel
theorem dX3_rounded_24 : decode cX3_rounded 24 = .ok (.istore 6, 2) := by decide +kernel
theorem dX3_rounded_26 : decode cX3_rounded 26 = .ok (.iload 5, 2) := by decide +kernel
theorem dX3_rounded_28 : decode cX3_rounded 28 = .ok (.iload 4, 2) := by decide +kernel
theorem dX3_rounded_30 : decode cX3_rounded 30 = .ok (.ifCond .eq 8, 3) := by decide +kernel
theorem dX3_rounded_33 : decode cX3_rounded 33 = .ok (.bipush 24, 2) := by decide +kernel
theorem dX3_rounded_35 : decode cX3_rounded 35 = .ok (.goto 5, 3) := by decide +kernel
theorem dX3_rounded_38 : decode cX3_rounded 38 = .ok (.bipush 53, 2) := by decide +kernel
theorem dX3_rounded_40 : decode cX3_rounded 40 = .ok (.isub, 1) := by decide +kernel
theorem dX3_rounded_41 : decode cX3_rounded 41 = .ok (.iconst 1, 1) := by decide +kernel
theorem dX3_rounded_42 : decode cX3_rounded 42 = .ok (.iadd, 1) := by decide +kernel
theorem dX3_rounded_43 : decode cX3_rounded 43 = .ok (.iload 6, 2) := by decide +kernel
theorem dX3_rounded_45 : decode cX3_rounded 45 = .ok (.invokestatic 36, 3) := by decide +kernel
theorem dX3_rounded_48 : decode cX3_rounded 48 = .ok (.istore 7, 2) := by decide +kernel
theorem dX3_rounded_50 : decode cX3_rounded 50 = .ok (.aload_n 0, 1) := by decide +kernel
theorem dX3_rounded_51 : decode cX3_rounded 51 = .ok (.iload 7, 2) := by decide +kernel
theorem dX3_rounded_53 : decode cX3_rounded 53 = .ok (.invokevirtual 42, 3) := by decide +kernel
theorem dX3_rounded_56 : decode cX3_rounded 56 = .ok (.lstore 8, 2) := by decide +kernel
theorem dX3_rounded_58 : decode cX3_rounded 58 = .ok (.aload_n 0, 1) := by decide +kernel
theorem dX3_rounded_59 : decode cX3_rounded 59 = .ok (.iload 7, 2) := by decide +kernel
theorem dX3_rounded_61 : decode cX3_rounded 61 = .ok (.iconst 1, 1) := by decide +kernel
theorem dX3_rounded_62 : decode cX3_rounded 62 = .ok (.isub, 1) := by decide +kernel
theorem dX3_rounded_63 : decode cX3_rounded 63 = .ok (.invokevirtual 45, 3) := by decide +kernel
theorem dX3_rounded_66 : decode cX3_rounded 66 = .ok (.iconst 1, 1) := by decide +kernel
theorem dX3_rounded_67 : decode cX3_rounded 67 = .ok (.if_icmp .ne 7, 3) := by decide +kernel
theorem dX3_rounded_70 : decode cX3_rounded 70 = .ok (.iconst 1, 1) := by decide +kernel
theorem dX3_rounded_71 : decode cX3_rounded 71 = .ok (.goto 4, 3) := by decide +kernel
theorem dX3_rounded_74 : decode cX3_rounded 74 = .ok (.iconst 0, 1) := by decide +kernel
theorem dX3_rounded_75 : decode cX3_rounded 75 = .ok (.istore 10, 2) := by decide +kernel
theorem dX3_rounded_77 : decode cX3_rounded 77 = .ok (.iload_n 2, 1) := by decide +kernel
theorem dX3_rounded_78 : decode cX3_rounded 78 = .ok (.ifCond .ne 14, 3) := by decide +kernel
theorem dX3_rounded_81 : decode cX3_rounded 81 = .ok (.aload_n 0, 1) := by decide +kernel
theorem dX3_rounded_82 : decode cX3_rounded 82 = .ok (.iload 7, 2) := by decide +kernel
theorem dX3_rounded_84 : decode cX3_rounded 84 = .ok (.iconst 1, 1) := by decide +kernel
theorem dX3_rounded_85 : decode cX3_rounded 85 = .ok (.isub, 1) := by decide +kernel
theorem dX3_rounded_86 : decode cX3_rounded 86 = .ok (.invokevirtual 49, 3) := by decide +kernel
theorem dX3_rounded_89 : decode cX3_rounded 89 = .ok (.ifCond .eq 7, 3) := by decide +kernel
theorem dX3_rounded_92 : decode cX3_rounded 92 = .ok (.iconst 1, 1) := by decide +kernel
theorem dX3_rounded_93 : decode cX3_rounded 93 = .ok (.goto 4, 3) := by decide +kernel
theorem dX3_rounded_96 : decode cX3_rounded 96 = .ok (.iconst 0, 1) := by decide +kernel
theorem dX3_rounded_97 : decode cX3_rounded 97 = .ok (.istore 11, 2) := by decide +kernel
theorem dX3_rounded_99 : decode cX3_rounded 99 = .ok (.lload 8, 2) := by decide +kernel
theorem dX3_rounded_101 : decode cX3_rounded 101 = .ok (.iload 10, 2) := by decide +kernel
theorem dX3_rounded_103 : decode cX3_rounded 103 = .ok (.iload 11, 2) := by decide +kernel
theorem dX3_rounded_105 : decode cX3_rounded 105 = .ok (.iload_n 1, 1) := by decide +kernel
theorem dX3_rounded_106 : decode cX3_rounded 106 = .ok (.iload_n 3, 1) := by decide +kernel
theorem dX3_rounded_107 : decode cX3_rounded 107 = .ok (.invokestatic 53, 3) := by decide +kernel
theorem dX3_rounded_110 : decode cX3_rounded 110 = .ok (.ifCond .eq 9, 3) := by decide +kernel
theorem dX3_rounded_113 : decode cX3_rounded 113 = .ok (.lload 8, 2) := by decide +kernel
theorem dX3_rounded_115 : decode cX3_rounded 115 = .ok (.lconst 1, 1) := by decide +kernel
theorem dX3_rounded_116 : decode cX3_rounded 116 = .ok (.ladd, 1) := by decide +kernel
theorem dX3_rounded_117 : decode cX3_rounded 117 = .ok (.lstore 8, 2) := by decide +kernel
theorem dX3_rounded_119 : decode cX3_rounded 119 = .ok (.lload 8, 2) := by decide +kernel
theorem dX3_rounded_121 : decode cX3_rounded 121 = .ok (.iload 7, 2) := by decide +kernel
theorem dX3_rounded_123 : decode cX3_rounded 123 = .ok (.sipush (-2148), 3) := by decide +kernel
theorem dX3_rounded_126 : decode cX3_rounded 126 = .ok (.iadd, 1) := by decide +kernel
theorem dX3_rounded_127 : decode cX3_rounded 127 = .ok (.iload_n 1, 1) := by decide +kernel
theorem dX3_rounded_128 : decode cX3_rounded 128 = .ok (.iload_n 3, 1) := by decide +kernel
theorem dX3_rounded_129 : decode cX3_rounded 129 = .ok (.iload 4, 2) := by decide +kernel
theorem dX3_rounded_131 : decode cX3_rounded 131 = .ok (.invokestatic 57, 3) := by decide +kernel
theorem dX3_rounded_134 : decode cX3_rounded 134 = .ok (.dreturn, 1) := by decide +kernel
theorem dX3_rootRounded_0 : decode cX3_rootRounded 0 = .ok (.aload_n 0, 1) := by decide +kernel
theorem dX3_rootRounded_1 : decode cX3_rootRounded 1 = .ok (.invokevirtual 32, 3) := by decide +kernel
theorem dX3_rootRounded_4 : decode cX3_rootRounded 4 = .ok (.iconst 2, 1) := by decide +kernel
theorem dX3_rootRounded_5 : decode cX3_rootRounded 5 = .ok (.idiv, 1) := by decide +kernel
theorem dX3_rootRounded_6 : decode cX3_rootRounded 6 = .ok (.istore_n 2, 1) := by decide +kernel
theorem dX3_rootRounded_7 : decode cX3_rootRounded 7 = .ok (.iload_n 2, 1) := by decide +kernel
theorem dX3_rootRounded_8 : decode cX3_rootRounded 8 = .ok (.bipush 53, 2) := by decide +kernel
theorem dX3_rootRounded_10 : decode cX3_rootRounded 10 = .ok (.isub, 1) := by decide +kernel
theorem dX3_rootRounded_11 : decode cX3_rootRounded 11 = .ok (.iconst 1, 1) := by decide +kernel
theorem dX3_rootRounded_12 : decode cX3_rootRounded 12 = .ok (.iadd, 1) := by decide +kernel
theorem dX3_rootRounded_13 : decode cX3_rootRounded 13 = .ok (.iconst 0, 1) := by decide +kernel
theorem dX3_rootRounded_14 : decode cX3_rootRounded 14 = .ok (.invokestatic 36, 3) := by decide +kernel
theorem dX3_rootRounded_17 : decode cX3_rootRounded 17 = .ok (.istore_n 3, 1) := by decide +kernel
theorem dX3_rootRounded_18 : decode cX3_rootRounded 18 = .ok (.lconst 0, 1) := by decide +kernel
theorem dX3_rootRounded_19 : decode cX3_rootRounded 19 = .ok (.lstore 4, 2) := by decide +kernel
theorem dX3_rootRounded_21 : decode cX3_rootRounded 21 = .ok (.lconst 0, 1) := by decide +kernel
theorem dX3_rootRounded_22 : decode cX3_rootRounded 22 = .ok (.lstore 6, 2) := by decide +kernel
theorem dX3_rootRounded_24 : decode cX3_rootRounded 24 = .ok (.iload_n 2, 1) := by decide +kernel
theorem dX3_rootRounded_25 : decode cX3_rootRounded 25 = .ok (.istore 8, 2) := by decide +kernel
theorem dX3_rootRounded_27 : decode cX3_rootRounded 27 = .ok (.iload 8, 2) := by decide +kernel
theorem dX3_rootRounded_29 : decode cX3_rootRounded 29 = .ok (.iload_n 3, 1) := by decide +kernel
theorem dX3_rootRounded_30 : decode cX3_rootRounded 30 = .ok (.if_icmp .lt 74, 3) := by decide +kernel
theorem dX3_rootRounded_33 : decode cX3_rootRounded 33 = .ok (.lload 6, 2) := by decide +kernel
theorem dX3_rootRounded_35 : decode cX3_rootRounded 35 = .ok (.iconst 2, 1) := by decide +kernel
theorem dX3_rootRounded_36 : decode cX3_rootRounded 36 = .ok (.lshl, 1) := by decide +kernel
theorem dX3_rootRounded_37 : decode cX3_rootRounded 37 = .ok (.aload_n 0, 1) := by decide +kernel
theorem dX3_rootRounded_38 : decode cX3_rootRounded 38 = .ok (.iconst 2, 1) := by decide +kernel
theorem dX3_rootRounded_39 : decode cX3_rootRounded 39 = .ok (.iload 8, 2) := by decide +kernel
theorem dX3_rootRounded_41 : decode cX3_rootRounded 41 = .ok (.imul, 1) := by decide +kernel
theorem dX3_rootRounded_42 : decode cX3_rootRounded 42 = .ok (.iconst 1, 1) := by decide +kernel
theorem dX3_rootRounded_43 : decode cX3_rootRounded 43 = .ok (.iadd, 1) := by decide +kernel
theorem dX3_rootRounded_44 : decode cX3_rootRounded 44 = .ok (.invokevirtual 45, 3) := by decide +kernel
theorem dX3_rootRounded_47 : decode cX3_rootRounded 47 = .ok (.iconst 1, 1) := by decide +kernel
theorem dX3_rootRounded_48 : decode cX3_rootRounded 48 = .ok (.ishl, 1) := by decide +kernel
theorem dX3_rootRounded_49 : decode cX3_rootRounded 49 = .ok (.i2l, 1) := by decide +kernel
theorem dX3_rootRounded_50 : decode cX3_rootRounded 50 = .ok (.lor, 1) := by decide +kernel
theorem dX3_rootRounded_51 : decode cX3_rootRounded 51 = .ok (.aload_n 0, 1) := by decide +kernel
theorem dX3_rootRounded_52 : decode cX3_rootRounded 52 = .ok (.iconst 2, 1) := by decide +kernel
theorem dX3_rootRounded_53 : decode cX3_rootRounded 53 = .ok (.iload 8, 2) := by decide +kernel
theorem dX3_rootRounded_55 : decode cX3_rootRounded 55 = .ok (.imul, 1) := by decide +kernel
theorem dX3_rootRounded_56 : decode cX3_rootRounded 56 = .ok (.invokevirtual 45, 3) := by decide +kernel
theorem dX3_rootRounded_59 : decode cX3_rootRounded 59 = .ok (.i2l, 1) := by decide +kernel
theorem dX3_rootRounded_60 : decode cX3_rootRounded 60 = .ok (.lor, 1) := by decide +kernel
theorem dX3_rootRounded_61 : decode cX3_rootRounded 61 = .ok (.lstore 6, 2) := by decide +kernel
theorem dX3_rootRounded_63 : decode cX3_rootRounded 63 = .ok (.lload 4, 2) := by decide +kernel
theorem dX3_rootRounded_65 : decode cX3_rootRounded 65 = .ok (.iconst 2, 1) := by decide +kernel
theorem dX3_rootRounded_66 : decode cX3_rootRounded 66 = .ok (.lshl, 1) := by decide +kernel
theorem dX3_rootRounded_67 : decode cX3_rootRounded 67 = .ok (.lconst 1, 1) := by decide +kernel
theorem dX3_rootRounded_68 : decode cX3_rootRounded 68 = .ok (.lor, 1) := by decide +kernel
theorem dX3_rootRounded_69 : decode cX3_rootRounded 69 = .ok (.lstore 9, 2) := by decide +kernel
theorem dX3_rootRounded_71 : decode cX3_rootRounded 71 = .ok (.lload 4, 2) := by decide +kernel
theorem dX3_rootRounded_73 : decode cX3_rootRounded 73 = .ok (.iconst 1, 1) := by decide +kernel
theorem dX3_rootRounded_74 : decode cX3_rootRounded 74 = .ok (.lshl, 1) := by decide +kernel
theorem dX3_rootRounded_75 : decode cX3_rootRounded 75 = .ok (.lstore 4, 2) := by decide +kernel
theorem dX3_rootRounded_77 : decode cX3_rootRounded 77 = .ok (.lload 6, 2) := by decide +kernel
theorem dX3_rootRounded_79 : decode cX3_rootRounded 79 = .ok (.lload 9, 2) := by decide +kernel
theorem dX3_rootRounded_81 : decode cX3_rootRounded 81 = .ok (.lcmp, 1) := by decide +kernel
theorem dX3_rootRounded_82 : decode cX3_rootRounded 82 = .ok (.ifCond .lt 16, 3) := by decide +kernel
theorem dX3_rootRounded_85 : decode cX3_rootRounded 85 = .ok (.lload 6, 2) := by decide +kernel
theorem dX3_rootRounded_87 : decode cX3_rootRounded 87 = .ok (.lload 9, 2) := by decide +kernel
theorem dX3_rootRounded_89 : decode cX3_rootRounded 89 = .ok (.lsub, 1) := by decide +kernel
theorem dX3_rootRounded_90 : decode cX3_rootRounded 90 = .ok (.lstore 6, 2) := by decide +kernel
theorem dX3_rootRounded_92 : decode cX3_rootRounded 92 = .ok (.lload 4, 2) := by decide +kernel
theorem dX3_rootRounded_94 : decode cX3_rootRounded 94 = .ok (.lconst 1, 1) := by decide +kernel
theorem dX3_rootRounded_95 : decode cX3_rootRounded 95 = .ok (.lor, 1) := by decide +kernel
theorem dX3_rootRounded_96 : decode cX3_rootRounded 96 = .ok (.lstore 4, 2) := by decide +kernel
theorem dX3_rootRounded_98 : decode cX3_rootRounded 98 = .ok (.iinc 8 (-1), 3) := by decide +kernel
theorem dX3_rootRounded_101 : decode cX3_rootRounded 101 = .ok (.goto (-74), 3) := by decide +kernel
theorem dX3_rootRounded_104 : decode cX3_rootRounded 104 = .ok (.lload 6, 2) := by decide +kernel
theorem dX3_rootRounded_106 : decode cX3_rootRounded 106 = .ok (.lconst 0, 1) := by decide +kernel
theorem dX3_rootRounded_107 : decode cX3_rootRounded 107 = .ok (.lcmp, 1) := by decide +kernel
theorem dX3_rootRounded_108 : decode cX3_rootRounded 108 = .ok (.ifCond .ne 13, 3) := by decide +kernel
theorem dX3_rootRounded_111 : decode cX3_rootRounded 111 = .ok (.aload_n 0, 1) := by decide +kernel
theorem dX3_rootRounded_112 : decode cX3_rootRounded 112 = .ok (.iconst 2, 1) := by decide +kernel
theorem dX3_rootRounded_113 : decode cX3_rootRounded 113 = .ok (.iload_n 3, 1) := by decide +kernel
theorem dX3_rootRounded_114 : decode cX3_rootRounded 114 = .ok (.imul, 1) := by decide +kernel
theorem dX3_rootRounded_115 : decode cX3_rootRounded 115 = .ok (.invokevirtual 49, 3) := by decide +kernel
theorem dX3_rootRounded_118 : decode cX3_rootRounded 118 = .ok (.ifCond .eq 7, 3) := by decide +kernel
theorem dX3_rootRounded_121 : decode cX3_rootRounded 121 = .ok (.iconst 1, 1) := by decide +kernel
theorem dX3_rootRounded_122 : decode cX3_rootRounded 122 = .ok (.goto 4, 3) := by decide +kernel
theorem dX3_rootRounded_125 : decode cX3_rootRounded 125 = .ok (.iconst 0, 1) := by decide +kernel
theorem dX3_rootRounded_126 : decode cX3_rootRounded 126 = .ok (.istore 8, 2) := by decide +kernel
theorem dX3_rootRounded_128 : decode cX3_rootRounded 128 = .ok (.lload 4, 2) := by decide +kernel
theorem dX3_rootRounded_130 : decode cX3_rootRounded 130 = .ok (.iconst 0, 1) := by decide +kernel
theorem dX3_rootRounded_131 : decode cX3_rootRounded 131 = .ok (.iload 8, 2) := by decide +kernel
theorem dX3_rootRounded_133 : decode cX3_rootRounded 133 = .ok (.iconst 0, 1) := by decide +kernel
theorem dX3_rootRounded_134 : decode cX3_rootRounded 134 = .ok (.iload_n 1, 1) := by decide +kernel
theorem dX3_rootRounded_135 : decode cX3_rootRounded 135 = .ok (.invokestatic 53, 3) := by decide +kernel
theorem dX3_rootRounded_138 : decode cX3_rootRounded 138 = .ok (.ifCond .eq 9, 3) := by decide +kernel
theorem dX3_rootRounded_141 : decode cX3_rootRounded 141 = .ok (.lload 4, 2) := by decide +kernel
theorem dX3_rootRounded_143 : decode cX3_rootRounded 143 = .ok (.lconst 1, 1) := by decide +kernel
theorem dX3_rootRounded_144 : decode cX3_rootRounded 144 = .ok (.ladd, 1) := by decide +kernel
theorem dX3_rootRounded_145 : decode cX3_rootRounded 145 = .ok (.lstore 4, 2) := by decide +kernel
theorem dX3_rootRounded_147 : decode cX3_rootRounded 147 = .ok (.lload 4, 2) := by decide +kernel
theorem dX3_rootRounded_149 : decode cX3_rootRounded 149 = .ok (.iload_n 3, 1) := by decide +kernel
theorem dX3_rootRounded_150 : decode cX3_rootRounded 150 = .ok (.sipush (-1074), 3) := by decide +kernel
theorem dX3_rootRounded_153 : decode cX3_rootRounded 153 = .ok (.iadd, 1) := by decide +kernel
theorem dX3_rootRounded_154 : decode cX3_rootRounded 154 = .ok (.iconst 0, 1) := by decide +kernel
theorem dX3_rootRounded_155 : decode cX3_rootRounded 155 = .ok (.iload_n 1, 1) := by decide +kernel
theorem dX3_rootRounded_156 : decode cX3_rootRounded 156 = .ok (.iconst 0, 1) := by decide +kernel
theorem dX3_rootRounded_157 : decode cX3_rootRounded 157 = .ok (.invokestatic 57, 3) := by decide +kernel
theorem dX3_rootRounded_160 : decode cX3_rootRounded 160 = .ok (.dreturn, 1) := by decide +kernel
theorem dX3_limbAt_0 : decode cX3_limbAt 0 = .ok (.iload_n 1, 1) := by decide +kernel
theorem dX3_limbAt_1 : decode cX3_limbAt 1 = .ok (.ifCond .lt 19, 3) := by decide +kernel
theorem dX3_limbAt_4 : decode cX3_limbAt 4 = .ok (.iload_n 1, 1) := by decide +kernel
theorem dX3_limbAt_5 : decode cX3_limbAt 5 = .ok (.sipush 150, 3) := by decide +kernel
theorem dX3_limbAt_8 : decode cX3_limbAt 8 = .ok (.if_icmp .ge 12, 3) := by decide +kernel
theorem dX3_limbAt_11 : decode cX3_limbAt 11 = .ok (.aload_n 0, 1) := by decide +kernel
theorem dX3_limbAt_12 : decode cX3_limbAt 12 = .ok (.getfield 9, 3) := by decide +kernel
theorem dX3_limbAt_15 : decode cX3_limbAt 15 = .ok (.iload_n 1, 1) := by decide +kernel
theorem dX3_limbAt_16 : decode cX3_limbAt 16 = .ok (.laload, 1) := by decide +kernel
theorem dX3_limbAt_17 : decode cX3_limbAt 17 = .ok (.goto 4, 3) := by decide +kernel
theorem dX3_limbAt_20 : decode cX3_limbAt 20 = .ok (.lconst 0, 1) := by decide +kernel
theorem dX3_limbAt_21 : decode cX3_limbAt 21 = .ok (.lreturn, 1) := by decide +kernel
theorem dX3_wholeFrom_0 : decode cX3_wholeFrom 0 = .ok (.iload_n 1, 1) := by decide +kernel
theorem dX3_wholeFrom_1 : decode cX3_wholeFrom 1 = .ok (.bipush 32, 2) := by decide +kernel
theorem dX3_wholeFrom_3 : decode cX3_wholeFrom 3 = .ok (.idiv, 1) := by decide +kernel
