theorem dX4_memberOf_103 : decode cX4_memberOf 103 = .ok (.iload 7, 2) := by decide +kernel
theorem dX4_memberOf_105 : decode cX4_memberOf 105 = .ok (.iload 9, 2) := by decide +kernel
theorem dX4_memberOf_107 : decode cX4_memberOf 107 = .ok (.invokestatic 52, 3) := by decide +kernel
theorem dX4_memberOf_110 : decode cX4_memberOf 110 = .ok (.istore 7, 2) := by decide +kernel
theorem dX4_memberOf_112 : decode cX4_memberOf 112 = .ok (.iinc 8 1, 3) := by decide +kernel
theorem dX4_memberOf_115 : decode cX4_memberOf 115 = .ok (.goto (-93), 3) := by decide +kernel
theorem dX4_memberOf_118 : decode cX4_memberOf 118 = .ok (.bipush (-9), 2) := by decide +kernel
theorem dX4_memberOf_120 : decode cX4_memberOf 120 = .ok (.ireturn, 1) := by decide +kernel
theorem dX4_memberBehind_0 : decode cX4_memberBehind 0 = .ok (.iconst 0, 1) := by decide +kernel
theorem dX4_memberBehind_1 : decode cX4_memberBehind 1 = .ok (.istore 5, 2) := by decide +kernel
theorem dX4_memberBehind_3 : decode cX4_memberBehind 3 = .ok (.iload 5, 2) := by decide +kernel
theorem dX4_memberBehind_5 : decode cX4_memberBehind 5 = .ok (.aload 4, 2) := by decide +kernel
theorem dX4_memberBehind_7 : decode cX4_memberBehind 7 = .ok (.getfield 39, 3) := by decide +kernel
theorem dX4_memberBehind_10 : decode cX4_memberBehind 10 = .ok (.if_icmp .ge 28, 3) := by decide +kernel
theorem dX4_memberBehind_13 : decode cX4_memberBehind 13 = .ok (.lload_n 2, 1) := by decide +kernel
theorem dX4_memberBehind_14 : decode cX4_memberBehind 14 = .ok (.aload_n 0, 1) := by decide +kernel
theorem dX4_memberBehind_15 : decode cX4_memberBehind 15 = .ok (.iload_n 1, 1) := by decide +kernel
theorem dX4_memberBehind_16 : decode cX4_memberBehind 16 = .ok (.iload 5, 2) := by decide +kernel
theorem dX4_memberBehind_18 : decode cX4_memberBehind 18 = .ok (.iconst 1, 1) := by decide +kernel
theorem dX4_memberBehind_19 : decode cX4_memberBehind 19 = .ok (.iadd, 1) := by decide +kernel
theorem dX4_memberBehind_20 : decode cX4_memberBehind 20 = .ok (.aload 4, 2) := by decide +kernel
theorem dX4_memberBehind_22 : decode cX4_memberBehind 22 = .ok (.invokevirtual 42, 3) := by decide +kernel
theorem dX4_memberBehind_25 : decode cX4_memberBehind 25 = .ok (.lcmp, 1) := by decide +kernel
theorem dX4_memberBehind_26 : decode cX4_memberBehind 26 = .ok (.ifCond .ge 6, 3) := by decide +kernel
theorem dX4_memberBehind_29 : decode cX4_memberBehind 29 = .ok (.iload 5, 2) := by decide +kernel
theorem dX4_memberBehind_31 : decode cX4_memberBehind 31 = .ok (.ireturn, 1) := by decide +kernel
theorem dX4_memberBehind_32 : decode cX4_memberBehind 32 = .ok (.iinc 5 1, 3) := by decide +kernel
theorem dX4_memberBehind_35 : decode cX4_memberBehind 35 = .ok (.goto (-32), 3) := by decide +kernel
theorem dX4_memberBehind_38 : decode cX4_memberBehind 38 = .ok (.bipush (-9), 2) := by decide +kernel
theorem dX4_memberBehind_40 : decode cX4_memberBehind 40 = .ok (.ireturn, 1) := by decide +kernel
theorem dX4_numberOf_0 : decode cX4_numberOf 0 = .ok (.lconst 0, 1) := by decide +kernel
theorem dX4_numberOf_1 : decode cX4_numberOf 1 = .ok (.lstore_n 3, 1) := by decide +kernel
theorem dX4_numberOf_2 : decode cX4_numberOf 2 = .ok (.iconst 0, 1) := by decide +kernel
theorem dX4_numberOf_3 : decode cX4_numberOf 3 = .ok (.istore 5, 2) := by decide +kernel
theorem dX4_numberOf_5 : decode cX4_numberOf 5 = .ok (.iconst 0, 1) := by decide +kernel
theorem dX4_numberOf_6 : decode cX4_numberOf 6 = .ok (.istore 6, 2) := by decide +kernel
theorem dX4_numberOf_8 : decode cX4_numberOf 8 = .ok (.iload 6, 2) := by decide +kernel
theorem dX4_numberOf_10 : decode cX4_numberOf 10 = .ok (.aload_n 2, 1) := by decide +kernel
theorem dX4_numberOf_11 : decode cX4_numberOf 11 = .ok (.getfield 63, 3) := by decide +kernel
theorem dX4_numberOf_14 : decode cX4_numberOf 14 = .ok (.if_icmp .ge 51, 3) := by decide +kernel
theorem dX4_numberOf_17 : decode cX4_numberOf 17 = .ok (.aload_n 1, 1) := by decide +kernel
theorem dX4_numberOf_18 : decode cX4_numberOf 18 = .ok (.iload 5, 2) := by decide +kernel
theorem dX4_numberOf_20 : decode cX4_numberOf 20 = .ok (.invokevirtual 35, 3) := by decide +kernel
theorem dX4_numberOf_23 : decode cX4_numberOf 23 = .ok (.ifCond .eq 7, 3) := by decide +kernel
theorem dX4_numberOf_26 : decode cX4_numberOf 26 = .ok (.lload_n 3, 1) := by decide +kernel
theorem dX4_numberOf_27 : decode cX4_numberOf 27 = .ok (.lconst 1, 1) := by decide +kernel
theorem dX4_numberOf_28 : decode cX4_numberOf 28 = .ok (.ladd, 1) := by decide +kernel
theorem dX4_numberOf_29 : decode cX4_numberOf 29 = .ok (.lstore_n 3, 1) := by decide +kernel
theorem dX4_numberOf_30 : decode cX4_numberOf 30 = .ok (.lload_n 3, 1) := by decide +kernel
theorem dX4_numberOf_31 : decode cX4_numberOf 31 = .ok (.aload_n 0, 1) := by decide +kernel
theorem dX4_numberOf_32 : decode cX4_numberOf 32 = .ok (.iload 5, 2) := by decide +kernel
theorem dX4_numberOf_34 : decode cX4_numberOf 34 = .ok (.aload_n 2, 1) := by decide +kernel
theorem dX4_numberOf_35 : decode cX4_numberOf 35 = .ok (.iload 6, 2) := by decide +kernel
theorem dX4_numberOf_37 : decode cX4_numberOf 37 = .ok (.invokevirtual 66, 3) := by decide +kernel
theorem dX4_numberOf_40 : decode cX4_numberOf 40 = .ok (.aload_n 1, 1) := by decide +kernel
theorem dX4_numberOf_41 : decode cX4_numberOf 41 = .ok (.invokevirtual 42, 3) := by decide +kernel
theorem dX4_numberOf_44 : decode cX4_numberOf 44 = .ok (.ladd, 1) := by decide +kernel
theorem dX4_numberOf_45 : decode cX4_numberOf 45 = .ok (.lstore_n 3, 1) := by decide +kernel
theorem dX4_numberOf_46 : decode cX4_numberOf 46 = .ok (.iload 5, 2) := by decide +kernel
theorem dX4_numberOf_48 : decode cX4_numberOf 48 = .ok (.aload_n 2, 1) := by decide +kernel
theorem dX4_numberOf_49 : decode cX4_numberOf 49 = .ok (.iload 6, 2) := by decide +kernel
theorem dX4_numberOf_51 : decode cX4_numberOf 51 = .ok (.invokevirtual 66, 3) := by decide +kernel
theorem dX4_numberOf_54 : decode cX4_numberOf 54 = .ok (.invokestatic 52, 3) := by decide +kernel
theorem dX4_numberOf_57 : decode cX4_numberOf 57 = .ok (.istore 5, 2) := by decide +kernel
theorem dX4_numberOf_59 : decode cX4_numberOf 59 = .ok (.iinc 6 1, 3) := by decide +kernel
theorem dX4_numberOf_62 : decode cX4_numberOf 62 = .ok (.goto (-54), 3) := by decide +kernel
theorem dX4_numberOf_65 : decode cX4_numberOf 65 = .ok (.lload_n 3, 1) := by decide +kernel
theorem dX4_numberOf_66 : decode cX4_numberOf 66 = .ok (.lreturn, 1) := by decide +kernel
theorem dX5_init_0 : decode cX5_init 0 = .ok (.aload_n 0, 1) := by decide +kernel
theorem dX5_init_1 : decode cX5_init 1 = .ok (.invokespecial 3, 3) := by decide +kernel
theorem dX5_init_4 : decode cX5_init 4 = .ok (.aload_n 0, 1) := by decide +kernel
theorem dX5_init_5 : decode cX5_init 5 = .ok (.sipush 4096, 3) := by decide +kernel
theorem dX5_init_8 : decode cX5_init 8 = .ok (.newarray .int, 2) := by decide +kernel
theorem dX5_init_10 : decode cX5_init 10 = .ok (.putfield 9, 3) := by decide +kernel
theorem dX5_init_13 : decode cX5_init 13 = .ok (.aload_n 0, 1) := by decide +kernel
theorem dX5_init_14 : decode cX5_init 14 = .ok (.sipush 4096, 3) := by decide +kernel
theorem dX5_init_17 : decode cX5_init 17 = .ok (.newarray .int, 2) := by decide +kernel
theorem dX5_init_19 : decode cX5_init 19 = .ok (.putfield 15, 3) := by decide +kernel
theorem dX5_init_22 : decode cX5_init 22 = .ok (.aload_n 0, 1) := by decide +kernel
theorem dX5_init_23 : decode cX5_init 23 = .ok (.sipush 4096, 3) := by decide +kernel
theorem dX5_init_26 : decode cX5_init 26 = .ok (.newarray .long, 2) := by decide +kernel
theorem dX5_init_28 : decode cX5_init 28 = .ok (.putfield 18, 3) := by decide +kernel
theorem dX5_init_31 : decode cX5_init 31 = .ok (.aload_n 0, 1) := by decide +kernel
theorem dX5_init_32 : decode cX5_init 32 = .ok (.bipush 18, 2) := by decide +kernel
theorem dX5_init_34 : decode cX5_init 34 = .ok (.newarray .int, 2) := by decide +kernel
theorem dX5_init_36 : decode cX5_init 36 = .ok (.putfield 22, 3) := by decide +kernel
theorem dX5_init_39 : decode cX5_init 39 = .ok (.aload_n 0, 1) := by decide +kernel
theorem dX5_init_40 : decode cX5_init 40 = .ok (.bipush 18, 2) := by decide +kernel
theorem dX5_init_42 : decode cX5_init 42 = .ok (.newarray .int, 2) := by decide +kernel
theorem dX5_init_44 : decode cX5_init 44 = .ok (.putfield 25, 3) := by decide +kernel
theorem dX5_init_47 : decode cX5_init 47 = .ok (.aload_n 0, 1) := by decide +kernel
theorem dX5_init_48 : decode cX5_init 48 = .ok (.bipush 18, 2) := by decide +kernel
theorem dX5_init_50 : decode cX5_init 50 = .ok (.newarray .int, 2) := by decide +kernel
theorem dX5_init_52 : decode cX5_init 52 = .ok (.putfield 28, 3) := by decide +kernel
theorem dX5_init_55 : decode cX5_init 55 = .ok (.return_, 1) := by decide +kernel
theorem dX5_forget_0 : decode cX5_forget 0 = .ok (.aload_n 0, 1) := by decide +kernel
theorem dX5_forget_1 : decode cX5_forget 1 = .ok (.iconst 0, 1) := by decide +kernel
theorem dX5_forget_2 : decode cX5_forget 2 = .ok (.putfield 31, 3) := by decide +kernel
theorem dX5_forget_5 : decode cX5_forget 5 = .ok (.return_, 1) := by decide +kernel
theorem dX5_learn_0 : decode cX5_learn 0 = .ok (.aload_n 0, 1) := by decide +kernel
theorem dX5_learn_1 : decode cX5_learn 1 = .ok (.getfield 31, 3) := by decide +kernel
theorem dX5_learn_4 : decode cX5_learn 4 = .ok (.ifCond .eq 4, 3) := by decide +kernel
theorem dX5_learn_7 : decode cX5_learn 7 = .ok (.return_, 1) := by decide +kernel
theorem dX5_learn_8 : decode cX5_learn 8 = .ok (.aload_n 0, 1) := by decide +kernel
theorem dX5_learn_9 : decode cX5_learn 9 = .ok (.aload_n 1, 1) := by decide +kernel
theorem dX5_learn_10 : decode cX5_learn 10 = .ok (.aload_n 2, 1) := by decide +kernel
theorem dX5_learn_11 : decode cX5_learn 11 = .ok (.invokevirtual 35, 3) := by decide +kernel
theorem dX5_learn_14 : decode cX5_learn 14 = .ok (.aload_n 0, 1) := by decide +kernel
theorem dX5_learn_15 : decode cX5_learn 15 = .ok (.aload_n 1, 1) := by decide +kernel
theorem dX5_learn_16 : decode cX5_learn 16 = .ok (.aload_n 2, 1) := by decide +kernel
theorem dX5_learn_17 : decode cX5_learn 17 = .ok (.invokevirtual 39, 3) := by decide +kernel
theorem dX5_learn_20 : decode cX5_learn 20 = .ok (.aload_n 0, 1) := by decide +kernel
theorem dX5_learn_21 : decode cX5_learn 21 = .ok (.aload_n 1, 1) := by decide +kernel
theorem dX5_learn_22 : decode cX5_learn 22 = .ok (.aload_n 2, 1) := by decide +kernel
theorem dX5_learn_23 : decode cX5_learn 23 = .ok (.invokevirtual 42, 3) := by decide +kernel
theorem dX5_learn_26 : decode cX5_learn 26 = .ok (.aload_n 0, 1) := by decide +kernel
theorem dX5_learn_27 : decode cX5_learn 27 = .ok (.iconst 1, 1) := by decide +kernel
theorem dX5_learn_28 : decode cX5_learn 28 = .ok (.putfield 31, 3) := by decide +kernel
theorem dX5_learn_31 : decode cX5_learn 31 = .ok (.return_, 1) := by decide +kernel
theorem dX5_exists_0 : decode cX5_exists 0 = .ok (.aload_n 0, 1) := by decide +kernel
theorem dX5_exists_1 : decode cX5_exists 1 = .ok (.iconst 0, 1) := by decide +kernel
theorem dX5_exists_2 : decode cX5_exists 2 = .ok (.invokevirtual 45, 3) := by decide +kernel
theorem dX5_exists_5 : decode cX5_exists 5 = .ok (.lconst 0, 1) := by decide +kernel
theorem dX5_exists_6 : decode cX5_exists 6 = .ok (.lcmp, 1) := by decide +kernel
theorem dX5_exists_7 : decode cX5_exists 7 = .ok (.ifCond .le 7, 3) := by decide +kernel
theorem dX5_exists_10 : decode cX5_exists 10 = .ok (.iconst 1, 1) := by decide +kernel
theorem dX5_exists_11 : decode cX5_exists 11 = .ok (.goto 4, 3) := by decide +kernel
theorem dX5_exists_14 : decode cX5_exists 14 = .ok (.iconst 0, 1) := by decide +kernel
theorem dX5_exists_15 : decode cX5_exists 15 = .ok (.ireturn, 1) := by decide +kernel
theorem dX5_endOf_0 : decode cX5_endOf 0 = .ok (.iload_n 1, 1) := by decide +kernel
theorem dX5_endOf_1 : decode cX5_endOf 1 = .ok (.ifCond .lt 21, 3) := by decide +kernel
theorem dX5_endOf_4 : decode cX5_endOf 4 = .ok (.iload_n 1, 1) := by decide +kernel
theorem dX5_endOf_5 : decode cX5_endOf 5 = .ok (.aload_n 0, 1) := by decide +kernel
theorem dX5_endOf_6 : decode cX5_endOf 6 = .ok (.getfield 9, 3) := by decide +kernel
theorem dX5_endOf_9 : decode cX5_endOf 9 = .ok (.arraylength, 1) := by decide +kernel
theorem dX5_endOf_10 : decode cX5_endOf 10 = .ok (.if_icmp .ge 12, 3) := by decide +kernel
theorem dX5_endOf_13 : decode cX5_endOf 13 = .ok (.aload_n 0, 1) := by decide +kernel
theorem dX5_endOf_14 : decode cX5_endOf 14 = .ok (.getfield 9, 3) := by decide +kernel
theorem dX5_endOf_17 : decode cX5_endOf 17 = .ok (.iload_n 1, 1) := by decide +kernel
theorem dX5_endOf_18 : decode cX5_endOf 18 = .ok (.iaload, 1) := by decide +kernel
theorem dX5_endOf_19 : decode cX5_endOf 19 = .ok (.goto 5, 3) := by decide +kernel
theorem dX5_endOf_22 : decode cX5_endOf 22 = .ok (.bipush (-9), 2) := by decide +kernel
theorem dX5_endOf_24 : decode cX5_endOf 24 = .ok (.ireturn, 1) := by decide +kernel
theorem dX5_stepsFrom_0 : decode cX5_stepsFrom 0 = .ok (.iload_n 1, 1) := by decide +kernel
theorem dX5_stepsFrom_1 : decode cX5_stepsFrom 1 = .ok (.ifCond .lt 21, 3) := by decide +kernel
theorem dX5_stepsFrom_4 : decode cX5_stepsFrom 4 = .ok (.iload_n 1, 1) := by decide +kernel
theorem dX5_stepsFrom_5 : decode cX5_stepsFrom 5 = .ok (.aload_n 0, 1) := by decide +kernel
theorem dX5_stepsFrom_6 : decode cX5_stepsFrom 6 = .ok (.getfield 15, 3) := by decide +kernel
theorem dX5_stepsFrom_9 : decode cX5_stepsFrom 9 = .ok (.arraylength, 1) := by decide +kernel
theorem dX5_stepsFrom_10 : decode cX5_stepsFrom 10 = .ok (.if_icmp .ge 12, 3) := by decide +kernel
theorem dX5_stepsFrom_13 : decode cX5_stepsFrom 13 = .ok (.aload_n 0, 1) := by decide +kernel
theorem dX5_stepsFrom_14 : decode cX5_stepsFrom 14 = .ok (.getfield 15, 3) := by decide +kernel
theorem dX5_stepsFrom_17 : decode cX5_stepsFrom 17 = .ok (.iload_n 1, 1) := by decide +kernel
theorem dX5_stepsFrom_18 : decode cX5_stepsFrom 18 = .ok (.iaload, 1) := by decide +kernel
theorem dX5_stepsFrom_19 : decode cX5_stepsFrom 19 = .ok (.goto 4, 3) := by decide +kernel
theorem dX5_stepsFrom_22 : decode cX5_stepsFrom 22 = .ok (.iconst 0, 1) := by decide +kernel
theorem dX5_stepsFrom_23 : decode cX5_stepsFrom 23 = .ok (.ireturn, 1) := by decide +kernel
theorem dX5_waysFrom_0 : decode cX5_waysFrom 0 = .ok (.iload_n 1, 1) := by decide +kernel
theorem dX5_waysFrom_1 : decode cX5_waysFrom 1 = .ok (.ifCond .lt 21, 3) := by decide +kernel
theorem dX5_waysFrom_4 : decode cX5_waysFrom 4 = .ok (.iload_n 1, 1) := by decide +kernel
theorem dX5_waysFrom_5 : decode cX5_waysFrom 5 = .ok (.aload_n 0, 1) := by decide +kernel
theorem dX5_waysFrom_6 : decode cX5_waysFrom 6 = .ok (.getfield 18, 3) := by decide +kernel
theorem dX5_waysFrom_9 : decode cX5_waysFrom 9 = .ok (.arraylength, 1) := by decide +kernel
theorem dX5_waysFrom_10 : decode cX5_waysFrom 10 = .ok (.if_icmp .ge 12, 3) := by decide +kernel
theorem dX5_waysFrom_13 : decode cX5_waysFrom 13 = .ok (.aload_n 0, 1) := by decide +kernel
theorem dX5_waysFrom_14 : decode cX5_waysFrom 14 = .ok (.getfield 18, 3) := by decide +kernel
theorem dX5_waysFrom_17 : decode cX5_waysFrom 17 = .ok (.iload_n 1, 1) := by decide +kernel
theorem dX5_waysFrom_18 : decode cX5_waysFrom 18 = .ok (.laload, 1) := by decide +kernel
theorem dX5_waysFrom_19 : decode cX5_waysFrom 19 = .ok (.goto 4, 3) := by decide +kernel
theorem dX5_waysFrom_22 : decode cX5_waysFrom 22 = .ok (.lconst 0, 1) := by decide +kernel
theorem dX5_waysFrom_23 : decode cX5_waysFrom 23 = .ok (.lreturn, 1) := by decide +kernel
theorem dX5_memberAt_0 : decode cX5_memberAt 0 = .ok (.iload_n 1, 1) := by decide +kernel
theorem dX5_memberAt_1 : decode cX5_memberAt 1 = .ok (.ifCond .lt 29, 3) := by decide +kernel
theorem dX5_memberAt_4 : decode cX5_memberAt 4 = .ok (.iload_n 1, 1) := by decide +kernel
theorem dX5_memberAt_5 : decode cX5_memberAt 5 = .ok (.aload_n 0, 1) := by decide +kernel
theorem dX5_memberAt_6 : decode cX5_memberAt 6 = .ok (.getfield 49, 3) := by decide +kernel
theorem dX5_memberAt_9 : decode cX5_memberAt 9 = .ok (.if_icmp .ge 21, 3) := by decide +kernel
theorem dX5_memberAt_12 : decode cX5_memberAt 12 = .ok (.iload_n 1, 1) := by decide +kernel
theorem dX5_memberAt_13 : decode cX5_memberAt 13 = .ok (.aload_n 0, 1) := by decide +kernel
theorem dX5_memberAt_14 : decode cX5_memberAt 14 = .ok (.getfield 22, 3) := by decide +kernel
theorem dX5_memberAt_17 : decode cX5_memberAt 17 = .ok (.arraylength, 1) := by decide +kernel
theorem dX5_memberAt_18 : decode cX5_memberAt 18 = .ok (.if_icmp .ge 12, 3) := by decide +kernel
theorem dX5_memberAt_21 : decode cX5_memberAt 21 = .ok (.aload_n 0, 1) := by decide +kernel
theorem dX5_memberAt_22 : decode cX5_memberAt 22 = .ok (.getfield 22, 3) := by decide +kernel
theorem dX5_memberAt_25 : decode cX5_memberAt 25 = .ok (.iload_n 1, 1) := by decide +kernel
theorem dX5_memberAt_26 : decode cX5_memberAt 26 = .ok (.iaload, 1) := by decide +kernel
theorem dX5_memberAt_27 : decode cX5_memberAt 27 = .ok (.goto 5, 3) := by decide +kernel
theorem dX5_memberAt_30 : decode cX5_memberAt 30 = .ok (.bipush (-9), 2) := by decide +kernel
theorem dX5_memberAt_32 : decode cX5_memberAt 32 = .ok (.ireturn, 1) := by decide +kernel
theorem dX5_startAt_0 : decode cX5_startAt 0 = .ok (.iload_n 1, 1) := by decide +kernel
theorem dX5_startAt_1 : decode cX5_startAt 1 = .ok (.ifCond .lt 29, 3) := by decide +kernel
theorem dX5_startAt_4 : decode cX5_startAt 4 = .ok (.iload_n 1, 1) := by decide +kernel
theorem dX5_startAt_5 : decode cX5_startAt 5 = .ok (.aload_n 0, 1) := by decide +kernel
theorem dX5_startAt_6 : decode cX5_startAt 6 = .ok (.getfield 49, 3) := by decide +kernel
theorem dX5_startAt_9 : decode cX5_startAt 9 = .ok (.if_icmp .ge 21, 3) := by decide +kernel
theorem dX5_startAt_12 : decode cX5_startAt 12 = .ok (.iload_n 1, 1) := by decide +kernel
theorem dX5_startAt_13 : decode cX5_startAt 13 = .ok (.aload_n 0, 1) := by decide +kernel
theorem dX5_startAt_14 : decode cX5_startAt 14 = .ok (.getfield 25, 3) := by decide +kernel
theorem dX5_startAt_17 : decode cX5_startAt 17 = .ok (.arraylength, 1) := by decide +kernel
theorem dX5_startAt_18 : decode cX5_startAt 18 = .ok (.if_icmp .ge 12, 3) := by decide +kernel
theorem dX5_startAt_21 : decode cX5_startAt 21 = .ok (.aload_n 0, 1) := by decide +kernel
theorem dX5_startAt_22 : decode cX5_startAt 22 = .ok (.getfield 25, 3) := by decide +kernel
theorem dX5_startAt_25 : decode cX5_startAt 25 = .ok (.iload_n 1, 1) := by decide +kernel
theorem dX5_startAt_26 : decode cX5_startAt 26 = .ok (.iaload, 1) := by decide +kernel
theorem dX5_startAt_27 : decode cX5_startAt 27 = .ok (.goto 5, 3) := by decide +kernel
theorem dX5_startAt_30 : decode cX5_startAt 30 = .ok (.bipush (-9), 2) := by decide +kernel
theorem dX5_startAt_32 : decode cX5_startAt 32 = .ok (.ireturn, 1) := by decide +kernel
theorem dX5_numberAt_0 : decode cX5_numberAt 0 = .ok (.iload_n 1, 1) := by decide +kernel
theorem dX5_numberAt_1 : decode cX5_numberAt 1 = .ok (.ifCond .lt 29, 3) := by decide +kernel
theorem dX5_numberAt_4 : decode cX5_numberAt 4 = .ok (.iload_n 1, 1) := by decide +kernel
theorem dX5_numberAt_5 : decode cX5_numberAt 5 = .ok (.aload_n 0, 1) := by decide +kernel
theorem dX5_numberAt_6 : decode cX5_numberAt 6 = .ok (.getfield 49, 3) := by decide +kernel
theorem dX5_numberAt_9 : decode cX5_numberAt 9 = .ok (.if_icmp .ge 21, 3) := by decide +kernel
theorem dX5_numberAt_12 : decode cX5_numberAt 12 = .ok (.iload_n 1, 1) := by decide +kernel
theorem dX5_numberAt_13 : decode cX5_numberAt 13 = .ok (.aload_n 0, 1) := by decide +kernel
theorem dX5_numberAt_14 : decode cX5_numberAt 14 = .ok (.getfield 28, 3) := by decide +kernel
theorem dX5_numberAt_17 : decode cX5_numberAt 17 = .ok (.arraylength, 1) := by decide +kernel
theorem dX5_numberAt_18 : decode cX5_numberAt 18 = .ok (.if_icmp .ge 12, 3) := by decide +kernel
theorem dX5_numberAt_21 : decode cX5_numberAt 21 = .ok (.aload_n 0, 1) := by decide +kernel
theorem dX5_numberAt_22 : decode cX5_numberAt 22 = .ok (.getfield 28, 3) := by decide +kernel
theorem dX5_numberAt_25 : decode cX5_numberAt 25 = .ok (.iload_n 1, 1) := by decide +kernel
theorem dX5_numberAt_26 : decode cX5_numberAt 26 = .ok (.iaload, 1) := by decide +kernel
theorem dX5_numberAt_27 : decode cX5_numberAt 27 = .ok (.goto 5, 3) := by decide +kernel
theorem dX5_numberAt_30 : decode cX5_numberAt 30 = .ok (.bipush (-9), 2) := by decide +kernel
theorem dX5_numberAt_32 : decode cX5_numberAt 32 = .ok (.ireturn, 1) := by decide +kernel
theorem dX5_findEnds_0 : decode cX5_findEnds 0 = .ok (.aload_n 1, 1) := by decide +kernel
theorem dX5_findEnds_1 : decode cX5_findEnds 1 = .ok (.invokevirtual 53, 3) := by decide +kernel
theorem dX5_findEnds_4 : decode cX5_findEnds 4 = .ok (.istore_n 3, 1) := by decide +kernel
theorem dX5_findEnds_5 : decode cX5_findEnds 5 = .ok (.iconst 0, 1) := by decide +kernel
theorem dX5_findEnds_6 : decode cX5_findEnds 6 = .ok (.istore 4, 2) := by decide +kernel
theorem dX5_findEnds_8 : decode cX5_findEnds 8 = .ok (.iload 4, 2) := by decide +kernel
theorem dX5_findEnds_10 : decode cX5_findEnds 10 = .ok (.iload_n 3, 1) := by decide +kernel
theorem dX5_findEnds_11 : decode cX5_findEnds 11 = .ok (.if_icmp .ge 37, 3) := by decide +kernel
theorem dX5_findEnds_14 : decode cX5_findEnds 14 = .ok (.iload 4, 2) := by decide +kernel
theorem dX5_findEnds_16 : decode cX5_findEnds 16 = .ok (.aload_n 0, 1) := by decide +kernel
theorem dX5_findEnds_17 : decode cX5_findEnds 17 = .ok (.getfield 9, 3) := by decide +kernel
theorem dX5_findEnds_20 : decode cX5_findEnds 20 = .ok (.arraylength, 1) := by decide +kernel
theorem dX5_findEnds_21 : decode cX5_findEnds 21 = .ok (.if_icmp .ge 27, 3) := by decide +kernel
theorem dX5_findEnds_24 : decode cX5_findEnds 24 = .ok (.aload_n 0, 1) := by decide +kernel
theorem dX5_findEnds_25 : decode cX5_findEnds 25 = .ok (.getfield 9, 3) := by decide +kernel
theorem dX5_findEnds_28 : decode cX5_findEnds 28 = .ok (.iload 4, 2) := by decide +kernel
theorem dX5_findEnds_30 : decode cX5_findEnds 30 = .ok (.iload 4, 2) := by decide +kernel
theorem dX5_findEnds_32 : decode cX5_findEnds 32 = .ok (.ifCond .ne 7, 3) := by decide +kernel
theorem dX5_findEnds_35 : decode cX5_findEnds 35 = .ok (.iconst 0, 1) := by decide +kernel
theorem dX5_findEnds_36 : decode cX5_findEnds 36 = .ok (.goto 5, 3) := by decide +kernel
theorem dX5_findEnds_39 : decode cX5_findEnds 39 = .ok (.bipush (-9), 2) := by decide +kernel
theorem dX5_findEnds_41 : decode cX5_findEnds 41 = .ok (.iastore, 1) := by decide +kernel
theorem dX5_findEnds_42 : decode cX5_findEnds 42 = .ok (.iinc 4 1, 3) := by decide +kernel
theorem dX5_findEnds_45 : decode cX5_findEnds 45 = .ok (.goto (-37), 3) := by decide +kernel
theorem dX5_findEnds_48 : decode cX5_findEnds 48 = .ok (.iconst 0, 1) := by decide +kernel
theorem dX5_findEnds_49 : decode cX5_findEnds 49 = .ok (.istore 4, 2) := by decide +kernel
theorem dX5_findEnds_51 : decode cX5_findEnds 51 = .ok (.iload 4, 2) := by decide +kernel
theorem dX5_findEnds_53 : decode cX5_findEnds 53 = .ok (.iload_n 3, 1) := by decide +kernel
theorem dX5_findEnds_54 : decode cX5_findEnds 54 = .ok (.if_icmp .ge 51, 3) := by decide +kernel
theorem dX5_findEnds_57 : decode cX5_findEnds 57 = .ok (.iload 4, 2) := by decide +kernel
theorem dX5_findEnds_59 : decode cX5_findEnds 59 = .ok (.aload_n 0, 1) := by decide +kernel
theorem dX5_findEnds_60 : decode cX5_findEnds 60 = .ok (.getfield 15, 3) := by decide +kernel
theorem dX5_findEnds_63 : decode cX5_findEnds 63 = .ok (.arraylength, 1) := by decide +kernel
theorem dX5_findEnds_64 : decode cX5_findEnds 64 = .ok (.if_icmp .ge 41, 3) := by decide +kernel
theorem dX5_findEnds_67 : decode cX5_findEnds 67 = .ok (.aload_n 0, 1) := by decide +kernel
theorem dX5_findEnds_68 : decode cX5_findEnds 68 = .ok (.getfield 15, 3) := by decide +kernel
theorem dX5_findEnds_71 : decode cX5_findEnds 71 = .ok (.iload 4, 2) := by decide +kernel
theorem dX5_findEnds_73 : decode cX5_findEnds 73 = .ok (.iconst 0, 1) := by decide +kernel
theorem dX5_findEnds_74 : decode cX5_findEnds 74 = .ok (.iastore, 1) := by decide +kernel
theorem dX5_findEnds_75 : decode cX5_findEnds 75 = .ok (.aload_n 0, 1) := by decide +kernel
theorem dX5_findEnds_76 : decode cX5_findEnds 76 = .ok (.iload 4, 2) := by decide +kernel
theorem dX5_findEnds_78 : decode cX5_findEnds 78 = .ok (.invokevirtual 59, 3) := by decide +kernel
theorem dX5_findEnds_81 : decode cX5_findEnds 81 = .ok (.ifCond .lt 18, 3) := by decide +kernel
theorem dX5_findEnds_84 : decode cX5_findEnds 84 = .ok (.aload_n 0, 1) := by decide +kernel
theorem dX5_findEnds_85 : decode cX5_findEnds 85 = .ok (.getfield 15, 3) := by decide +kernel
theorem dX5_findEnds_88 : decode cX5_findEnds 88 = .ok (.iload 4, 2) := by decide +kernel
theorem dX5_findEnds_90 : decode cX5_findEnds 90 = .ok (.aload_n 0, 1) := by decide +kernel
theorem dX5_findEnds_91 : decode cX5_findEnds 91 = .ok (.iload 4, 2) := by decide +kernel
theorem dX5_findEnds_93 : decode cX5_findEnds 93 = .ok (.aload_n 1, 1) := by decide +kernel
theorem dX5_findEnds_94 : decode cX5_findEnds 94 = .ok (.aload_n 2, 1) := by decide +kernel
theorem dX5_findEnds_95 : decode cX5_findEnds 95 = .ok (.invokevirtual 63, 3) := by decide +kernel
theorem dX5_findEnds_98 : decode cX5_findEnds 98 = .ok (.iastore, 1) := by decide +kernel
theorem dX5_findEnds_99 : decode cX5_findEnds 99 = .ok (.iinc 4 1, 3) := by decide +kernel
theorem dX5_findEnds_102 : decode cX5_findEnds 102 = .ok (.goto (-51), 3) := by decide +kernel
theorem dX5_findEnds_105 : decode cX5_findEnds 105 = .ok (.return_, 1) := by decide +kernel
theorem dX5_findSteps_0 : decode cX5_findSteps 0 = .ok (.aload_n 0, 1) := by decide +kernel
theorem dX5_findSteps_1 : decode cX5_findSteps 1 = .ok (.iload_n 1, 1) := by decide +kernel
theorem dX5_findSteps_2 : decode cX5_findSteps 2 = .ok (.aload_n 2, 1) := by decide +kernel
theorem dX5_findSteps_3 : decode cX5_findSteps 3 = .ok (.aload_n 3, 1) := by decide +kernel
theorem dX5_findSteps_4 : decode cX5_findSteps 4 = .ok (.invokevirtual 67, 3) := by decide +kernel
theorem dX5_findSteps_7 : decode cX5_findSteps 7 = .ok (.istore 4, 2) := by decide +kernel
theorem dX5_findSteps_9 : decode cX5_findSteps 9 = .ok (.iload 4, 2) := by decide +kernel
theorem dX5_findSteps_11 : decode cX5_findSteps 11 = .ok (.ifCond .lt 11, 3) := by decide +kernel
theorem dX5_findSteps_14 : decode cX5_findSteps 14 = .ok (.aload_n 2, 1) := by decide +kernel
theorem dX5_findSteps_15 : decode cX5_findSteps 15 = .ok (.iload_n 1, 1) := by decide +kernel
theorem dX5_findSteps_16 : decode cX5_findSteps 16 = .ok (.invokevirtual 70, 3) := by decide +kernel
theorem dX5_findSteps_19 : decode cX5_findSteps 19 = .ok (.goto 4, 3) := by decide +kernel
theorem dX5_findSteps_22 : decode cX5_findSteps 22 = .ok (.iconst 0, 1) := by decide +kernel
theorem dX5_findSteps_23 : decode cX5_findSteps 23 = .ok (.istore 5, 2) := by decide +kernel
theorem dX5_findSteps_25 : decode cX5_findSteps 25 = .ok (.iconst 0, 1) := by decide +kernel
theorem dX5_findSteps_26 : decode cX5_findSteps 26 = .ok (.istore 6, 2) := by decide +kernel
theorem dX5_findSteps_28 : decode cX5_findSteps 28 = .ok (.iconst 0, 1) := by decide +kernel
theorem dX5_findSteps_29 : decode cX5_findSteps 29 = .ok (.istore 7, 2) := by decide +kernel
theorem dX5_findSteps_31 : decode cX5_findSteps 31 = .ok (.iload 7, 2) := by decide +kernel
theorem dX5_findSteps_33 : decode cX5_findSteps 33 = .ok (.aload_n 2, 1) := by decide +kernel
theorem dX5_findSteps_34 : decode cX5_findSteps 34 = .ok (.getfield 73, 3) := by decide +kernel
theorem dX5_findSteps_37 : decode cX5_findSteps 37 = .ok (.if_icmp .ge 85, 3) := by decide +kernel
theorem dX5_findSteps_40 : decode cX5_findSteps 40 = .ok (.iload 5, 2) := by decide +kernel
theorem dX5_findSteps_42 : decode cX5_findSteps 42 = .ok (.iload 7, 2) := by decide +kernel
theorem dX5_findSteps_44 : decode cX5_findSteps 44 = .ok (.invokestatic 74, 3) := by decide +kernel
theorem dX5_findSteps_47 : decode cX5_findSteps 47 = .ok (.iconst 1, 1) := by decide +kernel
theorem dX5_findSteps_48 : decode cX5_findSteps 48 = .ok (.if_icmp .ne 18, 3) := by decide +kernel
theorem dX5_findSteps_51 : decode cX5_findSteps 51 = .ok (.aload_n 3, 1) := by decide +kernel
theorem dX5_findSteps_52 : decode cX5_findSteps 52 = .ok (.aload_n 2, 1) := by decide +kernel
theorem dX5_findSteps_53 : decode cX5_findSteps 53 = .ok (.iload 7, 2) := by decide +kernel
theorem dX5_findSteps_55 : decode cX5_findSteps 55 = .ok (.invokevirtual 78, 3) := by decide +kernel
theorem dX5_findSteps_58 : decode cX5_findSteps 58 = .ok (.iload 4, 2) := by decide +kernel
theorem dX5_findSteps_60 : decode cX5_findSteps 60 = .ok (.invokevirtual 82, 3) := by decide +kernel
theorem dX5_findSteps_63 : decode cX5_findSteps 63 = .ok (.goto 5, 3) := by decide +kernel
theorem dX5_findSteps_66 : decode cX5_findSteps 66 = .ok (.bipush (-9), 2) := by decide +kernel
theorem dX5_findSteps_68 : decode cX5_findSteps 68 = .ok (.istore 8, 2) := by decide +kernel
theorem dX5_findSteps_70 : decode cX5_findSteps 70 = .ok (.iload_n 1, 1) := by decide +kernel
theorem dX5_findSteps_71 : decode cX5_findSteps 71 = .ok (.iload 7, 2) := by decide +kernel
theorem dX5_findSteps_73 : decode cX5_findSteps 73 = .ok (.invokestatic 87, 3) := by decide +kernel
theorem dX5_findSteps_76 : decode cX5_findSteps 76 = .ok (.istore 9, 2) := by decide +kernel
theorem dX5_findSteps_78 : decode cX5_findSteps 78 = .ok (.iload 8, 2) := by decide +kernel
theorem dX5_findSteps_80 : decode cX5_findSteps 80 = .ok (.ifCond .lt 36, 3) := by decide +kernel
theorem dX5_findSteps_83 : decode cX5_findSteps 83 = .ok (.iload 9, 2) := by decide +kernel
theorem dX5_findSteps_85 : decode cX5_findSteps 85 = .ok (.ifCond .lt 31, 3) := by decide +kernel
theorem dX5_findSteps_88 : decode cX5_findSteps 88 = .ok (.iload 9, 2) := by decide +kernel
theorem dX5_findSteps_90 : decode cX5_findSteps 90 = .ok (.aload_n 0, 1) := by decide +kernel
theorem dX5_findSteps_91 : decode cX5_findSteps 91 = .ok (.getfield 9, 3) := by decide +kernel
theorem dX5_findSteps_94 : decode cX5_findSteps 94 = .ok (.arraylength, 1) := by decide +kernel
theorem dX5_findSteps_95 : decode cX5_findSteps 95 = .ok (.if_icmp .ge 21, 3) := by decide +kernel
theorem dX5_findSteps_98 : decode cX5_findSteps 98 = .ok (.aload_n 0, 1) := by decide +kernel
theorem dX5_findSteps_99 : decode cX5_findSteps 99 = .ok (.getfield 9, 3) := by decide +kernel
theorem dX5_findSteps_102 : decode cX5_findSteps 102 = .ok (.iload 9, 2) := by decide +kernel
theorem dX5_findSteps_104 : decode cX5_findSteps 104 = .ok (.iload 8, 2) := by decide +kernel
theorem dX5_findSteps_106 : decode cX5_findSteps 106 = .ok (.iastore, 1) := by decide +kernel
theorem dX5_findSteps_107 : decode cX5_findSteps 107 = .ok (.iload 6, 2) := by decide +kernel
theorem dX5_findSteps_109 : decode cX5_findSteps 109 = .ok (.iconst 1, 1) := by decide +kernel
theorem dX5_findSteps_110 : decode cX5_findSteps 110 = .ok (.iload 7, 2) := by decide +kernel
theorem dX5_findSteps_112 : decode cX5_findSteps 112 = .ok (.ishl, 1) := by decide +kernel
theorem dX5_findSteps_113 : decode cX5_findSteps 113 = .ok (.ior, 1) := by decide +kernel
theorem dX5_findSteps_114 : decode cX5_findSteps 114 = .ok (.istore 6, 2) := by decide +kernel
theorem dX5_findSteps_116 : decode cX5_findSteps 116 = .ok (.iinc 7 1, 3) := by decide +kernel
theorem dX5_findSteps_119 : decode cX5_findSteps 119 = .ok (.goto (-88), 3) := by decide +kernel
theorem dX5_findSteps_122 : decode cX5_findSteps 122 = .ok (.iload 6, 2) := by decide +kernel
theorem dX5_findSteps_124 : decode cX5_findSteps 124 = .ok (.ireturn, 1) := by decide +kernel
theorem dX5_startBehind_0 : decode cX5_startBehind 0 = .ok (.aload_n 0, 1) := by decide +kernel
theorem dX5_startBehind_1 : decode cX5_startBehind 1 = .ok (.iload_n 1, 1) := by decide +kernel
theorem dX5_startBehind_2 : decode cX5_startBehind 2 = .ok (.invokevirtual 59, 3) := by decide +kernel
theorem dX5_startBehind_5 : decode cX5_startBehind 5 = .ok (.istore 4, 2) := by decide +kernel
theorem dX5_startBehind_7 : decode cX5_startBehind 7 = .ok (.iload_n 1, 1) := by decide +kernel
theorem dX5_startBehind_8 : decode cX5_startBehind 8 = .ok (.ifCond .eq 10, 3) := by decide +kernel
theorem dX5_startBehind_11 : decode cX5_startBehind 11 = .ok (.aload_n 2, 1) := by decide +kernel
theorem dX5_startBehind_12 : decode cX5_startBehind 12 = .ok (.getfield 90, 3) := by decide +kernel
theorem dX5_startBehind_15 : decode cX5_startBehind 15 = .ok (.ifCond .ne 6, 3) := by decide +kernel
theorem dX5_startBehind_18 : decode cX5_startBehind 18 = .ok (.iload 4, 2) := by decide +kernel
theorem dX5_startBehind_20 : decode cX5_startBehind 20 = .ok (.ireturn, 1) := by decide +kernel
theorem dX5_startBehind_21 : decode cX5_startBehind 21 = .ok (.aload_n 3, 1) := by decide +kernel
theorem dX5_startBehind_22 : decode cX5_startBehind 22 = .ok (.iload 4, 2) := by decide +kernel
theorem dX5_startBehind_24 : decode cX5_startBehind 24 = .ok (.invokevirtual 93, 3) := by decide +kernel
theorem dX5_startBehind_27 : decode cX5_startBehind 27 = .ok (.aload_n 2, 1) := by decide +kernel
theorem dX5_startBehind_28 : decode cX5_startBehind 28 = .ok (.getfield 90, 3) := by decide +kernel
theorem dX5_startBehind_31 : decode cX5_startBehind 31 = .ok (.if_icmp .ne 10, 3) := by decide +kernel
theorem dX5_startBehind_34 : decode cX5_startBehind 34 = .ok (.iload 4, 2) := by decide +kernel
theorem dX5_startBehind_36 : decode cX5_startBehind 36 = .ok (.iconst 1, 1) := by decide +kernel
theorem dX5_startBehind_37 : decode cX5_startBehind 37 = .ok (.iadd, 1) := by decide +kernel
theorem dX5_startBehind_38 : decode cX5_startBehind 38 = .ok (.goto 5, 3) := by decide +kernel
theorem dX5_startBehind_41 : decode cX5_startBehind 41 = .ok (.bipush (-9), 2) := by decide +kernel
theorem dX5_startBehind_43 : decode cX5_startBehind 43 = .ok (.ireturn, 1) := by decide +kernel
theorem dX5_countWays_0 : decode cX5_countWays 0 = .ok (.aload_n 1, 1) := by decide +kernel
theorem dX5_countWays_1 : decode cX5_countWays 1 = .ok (.invokevirtual 53, 3) := by decide +kernel
theorem dX5_countWays_4 : decode cX5_countWays 4 = .ok (.aload_n 0, 1) := by decide +kernel
theorem dX5_countWays_5 : decode cX5_countWays 5 = .ok (.getfield 18, 3) := by decide +kernel
theorem dX5_countWays_8 : decode cX5_countWays 8 = .ok (.arraylength, 1) := by decide +kernel
theorem dX5_countWays_9 : decode cX5_countWays 9 = .ok (.invokestatic 95, 3) := by decide +kernel
theorem dX5_countWays_12 : decode cX5_countWays 12 = .ok (.iconst 1, 1) := by decide +kernel
theorem dX5_countWays_13 : decode cX5_countWays 13 = .ok (.isub, 1) := by decide +kernel
theorem dX5_countWays_14 : decode cX5_countWays 14 = .ok (.istore_n 3, 1) := by decide +kernel
theorem dX5_countWays_15 : decode cX5_countWays 15 = .ok (.iload_n 3, 1) := by decide +kernel
theorem dX5_countWays_16 : decode cX5_countWays 16 = .ok (.ifCond .lt 34, 3) := by decide +kernel
theorem dX5_countWays_19 : decode cX5_countWays 19 = .ok (.aload_n 0, 1) := by decide +kernel
theorem dX5_countWays_20 : decode cX5_countWays 20 = .ok (.getfield 18, 3) := by decide +kernel
theorem dX5_countWays_23 : decode cX5_countWays 23 = .ok (.iload_n 3, 1) := by decide +kernel
theorem dX5_countWays_24 : decode cX5_countWays 24 = .ok (.aload_n 0, 1) := by decide +kernel
theorem dX5_countWays_25 : decode cX5_countWays 25 = .ok (.iload_n 3, 1) := by decide +kernel
theorem dX5_countWays_26 : decode cX5_countWays 26 = .ok (.invokevirtual 59, 3) := by decide +kernel
theorem dX5_countWays_29 : decode cX5_countWays 29 = .ok (.ifCond .lt 13, 3) := by decide +kernel
theorem dX5_countWays_32 : decode cX5_countWays 32 = .ok (.aload_n 0, 1) := by decide +kernel
theorem dX5_countWays_33 : decode cX5_countWays 33 = .ok (.iload_n 3, 1) := by decide +kernel
theorem dX5_countWays_34 : decode cX5_countWays 34 = .ok (.aload_n 1, 1) := by decide +kernel
theorem dX5_countWays_35 : decode cX5_countWays 35 = .ok (.aload_n 2, 1) := by decide +kernel
theorem dX5_countWays_36 : decode cX5_countWays 36 = .ok (.invokevirtual 100, 3) := by decide +kernel
theorem dX5_countWays_39 : decode cX5_countWays 39 = .ok (.goto 4, 3) := by decide +kernel
theorem dX5_countWays_42 : decode cX5_countWays 42 = .ok (.lconst 0, 1) := by decide +kernel
theorem dX5_countWays_43 : decode cX5_countWays 43 = .ok (.lastore, 1) := by decide +kernel
theorem dX5_countWays_44 : decode cX5_countWays 44 = .ok (.iinc 3 (-1), 3) := by decide +kernel
theorem dX5_countWays_47 : decode cX5_countWays 47 = .ok (.goto (-32), 3) := by decide +kernel
theorem dX5_countWays_50 : decode cX5_countWays 50 = .ok (.return_, 1) := by decide +kernel
theorem dX5_countFrom_0 : decode cX5_countFrom 0 = .ok (.aload_n 0, 1) := by decide +kernel
theorem dX5_countFrom_1 : decode cX5_countFrom 1 = .ok (.iload_n 1, 1) := by decide +kernel
theorem dX5_countFrom_2 : decode cX5_countFrom 2 = .ok (.invokevirtual 59, 3) := by decide +kernel
theorem dX5_countFrom_5 : decode cX5_countFrom 5 = .ok (.aload_n 3, 1) := by decide +kernel
theorem dX5_countFrom_6 : decode cX5_countFrom 6 = .ok (.getfield 104, 3) := by decide +kernel
theorem dX5_countFrom_9 : decode cX5_countFrom 9 = .ok (.if_icmp .ne 15, 3) := by decide +kernel
theorem dX5_countFrom_12 : decode cX5_countFrom 12 = .ok (.aload_n 2, 1) := by decide +kernel
theorem dX5_countFrom_13 : decode cX5_countFrom 13 = .ok (.iload_n 1, 1) := by decide +kernel
theorem dX5_countFrom_14 : decode cX5_countFrom 14 = .ok (.invokevirtual 107, 3) := by decide +kernel
theorem dX5_countFrom_17 : decode cX5_countFrom 17 = .ok (.ifCond .eq 7, 3) := by decide +kernel
theorem dX5_countFrom_20 : decode cX5_countFrom 20 = .ok (.lconst 1, 1) := by decide +kernel
theorem dX5_countFrom_21 : decode cX5_countFrom 21 = .ok (.goto 4, 3) := by decide +kernel
theorem dX5_countFrom_24 : decode cX5_countFrom 24 = .ok (.lconst 0, 1) := by decide +kernel
theorem dX5_countFrom_25 : decode cX5_countFrom 25 = .ok (.lstore 4, 2) := by decide +kernel
theorem dX5_countFrom_27 : decode cX5_countFrom 27 = .ok (.iconst 0, 1) := by decide +kernel
theorem dX5_countFrom_28 : decode cX5_countFrom 28 = .ok (.istore 6, 2) := by decide +kernel
theorem dX5_countFrom_30 : decode cX5_countFrom 30 = .ok (.iload 6, 2) := by decide +kernel
theorem dX5_countFrom_32 : decode cX5_countFrom 32 = .ok (.aload_n 2, 1) := by decide +kernel
theorem dX5_countFrom_33 : decode cX5_countFrom 33 = .ok (.getfield 73, 3) := by decide +kernel
theorem dX5_countFrom_36 : decode cX5_countFrom 36 = .ok (.if_icmp .ge 38, 3) := by decide +kernel
theorem dX5_countFrom_39 : decode cX5_countFrom 39 = .ok (.aload_n 0, 1) := by decide +kernel
theorem dX5_countFrom_40 : decode cX5_countFrom 40 = .ok (.iload_n 1, 1) := by decide +kernel
theorem dX5_countFrom_41 : decode cX5_countFrom 41 = .ok (.invokevirtual 111, 3) := by decide +kernel
theorem dX5_countFrom_44 : decode cX5_countFrom 44 = .ok (.iload 6, 2) := by decide +kernel
theorem dX5_countFrom_46 : decode cX5_countFrom 46 = .ok (.invokestatic 74, 3) := by decide +kernel
theorem dX5_countFrom_49 : decode cX5_countFrom 49 = .ok (.iconst 1, 1) := by decide +kernel
theorem dX5_countFrom_50 : decode cX5_countFrom 50 = .ok (.if_icmp .ne 18, 3) := by decide +kernel
theorem dX5_countFrom_53 : decode cX5_countFrom 53 = .ok (.lload 4, 2) := by decide +kernel
theorem dX5_countFrom_55 : decode cX5_countFrom 55 = .ok (.aload_n 0, 1) := by decide +kernel
theorem dX5_countFrom_56 : decode cX5_countFrom 56 = .ok (.iload_n 1, 1) := by decide +kernel
theorem dX5_countFrom_57 : decode cX5_countFrom 57 = .ok (.iload 6, 2) := by decide +kernel
theorem dX5_countFrom_59 : decode cX5_countFrom 59 = .ok (.invokestatic 87, 3) := by decide +kernel
theorem dX5_countFrom_62 : decode cX5_countFrom 62 = .ok (.invokevirtual 45, 3) := by decide +kernel
theorem dX5_countFrom_65 : decode cX5_countFrom 65 = .ok (.ladd, 1) := by decide +kernel
theorem dX5_countFrom_66 : decode cX5_countFrom 66 = .ok (.lstore 4, 2) := by decide +kernel
theorem dX5_countFrom_68 : decode cX5_countFrom 68 = .ok (.iinc 6 1, 3) := by decide +kernel
theorem dX5_countFrom_71 : decode cX5_countFrom 71 = .ok (.goto (-41), 3) := by decide +kernel
theorem dX5_countFrom_74 : decode cX5_countFrom 74 = .ok (.lload 4, 2) := by decide +kernel
theorem dX5_countFrom_76 : decode cX5_countFrom 76 = .ok (.lreturn, 1) := by decide +kernel
theorem dX5_listFirst_0 : decode cX5_listFirst 0 = .ok (.aload_n 0, 1) := by decide +kernel
theorem dX5_listFirst_1 : decode cX5_listFirst 1 = .ok (.iconst 0, 1) := by decide +kernel
theorem dX5_listFirst_2 : decode cX5_listFirst 2 = .ok (.putfield 49, 3) := by decide +kernel
theorem dX5_listFirst_5 : decode cX5_listFirst 5 = .ok (.iconst 0, 1) := by decide +kernel
theorem dX5_listFirst_6 : decode cX5_listFirst 6 = .ok (.istore_n 3, 1) := by decide +kernel
theorem dX5_listFirst_7 : decode cX5_listFirst 7 = .ok (.iconst 0, 1) := by decide +kernel
theorem dX5_listFirst_8 : decode cX5_listFirst 8 = .ok (.istore 4, 2) := by decide +kernel
theorem dX5_listFirst_10 : decode cX5_listFirst 10 = .ok (.iload 4, 2) := by decide +kernel
theorem dX5_listFirst_12 : decode cX5_listFirst 12 = .ok (.aload_n 0, 1) := by decide +kernel
theorem dX5_listFirst_13 : decode cX5_listFirst 13 = .ok (.getfield 22, 3) := by decide +kernel
theorem dX5_listFirst_16 : decode cX5_listFirst 16 = .ok (.arraylength, 1) := by decide +kernel
theorem dX5_listFirst_17 : decode cX5_listFirst 17 = .ok (.if_icmp .ge 111, 3) := by decide +kernel
theorem dX5_listFirst_20 : decode cX5_listFirst 20 = .ok (.iload 4, 2) := by decide +kernel
theorem dX5_listFirst_22 : decode cX5_listFirst 22 = .ok (.aload_n 0, 1) := by decide +kernel
theorem dX5_listFirst_23 : decode cX5_listFirst 23 = .ok (.getfield 25, 3) := by decide +kernel
theorem dX5_listFirst_26 : decode cX5_listFirst 26 = .ok (.arraylength, 1) := by decide +kernel
theorem dX5_listFirst_27 : decode cX5_listFirst 27 = .ok (.if_icmp .ge 101, 3) := by decide +kernel
theorem dX5_listFirst_30 : decode cX5_listFirst 30 = .ok (.iload 4, 2) := by decide +kernel
theorem dX5_listFirst_32 : decode cX5_listFirst 32 = .ok (.aload_n 0, 1) := by decide +kernel
theorem dX5_listFirst_33 : decode cX5_listFirst 33 = .ok (.getfield 28, 3) := by decide +kernel
theorem dX5_listFirst_36 : decode cX5_listFirst 36 = .ok (.arraylength, 1) := by decide +kernel
theorem dX5_listFirst_37 : decode cX5_listFirst 37 = .ok (.if_icmp .ge 91, 3) := by decide +kernel
theorem dX5_listFirst_40 : decode cX5_listFirst 40 = .ok (.aload_n 0, 1) := by decide +kernel
theorem dX5_listFirst_41 : decode cX5_listFirst 41 = .ok (.iload_n 3, 1) := by decide +kernel
theorem dX5_listFirst_42 : decode cX5_listFirst 42 = .ok (.aload_n 1, 1) := by decide +kernel
theorem dX5_listFirst_43 : decode cX5_listFirst 43 = .ok (.invokevirtual 114, 3) := by decide +kernel
theorem dX5_listFirst_46 : decode cX5_listFirst 46 = .ok (.istore 5, 2) := by decide +kernel
theorem dX5_listFirst_48 : decode cX5_listFirst 48 = .ok (.iload 5, 2) := by decide +kernel
theorem dX5_listFirst_50 : decode cX5_listFirst 50 = .ok (.ifCond .ge 4, 3) := by decide +kernel
theorem dX5_listFirst_53 : decode cX5_listFirst 53 = .ok (.return_, 1) := by decide +kernel
theorem dX5_listFirst_54 : decode cX5_listFirst 54 = .ok (.aload_n 0, 1) := by decide +kernel
theorem dX5_listFirst_55 : decode cX5_listFirst 55 = .ok (.iload_n 3, 1) := by decide +kernel
theorem dX5_listFirst_56 : decode cX5_listFirst 56 = .ok (.aload_n 1, 1) := by decide +kernel
theorem dX5_listFirst_57 : decode cX5_listFirst 57 = .ok (.aload_n 2, 1) := by decide +kernel
theorem dX5_listFirst_58 : decode cX5_listFirst 58 = .ok (.invokevirtual 67, 3) := by decide +kernel
theorem dX5_listFirst_61 : decode cX5_listFirst 61 = .ok (.istore 6, 2) := by decide +kernel
theorem dX5_listFirst_63 : decode cX5_listFirst 63 = .ok (.iload_n 3, 1) := by decide +kernel
theorem dX5_listFirst_64 : decode cX5_listFirst 64 = .ok (.iload 5, 2) := by decide +kernel
theorem dX5_listFirst_66 : decode cX5_listFirst 66 = .ok (.invokestatic 87, 3) := by decide +kernel
theorem dX5_listFirst_69 : decode cX5_listFirst 69 = .ok (.istore_n 3, 1) := by decide +kernel
theorem dX5_listFirst_70 : decode cX5_listFirst 70 = .ok (.aload_n 0, 1) := by decide +kernel
theorem dX5_listFirst_71 : decode cX5_listFirst 71 = .ok (.getfield 22, 3) := by decide +kernel
theorem dX5_listFirst_74 : decode cX5_listFirst 74 = .ok (.iload 4, 2) := by decide +kernel
theorem dX5_listFirst_76 : decode cX5_listFirst 76 = .ok (.iload 5, 2) := by decide +kernel
theorem dX5_listFirst_78 : decode cX5_listFirst 78 = .ok (.iastore, 1) := by decide +kernel
theorem dX5_listFirst_79 : decode cX5_listFirst 79 = .ok (.aload_n 0, 1) := by decide +kernel
theorem dX5_listFirst_80 : decode cX5_listFirst 80 = .ok (.getfield 25, 3) := by decide +kernel
theorem dX5_listFirst_83 : decode cX5_listFirst 83 = .ok (.iload 4, 2) := by decide +kernel
theorem dX5_listFirst_85 : decode cX5_listFirst 85 = .ok (.iload 6, 2) := by decide +kernel
theorem dX5_listFirst_87 : decode cX5_listFirst 87 = .ok (.iastore, 1) := by decide +kernel
theorem dX5_listFirst_88 : decode cX5_listFirst 88 = .ok (.aload_n 0, 1) := by decide +kernel
theorem dX5_listFirst_89 : decode cX5_listFirst 89 = .ok (.getfield 28, 3) := by decide +kernel
theorem dX5_listFirst_92 : decode cX5_listFirst 92 = .ok (.iload 4, 2) := by decide +kernel
theorem dX5_listFirst_94 : decode cX5_listFirst 94 = .ok (.aload_n 2, 1) := by decide +kernel
theorem dX5_listFirst_95 : decode cX5_listFirst 95 = .ok (.aload_n 1, 1) := by decide +kernel
theorem dX5_listFirst_96 : decode cX5_listFirst 96 = .ok (.iload 5, 2) := by decide +kernel
theorem dX5_listFirst_98 : decode cX5_listFirst 98 = .ok (.invokevirtual 78, 3) := by decide +kernel
theorem dX5_listFirst_101 : decode cX5_listFirst 101 = .ok (.iload 6, 2) := by decide +kernel
theorem dX5_listFirst_103 : decode cX5_listFirst 103 = .ok (.aload_n 0, 1) := by decide +kernel
theorem dX5_listFirst_104 : decode cX5_listFirst 104 = .ok (.iload_n 3, 1) := by decide +kernel
theorem dX5_listFirst_105 : decode cX5_listFirst 105 = .ok (.invokevirtual 59, 3) := by decide +kernel
theorem dX5_listFirst_108 : decode cX5_listFirst 108 = .ok (.invokevirtual 118, 3) := by decide +kernel
theorem dX5_listFirst_111 : decode cX5_listFirst 111 = .ok (.iastore, 1) := by decide +kernel
theorem dX5_listFirst_112 : decode cX5_listFirst 112 = .ok (.aload_n 0, 1) := by decide +kernel
theorem dX5_listFirst_113 : decode cX5_listFirst 113 = .ok (.dup, 1) := by decide +kernel
theorem dX5_listFirst_114 : decode cX5_listFirst 114 = .ok (.getfield 49, 3) := by decide +kernel
theorem dX5_listFirst_117 : decode cX5_listFirst 117 = .ok (.iconst 1, 1) := by decide +kernel
theorem dX5_listFirst_118 : decode cX5_listFirst 118 = .ok (.iadd, 1) := by decide +kernel
theorem dX5_listFirst_119 : decode cX5_listFirst 119 = .ok (.putfield 49, 3) := by decide +kernel
theorem dX5_listFirst_122 : decode cX5_listFirst 122 = .ok (.iinc 4 1, 3) := by decide +kernel
theorem dX5_listFirst_125 : decode cX5_listFirst 125 = .ok (.goto (-115), 3) := by decide +kernel
theorem dX5_listFirst_128 : decode cX5_listFirst 128 = .ok (.return_, 1) := by decide +kernel
theorem dX5_firstBehind_0 : decode cX5_firstBehind 0 = .ok (.iconst 0, 1) := by decide +kernel
theorem dX5_firstBehind_1 : decode cX5_firstBehind 1 = .ok (.istore_n 3, 1) := by decide +kernel
theorem dX5_firstBehind_2 : decode cX5_firstBehind 2 = .ok (.iload_n 3, 1) := by decide +kernel
theorem dX5_firstBehind_3 : decode cX5_firstBehind 3 = .ok (.aload_n 2, 1) := by decide +kernel
theorem dX5_firstBehind_4 : decode cX5_firstBehind 4 = .ok (.getfield 73, 3) := by decide +kernel
theorem dX5_firstBehind_7 : decode cX5_firstBehind 7 = .ok (.if_icmp .ge 38, 3) := by decide +kernel
theorem dX5_firstBehind_10 : decode cX5_firstBehind 10 = .ok (.aload_n 0, 1) := by decide +kernel
theorem dX5_firstBehind_11 : decode cX5_firstBehind 11 = .ok (.iload_n 1, 1) := by decide +kernel
theorem dX5_firstBehind_12 : decode cX5_firstBehind 12 = .ok (.invokevirtual 111, 3) := by decide +kernel
theorem dX5_firstBehind_15 : decode cX5_firstBehind 15 = .ok (.iload_n 3, 1) := by decide +kernel
theorem dX5_firstBehind_16 : decode cX5_firstBehind 16 = .ok (.invokestatic 74, 3) := by decide +kernel
theorem dX5_firstBehind_19 : decode cX5_firstBehind 19 = .ok (.iconst 1, 1) := by decide +kernel
theorem dX5_firstBehind_20 : decode cX5_firstBehind 20 = .ok (.if_icmp .ne 19, 3) := by decide +kernel
theorem dX5_firstBehind_23 : decode cX5_firstBehind 23 = .ok (.aload_n 0, 1) := by decide +kernel
theorem dX5_firstBehind_24 : decode cX5_firstBehind 24 = .ok (.iload_n 1, 1) := by decide +kernel
theorem dX5_firstBehind_25 : decode cX5_firstBehind 25 = .ok (.iload_n 3, 1) := by decide +kernel
theorem dX5_firstBehind_26 : decode cX5_firstBehind 26 = .ok (.invokestatic 87, 3) := by decide +kernel
theorem dX5_firstBehind_29 : decode cX5_firstBehind 29 = .ok (.invokevirtual 45, 3) := by decide +kernel
theorem dX5_firstBehind_32 : decode cX5_firstBehind 32 = .ok (.lconst 0, 1) := by decide +kernel
theorem dX5_firstBehind_33 : decode cX5_firstBehind 33 = .ok (.lcmp, 1) := by decide +kernel
theorem dX5_firstBehind_34 : decode cX5_firstBehind 34 = .ok (.ifCond .le 5, 3) := by decide +kernel
theorem dX5_firstBehind_37 : decode cX5_firstBehind 37 = .ok (.iload_n 3, 1) := by decide +kernel
theorem dX5_firstBehind_38 : decode cX5_firstBehind 38 = .ok (.ireturn, 1) := by decide +kernel
theorem dX5_firstBehind_39 : decode cX5_firstBehind 39 = .ok (.iinc 3 1, 3) := by decide +kernel
theorem dX5_firstBehind_42 : decode cX5_firstBehind 42 = .ok (.goto (-40), 3) := by decide +kernel
theorem dX5_firstBehind_45 : decode cX5_firstBehind 45 = .ok (.bipush (-9), 2) := by decide +kernel
theorem dX5_firstBehind_47 : decode cX5_firstBehind 47 = .ok (.ireturn, 1) := by decide +kernel
theorem dX5_farthest_0 : decode cX5_farthest 0 = .ok (.iconst 0, 1) := by decide +kernel
theorem dX5_farthest_1 : decode cX5_farthest 1 = .ok (.istore_n 3, 1) := by decide +kernel
theorem dX5_farthest_2 : decode cX5_farthest 2 = .ok (.iconst 0, 1) := by decide +kernel
theorem dX5_farthest_3 : decode cX5_farthest 3 = .ok (.istore 4, 2) := by decide +kernel
theorem dX5_farthest_5 : decode cX5_farthest 5 = .ok (.iload 4, 2) := by decide +kernel
theorem dX5_farthest_7 : decode cX5_farthest 7 = .ok (.aload_n 1, 1) := by decide +kernel
theorem dX5_farthest_8 : decode cX5_farthest 8 = .ok (.invokevirtual 53, 3) := by decide +kernel
theorem dX5_farthest_11 : decode cX5_farthest 11 = .ok (.if_icmp .ge 31, 3) := by decide +kernel
theorem dX5_farthest_14 : decode cX5_farthest 14 = .ok (.aload_n 0, 1) := by decide +kernel
theorem dX5_farthest_15 : decode cX5_farthest 15 = .ok (.iload 4, 2) := by decide +kernel
theorem dX5_farthest_17 : decode cX5_farthest 17 = .ok (.invokevirtual 59, 3) := by decide +kernel
theorem dX5_farthest_20 : decode cX5_farthest 20 = .ok (.ifCond .lt 16, 3) := by decide +kernel
theorem dX5_farthest_23 : decode cX5_farthest 23 = .ok (.iload_n 3, 1) := by decide +kernel
theorem dX5_farthest_24 : decode cX5_farthest 24 = .ok (.aload_n 0, 1) := by decide +kernel
theorem dX5_farthest_25 : decode cX5_farthest 25 = .ok (.iload 4, 2) := by decide +kernel
theorem dX5_farthest_27 : decode cX5_farthest 27 = .ok (.aload_n 1, 1) := by decide +kernel
theorem dX5_farthest_28 : decode cX5_farthest 28 = .ok (.aload_n 2, 1) := by decide +kernel
theorem dX5_farthest_29 : decode cX5_farthest 29 = .ok (.invokevirtual 122, 3) := by decide +kernel
theorem dX5_farthest_32 : decode cX5_farthest 32 = .ok (.invokestatic 125, 3) := by decide +kernel
theorem dX5_farthest_35 : decode cX5_farthest 35 = .ok (.istore_n 3, 1) := by decide +kernel
theorem dX5_farthest_36 : decode cX5_farthest 36 = .ok (.iinc 4 1, 3) := by decide +kernel
theorem dX5_farthest_39 : decode cX5_farthest 39 = .ok (.goto (-34), 3) := by decide +kernel
theorem dX5_farthest_42 : decode cX5_farthest 42 = .ok (.iload_n 3, 1) := by decide +kernel
theorem dX5_farthest_43 : decode cX5_farthest 43 = .ok (.ireturn, 1) := by decide +kernel
theorem dX5_farthestBehind_0 : decode cX5_farthestBehind 0 = .ok (.aload_n 2, 1) := by decide +kernel
theorem dX5_farthestBehind_1 : decode cX5_farthestBehind 1 = .ok (.iload_n 1, 1) := by decide +kernel
theorem dX5_farthestBehind_2 : decode cX5_farthestBehind 2 = .ok (.invokevirtual 70, 3) := by decide +kernel
theorem dX5_farthestBehind_5 : decode cX5_farthestBehind 5 = .ok (.istore 4, 2) := by decide +kernel
theorem dX5_farthestBehind_7 : decode cX5_farthestBehind 7 = .ok (.aload_n 0, 1) := by decide +kernel
theorem dX5_farthestBehind_8 : decode cX5_farthestBehind 8 = .ok (.iload_n 1, 1) := by decide +kernel
theorem dX5_farthestBehind_9 : decode cX5_farthestBehind 9 = .ok (.aload_n 2, 1) := by decide +kernel
theorem dX5_farthestBehind_10 : decode cX5_farthestBehind 10 = .ok (.aload_n 3, 1) := by decide +kernel
theorem dX5_farthestBehind_11 : decode cX5_farthestBehind 11 = .ok (.invokevirtual 67, 3) := by decide +kernel
theorem dX5_farthestBehind_14 : decode cX5_farthestBehind 14 = .ok (.istore 5, 2) := by decide +kernel
theorem dX5_farthestBehind_16 : decode cX5_farthestBehind 16 = .ok (.iload 4, 2) := by decide +kernel
theorem dX5_farthestBehind_18 : decode cX5_farthestBehind 18 = .ok (.ifCond .eq 8, 3) := by decide +kernel
theorem dX5_farthestBehind_21 : decode cX5_farthestBehind 21 = .ok (.iload 5, 2) := by decide +kernel
theorem dX5_farthestBehind_23 : decode cX5_farthestBehind 23 = .ok (.ifCond .ge 9, 3) := by decide +kernel
theorem dX5_farthestBehind_26 : decode cX5_farthestBehind 26 = .ok (.aload_n 0, 1) := by decide +kernel
theorem dX5_farthestBehind_27 : decode cX5_farthestBehind 27 = .ok (.iload_n 1, 1) := by decide +kernel
theorem dX5_farthestBehind_28 : decode cX5_farthestBehind 28 = .ok (.invokevirtual 59, 3) := by decide +kernel
theorem dX5_farthestBehind_31 : decode cX5_farthestBehind 31 = .ok (.ireturn, 1) := by decide +kernel
theorem dX5_farthestBehind_32 : decode cX5_farthestBehind 32 = .ok (.iload 5, 2) := by decide +kernel
theorem dX5_farthestBehind_34 : decode cX5_farthestBehind 34 = .ok (.istore 6, 2) := by decide +kernel
theorem dX5_farthestBehind_36 : decode cX5_farthestBehind 36 = .ok (.iconst 0, 1) := by decide +kernel
theorem dX5_farthestBehind_37 : decode cX5_farthestBehind 37 = .ok (.istore 7, 2) := by decide +kernel
theorem dX5_farthestBehind_39 : decode cX5_farthestBehind 39 = .ok (.iload 7, 2) := by decide +kernel
theorem dX5_farthestBehind_41 : decode cX5_farthestBehind 41 = .ok (.aload_n 2, 1) := by decide +kernel
theorem dX5_farthestBehind_42 : decode cX5_farthestBehind 42 = .ok (.getfield 73, 3) := by decide +kernel
theorem dX5_farthestBehind_45 : decode cX5_farthestBehind 45 = .ok (.if_icmp .ge 42, 3) := by decide +kernel
theorem dX5_farthestBehind_48 : decode cX5_farthestBehind 48 = .ok (.iload 4, 2) := by decide +kernel
theorem dX5_farthestBehind_50 : decode cX5_farthestBehind 50 = .ok (.iload 7, 2) := by decide +kernel
theorem dX5_farthestBehind_52 : decode cX5_farthestBehind 52 = .ok (.invokestatic 74, 3) := by decide +kernel
theorem dX5_farthestBehind_55 : decode cX5_farthestBehind 55 = .ok (.iconst 1, 1) := by decide +kernel
theorem dX5_farthestBehind_56 : decode cX5_farthestBehind 56 = .ok (.if_icmp .ne 25, 3) := by decide +kernel
theorem dX5_farthestBehind_59 : decode cX5_farthestBehind 59 = .ok (.iload 6, 2) := by decide +kernel
theorem dX5_farthestBehind_61 : decode cX5_farthestBehind 61 = .ok (.iload 5, 2) := by decide +kernel
theorem dX5_farthestBehind_63 : decode cX5_farthestBehind 63 = .ok (.aload_n 3, 1) := by decide +kernel
theorem dX5_farthestBehind_64 : decode cX5_farthestBehind 64 = .ok (.aload_n 2, 1) := by decide +kernel
theorem dX5_farthestBehind_65 : decode cX5_farthestBehind 65 = .ok (.iload 7, 2) := by decide +kernel
theorem dX5_farthestBehind_67 : decode cX5_farthestBehind 67 = .ok (.invokevirtual 78, 3) := by decide +kernel
theorem dX5_farthestBehind_70 : decode cX5_farthestBehind 70 = .ok (.iload 5, 2) := by decide +kernel
theorem dX5_farthestBehind_72 : decode cX5_farthestBehind 72 = .ok (.invokevirtual 128, 3) := by decide +kernel
theorem dX5_farthestBehind_75 : decode cX5_farthestBehind 75 = .ok (.iadd, 1) := by decide +kernel
theorem dX5_farthestBehind_76 : decode cX5_farthestBehind 76 = .ok (.invokestatic 125, 3) := by decide +kernel
theorem dX5_farthestBehind_79 : decode cX5_farthestBehind 79 = .ok (.istore 6, 2) := by decide +kernel
theorem dX5_farthestBehind_81 : decode cX5_farthestBehind 81 = .ok (.iinc 7 1, 3) := by decide +kernel
theorem dX5_farthestBehind_84 : decode cX5_farthestBehind 84 = .ok (.goto (-45), 3) := by decide +kernel
theorem dX5_farthestBehind_87 : decode cX5_farthestBehind 87 = .ok (.iload 6, 2) := by decide +kernel
theorem dX5_farthestBehind_89 : decode cX5_farthestBehind 89 = .ok (.ireturn, 1) := by decide +kernel
theorem dX5_membersGoingOn_0 : decode cX5_membersGoingOn 0 = .ok (.iconst 0, 1) := by decide +kernel
theorem dX5_membersGoingOn_1 : decode cX5_membersGoingOn 1 = .ok (.istore_n 3, 1) := by decide +kernel
theorem dX5_membersGoingOn_2 : decode cX5_membersGoingOn 2 = .ok (.iconst 0, 1) := by decide +kernel
theorem dX5_membersGoingOn_3 : decode cX5_membersGoingOn 3 = .ok (.istore 4, 2) := by decide +kernel
theorem dX5_membersGoingOn_5 : decode cX5_membersGoingOn 5 = .ok (.iconst 0, 1) := by decide +kernel
theorem dX5_membersGoingOn_6 : decode cX5_membersGoingOn 6 = .ok (.istore 5, 2) := by decide +kernel
theorem dX5_membersGoingOn_8 : decode cX5_membersGoingOn 8 = .ok (.iload 5, 2) := by decide +kernel
theorem dX5_membersGoingOn_10 : decode cX5_membersGoingOn 10 = .ok (.aload_n 1, 1) := by decide +kernel
theorem dX5_membersGoingOn_11 : decode cX5_membersGoingOn 11 = .ok (.invokevirtual 53, 3) := by decide +kernel
theorem dX5_membersGoingOn_14 : decode cX5_membersGoingOn 14 = .ok (.if_icmp .ge 35, 3) := by decide +kernel
theorem dX5_membersGoingOn_17 : decode cX5_membersGoingOn 17 = .ok (.aload_n 0, 1) := by decide +kernel
theorem dX5_membersGoingOn_18 : decode cX5_membersGoingOn 18 = .ok (.iload 5, 2) := by decide +kernel
theorem dX5_membersGoingOn_20 : decode cX5_membersGoingOn 20 = .ok (.invokevirtual 59, 3) := by decide +kernel
theorem dX5_membersGoingOn_23 : decode cX5_membersGoingOn 23 = .ok (.aload_n 2, 1) := by decide +kernel
theorem dX5_membersGoingOn_24 : decode cX5_membersGoingOn 24 = .ok (.getfield 104, 3) := by decide +kernel
theorem dX5_membersGoingOn_27 : decode cX5_membersGoingOn 27 = .ok (.if_icmp .ne 16, 3) := by decide +kernel
theorem dX5_membersGoingOn_30 : decode cX5_membersGoingOn 30 = .ok (.iconst 1, 1) := by decide +kernel
theorem dX5_membersGoingOn_31 : decode cX5_membersGoingOn 31 = .ok (.istore_n 3, 1) := by decide +kernel
theorem dX5_membersGoingOn_32 : decode cX5_membersGoingOn 32 = .ok (.iload 4, 2) := by decide +kernel
theorem dX5_membersGoingOn_34 : decode cX5_membersGoingOn 34 = .ok (.aload_n 1, 1) := by decide +kernel
theorem dX5_membersGoingOn_35 : decode cX5_membersGoingOn 35 = .ok (.iload 5, 2) := by decide +kernel
theorem dX5_membersGoingOn_37 : decode cX5_membersGoingOn 37 = .ok (.invokevirtual 70, 3) := by decide +kernel
theorem dX5_membersGoingOn_40 : decode cX5_membersGoingOn 40 = .ok (.ior, 1) := by decide +kernel
theorem dX5_membersGoingOn_41 : decode cX5_membersGoingOn 41 = .ok (.istore 4, 2) := by decide +kernel
theorem dX5_membersGoingOn_43 : decode cX5_membersGoingOn 43 = .ok (.iinc 5 1, 3) := by decide +kernel
theorem dX5_membersGoingOn_46 : decode cX5_membersGoingOn 46 = .ok (.goto (-38), 3) := by decide +kernel
theorem dX5_membersGoingOn_49 : decode cX5_membersGoingOn 49 = .ok (.iload_n 3, 1) := by decide +kernel
theorem dX5_membersGoingOn_50 : decode cX5_membersGoingOn 50 = .ok (.ifCond .eq 8, 3) := by decide +kernel
theorem dX5_membersGoingOn_53 : decode cX5_membersGoingOn 53 = .ok (.iload 4, 2) := by decide +kernel
theorem dX5_membersGoingOn_55 : decode cX5_membersGoingOn 55 = .ok (.goto 5, 3) := by decide +kernel
theorem dX5_membersGoingOn_58 : decode cX5_membersGoingOn 58 = .ok (.bipush (-9), 2) := by decide +kernel
theorem dX5_membersGoingOn_60 : decode cX5_membersGoingOn 60 = .ok (.ireturn, 1) := by decide +kernel
theorem dX6_init_0 : decode cX6_init 0 = .ok (.aload_n 0, 1) := by decide +kernel
theorem dX6_init_1 : decode cX6_init 1 = .ok (.invokespecial 1, 3) := by decide +kernel
theorem dX6_init_4 : decode cX6_init 4 = .ok (.aload_n 0, 1) := by decide +kernel
theorem dX6_init_5 : decode cX6_init 5 = .ok (.new 7, 3) := by decide +kernel
theorem dX6_init_8 : decode cX6_init 8 = .ok (.dup, 1) := by decide +kernel
theorem dX6_init_9 : decode cX6_init 9 = .ok (.invokespecial 9, 3) := by decide +kernel
theorem dX6_init_12 : decode cX6_init 12 = .ok (.putfield 10, 3) := by decide +kernel
theorem dX6_init_15 : decode cX6_init 15 = .ok (.aload_n 0, 1) := by decide +kernel
theorem dX6_init_16 : decode cX6_init 16 = .ok (.new 7, 3) := by decide +kernel
theorem dX6_init_19 : decode cX6_init 19 = .ok (.dup, 1) := by decide +kernel
theorem dX6_init_20 : decode cX6_init 20 = .ok (.invokespecial 9, 3) := by decide +kernel
theorem dX6_init_23 : decode cX6_init 23 = .ok (.putfield 16, 3) := by decide +kernel
theorem dX6_init_26 : decode cX6_init 26 = .ok (.aload_n 0, 1) := by decide +kernel
theorem dX6_init_27 : decode cX6_init 27 = .ok (.new 19, 3) := by decide +kernel
theorem dX6_init_30 : decode cX6_init 30 = .ok (.dup, 1) := by decide +kernel
theorem dX6_init_31 : decode cX6_init 31 = .ok (.invokespecial 21, 3) := by decide +kernel
theorem dX6_init_34 : decode cX6_init 34 = .ok (.putfield 22, 3) := by decide +kernel
theorem dX6_init_37 : decode cX6_init 37 = .ok (.aload_n 0, 1) := by decide +kernel
theorem dX6_init_38 : decode cX6_init 38 = .ok (.new 26, 3) := by decide +kernel
theorem dX6_init_41 : decode cX6_init 41 = .ok (.dup, 1) := by decide +kernel
theorem dX6_init_42 : decode cX6_init 42 = .ok (.invokespecial 28, 3) := by decide +kernel
theorem dX6_init_45 : decode cX6_init 45 = .ok (.putfield 29, 3) := by decide +kernel
theorem dX6_init_48 : decode cX6_init 48 = .ok (.aload_n 0, 1) := by decide +kernel
theorem dX6_init_49 : decode cX6_init 49 = .ok (.iconst 2, 1) := by decide +kernel
theorem dX6_init_50 : decode cX6_init 50 = .ok (.anewarray 19, 3) := by decide +kernel
theorem dX6_init_53 : decode cX6_init 53 = .ok (.putfield 33, 3) := by decide +kernel
theorem dX6_init_56 : decode cX6_init 56 = .ok (.aload_n 0, 1) := by decide +kernel
theorem dX6_init_57 : decode cX6_init 57 = .ok (.iconst 2, 1) := by decide +kernel
theorem dX6_init_58 : decode cX6_init 58 = .ok (.newarray .boolean, 2) := by decide +kernel
theorem dX6_init_60 : decode cX6_init 60 = .ok (.putfield 37, 3) := by decide +kernel
theorem dX6_init_63 : decode cX6_init 63 = .ok (.aload_n 0, 1) := by decide +kernel
theorem dX6_init_64 : decode cX6_init 64 = .ok (.new 41, 3) := by decide +kernel
theorem dX6_init_67 : decode cX6_init 67 = .ok (.dup, 1) := by decide +kernel
theorem dX6_init_68 : decode cX6_init 68 = .ok (.invokespecial 43, 3) := by decide +kernel
theorem dX6_init_71 : decode cX6_init 71 = .ok (.putfield 44, 3) := by decide +kernel
theorem dX6_init_74 : decode cX6_init 74 = .ok (.aload_n 0, 1) := by decide +kernel
theorem dX6_init_75 : decode cX6_init 75 = .ok (.new 48, 3) := by decide +kernel
theorem dX6_init_78 : decode cX6_init 78 = .ok (.dup, 1) := by decide +kernel
theorem dX6_init_79 : decode cX6_init 79 = .ok (.invokespecial 50, 3) := by decide +kernel
theorem dX6_init_82 : decode cX6_init 82 = .ok (.putfield 51, 3) := by decide +kernel
theorem dX6_init_85 : decode cX6_init 85 = .ok (.iconst 0, 1) := by decide +kernel
theorem dX6_init_86 : decode cX6_init 86 = .ok (.istore_n 1, 1) := by decide +kernel
theorem dX6_init_87 : decode cX6_init 87 = .ok (.iload_n 1, 1) := by decide +kernel
theorem dX6_init_88 : decode cX6_init 88 = .ok (.aload_n 0, 1) := by decide +kernel
theorem dX6_init_89 : decode cX6_init 89 = .ok (.getfield 33, 3) := by decide +kernel
theorem dX6_init_92 : decode cX6_init 92 = .ok (.arraylength, 1) := by decide +kernel
theorem dX6_init_93 : decode cX6_init 93 = .ok (.if_icmp .ge 22, 3) := by decide +kernel
theorem dX6_init_96 : decode cX6_init 96 = .ok (.aload_n 0, 1) := by decide +kernel
theorem dX6_init_97 : decode cX6_init 97 = .ok (.getfield 33, 3) := by decide +kernel
theorem dX6_init_100 : decode cX6_init 100 = .ok (.iload_n 1, 1) := by decide +kernel
theorem dX6_init_101 : decode cX6_init 101 = .ok (.new 19, 3) := by decide +kernel
theorem dX6_init_104 : decode cX6_init 104 = .ok (.dup, 1) := by decide +kernel
theorem dX6_init_105 : decode cX6_init 105 = .ok (.invokespecial 21, 3) := by decide +kernel
theorem dX6_init_108 : decode cX6_init 108 = .ok (.aastore, 1) := by decide +kernel
theorem dX6_init_109 : decode cX6_init 109 = .ok (.iinc 1 1, 3) := by decide +kernel
theorem dX6_init_112 : decode cX6_init 112 = .ok (.goto (-25), 3) := by decide +kernel
theorem dX6_init_115 : decode cX6_init 115 = .ok (.return_, 1) := by decide +kernel
theorem dX6_write_0 : decode cX6_write 0 = .ok (.iload_n 1, 1) := by decide +kernel
theorem dX6_write_1 : decode cX6_write 1 = .ok (.bipush 32, 2) := by decide +kernel
theorem dX6_write_3 : decode cX6_write 3 = .ok (.if_icmp .lt 9, 3) := by decide +kernel
theorem dX6_write_6 : decode cX6_write 6 = .ok (.iload_n 1, 1) := by decide +kernel
theorem dX6_write_7 : decode cX6_write 7 = .ok (.bipush 126, 2) := by decide +kernel
theorem dX6_write_9 : decode cX6_write 9 = .ok (.if_icmp .le 5, 3) := by decide +kernel
theorem dX6_write_12 : decode cX6_write 12 = .ok (.iconst (-1), 1) := by decide +kernel
theorem dX6_write_13 : decode cX6_write 13 = .ok (.ireturn, 1) := by decide +kernel
theorem dX6_write_14 : decode cX6_write 14 = .ok (.aload_n 0, 1) := by decide +kernel
theorem dX6_write_15 : decode cX6_write 15 = .ok (.getfield 10, 3) := by decide +kernel
theorem dX6_write_18 : decode cX6_write 18 = .ok (.iload_n 1, 1) := by decide +kernel
theorem dX6_write_19 : decode cX6_write 19 = .ok (.invokevirtual 55, 3) := by decide +kernel
theorem dX6_write_22 : decode cX6_write 22 = .ok (.ifCond .ne 6, 3) := by decide +kernel
theorem dX6_write_25 : decode cX6_write 25 = .ok (.bipush (-3), 2) := by decide +kernel
theorem dX6_write_27 : decode cX6_write 27 = .ok (.ireturn, 1) := by decide +kernel
theorem dX6_write_28 : decode cX6_write 28 = .ok (.aload_n 0, 1) := by decide +kernel
theorem dX6_write_29 : decode cX6_write 29 = .ok (.getfield 44, 3) := by decide +kernel
theorem dX6_write_32 : decode cX6_write 32 = .ok (.invokevirtual 59, 3) := by decide +kernel
theorem dX6_write_35 : decode cX6_write 35 = .ok (.aload_n 0, 1) := by decide +kernel
theorem dX6_write_36 : decode cX6_write 36 = .ok (.getfield 10, 3) := by decide +kernel
theorem dX6_write_39 : decode cX6_write 39 = .ok (.getfield 62, 3) := by decide +kernel
theorem dX6_write_42 : decode cX6_write 42 = .ok (.ireturn, 1) := by decide +kernel
theorem dX6_wipe_0 : decode cX6_wipe 0 = .ok (.aload_n 0, 1) := by decide +kernel
theorem dX6_wipe_1 : decode cX6_wipe 1 = .ok (.getfield 10, 3) := by decide +kernel
theorem dX6_wipe_4 : decode cX6_wipe 4 = .ok (.getfield 62, 3) := by decide +kernel
theorem dX6_wipe_7 : decode cX6_wipe 7 = .ok (.istore_n 1, 1) := by decide +kernel
theorem dX6_wipe_8 : decode cX6_wipe 8 = .ok (.aload_n 0, 1) := by decide +kernel
theorem dX6_wipe_9 : decode cX6_wipe 9 = .ok (.getfield 10, 3) := by decide +kernel
theorem dX6_wipe_12 : decode cX6_wipe 12 = .ok (.invokevirtual 66, 3) := by decide +kernel
theorem dX6_wipe_15 : decode cX6_wipe 15 = .ok (.aload_n 0, 1) := by decide +kernel
theorem dX6_wipe_16 : decode cX6_wipe 16 = .ok (.getfield 44, 3) := by decide +kernel
theorem dX6_wipe_19 : decode cX6_wipe 19 = .ok (.invokevirtual 59, 3) := by decide +kernel
theorem dX6_wipe_22 : decode cX6_wipe 22 = .ok (.iload_n 1, 1) := by decide +kernel
theorem dX6_wipe_23 : decode cX6_wipe 23 = .ok (.ireturn, 1) := by decide +kernel
theorem dX6_declare_0 : decode cX6_declare 0 = .ok (.iload_n 1, 1) := by decide +kernel
theorem dX6_declare_1 : decode cX6_declare 1 = .ok (.invokestatic 69, 3) := by decide +kernel
theorem dX6_declare_4 : decode cX6_declare 4 = .ok (.ifCond .eq 26, 3) := by decide +kernel
theorem dX6_declare_7 : decode cX6_declare 7 = .ok (.iload_n 2, 1) := by decide +kernel
theorem dX6_declare_8 : decode cX6_declare 8 = .ok (.ifCond .lt 22, 3) := by decide +kernel
theorem dX6_declare_11 : decode cX6_declare 11 = .ok (.iload_n 3, 1) := by decide +kernel
theorem dX6_declare_12 : decode cX6_declare 12 = .ok (.iconst 1, 1) := by decide +kernel
theorem dX6_declare_13 : decode cX6_declare 13 = .ok (.if_icmp .lt 17, 3) := by decide +kernel
theorem dX6_declare_16 : decode cX6_declare 16 = .ok (.iload_n 3, 1) := by decide +kernel
theorem dX6_declare_17 : decode cX6_declare 17 = .ok (.iconst 3, 1) := by decide +kernel
theorem dX6_declare_18 : decode cX6_declare 18 = .ok (.if_icmp .gt 12, 3) := by decide +kernel
theorem dX6_declare_21 : decode cX6_declare 21 = .ok (.iload_n 2, 1) := by decide +kernel
theorem dX6_declare_22 : decode cX6_declare 22 = .ok (.iload_n 3, 1) := by decide +kernel
theorem dX6_declare_23 : decode cX6_declare 23 = .ok (.if_icmp .gt 7, 3) := by decide +kernel
theorem dX6_declare_26 : decode cX6_declare 26 = .ok (.iconst 1, 1) := by decide +kernel
theorem dX6_declare_27 : decode cX6_declare 27 = .ok (.goto 4, 3) := by decide +kernel
theorem dX6_declare_30 : decode cX6_declare 30 = .ok (.iconst 0, 1) := by decide +kernel
theorem dX6_declare_31 : decode cX6_declare 31 = .ok (.istore 4, 2) := by decide +kernel
theorem dX6_declare_33 : decode cX6_declare 33 = .ok (.iload 4, 2) := by decide +kernel
theorem dX6_declare_35 : decode cX6_declare 35 = .ok (.ifCond .ne 5, 3) := by decide +kernel
theorem dX6_declare_38 : decode cX6_declare 38 = .ok (.iconst (-1), 1) := by decide +kernel
theorem dX6_declare_39 : decode cX6_declare 39 = .ok (.ireturn, 1) := by decide +kernel
theorem dX6_declare_40 : decode cX6_declare 40 = .ok (.aload_n 0, 1) := by decide +kernel
theorem dX6_declare_41 : decode cX6_declare 41 = .ok (.getfield 10, 3) := by decide +kernel
theorem dX6_declare_44 : decode cX6_declare 44 = .ok (.invokevirtual 72, 3) := by decide +kernel
theorem dX6_declare_47 : decode cX6_declare 47 = .ok (.istore 5, 2) := by decide +kernel
theorem dX6_declare_49 : decode cX6_declare 49 = .ok (.iload 5, 2) := by decide +kernel
theorem dX6_declare_51 : decode cX6_declare 51 = .ok (.ifCond .eq 15, 3) := by decide +kernel
theorem dX6_declare_54 : decode cX6_declare 54 = .ok (.aload_n 0, 1) := by decide +kernel
theorem dX6_declare_55 : decode cX6_declare 55 = .ok (.getfield 22, 3) := by decide +kernel
theorem dX6_declare_58 : decode cX6_declare 58 = .ok (.iload 5, 2) := by decide +kernel
theorem dX6_declare_60 : decode cX6_declare 60 = .ok (.invokevirtual 76, 3) := by decide +kernel
theorem dX6_declare_63 : decode cX6_declare 63 = .ok (.ifCond .eq 6, 3) := by decide +kernel
theorem dX6_declare_66 : decode cX6_declare 66 = .ok (.bipush (-2), 2) := by decide +kernel
theorem dX6_declare_68 : decode cX6_declare 68 = .ok (.ireturn, 1) := by decide +kernel
theorem dX6_declare_69 : decode cX6_declare 69 = .ok (.aload_n 0, 1) := by decide +kernel
theorem dX6_declare_70 : decode cX6_declare 70 = .ok (.getfield 22, 3) := by decide +kernel
theorem dX6_declare_73 : decode cX6_declare 73 = .ok (.getfield 79, 3) := by decide +kernel
theorem dX6_declare_76 : decode cX6_declare 76 = .ok (.bipush 6, 2) := by decide +kernel
theorem dX6_declare_78 : decode cX6_declare 78 = .ok (.if_icmp .lt 6, 3) := by decide +kernel
theorem dX6_declare_81 : decode cX6_declare 81 = .ok (.bipush (-3), 2) := by decide +kernel
theorem dX6_declare_83 : decode cX6_declare 83 = .ok (.ireturn, 1) := by decide +kernel
theorem dX6_declare_84 : decode cX6_declare 84 = .ok (.aload_n 0, 1) := by decide +kernel
theorem dX6_declare_85 : decode cX6_declare 85 = .ok (.invokevirtual 82, 3) := by decide +kernel
theorem dX6_declare_88 : decode cX6_declare 88 = .ok (.aload_n 0, 1) := by decide +kernel
theorem dX6_declare_89 : decode cX6_declare 89 = .ok (.getfield 22, 3) := by decide +kernel
theorem dX6_declare_92 : decode cX6_declare 92 = .ok (.iload 5, 2) := by decide +kernel
theorem dX6_declare_94 : decode cX6_declare 94 = .ok (.iload_n 1, 1) := by decide +kernel
theorem dX6_declare_95 : decode cX6_declare 95 = .ok (.iload_n 2, 1) := by decide +kernel
theorem dX6_declare_96 : decode cX6_declare 96 = .ok (.iload_n 3, 1) := by decide +kernel
theorem dX6_declare_97 : decode cX6_declare 97 = .ok (.invokevirtual 85, 3) := by decide +kernel
theorem dX6_declare_100 : decode cX6_declare 100 = .ok (.ireturn, 1) := by decide +kernel
theorem dX6_remove_0 : decode cX6_remove 0 = .ok (.aload_n 0, 1) := by decide +kernel
theorem dX6_remove_1 : decode cX6_remove 1 = .ok (.getfield 22, 3) := by decide +kernel
theorem dX6_remove_4 : decode cX6_remove 4 = .ok (.iload_n 1, 1) := by decide +kernel
theorem dX6_remove_5 : decode cX6_remove 5 = .ok (.invokevirtual 89, 3) := by decide +kernel
theorem dX6_remove_8 : decode cX6_remove 8 = .ok (.ifCond .ne 5, 3) := by decide +kernel
theorem dX6_remove_11 : decode cX6_remove 11 = .ok (.iconst (-1), 1) := by decide +kernel
theorem dX6_remove_12 : decode cX6_remove 12 = .ok (.ireturn, 1) := by decide +kernel
theorem dX6_remove_13 : decode cX6_remove 13 = .ok (.aload_n 0, 1) := by decide +kernel
theorem dX6_remove_14 : decode cX6_remove 14 = .ok (.invokevirtual 82, 3) := by decide +kernel
theorem dX6_remove_17 : decode cX6_remove 17 = .ok (.aload_n 0, 1) := by decide +kernel
theorem dX6_remove_18 : decode cX6_remove 18 = .ok (.getfield 22, 3) := by decide +kernel
theorem dX6_remove_21 : decode cX6_remove 21 = .ok (.iload_n 1, 1) := by decide +kernel
theorem dX6_remove_22 : decode cX6_remove 22 = .ok (.invokevirtual 92, 3) := by decide +kernel
theorem dX6_remove_25 : decode cX6_remove 25 = .ok (.aload_n 0, 1) := by decide +kernel
theorem dX6_remove_26 : decode cX6_remove 26 = .ok (.getfield 22, 3) := by decide +kernel
theorem dX6_remove_29 : decode cX6_remove 29 = .ok (.getfield 79, 3) := by decide +kernel
theorem dX6_remove_32 : decode cX6_remove 32 = .ok (.ireturn, 1) := by decide +kernel
theorem dX6_set_0 : decode cX6_set 0 = .ok (.aload_n 0, 1) := by decide +kernel
theorem dX6_set_1 : decode cX6_set 1 = .ok (.getfield 22, 3) := by decide +kernel
theorem dX6_set_4 : decode cX6_set 4 = .ok (.iload_n 1, 1) := by decide +kernel
theorem dX6_set_5 : decode cX6_set 5 = .ok (.invokevirtual 89, 3) := by decide +kernel
theorem dX6_set_8 : decode cX6_set 8 = .ok (.ifCond .eq 19, 3) := by decide +kernel
theorem dX6_set_11 : decode cX6_set 11 = .ok (.aload_n 0, 1) := by decide +kernel
theorem dX6_set_12 : decode cX6_set 12 = .ok (.getfield 22, 3) := by decide +kernel
theorem dX6_set_15 : decode cX6_set 15 = .ok (.iload_n 1, 1) := by decide +kernel
theorem dX6_set_16 : decode cX6_set 16 = .ok (.invokevirtual 96, 3) := by decide +kernel
theorem dX6_set_19 : decode cX6_set 19 = .ok (.iload_n 2, 1) := by decide +kernel
theorem dX6_set_20 : decode cX6_set 20 = .ok (.iload_n 3, 1) := by decide +kernel
theorem dX6_set_21 : decode cX6_set 21 = .ok (.invokevirtual 100, 3) := by decide +kernel
theorem dX6_set_24 : decode cX6_set 24 = .ok (.ifCond .ne 5, 3) := by decide +kernel
theorem dX6_set_27 : decode cX6_set 27 = .ok (.iconst (-1), 1) := by decide +kernel
theorem dX6_set_28 : decode cX6_set 28 = .ok (.ireturn, 1) := by decide +kernel
theorem dX6_set_29 : decode cX6_set 29 = .ok (.aload_n 0, 1) := by decide +kernel
theorem dX6_set_30 : decode cX6_set 30 = .ok (.invokevirtual 82, 3) := by decide +kernel
theorem dX6_set_33 : decode cX6_set 33 = .ok (.aload_n 0, 1) := by decide +kernel
theorem dX6_set_34 : decode cX6_set 34 = .ok (.getfield 22, 3) := by decide +kernel
theorem dX6_set_37 : decode cX6_set 37 = .ok (.iload_n 1, 1) := by decide +kernel
theorem dX6_set_38 : decode cX6_set 38 = .ok (.invokevirtual 96, 3) := by decide +kernel
theorem dX6_set_41 : decode cX6_set 41 = .ok (.iload_n 2, 1) := by decide +kernel
theorem dX6_set_42 : decode cX6_set 42 = .ok (.iload_n 3, 1) := by decide +kernel
theorem dX6_set_43 : decode cX6_set 43 = .ok (.invokevirtual 106, 3) := by decide +kernel
theorem dX6_set_46 : decode cX6_set 46 = .ok (.ireturn, 1) := by decide +kernel
theorem dX6_move_0 : decode cX6_move 0 = .ok (.aload_n 0, 1) := by decide +kernel
theorem dX6_move_1 : decode cX6_move 1 = .ok (.getfield 22, 3) := by decide +kernel
theorem dX6_move_4 : decode cX6_move 4 = .ok (.iload_n 1, 1) := by decide +kernel
theorem dX6_move_5 : decode cX6_move 5 = .ok (.invokevirtual 89, 3) := by decide +kernel
theorem dX6_move_8 : decode cX6_move 8 = .ok (.ifCond .eq 14, 3) := by decide +kernel
theorem dX6_move_11 : decode cX6_move 11 = .ok (.aload_n 0, 1) := by decide +kernel
theorem dX6_move_12 : decode cX6_move 12 = .ok (.getfield 22, 3) := by decide +kernel
theorem dX6_move_15 : decode cX6_move 15 = .ok (.iload_n 2, 1) := by decide +kernel
theorem dX6_move_16 : decode cX6_move 16 = .ok (.invokevirtual 89, 3) := by decide +kernel
theorem dX6_move_19 : decode cX6_move 19 = .ok (.ifCond .ne 5, 3) := by decide +kernel
theorem dX6_move_22 : decode cX6_move 22 = .ok (.iconst (-1), 1) := by decide +kernel
theorem dX6_move_23 : decode cX6_move 23 = .ok (.ireturn, 1) := by decide +kernel
theorem dX6_move_24 : decode cX6_move 24 = .ok (.aload_n 0, 1) := by decide +kernel
theorem dX6_move_25 : decode cX6_move 25 = .ok (.invokevirtual 82, 3) := by decide +kernel
theorem dX6_move_28 : decode cX6_move 28 = .ok (.aload_n 0, 1) := by decide +kernel
theorem dX6_move_29 : decode cX6_move 29 = .ok (.getfield 22, 3) := by decide +kernel
theorem dX6_move_32 : decode cX6_move 32 = .ok (.iload_n 1, 1) := by decide +kernel
theorem dX6_move_33 : decode cX6_move 33 = .ok (.iload_n 2, 1) := by decide +kernel
theorem dX6_move_34 : decode cX6_move 34 = .ok (.invokevirtual 110, 3) := by decide +kernel
theorem dX6_move_37 : decode cX6_move 37 = .ok (.iload_n 2, 1) := by decide +kernel
theorem dX6_move_38 : decode cX6_move 38 = .ok (.ireturn, 1) := by decide +kernel
theorem dX6_setSeparator_0 : decode cX6_setSeparator 0 = .ok (.iload_n 1, 1) := by decide +kernel
theorem dX6_setSeparator_1 : decode cX6_setSeparator 1 = .ok (.ifCond .eq 17, 3) := by decide +kernel
theorem dX6_setSeparator_4 : decode cX6_setSeparator 4 = .ok (.iload_n 1, 1) := by decide +kernel
theorem dX6_setSeparator_5 : decode cX6_setSeparator 5 = .ok (.bipush 33, 2) := by decide +kernel
theorem dX6_setSeparator_7 : decode cX6_setSeparator 7 = .ok (.if_icmp .lt 9, 3) := by decide +kernel
theorem dX6_setSeparator_10 : decode cX6_setSeparator 10 = .ok (.iload_n 1, 1) := by decide +kernel
theorem dX6_setSeparator_11 : decode cX6_setSeparator 11 = .ok (.bipush 47, 2) := by decide +kernel
theorem dX6_setSeparator_13 : decode cX6_setSeparator 13 = .ok (.if_icmp .le 5, 3) := by decide +kernel
theorem dX6_setSeparator_16 : decode cX6_setSeparator 16 = .ok (.iconst (-1), 1) := by decide +kernel
theorem dX6_setSeparator_17 : decode cX6_setSeparator 17 = .ok (.ireturn, 1) := by decide +kernel
theorem dX6_setSeparator_18 : decode cX6_setSeparator 18 = .ok (.aload_n 0, 1) := by decide +kernel
theorem dX6_setSeparator_19 : decode cX6_setSeparator 19 = .ok (.invokevirtual 82, 3) := by decide +kernel
theorem dX6_setSeparator_22 : decode cX6_setSeparator 22 = .ok (.aload_n 0, 1) := by decide +kernel
theorem dX6_setSeparator_23 : decode cX6_setSeparator 23 = .ok (.getfield 22, 3) := by decide +kernel
theorem dX6_setSeparator_26 : decode cX6_setSeparator 26 = .ok (.getfield 114, 3) := by decide +kernel
theorem dX6_setSeparator_29 : decode cX6_setSeparator 29 = .ok (.istore_n 2, 1) := by decide +kernel
theorem dX6_setSeparator_30 : decode cX6_setSeparator 30 = .ok (.aload_n 0, 1) := by decide +kernel
theorem dX6_setSeparator_31 : decode cX6_setSeparator 31 = .ok (.getfield 22, 3) := by decide +kernel
theorem dX6_setSeparator_34 : decode cX6_setSeparator 34 = .ok (.iload_n 1, 1) := by decide +kernel
theorem dX6_setSeparator_35 : decode cX6_setSeparator 35 = .ok (.putfield 114, 3) := by decide +kernel
theorem dX6_setSeparator_38 : decode cX6_setSeparator 38 = .ok (.iload_n 2, 1) := by decide +kernel
theorem dX6_setSeparator_39 : decode cX6_setSeparator 39 = .ok (.ireturn, 1) := by decide +kernel
theorem dX6_rule_0 : decode cX6_rule 0 = .ok (.aload_n 0, 1) := by decide +kernel
theorem dX6_rule_1 : decode cX6_rule 1 = .ok (.getfield 22, 3) := by decide +kernel
theorem dX6_rule_4 : decode cX6_rule 4 = .ok (.iload_n 1, 1) := by decide +kernel
theorem dX6_rule_5 : decode cX6_rule 5 = .ok (.invokevirtual 89, 3) := by decide +kernel
theorem dX6_rule_8 : decode cX6_rule 8 = .ok (.ifCond .eq 28, 3) := by decide +kernel
theorem dX6_rule_11 : decode cX6_rule 11 = .ok (.aload_n 0, 1) := by decide +kernel
theorem dX6_rule_12 : decode cX6_rule 12 = .ok (.getfield 22, 3) := by decide +kernel
theorem dX6_rule_15 : decode cX6_rule 15 = .ok (.iload_n 2, 1) := by decide +kernel
theorem dX6_rule_16 : decode cX6_rule 16 = .ok (.invokevirtual 89, 3) := by decide +kernel
theorem dX6_rule_19 : decode cX6_rule 19 = .ok (.ifCond .eq 17, 3) := by decide +kernel
theorem dX6_rule_22 : decode cX6_rule 22 = .ok (.iload_n 1, 1) := by decide +kernel
theorem dX6_rule_23 : decode cX6_rule 23 = .ok (.iload_n 2, 1) := by decide +kernel
theorem dX6_rule_24 : decode cX6_rule 24 = .ok (.if_icmp .eq 12, 3) := by decide +kernel
theorem dX6_rule_27 : decode cX6_rule 27 = .ok (.iload_n 3, 1) := by decide +kernel
theorem dX6_rule_28 : decode cX6_rule 28 = .ok (.ifCond .lt 8, 3) := by decide +kernel
theorem dX6_rule_31 : decode cX6_rule 31 = .ok (.iload_n 3, 1) := by decide +kernel
theorem dX6_rule_32 : decode cX6_rule 32 = .ok (.iconst 1, 1) := by decide +kernel
theorem dX6_rule_33 : decode cX6_rule 33 = .ok (.if_icmp .le 5, 3) := by decide +kernel
theorem dX6_rule_36 : decode cX6_rule 36 = .ok (.iconst (-1), 1) := by decide +kernel
theorem dX6_rule_37 : decode cX6_rule 37 = .ok (.ireturn, 1) := by decide +kernel
theorem dX6_rule_38 : decode cX6_rule 38 = .ok (.aload_n 0, 1) := by decide +kernel
theorem dX6_rule_39 : decode cX6_rule 39 = .ok (.invokevirtual 82, 3) := by decide +kernel
theorem dX6_rule_42 : decode cX6_rule 42 = .ok (.aload_n 0, 1) := by decide +kernel
theorem dX6_rule_43 : decode cX6_rule 43 = .ok (.getfield 22, 3) := by decide +kernel
theorem dX6_rule_46 : decode cX6_rule 46 = .ok (.iload_n 1, 1) := by decide +kernel
theorem dX6_rule_47 : decode cX6_rule 47 = .ok (.invokevirtual 96, 3) := by decide +kernel
theorem dX6_rule_50 : decode cX6_rule 50 = .ok (.astore 4, 2) := by decide +kernel
theorem dX6_rule_52 : decode cX6_rule 52 = .ok (.aload 4, 2) := by decide +kernel
theorem dX6_rule_54 : decode cX6_rule 54 = .ok (.getfield 117, 3) := by decide +kernel
theorem dX6_rule_57 : decode cX6_rule 57 = .ok (.iload_n 2, 1) := by decide +kernel
theorem dX6_rule_58 : decode cX6_rule 58 = .ok (.invokestatic 120, 3) := by decide +kernel
theorem dX6_rule_61 : decode cX6_rule 61 = .ok (.istore 5, 2) := by decide +kernel
theorem dX6_rule_63 : decode cX6_rule 63 = .ok (.aload 4, 2) := by decide +kernel
theorem dX6_rule_65 : decode cX6_rule 65 = .ok (.aload 4, 2) := by decide +kernel
theorem dX6_rule_67 : decode cX6_rule 67 = .ok (.getfield 117, 3) := by decide +kernel
theorem dX6_rule_70 : decode cX6_rule 70 = .ok (.iload_n 2, 1) := by decide +kernel
theorem dX6_rule_71 : decode cX6_rule 71 = .ok (.iload_n 3, 1) := by decide +kernel
theorem dX6_rule_72 : decode cX6_rule 72 = .ok (.invokestatic 123, 3) := by decide +kernel
theorem dX6_rule_75 : decode cX6_rule 75 = .ok (.putfield 117, 3) := by decide +kernel
theorem dX6_rule_78 : decode cX6_rule 78 = .ok (.iload 5, 2) := by decide +kernel
theorem dX6_rule_80 : decode cX6_rule 80 = .ok (.ireturn, 1) := by decide +kernel
theorem dX6_undo_0 : decode cX6_undo 0 = .ok (.aload_n 0, 1) := by decide +kernel
theorem dX6_undo_1 : decode cX6_undo 1 = .ok (.getfield 29, 3) := by decide +kernel
theorem dX6_undo_4 : decode cX6_undo 4 = .ok (.getfield 127, 3) := by decide +kernel
theorem dX6_undo_7 : decode cX6_undo 7 = .ok (.ifCond .ne 6, 3) := by decide +kernel
theorem dX6_undo_10 : decode cX6_undo 10 = .ok (.bipush (-2), 2) := by decide +kernel
theorem dX6_undo_12 : decode cX6_undo 12 = .ok (.ireturn, 1) := by decide +kernel
theorem dX6_undo_13 : decode cX6_undo 13 = .ok (.aload_n 0, 1) := by decide +kernel
theorem dX6_undo_14 : decode cX6_undo 14 = .ok (.getfield 29, 3) := by decide +kernel
theorem dX6_undo_17 : decode cX6_undo 17 = .ok (.aload_n 0, 1) := by decide +kernel
theorem dX6_undo_18 : decode cX6_undo 18 = .ok (.getfield 22, 3) := by decide +kernel
theorem dX6_undo_21 : decode cX6_undo 21 = .ok (.invokevirtual 128, 3) := by decide +kernel
theorem dX6_undo_24 : decode cX6_undo 24 = .ok (.aload_n 0, 1) := by decide +kernel
theorem dX6_undo_25 : decode cX6_undo 25 = .ok (.invokevirtual 132, 3) := by decide +kernel
theorem dX6_undo_28 : decode cX6_undo 28 = .ok (.aload_n 0, 1) := by decide +kernel
theorem dX6_undo_29 : decode cX6_undo 29 = .ok (.getfield 29, 3) := by decide +kernel
theorem dX6_undo_32 : decode cX6_undo 32 = .ok (.getfield 127, 3) := by decide +kernel
theorem dX6_undo_35 : decode cX6_undo 35 = .ok (.ireturn, 1) := by decide +kernel
theorem dX6_beginChange_0 : decode cX6_beginChange 0 = .ok (.aload_n 0, 1) := by decide +kernel
theorem dX6_beginChange_1 : decode cX6_beginChange 1 = .ok (.getfield 29, 3) := by decide +kernel
theorem dX6_beginChange_4 : decode cX6_beginChange 4 = .ok (.aload_n 0, 1) := by decide +kernel
theorem dX6_beginChange_5 : decode cX6_beginChange 5 = .ok (.getfield 22, 3) := by decide +kernel
theorem dX6_beginChange_8 : decode cX6_beginChange 8 = .ok (.invokevirtual 135, 3) := by decide +kernel
theorem dX6_beginChange_11 : decode cX6_beginChange 11 = .ok (.aload_n 0, 1) := by decide +kernel
theorem dX6_beginChange_12 : decode cX6_beginChange 12 = .ok (.invokevirtual 132, 3) := by decide +kernel
theorem dX6_beginChange_15 : decode cX6_beginChange 15 = .ok (.return_, 1) := by decide +kernel
theorem dX6_forgetTables_0 : decode cX6_forgetTables 0 = .ok (.aload_n 0, 1) := by decide +kernel
theorem dX6_forgetTables_1 : decode cX6_forgetTables 1 = .ok (.getfield 44, 3) := by decide +kernel
theorem dX6_forgetTables_4 : decode cX6_forgetTables 4 = .ok (.invokevirtual 59, 3) := by decide +kernel
theorem dX6_forgetTables_7 : decode cX6_forgetTables 7 = .ok (.aload_n 0, 1) := by decide +kernel
theorem dX6_forgetTables_8 : decode cX6_forgetTables 8 = .ok (.getfield 51, 3) := by decide +kernel
theorem dX6_forgetTables_11 : decode cX6_forgetTables 11 = .ok (.invokevirtual 138, 3) := by decide +kernel
theorem dX6_forgetTables_14 : decode cX6_forgetTables 14 = .ok (.return_, 1) := by decide +kernel
theorem dX6_told_0 : decode cX6_told 0 = .ok (.iload_n 1, 1) := by decide +kernel
theorem dX6_told_1 : decode cX6_told 1 = .ok (.tableswitch 111 0 7 #[47, 55, 63, 71, 79, 87, 95, 103], 47) := by decide +kernel
theorem dX6_told_48 : decode cX6_told 48 = .ok (.aload_n 0, 1) := by decide +kernel
theorem dX6_told_49 : decode cX6_told 49 = .ok (.getfield 22, 3) := by decide +kernel
theorem dX6_told_52 : decode cX6_told 52 = .ok (.getfield 79, 3) := by decide +kernel
theorem dX6_told_55 : decode cX6_told 55 = .ok (.ireturn, 1) := by decide +kernel
theorem dX6_told_56 : decode cX6_told 56 = .ok (.aload_n 0, 1) := by decide +kernel
theorem dX6_told_57 : decode cX6_told 57 = .ok (.getfield 22, 3) := by decide +kernel
theorem dX6_told_60 : decode cX6_told 60 = .ok (.getfield 114, 3) := by decide +kernel
theorem dX6_told_63 : decode cX6_told 63 = .ok (.ireturn, 1) := by decide +kernel
theorem dX6_told_64 : decode cX6_told 64 = .ok (.aload_n 0, 1) := by decide +kernel
theorem dX6_told_65 : decode cX6_told 65 = .ok (.getfield 22, 3) := by decide +kernel
theorem dX6_told_68 : decode cX6_told 68 = .ok (.invokevirtual 139, 3) := by decide +kernel
theorem dX6_told_71 : decode cX6_told 71 = .ok (.ireturn, 1) := by decide +kernel
theorem dX6_told_72 : decode cX6_told 72 = .ok (.aload_n 0, 1) := by decide +kernel
theorem dX6_told_73 : decode cX6_told 73 = .ok (.getfield 22, 3) := by decide +kernel
theorem dX6_told_76 : decode cX6_told 76 = .ok (.invokevirtual 142, 3) := by decide +kernel
theorem dX6_told_79 : decode cX6_told 79 = .ok (.ireturn, 1) := by decide +kernel
theorem dX6_told_80 : decode cX6_told 80 = .ok (.aload_n 0, 1) := by decide +kernel
theorem dX6_told_81 : decode cX6_told 81 = .ok (.getfield 10, 3) := by decide +kernel
theorem dX6_told_84 : decode cX6_told 84 = .ok (.getfield 62, 3) := by decide +kernel
theorem dX6_told_87 : decode cX6_told 87 = .ok (.ireturn, 1) := by decide +kernel
theorem dX6_told_88 : decode cX6_told 88 = .ok (.aload_n 0, 1) := by decide +kernel
theorem dX6_told_89 : decode cX6_told 89 = .ok (.getfield 29, 3) := by decide +kernel
theorem dX6_told_92 : decode cX6_told 92 = .ok (.getfield 127, 3) := by decide +kernel
theorem dX6_told_95 : decode cX6_told 95 = .ok (.ireturn, 1) := by decide +kernel
theorem dX6_told_96 : decode cX6_told 96 = .ok (.aload_n 0, 1) := by decide +kernel
theorem dX6_told_97 : decode cX6_told 97 = .ok (.getfield 22, 3) := by decide +kernel
theorem dX6_told_100 : decode cX6_told 100 = .ok (.invokevirtual 145, 3) := by decide +kernel
theorem dX6_told_103 : decode cX6_told 103 = .ok (.ireturn, 1) := by decide +kernel
theorem dX6_told_104 : decode cX6_told 104 = .ok (.aload_n 0, 1) := by decide +kernel
theorem dX6_told_105 : decode cX6_told 105 = .ok (.getfield 22, 3) := by decide +kernel
theorem dX6_told_108 : decode cX6_told 108 = .ok (.invokevirtual 148, 3) := by decide +kernel
theorem dX6_told_111 : decode cX6_told 111 = .ok (.ireturn, 1) := by decide +kernel
theorem dX6_told_112 : decode cX6_told 112 = .ok (.iconst (-1), 1) := by decide +kernel
theorem dX6_told_113 : decode cX6_told 113 = .ok (.ireturn, 1) := by decide +kernel
theorem dX6_member_0 : decode cX6_member 0 = .ok (.aload_n 0, 1) := by decide +kernel
theorem dX6_member_1 : decode cX6_member 1 = .ok (.getfield 22, 3) := by decide +kernel
theorem dX6_member_4 : decode cX6_member 4 = .ok (.iload_n 1, 1) := by decide +kernel
theorem dX6_member_5 : decode cX6_member 5 = .ok (.invokevirtual 89, 3) := by decide +kernel
theorem dX6_member_8 : decode cX6_member 8 = .ok (.ifCond .eq 13, 3) := by decide +kernel
theorem dX6_member_11 : decode cX6_member 11 = .ok (.iload_n 2, 1) := by decide +kernel
theorem dX6_member_12 : decode cX6_member 12 = .ok (.ifCond .lt 9, 3) := by decide +kernel
theorem dX6_member_15 : decode cX6_member 15 = .ok (.iload_n 2, 1) := by decide +kernel
theorem dX6_member_16 : decode cX6_member 16 = .ok (.bipush 9, 2) := by decide +kernel
theorem dX6_member_18 : decode cX6_member 18 = .ok (.if_icmp .le 5, 3) := by decide +kernel
theorem dX6_member_21 : decode cX6_member 21 = .ok (.iconst (-1), 1) := by decide +kernel
theorem dX6_member_22 : decode cX6_member 22 = .ok (.ireturn, 1) := by decide +kernel
theorem dX6_member_23 : decode cX6_member 23 = .ok (.aload_n 0, 1) := by decide +kernel
theorem dX6_member_24 : decode cX6_member 24 = .ok (.getfield 22, 3) := by decide +kernel
theorem dX6_member_27 : decode cX6_member 27 = .ok (.iload_n 1, 1) := by decide +kernel
theorem dX6_member_28 : decode cX6_member 28 = .ok (.invokevirtual 96, 3) := by decide +kernel
theorem dX6_member_31 : decode cX6_member 31 = .ok (.astore_n 3, 1) := by decide +kernel
theorem dX6_member_32 : decode cX6_member 32 = .ok (.iload_n 2, 1) := by decide +kernel
theorem dX6_member_33 : decode cX6_member 33 = .ok (.tableswitch 66 4 9 #[39, 44, 44, 44, 52, 57], 39) := by decide +kernel
theorem dX6_member_72 : decode cX6_member 72 = .ok (.aload_n 3, 1) := by decide +kernel
theorem dX6_member_73 : decode cX6_member 73 = .ok (.invokevirtual 151, 3) := by decide +kernel
theorem dX6_member_76 : decode cX6_member 76 = .ok (.ireturn, 1) := by decide +kernel
theorem dX6_member_77 : decode cX6_member 77 = .ok (.aload_n 3, 1) := by decide +kernel
theorem dX6_member_78 : decode cX6_member 78 = .ok (.iload_n 2, 1) := by decide +kernel
theorem dX6_member_79 : decode cX6_member 79 = .ok (.iconst 5, 1) := by decide +kernel
theorem dX6_member_80 : decode cX6_member 80 = .ok (.isub, 1) := by decide +kernel
theorem dX6_member_81 : decode cX6_member 81 = .ok (.invokevirtual 154, 3) := by decide +kernel
theorem dX6_member_84 : decode cX6_member 84 = .ok (.ireturn, 1) := by decide +kernel
theorem dX6_member_85 : decode cX6_member 85 = .ok (.aload_n 3, 1) := by decide +kernel
theorem dX6_member_86 : decode cX6_member 86 = .ok (.getfield 117, 3) := by decide +kernel
theorem dX6_member_89 : decode cX6_member 89 = .ok (.ireturn, 1) := by decide +kernel
theorem dX6_member_90 : decode cX6_member 90 = .ok (.aload_n 0, 1) := by decide +kernel
theorem dX6_member_91 : decode cX6_member 91 = .ok (.getfield 22, 3) := by decide +kernel
theorem dX6_member_94 : decode cX6_member 94 = .ok (.iload_n 1, 1) := by decide +kernel
theorem dX6_member_95 : decode cX6_member 95 = .ok (.invokevirtual 158, 3) := by decide +kernel
theorem dX6_member_98 : decode cX6_member 98 = .ok (.ireturn, 1) := by decide +kernel
theorem dX6_member_99 : decode cX6_member 99 = .ok (.aload_n 3, 1) := by decide +kernel
theorem dX6_member_100 : decode cX6_member 100 = .ok (.iload_n 2, 1) := by decide +kernel
theorem dX6_member_101 : decode cX6_member 101 = .ok (.invokevirtual 161, 3) := by decide +kernel
theorem dX6_member_104 : decode cX6_member 104 = .ok (.ireturn, 1) := by decide +kernel
theorem dX6_fault_0 : decode cX6_fault 0 = .ok (.aload_n 0, 1) := by decide +kernel
theorem dX6_fault_1 : decode cX6_fault 1 = .ok (.getfield 44, 3) := by decide +kernel
theorem dX6_fault_4 : decode cX6_fault 4 = .ok (.aload_n 0, 1) := by decide +kernel
theorem dX6_fault_5 : decode cX6_fault 5 = .ok (.getfield 22, 3) := by decide +kernel
theorem dX6_fault_8 : decode cX6_fault 8 = .ok (.aload_n 0, 1) := by decide +kernel
theorem dX6_fault_9 : decode cX6_fault 9 = .ok (.getfield 10, 3) := by decide +kernel
theorem dX6_fault_12 : decode cX6_fault 12 = .ok (.invokevirtual 164, 3) := by decide +kernel
theorem dX6_fault_15 : decode cX6_fault 15 = .ok (.aload_n 0, 1) := by decide +kernel
theorem dX6_fault_16 : decode cX6_fault 16 = .ok (.getfield 44, 3) := by decide +kernel
theorem dX6_fault_19 : decode cX6_fault 19 = .ok (.invokevirtual 168, 3) := by decide +kernel
theorem dX6_fault_22 : decode cX6_fault 22 = .ok (.ifCond .eq 8, 3) := by decide +kernel
theorem dX6_fault_25 : decode cX6_fault 25 = .ok (.bipush (-9), 2) := by decide +kernel
theorem dX6_fault_27 : decode cX6_fault 27 = .ok (.goto 18, 3) := by decide +kernel
theorem dX6_fault_30 : decode cX6_fault 30 = .ok (.aload_n 0, 1) := by decide +kernel
theorem dX6_fault_31 : decode cX6_fault 31 = .ok (.getfield 44, 3) := by decide +kernel
theorem dX6_fault_34 : decode cX6_fault 34 = .ok (.aload_n 0, 1) := by decide +kernel
theorem dX6_fault_35 : decode cX6_fault 35 = .ok (.getfield 22, 3) := by decide +kernel
theorem dX6_fault_38 : decode cX6_fault 38 = .ok (.aload_n 0, 1) := by decide +kernel
theorem dX6_fault_39 : decode cX6_fault 39 = .ok (.getfield 10, 3) := by decide +kernel
theorem dX6_fault_42 : decode cX6_fault 42 = .ok (.invokevirtual 172, 3) := by decide +kernel
theorem dX6_fault_45 : decode cX6_fault 45 = .ok (.ireturn, 1) := by decide +kernel
theorem dX6_readings_0 : decode cX6_readings 0 = .ok (.aload_n 0, 1) := by decide +kernel
theorem dX6_readings_1 : decode cX6_readings 1 = .ok (.getfield 44, 3) := by decide +kernel
theorem dX6_readings_4 : decode cX6_readings 4 = .ok (.aload_n 0, 1) := by decide +kernel
theorem dX6_readings_5 : decode cX6_readings 5 = .ok (.getfield 22, 3) := by decide +kernel
theorem dX6_readings_8 : decode cX6_readings 8 = .ok (.aload_n 0, 1) := by decide +kernel
theorem dX6_readings_9 : decode cX6_readings 9 = .ok (.getfield 10, 3) := by decide +kernel
theorem dX6_readings_12 : decode cX6_readings 12 = .ok (.invokevirtual 164, 3) := by decide +kernel
theorem dX6_readings_15 : decode cX6_readings 15 = .ok (.aload_n 0, 1) := by decide +kernel
theorem dX6_readings_16 : decode cX6_readings 16 = .ok (.getfield 44, 3) := by decide +kernel
theorem dX6_readings_19 : decode cX6_readings 19 = .ok (.iconst 0, 1) := by decide +kernel
theorem dX6_readings_20 : decode cX6_readings 20 = .ok (.invokevirtual 176, 3) := by decide +kernel
theorem dX6_readings_23 : decode cX6_readings 23 = .ok (.ldc2_w 180, 3) := by decide +kernel
theorem dX6_readings_26 : decode cX6_readings 26 = .ok (.invokestatic 182, 3) := by decide +kernel
theorem dX6_readings_29 : decode cX6_readings 29 = .ok (.l2i, 1) := by decide +kernel
theorem dX6_readings_30 : decode cX6_readings 30 = .ok (.ireturn, 1) := by decide +kernel
theorem dX6_occurrence_0 : decode cX6_occurrence 0 = .ok (.iload_n 1, 1) := by decide +kernel
theorem dX6_occurrence_1 : decode cX6_occurrence 1 = .ok (.ifCond .lt 12, 3) := by decide +kernel
theorem dX6_occurrence_4 : decode cX6_occurrence 4 = .ok (.iload_n 2, 1) := by decide +kernel
theorem dX6_occurrence_5 : decode cX6_occurrence 5 = .ok (.ifCond .lt 8, 3) := by decide +kernel
theorem dX6_occurrence_8 : decode cX6_occurrence 8 = .ok (.iload_n 2, 1) := by decide +kernel
theorem dX6_occurrence_9 : decode cX6_occurrence 9 = .ok (.iconst 2, 1) := by decide +kernel
theorem dX6_occurrence_10 : decode cX6_occurrence 10 = .ok (.if_icmp .le 5, 3) := by decide +kernel
theorem dX6_occurrence_13 : decode cX6_occurrence 13 = .ok (.iconst (-1), 1) := by decide +kernel
theorem dX6_occurrence_14 : decode cX6_occurrence 14 = .ok (.ireturn, 1) := by decide +kernel
theorem dX6_occurrence_15 : decode cX6_occurrence 15 = .ok (.aload_n 0, 1) := by decide +kernel
theorem dX6_occurrence_16 : decode cX6_occurrence 16 = .ok (.getfield 44, 3) := by decide +kernel
theorem dX6_occurrence_19 : decode cX6_occurrence 19 = .ok (.aload_n 0, 1) := by decide +kernel
theorem dX6_occurrence_20 : decode cX6_occurrence 20 = .ok (.getfield 22, 3) := by decide +kernel
theorem dX6_occurrence_23 : decode cX6_occurrence 23 = .ok (.aload_n 0, 1) := by decide +kernel
theorem dX6_occurrence_24 : decode cX6_occurrence 24 = .ok (.getfield 10, 3) := by decide +kernel
theorem dX6_occurrence_27 : decode cX6_occurrence 27 = .ok (.invokevirtual 164, 3) := by decide +kernel
theorem dX6_occurrence_30 : decode cX6_occurrence 30 = .ok (.aload_n 0, 1) := by decide +kernel
theorem dX6_occurrence_31 : decode cX6_occurrence 31 = .ok (.getfield 44, 3) := by decide +kernel
theorem dX6_occurrence_34 : decode cX6_occurrence 34 = .ok (.invokevirtual 168, 3) := by decide +kernel
theorem dX6_occurrence_37 : decode cX6_occurrence 37 = .ok (.ifCond .ne 6, 3) := by decide +kernel
theorem dX6_occurrence_40 : decode cX6_occurrence 40 = .ok (.bipush (-2), 2) := by decide +kernel
theorem dX6_occurrence_42 : decode cX6_occurrence 42 = .ok (.ireturn, 1) := by decide +kernel
theorem dX6_occurrence_43 : decode cX6_occurrence 43 = .ok (.iload_n 2, 1) := by decide +kernel
theorem dX6_occurrence_44 : decode cX6_occurrence 44 = .ok (.lookupswitch 46 #[(0, 28), (1, 37)], 28) := by decide +kernel
theorem dX6_occurrence_72 : decode cX6_occurrence 72 = .ok (.aload_n 0, 1) := by decide +kernel
theorem dX6_occurrence_73 : decode cX6_occurrence 73 = .ok (.getfield 44, 3) := by decide +kernel
theorem dX6_occurrence_76 : decode cX6_occurrence 76 = .ok (.iload_n 1, 1) := by decide +kernel
theorem dX6_occurrence_77 : decode cX6_occurrence 77 = .ok (.invokevirtual 188, 3) := by decide +kernel
theorem dX6_occurrence_80 : decode cX6_occurrence 80 = .ok (.ireturn, 1) := by decide +kernel
theorem dX6_occurrence_81 : decode cX6_occurrence 81 = .ok (.aload_n 0, 1) := by decide +kernel
theorem dX6_occurrence_82 : decode cX6_occurrence 82 = .ok (.getfield 44, 3) := by decide +kernel
theorem dX6_occurrence_85 : decode cX6_occurrence 85 = .ok (.iload_n 1, 1) := by decide +kernel
theorem dX6_occurrence_86 : decode cX6_occurrence 86 = .ok (.invokevirtual 191, 3) := by decide +kernel
theorem dX6_occurrence_89 : decode cX6_occurrence 89 = .ok (.ireturn, 1) := by decide +kernel
theorem dX6_occurrence_90 : decode cX6_occurrence 90 = .ok (.aload_n 0, 1) := by decide +kernel
theorem dX6_occurrence_91 : decode cX6_occurrence 91 = .ok (.getfield 44, 3) := by decide +kernel
theorem dX6_occurrence_94 : decode cX6_occurrence 94 = .ok (.iload_n 1, 1) := by decide +kernel
theorem dX6_occurrence_95 : decode cX6_occurrence 95 = .ok (.invokevirtual 194, 3) := by decide +kernel
theorem dX6_occurrence_98 : decode cX6_occurrence 98 = .ok (.ireturn, 1) := by decide +kernel
theorem dX6_value_0 : decode cX6_value 0 = .ok (.aload_n 0, 1) := by decide +kernel
theorem dX6_value_1 : decode cX6_value 1 = .ok (.getfield 22, 3) := by decide +kernel
theorem dX6_value_4 : decode cX6_value 4 = .ok (.iload_n 1, 1) := by decide +kernel
theorem dX6_value_5 : decode cX6_value 5 = .ok (.invokevirtual 89, 3) := by decide +kernel
theorem dX6_value_8 : decode cX6_value 8 = .ok (.ifCond .eq 7, 3) := by decide +kernel
theorem dX6_value_11 : decode cX6_value 11 = .ok (.iload_n 2, 1) := by decide +kernel
theorem dX6_value_12 : decode cX6_value 12 = .ok (.ifCond .ge 5, 3) := by decide +kernel
theorem dX6_value_15 : decode cX6_value 15 = .ok (.iconst (-1), 1) := by decide +kernel
theorem dX6_value_16 : decode cX6_value 16 = .ok (.ireturn, 1) := by decide +kernel
theorem dX6_value_17 : decode cX6_value 17 = .ok (.aload_n 0, 1) := by decide +kernel
theorem dX6_value_18 : decode cX6_value 18 = .ok (.getfield 44, 3) := by decide +kernel
theorem dX6_value_21 : decode cX6_value 21 = .ok (.aload_n 0, 1) := by decide +kernel
theorem dX6_value_22 : decode cX6_value 22 = .ok (.getfield 22, 3) := by decide +kernel
theorem dX6_value_25 : decode cX6_value 25 = .ok (.aload_n 0, 1) := by decide +kernel
theorem dX6_value_26 : decode cX6_value 26 = .ok (.getfield 10, 3) := by decide +kernel
theorem dX6_value_29 : decode cX6_value 29 = .ok (.invokevirtual 164, 3) := by decide +kernel
theorem dX6_value_32 : decode cX6_value 32 = .ok (.aload_n 0, 1) := by decide +kernel
theorem dX6_value_33 : decode cX6_value 33 = .ok (.getfield 44, 3) := by decide +kernel
theorem dX6_value_36 : decode cX6_value 36 = .ok (.invokevirtual 168, 3) := by decide +kernel
theorem dX6_value_39 : decode cX6_value 39 = .ok (.ifCond .ne 6, 3) := by decide +kernel
theorem dX6_value_42 : decode cX6_value 42 = .ok (.bipush (-2), 2) := by decide +kernel
theorem dX6_value_44 : decode cX6_value 44 = .ok (.ireturn, 1) := by decide +kernel
theorem dX6_value_45 : decode cX6_value 45 = .ok (.iconst 0, 1) := by decide +kernel
theorem dX6_value_46 : decode cX6_value 46 = .ok (.istore_n 3, 1) := by decide +kernel
theorem dX6_value_47 : decode cX6_value 47 = .ok (.iconst 0, 1) := by decide +kernel
theorem dX6_value_48 : decode cX6_value 48 = .ok (.istore 4, 2) := by decide +kernel
theorem dX6_value_50 : decode cX6_value 50 = .ok (.iload 4, 2) := by decide +kernel
theorem dX6_value_52 : decode cX6_value 52 = .ok (.aload_n 0, 1) := by decide +kernel
theorem dX6_value_53 : decode cX6_value 53 = .ok (.getfield 44, 3) := by decide +kernel
theorem dX6_value_56 : decode cX6_value 56 = .ok (.getfield 197, 3) := by decide +kernel
theorem dX6_value_59 : decode cX6_value 59 = .ok (.if_icmp .ge 40, 3) := by decide +kernel
theorem dX6_value_62 : decode cX6_value 62 = .ok (.aload_n 0, 1) := by decide +kernel
theorem dX6_value_63 : decode cX6_value 63 = .ok (.getfield 44, 3) := by decide +kernel
theorem dX6_value_66 : decode cX6_value 66 = .ok (.iload 4, 2) := by decide +kernel
theorem dX6_value_68 : decode cX6_value 68 = .ok (.invokevirtual 188, 3) := by decide +kernel
theorem dX6_value_71 : decode cX6_value 71 = .ok (.iload_n 1, 1) := by decide +kernel
theorem dX6_value_72 : decode cX6_value 72 = .ok (.if_icmp .ne 21, 3) := by decide +kernel
theorem dX6_value_75 : decode cX6_value 75 = .ok (.iload_n 3, 1) := by decide +kernel
theorem dX6_value_76 : decode cX6_value 76 = .ok (.iload_n 2, 1) := by decide +kernel
theorem dX6_value_77 : decode cX6_value 77 = .ok (.if_icmp .ne 13, 3) := by decide +kernel
theorem dX6_value_80 : decode cX6_value 80 = .ok (.aload_n 0, 1) := by decide +kernel
theorem dX6_value_81 : decode cX6_value 81 = .ok (.getfield 44, 3) := by decide +kernel
theorem dX6_value_84 : decode cX6_value 84 = .ok (.iload 4, 2) := by decide +kernel
theorem dX6_value_86 : decode cX6_value 86 = .ok (.invokevirtual 194, 3) := by decide +kernel
theorem dX6_value_89 : decode cX6_value 89 = .ok (.ireturn, 1) := by decide +kernel
theorem dX6_value_90 : decode cX6_value 90 = .ok (.iinc 3 1, 3) := by decide +kernel
theorem dX6_value_93 : decode cX6_value 93 = .ok (.iinc 4 1, 3) := by decide +kernel
theorem dX6_value_96 : decode cX6_value 96 = .ok (.goto (-46), 3) := by decide +kernel
theorem dX6_value_99 : decode cX6_value 99 = .ok (.iload_n 3, 1) := by decide +kernel
theorem dX6_value_100 : decode cX6_value 100 = .ok (.ifCond .ne 21, 3) := by decide +kernel
theorem dX6_value_103 : decode cX6_value 103 = .ok (.iload_n 2, 1) := by decide +kernel
theorem dX6_value_104 : decode cX6_value 104 = .ok (.ifCond .ne 17, 3) := by decide +kernel
theorem dX6_value_107 : decode cX6_value 107 = .ok (.aload_n 0, 1) := by decide +kernel
theorem dX6_value_108 : decode cX6_value 108 = .ok (.getfield 22, 3) := by decide +kernel
theorem dX6_value_111 : decode cX6_value 111 = .ok (.iload_n 1, 1) := by decide +kernel
theorem dX6_value_112 : decode cX6_value 112 = .ok (.invokevirtual 96, 3) := by decide +kernel
theorem dX6_value_115 : decode cX6_value 115 = .ok (.getfield 198, 3) := by decide +kernel
theorem dX6_value_118 : decode cX6_value 118 = .ok (.goto 5, 3) := by decide +kernel
theorem dX6_value_121 : decode cX6_value 121 = .ok (.bipush (-9), 2) := by decide +kernel
theorem dX6_value_123 : decode cX6_value 123 = .ok (.ireturn, 1) := by decide +kernel
theorem dX6_next_0 : decode cX6_next 0 = .ok (.aload_n 0, 1) := by decide +kernel
theorem dX6_next_1 : decode cX6_next 1 = .ok (.getfield 44, 3) := by decide +kernel
theorem dX6_next_4 : decode cX6_next 4 = .ok (.aload_n 0, 1) := by decide +kernel
theorem dX6_next_5 : decode cX6_next 5 = .ok (.getfield 22, 3) := by decide +kernel
theorem dX6_next_8 : decode cX6_next 8 = .ok (.aload_n 0, 1) := by decide +kernel
theorem dX6_next_9 : decode cX6_next 9 = .ok (.getfield 10, 3) := by decide +kernel
theorem dX6_next_12 : decode cX6_next 12 = .ok (.invokevirtual 164, 3) := by decide +kernel
theorem dX6_next_15 : decode cX6_next 15 = .ok (.aload_n 0, 1) := by decide +kernel
theorem dX6_next_16 : decode cX6_next 16 = .ok (.getfield 44, 3) := by decide +kernel
theorem dX6_next_19 : decode cX6_next 19 = .ok (.aload_n 0, 1) := by decide +kernel
theorem dX6_next_20 : decode cX6_next 20 = .ok (.getfield 22, 3) := by decide +kernel
theorem dX6_next_23 : decode cX6_next 23 = .ok (.aload_n 0, 1) := by decide +kernel
theorem dX6_next_24 : decode cX6_next 24 = .ok (.getfield 10, 3) := by decide +kernel
theorem dX6_next_27 : decode cX6_next 27 = .ok (.invokevirtual 201, 3) := by decide +kernel
theorem dX6_next_30 : decode cX6_next 30 = .ok (.ireturn, 1) := by decide +kernel
theorem dX6_normal_0 : decode cX6_normal 0 = .ok (.iload_n 1, 1) := by decide +kernel
theorem dX6_normal_1 : decode cX6_normal 1 = .ok (.ifCond .ge 5, 3) := by decide +kernel
theorem dX6_normal_4 : decode cX6_normal 4 = .ok (.iconst (-1), 1) := by decide +kernel
theorem dX6_normal_5 : decode cX6_normal 5 = .ok (.ireturn, 1) := by decide +kernel
theorem dX6_normal_6 : decode cX6_normal 6 = .ok (.aload_n 0, 1) := by decide +kernel
theorem dX6_normal_7 : decode cX6_normal 7 = .ok (.getfield 44, 3) := by decide +kernel
theorem dX6_normal_10 : decode cX6_normal 10 = .ok (.aload_n 0, 1) := by decide +kernel
theorem dX6_normal_11 : decode cX6_normal 11 = .ok (.getfield 22, 3) := by decide +kernel
theorem dX6_normal_14 : decode cX6_normal 14 = .ok (.aload_n 0, 1) := by decide +kernel
theorem dX6_normal_15 : decode cX6_normal 15 = .ok (.getfield 10, 3) := by decide +kernel
theorem dX6_normal_18 : decode cX6_normal 18 = .ok (.invokevirtual 164, 3) := by decide +kernel
theorem dX6_normal_21 : decode cX6_normal 21 = .ok (.aload_n 0, 1) := by decide +kernel
theorem dX6_normal_22 : decode cX6_normal 22 = .ok (.getfield 44, 3) := by decide +kernel
theorem dX6_normal_25 : decode cX6_normal 25 = .ok (.invokevirtual 168, 3) := by decide +kernel
theorem dX6_normal_28 : decode cX6_normal 28 = .ok (.ifCond .ne 6, 3) := by decide +kernel
theorem dX6_normal_31 : decode cX6_normal 31 = .ok (.bipush (-2), 2) := by decide +kernel
theorem dX6_normal_33 : decode cX6_normal 33 = .ok (.ireturn, 1) := by decide +kernel
theorem dX6_normal_34 : decode cX6_normal 34 = .ok (.aload_n 0, 1) := by decide +kernel
theorem dX6_normal_35 : decode cX6_normal 35 = .ok (.invokevirtual 204, 3) := by decide +kernel
theorem dX6_normal_38 : decode cX6_normal 38 = .ok (.aload_n 0, 1) := by decide +kernel
theorem dX6_normal_39 : decode cX6_normal 39 = .ok (.getfield 16, 3) := by decide +kernel
theorem dX6_normal_42 : decode cX6_normal 42 = .ok (.iload_n 1, 1) := by decide +kernel
theorem dX6_normal_43 : decode cX6_normal 43 = .ok (.invokevirtual 207, 3) := by decide +kernel
theorem dX6_normal_46 : decode cX6_normal 46 = .ok (.ireturn, 1) := by decide +kernel
theorem dX6_formNormal_0 : decode cX6_formNormal 0 = .ok (.aload_n 0, 1) := by decide +kernel
theorem dX6_formNormal_1 : decode cX6_formNormal 1 = .ok (.getfield 16, 3) := by decide +kernel
theorem dX6_formNormal_4 : decode cX6_formNormal 4 = .ok (.invokevirtual 66, 3) := by decide +kernel
theorem dX6_formNormal_7 : decode cX6_formNormal 7 = .ok (.iconst 0, 1) := by decide +kernel
theorem dX6_formNormal_8 : decode cX6_formNormal 8 = .ok (.istore_n 1, 1) := by decide +kernel
theorem dX6_formNormal_9 : decode cX6_formNormal 9 = .ok (.iload_n 1, 1) := by decide +kernel
theorem dX6_formNormal_10 : decode cX6_formNormal 10 = .ok (.aload_n 0, 1) := by decide +kernel
