theorem dX7_may_39 : decode cX7_may 39 = .ok (.iaload, 1) := by decide +kernel
theorem dX7_may_40 : decode cX7_may 40 = .ok (.iload_n 3, 1) := by decide +kernel
theorem dX7_may_41 : decode cX7_may 41 = .ok (.invokestatic 89, 3) := by decide +kernel
theorem dX7_may_44 : decode cX7_may 44 = .ok (.ifCond .eq 13, 3) := by decide +kernel
theorem dX7_may_47 : decode cX7_may 47 = .ok (.iload_n 1, 1) := by decide +kernel
theorem dX7_may_48 : decode cX7_may 48 = .ok (.iload_n 3, 1) := by decide +kernel
theorem dX7_may_49 : decode cX7_may 49 = .ok (.invokestatic 125, 3) := by decide +kernel
theorem dX7_may_52 : decode cX7_may 52 = .ok (.ifCond .le 5, 3) := by decide +kernel
theorem dX7_may_55 : decode cX7_may 55 = .ok (.iconst 0, 1) := by decide +kernel
theorem dX7_may_56 : decode cX7_may 56 = .ok (.ireturn, 1) := by decide +kernel
theorem dX7_may_57 : decode cX7_may 57 = .ok (.iinc 3 1, 3) := by decide +kernel
theorem dX7_may_60 : decode cX7_may 60 = .ok (.goto (-39), 3) := by decide +kernel
theorem dX7_may_63 : decode cX7_may 63 = .ok (.iconst 1, 1) := by decide +kernel
theorem dX7_may_64 : decode cX7_may 64 = .ok (.ireturn, 1) := by decide +kernel
theorem dX7_isWhole_0 : decode cX7_isWhole 0 = .ok (.iconst 0, 1) := by decide +kernel
theorem dX7_isWhole_1 : decode cX7_isWhole 1 = .ok (.istore_n 2, 1) := by decide +kernel
theorem dX7_isWhole_2 : decode cX7_isWhole 2 = .ok (.iload_n 2, 1) := by decide +kernel
theorem dX7_isWhole_3 : decode cX7_isWhole 3 = .ok (.aload_n 0, 1) := by decide +kernel
theorem dX7_isWhole_4 : decode cX7_isWhole 4 = .ok (.getfield 7, 3) := by decide +kernel
theorem dX7_isWhole_7 : decode cX7_isWhole 7 = .ok (.iconst 0, 1) := by decide +kernel
theorem dX7_isWhole_8 : decode cX7_isWhole 8 = .ok (.iaload, 1) := by decide +kernel
theorem dX7_isWhole_9 : decode cX7_isWhole 9 = .ok (.if_icmp .ge 28, 3) := by decide +kernel
theorem dX7_isWhole_12 : decode cX7_isWhole 12 = .ok (.iload_n 1, 1) := by decide +kernel
theorem dX7_isWhole_13 : decode cX7_isWhole 13 = .ok (.iload_n 2, 1) := by decide +kernel
theorem dX7_isWhole_14 : decode cX7_isWhole 14 = .ok (.invokestatic 125, 3) := by decide +kernel
theorem dX7_isWhole_17 : decode cX7_isWhole 17 = .ok (.aload_n 0, 1) := by decide +kernel
theorem dX7_isWhole_18 : decode cX7_isWhole 18 = .ok (.getfield 7, 3) := by decide +kernel
theorem dX7_isWhole_21 : decode cX7_isWhole 21 = .ok (.bipush 26, 2) := by decide +kernel
theorem dX7_isWhole_23 : decode cX7_isWhole 23 = .ok (.iload_n 2, 1) := by decide +kernel
theorem dX7_isWhole_24 : decode cX7_isWhole 24 = .ok (.iadd, 1) := by decide +kernel
theorem dX7_isWhole_25 : decode cX7_isWhole 25 = .ok (.iaload, 1) := by decide +kernel
theorem dX7_isWhole_26 : decode cX7_isWhole 26 = .ok (.if_icmp .ge 5, 3) := by decide +kernel
theorem dX7_isWhole_29 : decode cX7_isWhole 29 = .ok (.iconst 0, 1) := by decide +kernel
theorem dX7_isWhole_30 : decode cX7_isWhole 30 = .ok (.ireturn, 1) := by decide +kernel
theorem dX7_isWhole_31 : decode cX7_isWhole 31 = .ok (.iinc 2 1, 3) := by decide +kernel
theorem dX7_isWhole_34 : decode cX7_isWhole 34 = .ok (.goto (-32), 3) := by decide +kernel
theorem dX7_isWhole_37 : decode cX7_isWhole 37 = .ok (.iconst 1, 1) := by decide +kernel
theorem dX7_isWhole_38 : decode cX7_isWhole 38 = .ok (.ireturn, 1) := by decide +kernel
theorem dX7_mayFollow_0 : decode cX7_mayFollow 0 = .ok (.iconst 0, 1) := by decide +kernel
theorem dX7_mayFollow_1 : decode cX7_mayFollow 1 = .ok (.istore_n 2, 1) := by decide +kernel
theorem dX7_mayFollow_2 : decode cX7_mayFollow 2 = .ok (.iconst 0, 1) := by decide +kernel
theorem dX7_mayFollow_3 : decode cX7_mayFollow 3 = .ok (.istore_n 3, 1) := by decide +kernel
theorem dX7_mayFollow_4 : decode cX7_mayFollow 4 = .ok (.iload_n 3, 1) := by decide +kernel
theorem dX7_mayFollow_5 : decode cX7_mayFollow 5 = .ok (.aload_n 0, 1) := by decide +kernel
theorem dX7_mayFollow_6 : decode cX7_mayFollow 6 = .ok (.getfield 7, 3) := by decide +kernel
theorem dX7_mayFollow_9 : decode cX7_mayFollow 9 = .ok (.iconst 0, 1) := by decide +kernel
theorem dX7_mayFollow_10 : decode cX7_mayFollow 10 = .ok (.iaload, 1) := by decide +kernel
theorem dX7_mayFollow_11 : decode cX7_mayFollow 11 = .ok (.if_icmp .ge 28, 3) := by decide +kernel
theorem dX7_mayFollow_14 : decode cX7_mayFollow 14 = .ok (.iload_n 2, 1) := by decide +kernel
theorem dX7_mayFollow_15 : decode cX7_mayFollow 15 = .ok (.aload_n 0, 1) := by decide +kernel
theorem dX7_mayFollow_16 : decode cX7_mayFollow 16 = .ok (.iload_n 1, 1) := by decide +kernel
theorem dX7_mayFollow_17 : decode cX7_mayFollow 17 = .ok (.iload_n 3, 1) := by decide +kernel
theorem dX7_mayFollow_18 : decode cX7_mayFollow 18 = .ok (.invokevirtual 128, 3) := by decide +kernel
theorem dX7_mayFollow_21 : decode cX7_mayFollow 21 = .ok (.ifCond .eq 9, 3) := by decide +kernel
theorem dX7_mayFollow_24 : decode cX7_mayFollow 24 = .ok (.iconst 1, 1) := by decide +kernel
theorem dX7_mayFollow_25 : decode cX7_mayFollow 25 = .ok (.iload_n 3, 1) := by decide +kernel
theorem dX7_mayFollow_26 : decode cX7_mayFollow 26 = .ok (.ishl, 1) := by decide +kernel
theorem dX7_mayFollow_27 : decode cX7_mayFollow 27 = .ok (.goto 4, 3) := by decide +kernel
theorem dX7_mayFollow_30 : decode cX7_mayFollow 30 = .ok (.iconst 0, 1) := by decide +kernel
theorem dX7_mayFollow_31 : decode cX7_mayFollow 31 = .ok (.ior, 1) := by decide +kernel
theorem dX7_mayFollow_32 : decode cX7_mayFollow 32 = .ok (.istore_n 2, 1) := by decide +kernel
theorem dX7_mayFollow_33 : decode cX7_mayFollow 33 = .ok (.iinc 3 1, 3) := by decide +kernel
theorem dX7_mayFollow_36 : decode cX7_mayFollow 36 = .ok (.goto (-32), 3) := by decide +kernel
theorem dX7_mayFollow_39 : decode cX7_mayFollow 39 = .ok (.iload_n 2, 1) := by decide +kernel
theorem dX7_mayFollow_40 : decode cX7_mayFollow 40 = .ok (.ireturn, 1) := by decide +kernel
theorem dX7_isDigitAt_0 : decode cX7_isDigitAt 0 = .ok (.iload_n 1, 1) := by decide +kernel
theorem dX7_isDigitAt_1 : decode cX7_isDigitAt 1 = .ok (.aload_n 0, 1) := by decide +kernel
theorem dX7_isDigitAt_2 : decode cX7_isDigitAt 2 = .ok (.getfield 64, 3) := by decide +kernel
theorem dX7_isDigitAt_5 : decode cX7_isDigitAt 5 = .ok (.if_icmp .ge 23, 3) := by decide +kernel
theorem dX7_isDigitAt_8 : decode cX7_isDigitAt 8 = .ok (.aload_n 0, 1) := by decide +kernel
theorem dX7_isDigitAt_9 : decode cX7_isDigitAt 9 = .ok (.getfield 19, 3) := by decide +kernel
theorem dX7_isDigitAt_12 : decode cX7_isDigitAt 12 = .ok (.iload_n 1, 1) := by decide +kernel
theorem dX7_isDigitAt_13 : decode cX7_isDigitAt 13 = .ok (.iaload, 1) := by decide +kernel
theorem dX7_isDigitAt_14 : decode cX7_isDigitAt 14 = .ok (.bipush 48, 2) := by decide +kernel
theorem dX7_isDigitAt_16 : decode cX7_isDigitAt 16 = .ok (.bipush 57, 2) := by decide +kernel
theorem dX7_isDigitAt_18 : decode cX7_isDigitAt 18 = .ok (.invokestatic 60, 3) := by decide +kernel
theorem dX7_isDigitAt_21 : decode cX7_isDigitAt 21 = .ok (.ifCond .eq 7, 3) := by decide +kernel
theorem dX7_isDigitAt_24 : decode cX7_isDigitAt 24 = .ok (.iconst 1, 1) := by decide +kernel
theorem dX7_isDigitAt_25 : decode cX7_isDigitAt 25 = .ok (.goto 4, 3) := by decide +kernel
theorem dX7_isDigitAt_28 : decode cX7_isDigitAt 28 = .ok (.iconst 0, 1) := by decide +kernel
theorem dX7_isDigitAt_29 : decode cX7_isDigitAt 29 = .ok (.ireturn, 1) := by decide +kernel
theorem dX7_matched_0 : decode cX7_matched 0 = .ok (.iconst 0, 1) := by decide +kernel
theorem dX7_matched_1 : decode cX7_matched 1 = .ok (.istore_n 3, 1) := by decide +kernel
theorem dX7_matched_2 : decode cX7_matched 2 = .ok (.iload_n 3, 1) := by decide +kernel
theorem dX7_matched_3 : decode cX7_matched 3 = .ok (.aload_n 0, 1) := by decide +kernel
theorem dX7_matched_4 : decode cX7_matched 4 = .ok (.iload_n 1, 1) := by decide +kernel
theorem dX7_matched_5 : decode cX7_matched 5 = .ok (.invokevirtual 71, 3) := by decide +kernel
theorem dX7_matched_8 : decode cX7_matched 8 = .ok (.if_icmp .ge 36, 3) := by decide +kernel
theorem dX7_matched_11 : decode cX7_matched 11 = .ok (.iload_n 2, 1) := by decide +kernel
theorem dX7_matched_12 : decode cX7_matched 12 = .ok (.iload_n 3, 1) := by decide +kernel
theorem dX7_matched_13 : decode cX7_matched 13 = .ok (.iadd, 1) := by decide +kernel
theorem dX7_matched_14 : decode cX7_matched 14 = .ok (.aload_n 0, 1) := by decide +kernel
theorem dX7_matched_15 : decode cX7_matched 15 = .ok (.getfield 64, 3) := by decide +kernel
theorem dX7_matched_18 : decode cX7_matched 18 = .ok (.if_icmp .ge 26, 3) := by decide +kernel
theorem dX7_matched_21 : decode cX7_matched 21 = .ok (.aload_n 0, 1) := by decide +kernel
theorem dX7_matched_22 : decode cX7_matched 22 = .ok (.getfield 19, 3) := by decide +kernel
theorem dX7_matched_25 : decode cX7_matched 25 = .ok (.iload_n 2, 1) := by decide +kernel
theorem dX7_matched_26 : decode cX7_matched 26 = .ok (.iload_n 3, 1) := by decide +kernel
theorem dX7_matched_27 : decode cX7_matched 27 = .ok (.iadd, 1) := by decide +kernel
theorem dX7_matched_28 : decode cX7_matched 28 = .ok (.iaload, 1) := by decide +kernel
theorem dX7_matched_29 : decode cX7_matched 29 = .ok (.aload_n 0, 1) := by decide +kernel
theorem dX7_matched_30 : decode cX7_matched 30 = .ok (.iload_n 1, 1) := by decide +kernel
theorem dX7_matched_31 : decode cX7_matched 31 = .ok (.iload_n 3, 1) := by decide +kernel
theorem dX7_matched_32 : decode cX7_matched 32 = .ok (.invokevirtual 67, 3) := by decide +kernel
theorem dX7_matched_35 : decode cX7_matched 35 = .ok (.if_icmp .ne 9, 3) := by decide +kernel
theorem dX7_matched_38 : decode cX7_matched 38 = .ok (.iinc 3 1, 3) := by decide +kernel
theorem dX7_matched_41 : decode cX7_matched 41 = .ok (.goto (-39), 3) := by decide +kernel
theorem dX7_matched_44 : decode cX7_matched 44 = .ok (.iload_n 3, 1) := by decide +kernel
theorem dX7_matched_45 : decode cX7_matched 45 = .ok (.ireturn, 1) := by decide +kernel
theorem dX7_endOf_0 : decode cX7_endOf 0 = .ok (.iload_n 2, 1) := by decide +kernel
theorem dX7_endOf_1 : decode cX7_endOf 1 = .ok (.aload_n 0, 1) := by decide +kernel
theorem dX7_endOf_2 : decode cX7_endOf 2 = .ok (.iload_n 1, 1) := by decide +kernel
theorem dX7_endOf_3 : decode cX7_endOf 3 = .ok (.invokevirtual 71, 3) := by decide +kernel
theorem dX7_endOf_6 : decode cX7_endOf 6 = .ok (.iadd, 1) := by decide +kernel
theorem dX7_endOf_7 : decode cX7_endOf 7 = .ok (.istore_n 3, 1) := by decide +kernel
theorem dX7_endOf_8 : decode cX7_endOf 8 = .ok (.aload_n 0, 1) := by decide +kernel
theorem dX7_endOf_9 : decode cX7_endOf 9 = .ok (.iload_n 1, 1) := by decide +kernel
theorem dX7_endOf_10 : decode cX7_endOf 10 = .ok (.iload_n 2, 1) := by decide +kernel
theorem dX7_endOf_11 : decode cX7_endOf 11 = .ok (.invokevirtual 131, 3) := by decide +kernel
theorem dX7_endOf_14 : decode cX7_endOf 14 = .ok (.aload_n 0, 1) := by decide +kernel
theorem dX7_endOf_15 : decode cX7_endOf 15 = .ok (.iload_n 1, 1) := by decide +kernel
theorem dX7_endOf_16 : decode cX7_endOf 16 = .ok (.invokevirtual 71, 3) := by decide +kernel
theorem dX7_endOf_19 : decode cX7_endOf 19 = .ok (.if_icmp .ge 6, 3) := by decide +kernel
theorem dX7_endOf_22 : decode cX7_endOf 22 = .ok (.bipush (-9), 2) := by decide +kernel
theorem dX7_endOf_24 : decode cX7_endOf 24 = .ok (.ireturn, 1) := by decide +kernel
theorem dX7_endOf_25 : decode cX7_endOf 25 = .ok (.aload_n 0, 1) := by decide +kernel
theorem dX7_endOf_26 : decode cX7_endOf 26 = .ok (.getfield 7, 3) := by decide +kernel
theorem dX7_endOf_29 : decode cX7_endOf 29 = .ok (.bipush 20, 2) := by decide +kernel
theorem dX7_endOf_31 : decode cX7_endOf 31 = .ok (.iload_n 1, 1) := by decide +kernel
theorem dX7_endOf_32 : decode cX7_endOf 32 = .ok (.iadd, 1) := by decide +kernel
theorem dX7_endOf_33 : decode cX7_endOf 33 = .ok (.iaload, 1) := by decide +kernel
theorem dX7_endOf_34 : decode cX7_endOf 34 = .ok (.lookupswitch 68 #[(0, 26), (1, 28)], 26) := by decide +kernel
theorem dX7_endOf_60 : decode cX7_endOf 60 = .ok (.iload_n 3, 1) := by decide +kernel
theorem dX7_endOf_61 : decode cX7_endOf 61 = .ok (.ireturn, 1) := by decide +kernel
theorem dX7_endOf_62 : decode cX7_endOf 62 = .ok (.iload_n 3, 1) := by decide +kernel
theorem dX7_endOf_63 : decode cX7_endOf 63 = .ok (.istore 4, 2) := by decide +kernel
theorem dX7_endOf_65 : decode cX7_endOf 65 = .ok (.iload 4, 2) := by decide +kernel
theorem dX7_endOf_67 : decode cX7_endOf 67 = .ok (.iload_n 3, 1) := by decide +kernel
theorem dX7_endOf_68 : decode cX7_endOf 68 = .ok (.iconst 3, 1) := by decide +kernel
theorem dX7_endOf_69 : decode cX7_endOf 69 = .ok (.iadd, 1) := by decide +kernel
theorem dX7_endOf_70 : decode cX7_endOf 70 = .ok (.if_icmp .ge 18, 3) := by decide +kernel
theorem dX7_endOf_73 : decode cX7_endOf 73 = .ok (.aload_n 0, 1) := by decide +kernel
theorem dX7_endOf_74 : decode cX7_endOf 74 = .ok (.iload 4, 2) := by decide +kernel
theorem dX7_endOf_76 : decode cX7_endOf 76 = .ok (.invokevirtual 134, 3) := by decide +kernel
theorem dX7_endOf_79 : decode cX7_endOf 79 = .ok (.ifCond .eq 9, 3) := by decide +kernel
theorem dX7_endOf_82 : decode cX7_endOf 82 = .ok (.iinc 4 1, 3) := by decide +kernel
theorem dX7_endOf_85 : decode cX7_endOf 85 = .ok (.goto (-20), 3) := by decide +kernel
theorem dX7_endOf_88 : decode cX7_endOf 88 = .ok (.iload 4, 2) := by decide +kernel
theorem dX7_endOf_90 : decode cX7_endOf 90 = .ok (.iload_n 3, 1) := by decide +kernel
theorem dX7_endOf_91 : decode cX7_endOf 91 = .ok (.if_icmp .ne 8, 3) := by decide +kernel
theorem dX7_endOf_94 : decode cX7_endOf 94 = .ok (.bipush (-9), 2) := by decide +kernel
theorem dX7_endOf_96 : decode cX7_endOf 96 = .ok (.goto 5, 3) := by decide +kernel
theorem dX7_endOf_99 : decode cX7_endOf 99 = .ok (.iload 4, 2) := by decide +kernel
theorem dX7_endOf_101 : decode cX7_endOf 101 = .ok (.ireturn, 1) := by decide +kernel
theorem dX7_endOf_102 : decode cX7_endOf 102 = .ok (.iload_n 3, 1) := by decide +kernel
theorem dX7_endOf_103 : decode cX7_endOf 103 = .ok (.aload_n 0, 1) := by decide +kernel
theorem dX7_endOf_104 : decode cX7_endOf 104 = .ok (.getfield 64, 3) := by decide +kernel
theorem dX7_endOf_107 : decode cX7_endOf 107 = .ok (.if_icmp .ge 25, 3) := by decide +kernel
theorem dX7_endOf_110 : decode cX7_endOf 110 = .ok (.aload_n 0, 1) := by decide +kernel
theorem dX7_endOf_111 : decode cX7_endOf 111 = .ok (.getfield 19, 3) := by decide +kernel
theorem dX7_endOf_114 : decode cX7_endOf 114 = .ok (.iload_n 3, 1) := by decide +kernel
theorem dX7_endOf_115 : decode cX7_endOf 115 = .ok (.iaload, 1) := by decide +kernel
theorem dX7_endOf_116 : decode cX7_endOf 116 = .ok (.bipush 65, 2) := by decide +kernel
theorem dX7_endOf_118 : decode cX7_endOf 118 = .ok (.bipush 90, 2) := by decide +kernel
theorem dX7_endOf_120 : decode cX7_endOf 120 = .ok (.invokestatic 60, 3) := by decide +kernel
theorem dX7_endOf_123 : decode cX7_endOf 123 = .ok (.ifCond .eq 9, 3) := by decide +kernel
theorem dX7_endOf_126 : decode cX7_endOf 126 = .ok (.iload_n 3, 1) := by decide +kernel
theorem dX7_endOf_127 : decode cX7_endOf 127 = .ok (.iconst 1, 1) := by decide +kernel
theorem dX7_endOf_128 : decode cX7_endOf 128 = .ok (.iadd, 1) := by decide +kernel
theorem dX7_endOf_129 : decode cX7_endOf 129 = .ok (.goto 5, 3) := by decide +kernel
theorem dX7_endOf_132 : decode cX7_endOf 132 = .ok (.bipush (-9), 2) := by decide +kernel
theorem dX7_endOf_134 : decode cX7_endOf 134 = .ok (.ireturn, 1) := by decide +kernel
theorem dX7_startOf_0 : decode cX7_startOf 0 = .ok (.iload_n 2, 1) := by decide +kernel
theorem dX7_startOf_1 : decode cX7_startOf 1 = .ok (.ifCond .eq 12, 3) := by decide +kernel
theorem dX7_startOf_4 : decode cX7_startOf 4 = .ok (.aload_n 0, 1) := by decide +kernel
theorem dX7_startOf_5 : decode cX7_startOf 5 = .ok (.getfield 7, 3) := by decide +kernel
theorem dX7_startOf_8 : decode cX7_startOf 8 = .ok (.iconst 1, 1) := by decide +kernel
theorem dX7_startOf_9 : decode cX7_startOf 9 = .ok (.iaload, 1) := by decide +kernel
theorem dX7_startOf_10 : decode cX7_startOf 10 = .ok (.ifCond .ne 5, 3) := by decide +kernel
theorem dX7_startOf_13 : decode cX7_startOf 13 = .ok (.iload_n 1, 1) := by decide +kernel
theorem dX7_startOf_14 : decode cX7_startOf 14 = .ok (.ireturn, 1) := by decide +kernel
theorem dX7_startOf_15 : decode cX7_startOf 15 = .ok (.iload_n 1, 1) := by decide +kernel
theorem dX7_startOf_16 : decode cX7_startOf 16 = .ok (.aload_n 0, 1) := by decide +kernel
theorem dX7_startOf_17 : decode cX7_startOf 17 = .ok (.getfield 64, 3) := by decide +kernel
theorem dX7_startOf_20 : decode cX7_startOf 20 = .ok (.if_icmp .ge 24, 3) := by decide +kernel
theorem dX7_startOf_23 : decode cX7_startOf 23 = .ok (.aload_n 0, 1) := by decide +kernel
theorem dX7_startOf_24 : decode cX7_startOf 24 = .ok (.getfield 19, 3) := by decide +kernel
theorem dX7_startOf_27 : decode cX7_startOf 27 = .ok (.iload_n 1, 1) := by decide +kernel
theorem dX7_startOf_28 : decode cX7_startOf 28 = .ok (.iaload, 1) := by decide +kernel
theorem dX7_startOf_29 : decode cX7_startOf 29 = .ok (.aload_n 0, 1) := by decide +kernel
theorem dX7_startOf_30 : decode cX7_startOf 30 = .ok (.getfield 7, 3) := by decide +kernel
theorem dX7_startOf_33 : decode cX7_startOf 33 = .ok (.iconst 1, 1) := by decide +kernel
theorem dX7_startOf_34 : decode cX7_startOf 34 = .ok (.iaload, 1) := by decide +kernel
theorem dX7_startOf_35 : decode cX7_startOf 35 = .ok (.if_icmp .ne 9, 3) := by decide +kernel
theorem dX7_startOf_38 : decode cX7_startOf 38 = .ok (.iload_n 1, 1) := by decide +kernel
theorem dX7_startOf_39 : decode cX7_startOf 39 = .ok (.iconst 1, 1) := by decide +kernel
theorem dX7_startOf_40 : decode cX7_startOf 40 = .ok (.iadd, 1) := by decide +kernel
theorem dX7_startOf_41 : decode cX7_startOf 41 = .ok (.goto 5, 3) := by decide +kernel
theorem dX7_startOf_44 : decode cX7_startOf 44 = .ok (.bipush (-9), 2) := by decide +kernel
theorem dX7_startOf_46 : decode cX7_startOf 46 = .ok (.ireturn, 1) := by decide +kernel
theorem dX7_layBeginnings_0 : decode cX7_layBeginnings 0 = .ok (.iconst 0, 1) := by decide +kernel
theorem dX7_layBeginnings_1 : decode cX7_layBeginnings 1 = .ok (.istore_n 1, 1) := by decide +kernel
theorem dX7_layBeginnings_2 : decode cX7_layBeginnings 2 = .ok (.iload_n 1, 1) := by decide +kernel
theorem dX7_layBeginnings_3 : decode cX7_layBeginnings 3 = .ok (.ldc 25, 2) := by decide +kernel
theorem dX7_layBeginnings_5 : decode cX7_layBeginnings 5 = .ok (.if_icmp .ge 31, 3) := by decide +kernel
theorem dX7_layBeginnings_8 : decode cX7_layBeginnings 8 = .ok (.aload_n 0, 1) := by decide +kernel
theorem dX7_layBeginnings_9 : decode cX7_layBeginnings 9 = .ok (.getfield 26, 3) := by decide +kernel
theorem dX7_layBeginnings_12 : decode cX7_layBeginnings 12 = .ok (.iload_n 1, 1) := by decide +kernel
theorem dX7_layBeginnings_13 : decode cX7_layBeginnings 13 = .ok (.iload_n 1, 1) := by decide +kernel
theorem dX7_layBeginnings_14 : decode cX7_layBeginnings 14 = .ok (.ifCond .ne 7, 3) := by decide +kernel
theorem dX7_layBeginnings_17 : decode cX7_layBeginnings 17 = .ok (.iconst 1, 1) := by decide +kernel
theorem dX7_layBeginnings_18 : decode cX7_layBeginnings 18 = .ok (.goto 4, 3) := by decide +kernel
theorem dX7_layBeginnings_21 : decode cX7_layBeginnings 21 = .ok (.iconst 0, 1) := by decide +kernel
theorem dX7_layBeginnings_22 : decode cX7_layBeginnings 22 = .ok (.bastore, 1) := by decide +kernel
theorem dX7_layBeginnings_23 : decode cX7_layBeginnings 23 = .ok (.aload_n 0, 1) := by decide +kernel
theorem dX7_layBeginnings_24 : decode cX7_layBeginnings 24 = .ok (.getfield 30, 3) := by decide +kernel
theorem dX7_layBeginnings_27 : decode cX7_layBeginnings 27 = .ok (.iload_n 1, 1) := by decide +kernel
theorem dX7_layBeginnings_28 : decode cX7_layBeginnings 28 = .ok (.iconst 0, 1) := by decide +kernel
theorem dX7_layBeginnings_29 : decode cX7_layBeginnings 29 = .ok (.iastore, 1) := by decide +kernel
theorem dX7_layBeginnings_30 : decode cX7_layBeginnings 30 = .ok (.iinc 1 1, 3) := by decide +kernel
theorem dX7_layBeginnings_33 : decode cX7_layBeginnings 33 = .ok (.goto (-31), 3) := by decide +kernel
theorem dX7_layBeginnings_36 : decode cX7_layBeginnings 36 = .ok (.iconst 0, 1) := by decide +kernel
theorem dX7_layBeginnings_37 : decode cX7_layBeginnings 37 = .ok (.istore_n 1, 1) := by decide +kernel
theorem dX7_layBeginnings_38 : decode cX7_layBeginnings 38 = .ok (.iload_n 1, 1) := by decide +kernel
theorem dX7_layBeginnings_39 : decode cX7_layBeginnings 39 = .ok (.aload_n 0, 1) := by decide +kernel
theorem dX7_layBeginnings_40 : decode cX7_layBeginnings 40 = .ok (.getfield 64, 3) := by decide +kernel
theorem dX7_layBeginnings_43 : decode cX7_layBeginnings 43 = .ok (.if_icmp .ge 122, 3) := by decide +kernel
theorem dX7_layBeginnings_46 : decode cX7_layBeginnings 46 = .ok (.iconst 0, 1) := by decide +kernel
theorem dX7_layBeginnings_47 : decode cX7_layBeginnings 47 = .ok (.istore_n 2, 1) := by decide +kernel
theorem dX7_layBeginnings_48 : decode cX7_layBeginnings 48 = .ok (.iload_n 2, 1) := by decide +kernel
theorem dX7_layBeginnings_49 : decode cX7_layBeginnings 49 = .ok (.sipush 4096, 3) := by decide +kernel
theorem dX7_layBeginnings_52 : decode cX7_layBeginnings 52 = .ok (.if_icmp .ge 107, 3) := by decide +kernel
theorem dX7_layBeginnings_55 : decode cX7_layBeginnings 55 = .ok (.aload_n 0, 1) := by decide +kernel
theorem dX7_layBeginnings_56 : decode cX7_layBeginnings 56 = .ok (.getfield 26, 3) := by decide +kernel
theorem dX7_layBeginnings_59 : decode cX7_layBeginnings 59 = .ok (.sipush 4096, 3) := by decide +kernel
theorem dX7_layBeginnings_62 : decode cX7_layBeginnings 62 = .ok (.iload_n 1, 1) := by decide +kernel
theorem dX7_layBeginnings_63 : decode cX7_layBeginnings 63 = .ok (.imul, 1) := by decide +kernel
theorem dX7_layBeginnings_64 : decode cX7_layBeginnings 64 = .ok (.iload_n 2, 1) := by decide +kernel
theorem dX7_layBeginnings_65 : decode cX7_layBeginnings 65 = .ok (.iadd, 1) := by decide +kernel
theorem dX7_layBeginnings_66 : decode cX7_layBeginnings 66 = .ok (.baload, 1) := by decide +kernel
theorem dX7_layBeginnings_67 : decode cX7_layBeginnings 67 = .ok (.ifCond .eq 86, 3) := by decide +kernel
theorem dX7_layBeginnings_70 : decode cX7_layBeginnings 70 = .ok (.aload_n 0, 1) := by decide +kernel
theorem dX7_layBeginnings_71 : decode cX7_layBeginnings 71 = .ok (.iload_n 1, 1) := by decide +kernel
theorem dX7_layBeginnings_72 : decode cX7_layBeginnings 72 = .ok (.iload_n 2, 1) := by decide +kernel
theorem dX7_layBeginnings_73 : decode cX7_layBeginnings 73 = .ok (.invokevirtual 137, 3) := by decide +kernel
theorem dX7_layBeginnings_76 : decode cX7_layBeginnings 76 = .ok (.istore_n 3, 1) := by decide +kernel
theorem dX7_layBeginnings_77 : decode cX7_layBeginnings 77 = .ok (.iconst 0, 1) := by decide +kernel
theorem dX7_layBeginnings_78 : decode cX7_layBeginnings 78 = .ok (.istore 4, 2) := by decide +kernel
theorem dX7_layBeginnings_80 : decode cX7_layBeginnings 80 = .ok (.iload 4, 2) := by decide +kernel
theorem dX7_layBeginnings_82 : decode cX7_layBeginnings 82 = .ok (.aload_n 0, 1) := by decide +kernel
theorem dX7_layBeginnings_83 : decode cX7_layBeginnings 83 = .ok (.getfield 7, 3) := by decide +kernel
theorem dX7_layBeginnings_86 : decode cX7_layBeginnings 86 = .ok (.iconst 0, 1) := by decide +kernel
theorem dX7_layBeginnings_87 : decode cX7_layBeginnings 87 = .ok (.iaload, 1) := by decide +kernel
theorem dX7_layBeginnings_88 : decode cX7_layBeginnings 88 = .ok (.if_icmp .ge 65, 3) := by decide +kernel
theorem dX7_layBeginnings_91 : decode cX7_layBeginnings 91 = .ok (.iload_n 3, 1) := by decide +kernel
theorem dX7_layBeginnings_92 : decode cX7_layBeginnings 92 = .ok (.bipush (-9), 2) := by decide +kernel
theorem dX7_layBeginnings_94 : decode cX7_layBeginnings 94 = .ok (.if_icmp .eq 59, 3) := by decide +kernel
theorem dX7_layBeginnings_97 : decode cX7_layBeginnings 97 = .ok (.aload_n 0, 1) := by decide +kernel
theorem dX7_layBeginnings_98 : decode cX7_layBeginnings 98 = .ok (.iload_n 2, 1) := by decide +kernel
theorem dX7_layBeginnings_99 : decode cX7_layBeginnings 99 = .ok (.iload 4, 2) := by decide +kernel
theorem dX7_layBeginnings_101 : decode cX7_layBeginnings 101 = .ok (.invokevirtual 128, 3) := by decide +kernel
theorem dX7_layBeginnings_104 : decode cX7_layBeginnings 104 = .ok (.ifCond .eq 13, 3) := by decide +kernel
theorem dX7_layBeginnings_107 : decode cX7_layBeginnings 107 = .ok (.aload_n 0, 1) := by decide +kernel
theorem dX7_layBeginnings_108 : decode cX7_layBeginnings 108 = .ok (.iload 4, 2) := by decide +kernel
theorem dX7_layBeginnings_110 : decode cX7_layBeginnings 110 = .ok (.iload_n 3, 1) := by decide +kernel
theorem dX7_layBeginnings_111 : decode cX7_layBeginnings 111 = .ok (.invokevirtual 140, 3) := by decide +kernel
theorem dX7_layBeginnings_114 : decode cX7_layBeginnings 114 = .ok (.goto 5, 3) := by decide +kernel
theorem dX7_layBeginnings_117 : decode cX7_layBeginnings 117 = .ok (.bipush (-9), 2) := by decide +kernel
theorem dX7_layBeginnings_119 : decode cX7_layBeginnings 119 = .ok (.istore 5, 2) := by decide +kernel
theorem dX7_layBeginnings_121 : decode cX7_layBeginnings 121 = .ok (.iload 5, 2) := by decide +kernel
theorem dX7_layBeginnings_123 : decode cX7_layBeginnings 123 = .ok (.bipush (-9), 2) := by decide +kernel
theorem dX7_layBeginnings_125 : decode cX7_layBeginnings 125 = .ok (.if_icmp .eq 22, 3) := by decide +kernel
theorem dX7_layBeginnings_128 : decode cX7_layBeginnings 128 = .ok (.aload_n 0, 1) := by decide +kernel
theorem dX7_layBeginnings_129 : decode cX7_layBeginnings 129 = .ok (.getfield 26, 3) := by decide +kernel
theorem dX7_layBeginnings_132 : decode cX7_layBeginnings 132 = .ok (.sipush 4096, 3) := by decide +kernel
theorem dX7_layBeginnings_135 : decode cX7_layBeginnings 135 = .ok (.iload 5, 2) := by decide +kernel
theorem dX7_layBeginnings_137 : decode cX7_layBeginnings 137 = .ok (.imul, 1) := by decide +kernel
theorem dX7_layBeginnings_138 : decode cX7_layBeginnings 138 = .ok (.iload_n 2, 1) := by decide +kernel
theorem dX7_layBeginnings_139 : decode cX7_layBeginnings 139 = .ok (.iload 4, 2) := by decide +kernel
theorem dX7_layBeginnings_141 : decode cX7_layBeginnings 141 = .ok (.invokestatic 143, 3) := by decide +kernel
theorem dX7_layBeginnings_144 : decode cX7_layBeginnings 144 = .ok (.iadd, 1) := by decide +kernel
theorem dX7_layBeginnings_145 : decode cX7_layBeginnings 145 = .ok (.iconst 1, 1) := by decide +kernel
theorem dX7_layBeginnings_146 : decode cX7_layBeginnings 146 = .ok (.bastore, 1) := by decide +kernel
theorem dX7_layBeginnings_147 : decode cX7_layBeginnings 147 = .ok (.iinc 4 1, 3) := by decide +kernel
theorem dX7_layBeginnings_150 : decode cX7_layBeginnings 150 = .ok (.goto (-70), 3) := by decide +kernel
theorem dX7_layBeginnings_153 : decode cX7_layBeginnings 153 = .ok (.iinc 2 1, 3) := by decide +kernel
theorem dX7_layBeginnings_156 : decode cX7_layBeginnings 156 = .ok (.goto (-108), 3) := by decide +kernel
theorem dX7_layBeginnings_159 : decode cX7_layBeginnings 159 = .ok (.iinc 1 1, 3) := by decide +kernel
theorem dX7_layBeginnings_162 : decode cX7_layBeginnings 162 = .ok (.goto (-124), 3) := by decide +kernel
theorem dX7_layBeginnings_165 : decode cX7_layBeginnings 165 = .ok (.return_, 1) := by decide +kernel
theorem dX7_waysFrom_0 : decode cX7_waysFrom 0 = .ok (.iload_n 1, 1) := by decide +kernel
theorem dX7_waysFrom_1 : decode cX7_waysFrom 1 = .ok (.aload_n 0, 1) := by decide +kernel
theorem dX7_waysFrom_2 : decode cX7_waysFrom 2 = .ok (.getfield 64, 3) := by decide +kernel
theorem dX7_waysFrom_5 : decode cX7_waysFrom 5 = .ok (.if_icmp .ne 17, 3) := by decide +kernel
theorem dX7_waysFrom_8 : decode cX7_waysFrom 8 = .ok (.aload_n 0, 1) := by decide +kernel
theorem dX7_waysFrom_9 : decode cX7_waysFrom 9 = .ok (.iload_n 2, 1) := by decide +kernel
theorem dX7_waysFrom_10 : decode cX7_waysFrom 10 = .ok (.invokevirtual 146, 3) := by decide +kernel
theorem dX7_waysFrom_13 : decode cX7_waysFrom 13 = .ok (.ifCond .eq 7, 3) := by decide +kernel
theorem dX7_waysFrom_16 : decode cX7_waysFrom 16 = .ok (.iconst 1, 1) := by decide +kernel
theorem dX7_waysFrom_17 : decode cX7_waysFrom 17 = .ok (.goto 4, 3) := by decide +kernel
theorem dX7_waysFrom_20 : decode cX7_waysFrom 20 = .ok (.iconst 0, 1) := by decide +kernel
theorem dX7_waysFrom_21 : decode cX7_waysFrom 21 = .ok (.ireturn, 1) := by decide +kernel
theorem dX7_waysFrom_22 : decode cX7_waysFrom 22 = .ok (.aload_n 0, 1) := by decide +kernel
theorem dX7_waysFrom_23 : decode cX7_waysFrom 23 = .ok (.iload_n 1, 1) := by decide +kernel
theorem dX7_waysFrom_24 : decode cX7_waysFrom 24 = .ok (.iload_n 2, 1) := by decide +kernel
theorem dX7_waysFrom_25 : decode cX7_waysFrom 25 = .ok (.invokevirtual 137, 3) := by decide +kernel
theorem dX7_waysFrom_28 : decode cX7_waysFrom 28 = .ok (.istore_n 3, 1) := by decide +kernel
theorem dX7_waysFrom_29 : decode cX7_waysFrom 29 = .ok (.iconst 0, 1) := by decide +kernel
theorem dX7_waysFrom_30 : decode cX7_waysFrom 30 = .ok (.istore 4, 2) := by decide +kernel
theorem dX7_waysFrom_32 : decode cX7_waysFrom 32 = .ok (.iconst 0, 1) := by decide +kernel
theorem dX7_waysFrom_33 : decode cX7_waysFrom 33 = .ok (.istore 5, 2) := by decide +kernel
theorem dX7_waysFrom_35 : decode cX7_waysFrom 35 = .ok (.iload 5, 2) := by decide +kernel
theorem dX7_waysFrom_37 : decode cX7_waysFrom 37 = .ok (.aload_n 0, 1) := by decide +kernel
theorem dX7_waysFrom_38 : decode cX7_waysFrom 38 = .ok (.getfield 7, 3) := by decide +kernel
theorem dX7_waysFrom_41 : decode cX7_waysFrom 41 = .ok (.iconst 0, 1) := by decide +kernel
theorem dX7_waysFrom_42 : decode cX7_waysFrom 42 = .ok (.iaload, 1) := by decide +kernel
theorem dX7_waysFrom_43 : decode cX7_waysFrom 43 = .ok (.if_icmp .ge 89, 3) := by decide +kernel
theorem dX7_waysFrom_46 : decode cX7_waysFrom 46 = .ok (.iload_n 3, 1) := by decide +kernel
theorem dX7_waysFrom_47 : decode cX7_waysFrom 47 = .ok (.bipush (-9), 2) := by decide +kernel
theorem dX7_waysFrom_49 : decode cX7_waysFrom 49 = .ok (.if_icmp .eq 83, 3) := by decide +kernel
theorem dX7_waysFrom_52 : decode cX7_waysFrom 52 = .ok (.aload_n 0, 1) := by decide +kernel
theorem dX7_waysFrom_53 : decode cX7_waysFrom 53 = .ok (.iload_n 2, 1) := by decide +kernel
theorem dX7_waysFrom_54 : decode cX7_waysFrom 54 = .ok (.iload 5, 2) := by decide +kernel
theorem dX7_waysFrom_56 : decode cX7_waysFrom 56 = .ok (.invokevirtual 128, 3) := by decide +kernel
theorem dX7_waysFrom_59 : decode cX7_waysFrom 59 = .ok (.ifCond .eq 13, 3) := by decide +kernel
theorem dX7_waysFrom_62 : decode cX7_waysFrom 62 = .ok (.aload_n 0, 1) := by decide +kernel
theorem dX7_waysFrom_63 : decode cX7_waysFrom 63 = .ok (.iload 5, 2) := by decide +kernel
theorem dX7_waysFrom_65 : decode cX7_waysFrom 65 = .ok (.iload_n 3, 1) := by decide +kernel
theorem dX7_waysFrom_66 : decode cX7_waysFrom 66 = .ok (.invokevirtual 140, 3) := by decide +kernel
theorem dX7_waysFrom_69 : decode cX7_waysFrom 69 = .ok (.goto 5, 3) := by decide +kernel
theorem dX7_waysFrom_72 : decode cX7_waysFrom 72 = .ok (.bipush (-9), 2) := by decide +kernel
theorem dX7_waysFrom_74 : decode cX7_waysFrom 74 = .ok (.istore 6, 2) := by decide +kernel
theorem dX7_waysFrom_76 : decode cX7_waysFrom 76 = .ok (.iload 4, 2) := by decide +kernel
theorem dX7_waysFrom_78 : decode cX7_waysFrom 78 = .ok (.iload 6, 2) := by decide +kernel
theorem dX7_waysFrom_80 : decode cX7_waysFrom 80 = .ok (.bipush (-9), 2) := by decide +kernel
theorem dX7_waysFrom_82 : decode cX7_waysFrom 82 = .ok (.if_icmp .ne 7, 3) := by decide +kernel
theorem dX7_waysFrom_85 : decode cX7_waysFrom 85 = .ok (.iconst 0, 1) := by decide +kernel
theorem dX7_waysFrom_86 : decode cX7_waysFrom 86 = .ok (.goto 21, 3) := by decide +kernel
theorem dX7_waysFrom_89 : decode cX7_waysFrom 89 = .ok (.aload_n 0, 1) := by decide +kernel
theorem dX7_waysFrom_90 : decode cX7_waysFrom 90 = .ok (.getfield 30, 3) := by decide +kernel
theorem dX7_waysFrom_93 : decode cX7_waysFrom 93 = .ok (.sipush 4096, 3) := by decide +kernel
theorem dX7_waysFrom_96 : decode cX7_waysFrom 96 = .ok (.iload 6, 2) := by decide +kernel
theorem dX7_waysFrom_98 : decode cX7_waysFrom 98 = .ok (.imul, 1) := by decide +kernel
theorem dX7_waysFrom_99 : decode cX7_waysFrom 99 = .ok (.iload_n 2, 1) := by decide +kernel
theorem dX7_waysFrom_100 : decode cX7_waysFrom 100 = .ok (.iload 5, 2) := by decide +kernel
theorem dX7_waysFrom_102 : decode cX7_waysFrom 102 = .ok (.invokestatic 143, 3) := by decide +kernel
theorem dX7_waysFrom_105 : decode cX7_waysFrom 105 = .ok (.iadd, 1) := by decide +kernel
theorem dX7_waysFrom_106 : decode cX7_waysFrom 106 = .ok (.iaload, 1) := by decide +kernel
theorem dX7_waysFrom_107 : decode cX7_waysFrom 107 = .ok (.iadd, 1) := by decide +kernel
theorem dX7_waysFrom_108 : decode cX7_waysFrom 108 = .ok (.istore 4, 2) := by decide +kernel
theorem dX7_waysFrom_110 : decode cX7_waysFrom 110 = .ok (.iload 4, 2) := by decide +kernel
theorem dX7_waysFrom_112 : decode cX7_waysFrom 112 = .ok (.ldc 149, 2) := by decide +kernel
theorem dX7_waysFrom_114 : decode cX7_waysFrom 114 = .ok (.if_icmp .le 8, 3) := by decide +kernel
theorem dX7_waysFrom_117 : decode cX7_waysFrom 117 = .ok (.ldc 149, 2) := by decide +kernel
theorem dX7_waysFrom_119 : decode cX7_waysFrom 119 = .ok (.goto 5, 3) := by decide +kernel
theorem dX7_waysFrom_122 : decode cX7_waysFrom 122 = .ok (.iload 4, 2) := by decide +kernel
theorem dX7_waysFrom_124 : decode cX7_waysFrom 124 = .ok (.istore 4, 2) := by decide +kernel
theorem dX7_waysFrom_126 : decode cX7_waysFrom 126 = .ok (.iinc 5 1, 3) := by decide +kernel
theorem dX7_waysFrom_129 : decode cX7_waysFrom 129 = .ok (.goto (-94), 3) := by decide +kernel
theorem dX7_waysFrom_132 : decode cX7_waysFrom 132 = .ok (.iload 4, 2) := by decide +kernel
theorem dX7_waysFrom_134 : decode cX7_waysFrom 134 = .ok (.ireturn, 1) := by decide +kernel
theorem dX7_layWays_0 : decode cX7_layWays 0 = .ok (.aload_n 0, 1) := by decide +kernel
theorem dX7_layWays_1 : decode cX7_layWays 1 = .ok (.getfield 56, 3) := by decide +kernel
theorem dX7_layWays_4 : decode cX7_layWays 4 = .ok (.ifCond .eq 4, 3) := by decide +kernel
theorem dX7_layWays_7 : decode cX7_layWays 7 = .ok (.return_, 1) := by decide +kernel
theorem dX7_layWays_8 : decode cX7_layWays 8 = .ok (.aload_n 0, 1) := by decide +kernel
theorem dX7_layWays_9 : decode cX7_layWays 9 = .ok (.iconst 1, 1) := by decide +kernel
theorem dX7_layWays_10 : decode cX7_layWays 10 = .ok (.putfield 56, 3) := by decide +kernel
theorem dX7_layWays_13 : decode cX7_layWays 13 = .ok (.aload_n 0, 1) := by decide +kernel
theorem dX7_layWays_14 : decode cX7_layWays 14 = .ok (.invokevirtual 150, 3) := by decide +kernel
theorem dX7_layWays_17 : decode cX7_layWays 17 = .ok (.aload_n 0, 1) := by decide +kernel
theorem dX7_layWays_18 : decode cX7_layWays 18 = .ok (.getfield 64, 3) := by decide +kernel
theorem dX7_layWays_21 : decode cX7_layWays 21 = .ok (.istore_n 1, 1) := by decide +kernel
theorem dX7_layWays_22 : decode cX7_layWays 22 = .ok (.iload_n 1, 1) := by decide +kernel
theorem dX7_layWays_23 : decode cX7_layWays 23 = .ok (.ifCond .lt 57, 3) := by decide +kernel
theorem dX7_layWays_26 : decode cX7_layWays 26 = .ok (.iconst 0, 1) := by decide +kernel
theorem dX7_layWays_27 : decode cX7_layWays 27 = .ok (.istore_n 2, 1) := by decide +kernel
theorem dX7_layWays_28 : decode cX7_layWays 28 = .ok (.iload_n 2, 1) := by decide +kernel
theorem dX7_layWays_29 : decode cX7_layWays 29 = .ok (.sipush 4096, 3) := by decide +kernel
theorem dX7_layWays_32 : decode cX7_layWays 32 = .ok (.if_icmp .ge 42, 3) := by decide +kernel
theorem dX7_layWays_35 : decode cX7_layWays 35 = .ok (.aload_n 0, 1) := by decide +kernel
theorem dX7_layWays_36 : decode cX7_layWays 36 = .ok (.getfield 26, 3) := by decide +kernel
theorem dX7_layWays_39 : decode cX7_layWays 39 = .ok (.sipush 4096, 3) := by decide +kernel
theorem dX7_layWays_42 : decode cX7_layWays 42 = .ok (.iload_n 1, 1) := by decide +kernel
theorem dX7_layWays_43 : decode cX7_layWays 43 = .ok (.imul, 1) := by decide +kernel
theorem dX7_layWays_44 : decode cX7_layWays 44 = .ok (.iload_n 2, 1) := by decide +kernel
theorem dX7_layWays_45 : decode cX7_layWays 45 = .ok (.iadd, 1) := by decide +kernel
theorem dX7_layWays_46 : decode cX7_layWays 46 = .ok (.baload, 1) := by decide +kernel
theorem dX7_layWays_47 : decode cX7_layWays 47 = .ok (.ifCond .eq 21, 3) := by decide +kernel
theorem dX7_layWays_50 : decode cX7_layWays 50 = .ok (.aload_n 0, 1) := by decide +kernel
theorem dX7_layWays_51 : decode cX7_layWays 51 = .ok (.getfield 30, 3) := by decide +kernel
theorem dX7_layWays_54 : decode cX7_layWays 54 = .ok (.sipush 4096, 3) := by decide +kernel
theorem dX7_layWays_57 : decode cX7_layWays 57 = .ok (.iload_n 1, 1) := by decide +kernel
theorem dX7_layWays_58 : decode cX7_layWays 58 = .ok (.imul, 1) := by decide +kernel
theorem dX7_layWays_59 : decode cX7_layWays 59 = .ok (.iload_n 2, 1) := by decide +kernel
theorem dX7_layWays_60 : decode cX7_layWays 60 = .ok (.iadd, 1) := by decide +kernel
theorem dX7_layWays_61 : decode cX7_layWays 61 = .ok (.aload_n 0, 1) := by decide +kernel
theorem dX7_layWays_62 : decode cX7_layWays 62 = .ok (.iload_n 1, 1) := by decide +kernel
theorem dX7_layWays_63 : decode cX7_layWays 63 = .ok (.iload_n 2, 1) := by decide +kernel
theorem dX7_layWays_64 : decode cX7_layWays 64 = .ok (.invokevirtual 153, 3) := by decide +kernel
theorem dX7_layWays_67 : decode cX7_layWays 67 = .ok (.iastore, 1) := by decide +kernel
theorem dX7_layWays_68 : decode cX7_layWays 68 = .ok (.iinc 2 1, 3) := by decide +kernel
theorem dX7_layWays_71 : decode cX7_layWays 71 = .ok (.goto (-43), 3) := by decide +kernel
theorem dX7_layWays_74 : decode cX7_layWays 74 = .ok (.iinc 1 (-1), 3) := by decide +kernel
theorem dX7_layWays_77 : decode cX7_layWays 77 = .ok (.goto (-55), 3) := by decide +kernel
theorem dX7_layWays_80 : decode cX7_layWays 80 = .ok (.return_, 1) := by decide +kernel
theorem dX7_furthest_0 : decode cX7_furthest 0 = .ok (.aload_n 0, 1) := by decide +kernel
theorem dX7_furthest_1 : decode cX7_furthest 1 = .ok (.iload_n 1, 1) := by decide +kernel
theorem dX7_furthest_2 : decode cX7_furthest 2 = .ok (.iload_n 2, 1) := by decide +kernel
theorem dX7_furthest_3 : decode cX7_furthest 3 = .ok (.invokevirtual 137, 3) := by decide +kernel
theorem dX7_furthest_6 : decode cX7_furthest 6 = .ok (.istore_n 3, 1) := by decide +kernel
theorem dX7_furthest_7 : decode cX7_furthest 7 = .ok (.iload_n 1, 1) := by decide +kernel
theorem dX7_furthest_8 : decode cX7_furthest 8 = .ok (.istore 4, 2) := by decide +kernel
theorem dX7_furthest_10 : decode cX7_furthest 10 = .ok (.iload_n 3, 1) := by decide +kernel
theorem dX7_furthest_11 : decode cX7_furthest 11 = .ok (.bipush (-9), 2) := by decide +kernel
theorem dX7_furthest_13 : decode cX7_furthest 13 = .ok (.if_icmp .ne 6, 3) := by decide +kernel
theorem dX7_furthest_16 : decode cX7_furthest 16 = .ok (.iload 4, 2) := by decide +kernel
theorem dX7_furthest_18 : decode cX7_furthest 18 = .ok (.ireturn, 1) := by decide +kernel
theorem dX7_furthest_19 : decode cX7_furthest 19 = .ok (.iconst 0, 1) := by decide +kernel
theorem dX7_furthest_20 : decode cX7_furthest 20 = .ok (.istore 5, 2) := by decide +kernel
theorem dX7_furthest_22 : decode cX7_furthest 22 = .ok (.iload 5, 2) := by decide +kernel
theorem dX7_furthest_24 : decode cX7_furthest 24 = .ok (.aload_n 0, 1) := by decide +kernel
theorem dX7_furthest_25 : decode cX7_furthest 25 = .ok (.getfield 7, 3) := by decide +kernel
theorem dX7_furthest_28 : decode cX7_furthest 28 = .ok (.iconst 0, 1) := by decide +kernel
theorem dX7_furthest_29 : decode cX7_furthest 29 = .ok (.iaload, 1) := by decide +kernel
theorem dX7_furthest_30 : decode cX7_furthest 30 = .ok (.if_icmp .ge 46, 3) := by decide +kernel
theorem dX7_furthest_33 : decode cX7_furthest 33 = .ok (.aload_n 0, 1) := by decide +kernel
theorem dX7_furthest_34 : decode cX7_furthest 34 = .ok (.iload_n 2, 1) := by decide +kernel
theorem dX7_furthest_35 : decode cX7_furthest 35 = .ok (.iload 5, 2) := by decide +kernel
theorem dX7_furthest_37 : decode cX7_furthest 37 = .ok (.invokevirtual 128, 3) := by decide +kernel
theorem dX7_furthest_40 : decode cX7_furthest 40 = .ok (.ifCond .eq 30, 3) := by decide +kernel
theorem dX7_furthest_43 : decode cX7_furthest 43 = .ok (.iload_n 3, 1) := by decide +kernel
theorem dX7_furthest_44 : decode cX7_furthest 44 = .ok (.aload_n 0, 1) := by decide +kernel
theorem dX7_furthest_45 : decode cX7_furthest 45 = .ok (.iload 5, 2) := by decide +kernel
theorem dX7_furthest_47 : decode cX7_furthest 47 = .ok (.iload_n 3, 1) := by decide +kernel
theorem dX7_furthest_48 : decode cX7_furthest 48 = .ok (.invokevirtual 131, 3) := by decide +kernel
theorem dX7_furthest_51 : decode cX7_furthest 51 = .ok (.iadd, 1) := by decide +kernel
theorem dX7_furthest_52 : decode cX7_furthest 52 = .ok (.istore 6, 2) := by decide +kernel
theorem dX7_furthest_54 : decode cX7_furthest 54 = .ok (.iload 6, 2) := by decide +kernel
theorem dX7_furthest_56 : decode cX7_furthest 56 = .ok (.iload 4, 2) := by decide +kernel
theorem dX7_furthest_58 : decode cX7_furthest 58 = .ok (.if_icmp .le 8, 3) := by decide +kernel
theorem dX7_furthest_61 : decode cX7_furthest 61 = .ok (.iload 6, 2) := by decide +kernel
theorem dX7_furthest_63 : decode cX7_furthest 63 = .ok (.goto 5, 3) := by decide +kernel
theorem dX7_furthest_66 : decode cX7_furthest 66 = .ok (.iload 4, 2) := by decide +kernel
theorem dX7_furthest_68 : decode cX7_furthest 68 = .ok (.istore 4, 2) := by decide +kernel
theorem dX7_furthest_70 : decode cX7_furthest 70 = .ok (.iinc 5 1, 3) := by decide +kernel
theorem dX7_furthest_73 : decode cX7_furthest 73 = .ok (.goto (-51), 3) := by decide +kernel
theorem dX7_furthest_76 : decode cX7_furthest 76 = .ok (.iload 4, 2) := by decide +kernel
theorem dX7_furthest_78 : decode cX7_furthest 78 = .ok (.ireturn, 1) := by decide +kernel
theorem dX7_fault_0 : decode cX7_fault 0 = .ok (.aload_n 0, 1) := by decide +kernel
theorem dX7_fault_1 : decode cX7_fault 1 = .ok (.invokevirtual 156, 3) := by decide +kernel
theorem dX7_fault_4 : decode cX7_fault 4 = .ok (.aload_n 0, 1) := by decide +kernel
theorem dX7_fault_5 : decode cX7_fault 5 = .ok (.getfield 30, 3) := by decide +kernel
theorem dX7_fault_8 : decode cX7_fault 8 = .ok (.iconst 0, 1) := by decide +kernel
theorem dX7_fault_9 : decode cX7_fault 9 = .ok (.iaload, 1) := by decide +kernel
theorem dX7_fault_10 : decode cX7_fault 10 = .ok (.ifCond .le 6, 3) := by decide +kernel
theorem dX7_fault_13 : decode cX7_fault 13 = .ok (.bipush (-9), 2) := by decide +kernel
theorem dX7_fault_15 : decode cX7_fault 15 = .ok (.ireturn, 1) := by decide +kernel
theorem dX7_fault_16 : decode cX7_fault 16 = .ok (.iconst 0, 1) := by decide +kernel
theorem dX7_fault_17 : decode cX7_fault 17 = .ok (.istore_n 1, 1) := by decide +kernel
theorem dX7_fault_18 : decode cX7_fault 18 = .ok (.iconst 0, 1) := by decide +kernel
theorem dX7_fault_19 : decode cX7_fault 19 = .ok (.istore_n 2, 1) := by decide +kernel
theorem dX7_fault_20 : decode cX7_fault 20 = .ok (.iload_n 2, 1) := by decide +kernel
theorem dX7_fault_21 : decode cX7_fault 21 = .ok (.aload_n 0, 1) := by decide +kernel
theorem dX7_fault_22 : decode cX7_fault 22 = .ok (.getfield 64, 3) := by decide +kernel
theorem dX7_fault_25 : decode cX7_fault 25 = .ok (.if_icmp .gt 60, 3) := by decide +kernel
theorem dX7_fault_28 : decode cX7_fault 28 = .ok (.iconst 0, 1) := by decide +kernel
theorem dX7_fault_29 : decode cX7_fault 29 = .ok (.istore_n 3, 1) := by decide +kernel
theorem dX7_fault_30 : decode cX7_fault 30 = .ok (.iload_n 3, 1) := by decide +kernel
theorem dX7_fault_31 : decode cX7_fault 31 = .ok (.sipush 4096, 3) := by decide +kernel
theorem dX7_fault_34 : decode cX7_fault 34 = .ok (.if_icmp .ge 45, 3) := by decide +kernel
theorem dX7_fault_37 : decode cX7_fault 37 = .ok (.aload_n 0, 1) := by decide +kernel
theorem dX7_fault_38 : decode cX7_fault 38 = .ok (.getfield 26, 3) := by decide +kernel
theorem dX7_fault_41 : decode cX7_fault 41 = .ok (.sipush 4096, 3) := by decide +kernel
theorem dX7_fault_44 : decode cX7_fault 44 = .ok (.iload_n 2, 1) := by decide +kernel
theorem dX7_fault_45 : decode cX7_fault 45 = .ok (.imul, 1) := by decide +kernel
theorem dX7_fault_46 : decode cX7_fault 46 = .ok (.iload_n 3, 1) := by decide +kernel
theorem dX7_fault_47 : decode cX7_fault 47 = .ok (.iadd, 1) := by decide +kernel
theorem dX7_fault_48 : decode cX7_fault 48 = .ok (.baload, 1) := by decide +kernel
theorem dX7_fault_49 : decode cX7_fault 49 = .ok (.ifCond .eq 24, 3) := by decide +kernel
theorem dX7_fault_52 : decode cX7_fault 52 = .ok (.aload_n 0, 1) := by decide +kernel
theorem dX7_fault_53 : decode cX7_fault 53 = .ok (.iload_n 2, 1) := by decide +kernel
theorem dX7_fault_54 : decode cX7_fault 54 = .ok (.iload_n 3, 1) := by decide +kernel
theorem dX7_fault_55 : decode cX7_fault 55 = .ok (.invokevirtual 159, 3) := by decide +kernel
theorem dX7_fault_58 : decode cX7_fault 58 = .ok (.istore 4, 2) := by decide +kernel
theorem dX7_fault_60 : decode cX7_fault 60 = .ok (.iload 4, 2) := by decide +kernel
theorem dX7_fault_62 : decode cX7_fault 62 = .ok (.iload_n 1, 1) := by decide +kernel
theorem dX7_fault_63 : decode cX7_fault 63 = .ok (.if_icmp .le 8, 3) := by decide +kernel
theorem dX7_fault_66 : decode cX7_fault 66 = .ok (.iload 4, 2) := by decide +kernel
theorem dX7_fault_68 : decode cX7_fault 68 = .ok (.goto 4, 3) := by decide +kernel
theorem dX7_fault_71 : decode cX7_fault 71 = .ok (.iload_n 1, 1) := by decide +kernel
theorem dX7_fault_72 : decode cX7_fault 72 = .ok (.istore_n 1, 1) := by decide +kernel
theorem dX7_fault_73 : decode cX7_fault 73 = .ok (.iinc 3 1, 3) := by decide +kernel
theorem dX7_fault_76 : decode cX7_fault 76 = .ok (.goto (-46), 3) := by decide +kernel
theorem dX7_fault_79 : decode cX7_fault 79 = .ok (.iinc 2 1, 3) := by decide +kernel
theorem dX7_fault_82 : decode cX7_fault 82 = .ok (.goto (-62), 3) := by decide +kernel
theorem dX7_fault_85 : decode cX7_fault 85 = .ok (.iload_n 1, 1) := by decide +kernel
theorem dX7_fault_86 : decode cX7_fault 86 = .ok (.ireturn, 1) := by decide +kernel
theorem dX7_readings_0 : decode cX7_readings 0 = .ok (.aload_n 0, 1) := by decide +kernel
theorem dX7_readings_1 : decode cX7_readings 1 = .ok (.invokevirtual 156, 3) := by decide +kernel
theorem dX7_readings_4 : decode cX7_readings 4 = .ok (.aload_n 0, 1) := by decide +kernel
theorem dX7_readings_5 : decode cX7_readings 5 = .ok (.getfield 30, 3) := by decide +kernel
theorem dX7_readings_8 : decode cX7_readings 8 = .ok (.iconst 0, 1) := by decide +kernel
theorem dX7_readings_9 : decode cX7_readings 9 = .ok (.iaload, 1) := by decide +kernel
theorem dX7_readings_10 : decode cX7_readings 10 = .ok (.ireturn, 1) := by decide +kernel
theorem dX7_valueAt_0 : decode cX7_valueAt 0 = .ok (.iload_n 2, 1) := by decide +kernel
theorem dX7_valueAt_1 : decode cX7_valueAt 1 = .ok (.aload_n 0, 1) := by decide +kernel
theorem dX7_valueAt_2 : decode cX7_valueAt 2 = .ok (.iload_n 1, 1) := by decide +kernel
theorem dX7_valueAt_3 : decode cX7_valueAt 3 = .ok (.invokevirtual 71, 3) := by decide +kernel
theorem dX7_valueAt_6 : decode cX7_valueAt 6 = .ok (.iadd, 1) := by decide +kernel
theorem dX7_valueAt_7 : decode cX7_valueAt 7 = .ok (.istore_n 3, 1) := by decide +kernel
theorem dX7_valueAt_8 : decode cX7_valueAt 8 = .ok (.aload_n 0, 1) := by decide +kernel
theorem dX7_valueAt_9 : decode cX7_valueAt 9 = .ok (.getfield 7, 3) := by decide +kernel
theorem dX7_valueAt_12 : decode cX7_valueAt 12 = .ok (.bipush 20, 2) := by decide +kernel
theorem dX7_valueAt_14 : decode cX7_valueAt 14 = .ok (.iload_n 1, 1) := by decide +kernel
theorem dX7_valueAt_15 : decode cX7_valueAt 15 = .ok (.iadd, 1) := by decide +kernel
theorem dX7_valueAt_16 : decode cX7_valueAt 16 = .ok (.iaload, 1) := by decide +kernel
theorem dX7_valueAt_17 : decode cX7_valueAt 17 = .ok (.ifCond .ne 5, 3) := by decide +kernel
theorem dX7_valueAt_20 : decode cX7_valueAt 20 = .ok (.iconst 1, 1) := by decide +kernel
theorem dX7_valueAt_21 : decode cX7_valueAt 21 = .ok (.ireturn, 1) := by decide +kernel
theorem dX7_valueAt_22 : decode cX7_valueAt 22 = .ok (.aload_n 0, 1) := by decide +kernel
theorem dX7_valueAt_23 : decode cX7_valueAt 23 = .ok (.getfield 7, 3) := by decide +kernel
theorem dX7_valueAt_26 : decode cX7_valueAt 26 = .ok (.bipush 20, 2) := by decide +kernel
theorem dX7_valueAt_28 : decode cX7_valueAt 28 = .ok (.iload_n 1, 1) := by decide +kernel
theorem dX7_valueAt_29 : decode cX7_valueAt 29 = .ok (.iadd, 1) := by decide +kernel
theorem dX7_valueAt_30 : decode cX7_valueAt 30 = .ok (.iaload, 1) := by decide +kernel
theorem dX7_valueAt_31 : decode cX7_valueAt 31 = .ok (.iconst 2, 1) := by decide +kernel
theorem dX7_valueAt_32 : decode cX7_valueAt 32 = .ok (.if_icmp .ne 13, 3) := by decide +kernel
theorem dX7_valueAt_35 : decode cX7_valueAt 35 = .ok (.aload_n 0, 1) := by decide +kernel
theorem dX7_valueAt_36 : decode cX7_valueAt 36 = .ok (.getfield 19, 3) := by decide +kernel
theorem dX7_valueAt_39 : decode cX7_valueAt 39 = .ok (.iload_n 3, 1) := by decide +kernel
theorem dX7_valueAt_40 : decode cX7_valueAt 40 = .ok (.iaload, 1) := by decide +kernel
theorem dX7_valueAt_41 : decode cX7_valueAt 41 = .ok (.bipush 65, 2) := by decide +kernel
theorem dX7_valueAt_43 : decode cX7_valueAt 43 = .ok (.isub, 1) := by decide +kernel
theorem dX7_valueAt_44 : decode cX7_valueAt 44 = .ok (.ireturn, 1) := by decide +kernel
theorem dX7_valueAt_45 : decode cX7_valueAt 45 = .ok (.iconst 0, 1) := by decide +kernel
theorem dX7_valueAt_46 : decode cX7_valueAt 46 = .ok (.istore 4, 2) := by decide +kernel
theorem dX7_valueAt_48 : decode cX7_valueAt 48 = .ok (.iload_n 3, 1) := by decide +kernel
theorem dX7_valueAt_49 : decode cX7_valueAt 49 = .ok (.istore 5, 2) := by decide +kernel
theorem dX7_valueAt_51 : decode cX7_valueAt 51 = .ok (.iload 5, 2) := by decide +kernel
theorem dX7_valueAt_53 : decode cX7_valueAt 53 = .ok (.iload_n 3, 1) := by decide +kernel
theorem dX7_valueAt_54 : decode cX7_valueAt 54 = .ok (.iconst 3, 1) := by decide +kernel
theorem dX7_valueAt_55 : decode cX7_valueAt 55 = .ok (.iadd, 1) := by decide +kernel
theorem dX7_valueAt_56 : decode cX7_valueAt 56 = .ok (.if_icmp .ge 36, 3) := by decide +kernel
theorem dX7_valueAt_59 : decode cX7_valueAt 59 = .ok (.aload_n 0, 1) := by decide +kernel
theorem dX7_valueAt_60 : decode cX7_valueAt 60 = .ok (.iload 5, 2) := by decide +kernel
theorem dX7_valueAt_62 : decode cX7_valueAt 62 = .ok (.invokevirtual 134, 3) := by decide +kernel
theorem dX7_valueAt_65 : decode cX7_valueAt 65 = .ok (.ifCond .eq 27, 3) := by decide +kernel
theorem dX7_valueAt_68 : decode cX7_valueAt 68 = .ok (.bipush 10, 2) := by decide +kernel
theorem dX7_valueAt_70 : decode cX7_valueAt 70 = .ok (.iload 4, 2) := by decide +kernel
theorem dX7_valueAt_72 : decode cX7_valueAt 72 = .ok (.imul, 1) := by decide +kernel
theorem dX7_valueAt_73 : decode cX7_valueAt 73 = .ok (.aload_n 0, 1) := by decide +kernel
theorem dX7_valueAt_74 : decode cX7_valueAt 74 = .ok (.getfield 19, 3) := by decide +kernel
theorem dX7_valueAt_77 : decode cX7_valueAt 77 = .ok (.iload 5, 2) := by decide +kernel
theorem dX7_valueAt_79 : decode cX7_valueAt 79 = .ok (.iaload, 1) := by decide +kernel
theorem dX7_valueAt_80 : decode cX7_valueAt 80 = .ok (.iadd, 1) := by decide +kernel
theorem dX7_valueAt_81 : decode cX7_valueAt 81 = .ok (.bipush 48, 2) := by decide +kernel
theorem dX7_valueAt_83 : decode cX7_valueAt 83 = .ok (.isub, 1) := by decide +kernel
theorem dX7_valueAt_84 : decode cX7_valueAt 84 = .ok (.istore 4, 2) := by decide +kernel
theorem dX7_valueAt_86 : decode cX7_valueAt 86 = .ok (.iinc 5 1, 3) := by decide +kernel
theorem dX7_valueAt_89 : decode cX7_valueAt 89 = .ok (.goto (-38), 3) := by decide +kernel
theorem dX7_valueAt_92 : decode cX7_valueAt 92 = .ok (.iload 4, 2) := by decide +kernel
theorem dX7_valueAt_94 : decode cX7_valueAt 94 = .ok (.ireturn, 1) := by decide +kernel
theorem dX7_layReading_0 : decode cX7_layReading 0 = .ok (.aload_n 0, 1) := by decide +kernel
theorem dX7_layReading_1 : decode cX7_layReading 1 = .ok (.invokevirtual 156, 3) := by decide +kernel
theorem dX7_layReading_4 : decode cX7_layReading 4 = .ok (.aload_n 0, 1) := by decide +kernel
theorem dX7_layReading_5 : decode cX7_layReading 5 = .ok (.getfield 30, 3) := by decide +kernel
theorem dX7_layReading_8 : decode cX7_layReading 8 = .ok (.iconst 0, 1) := by decide +kernel
theorem dX7_layReading_9 : decode cX7_layReading 9 = .ok (.iaload, 1) := by decide +kernel
theorem dX7_layReading_10 : decode cX7_layReading 10 = .ok (.ifCond .ne 6, 3) := by decide +kernel
theorem dX7_layReading_13 : decode cX7_layReading 13 = .ok (.bipush (-9), 2) := by decide +kernel
theorem dX7_layReading_15 : decode cX7_layReading 15 = .ok (.ireturn, 1) := by decide +kernel
theorem dX7_layReading_16 : decode cX7_layReading 16 = .ok (.iconst 0, 1) := by decide +kernel
theorem dX7_layReading_17 : decode cX7_layReading 17 = .ok (.istore_n 1, 1) := by decide +kernel
theorem dX7_layReading_18 : decode cX7_layReading 18 = .ok (.iconst 0, 1) := by decide +kernel
theorem dX7_layReading_19 : decode cX7_layReading 19 = .ok (.istore_n 2, 1) := by decide +kernel
theorem dX7_layReading_20 : decode cX7_layReading 20 = .ok (.iconst 0, 1) := by decide +kernel
theorem dX7_layReading_21 : decode cX7_layReading 21 = .ok (.istore_n 3, 1) := by decide +kernel
theorem dX7_layReading_22 : decode cX7_layReading 22 = .ok (.iload_n 1, 1) := by decide +kernel
theorem dX7_layReading_23 : decode cX7_layReading 23 = .ok (.aload_n 0, 1) := by decide +kernel
theorem dX7_layReading_24 : decode cX7_layReading 24 = .ok (.getfield 64, 3) := by decide +kernel
theorem dX7_layReading_27 : decode cX7_layReading 27 = .ok (.if_icmp .ge 122, 3) := by decide +kernel
theorem dX7_layReading_30 : decode cX7_layReading 30 = .ok (.aload_n 0, 1) := by decide +kernel
theorem dX7_layReading_31 : decode cX7_layReading 31 = .ok (.iload_n 1, 1) := by decide +kernel
theorem dX7_layReading_32 : decode cX7_layReading 32 = .ok (.iload_n 2, 1) := by decide +kernel
theorem dX7_layReading_33 : decode cX7_layReading 33 = .ok (.invokevirtual 137, 3) := by decide +kernel
theorem dX7_layReading_36 : decode cX7_layReading 36 = .ok (.istore 4, 2) := by decide +kernel
theorem dX7_layReading_38 : decode cX7_layReading 38 = .ok (.iconst 0, 1) := by decide +kernel
theorem dX7_layReading_39 : decode cX7_layReading 39 = .ok (.istore 5, 2) := by decide +kernel
theorem dX7_layReading_41 : decode cX7_layReading 41 = .ok (.aload_n 0, 1) := by decide +kernel
theorem dX7_layReading_42 : decode cX7_layReading 42 = .ok (.iload_n 2, 1) := by decide +kernel
theorem dX7_layReading_43 : decode cX7_layReading 43 = .ok (.iload 5, 2) := by decide +kernel
theorem dX7_layReading_45 : decode cX7_layReading 45 = .ok (.invokevirtual 128, 3) := by decide +kernel
theorem dX7_layReading_48 : decode cX7_layReading 48 = .ok (.ifCond .eq 43, 3) := by decide +kernel
theorem dX7_layReading_51 : decode cX7_layReading 51 = .ok (.aload_n 0, 1) := by decide +kernel
theorem dX7_layReading_52 : decode cX7_layReading 52 = .ok (.iload 5, 2) := by decide +kernel
theorem dX7_layReading_54 : decode cX7_layReading 54 = .ok (.iload 4, 2) := by decide +kernel
theorem dX7_layReading_56 : decode cX7_layReading 56 = .ok (.invokevirtual 140, 3) := by decide +kernel
theorem dX7_layReading_59 : decode cX7_layReading 59 = .ok (.bipush (-9), 2) := by decide +kernel
theorem dX7_layReading_61 : decode cX7_layReading 61 = .ok (.if_icmp .eq 30, 3) := by decide +kernel
theorem dX7_layReading_64 : decode cX7_layReading 64 = .ok (.aload_n 0, 1) := by decide +kernel
theorem dX7_layReading_65 : decode cX7_layReading 65 = .ok (.getfield 30, 3) := by decide +kernel
theorem dX7_layReading_68 : decode cX7_layReading 68 = .ok (.sipush 4096, 3) := by decide +kernel
theorem dX7_layReading_71 : decode cX7_layReading 71 = .ok (.aload_n 0, 1) := by decide +kernel
theorem dX7_layReading_72 : decode cX7_layReading 72 = .ok (.iload 5, 2) := by decide +kernel
theorem dX7_layReading_74 : decode cX7_layReading 74 = .ok (.iload 4, 2) := by decide +kernel
theorem dX7_layReading_76 : decode cX7_layReading 76 = .ok (.invokevirtual 140, 3) := by decide +kernel
theorem dX7_layReading_79 : decode cX7_layReading 79 = .ok (.imul, 1) := by decide +kernel
theorem dX7_layReading_80 : decode cX7_layReading 80 = .ok (.iload_n 2, 1) := by decide +kernel
theorem dX7_layReading_81 : decode cX7_layReading 81 = .ok (.iload 5, 2) := by decide +kernel
theorem dX7_layReading_83 : decode cX7_layReading 83 = .ok (.invokestatic 143, 3) := by decide +kernel
theorem dX7_layReading_86 : decode cX7_layReading 86 = .ok (.iadd, 1) := by decide +kernel
theorem dX7_layReading_87 : decode cX7_layReading 87 = .ok (.iaload, 1) := by decide +kernel
theorem dX7_layReading_88 : decode cX7_layReading 88 = .ok (.ifCond .ne 9, 3) := by decide +kernel
theorem dX7_layReading_91 : decode cX7_layReading 91 = .ok (.iinc 5 1, 3) := by decide +kernel
theorem dX7_layReading_94 : decode cX7_layReading 94 = .ok (.goto (-53), 3) := by decide +kernel
theorem dX7_layReading_97 : decode cX7_layReading 97 = .ok (.aload_n 0, 1) := by decide +kernel
theorem dX7_layReading_98 : decode cX7_layReading 98 = .ok (.getfield 33, 3) := by decide +kernel
theorem dX7_layReading_101 : decode cX7_layReading 101 = .ok (.iload_n 3, 1) := by decide +kernel
theorem dX7_layReading_102 : decode cX7_layReading 102 = .ok (.iload 5, 2) := by decide +kernel
theorem dX7_layReading_104 : decode cX7_layReading 104 = .ok (.iastore, 1) := by decide +kernel
theorem dX7_layReading_105 : decode cX7_layReading 105 = .ok (.aload_n 0, 1) := by decide +kernel
theorem dX7_layReading_106 : decode cX7_layReading 106 = .ok (.getfield 36, 3) := by decide +kernel
theorem dX7_layReading_109 : decode cX7_layReading 109 = .ok (.iload_n 3, 1) := by decide +kernel
theorem dX7_layReading_110 : decode cX7_layReading 110 = .ok (.iload 4, 2) := by decide +kernel
theorem dX7_layReading_112 : decode cX7_layReading 112 = .ok (.iastore, 1) := by decide +kernel
theorem dX7_layReading_113 : decode cX7_layReading 113 = .ok (.aload_n 0, 1) := by decide +kernel
theorem dX7_layReading_114 : decode cX7_layReading 114 = .ok (.getfield 39, 3) := by decide +kernel
theorem dX7_layReading_117 : decode cX7_layReading 117 = .ok (.iload_n 3, 1) := by decide +kernel
theorem dX7_layReading_118 : decode cX7_layReading 118 = .ok (.aload_n 0, 1) := by decide +kernel
theorem dX7_layReading_119 : decode cX7_layReading 119 = .ok (.iload 5, 2) := by decide +kernel
theorem dX7_layReading_121 : decode cX7_layReading 121 = .ok (.iload 4, 2) := by decide +kernel
theorem dX7_layReading_123 : decode cX7_layReading 123 = .ok (.invokevirtual 162, 3) := by decide +kernel
theorem dX7_layReading_126 : decode cX7_layReading 126 = .ok (.iastore, 1) := by decide +kernel
theorem dX7_layReading_127 : decode cX7_layReading 127 = .ok (.iinc 3 1, 3) := by decide +kernel
theorem dX7_layReading_130 : decode cX7_layReading 130 = .ok (.aload_n 0, 1) := by decide +kernel
theorem dX7_layReading_131 : decode cX7_layReading 131 = .ok (.iload 5, 2) := by decide +kernel
theorem dX7_layReading_133 : decode cX7_layReading 133 = .ok (.iload 4, 2) := by decide +kernel
theorem dX7_layReading_135 : decode cX7_layReading 135 = .ok (.invokevirtual 140, 3) := by decide +kernel
theorem dX7_layReading_138 : decode cX7_layReading 138 = .ok (.istore_n 1, 1) := by decide +kernel
theorem dX7_layReading_139 : decode cX7_layReading 139 = .ok (.iload_n 2, 1) := by decide +kernel
theorem dX7_layReading_140 : decode cX7_layReading 140 = .ok (.iload 5, 2) := by decide +kernel
theorem dX7_layReading_142 : decode cX7_layReading 142 = .ok (.invokestatic 143, 3) := by decide +kernel
theorem dX7_layReading_145 : decode cX7_layReading 145 = .ok (.istore_n 2, 1) := by decide +kernel
theorem dX7_layReading_146 : decode cX7_layReading 146 = .ok (.goto (-124), 3) := by decide +kernel
theorem dX7_layReading_149 : decode cX7_layReading 149 = .ok (.iload_n 3, 1) := by decide +kernel
theorem dX7_layReading_150 : decode cX7_layReading 150 = .ok (.ireturn, 1) := by decide +kernel
theorem dX7_occurrence_0 : decode cX7_occurrence 0 = .ok (.iload_n 1, 1) := by decide +kernel
theorem dX7_occurrence_1 : decode cX7_occurrence 1 = .ok (.ifCond .lt 12, 3) := by decide +kernel
theorem dX7_occurrence_4 : decode cX7_occurrence 4 = .ok (.iload_n 2, 1) := by decide +kernel
theorem dX7_occurrence_5 : decode cX7_occurrence 5 = .ok (.iconst 0, 1) := by decide +kernel
theorem dX7_occurrence_6 : decode cX7_occurrence 6 = .ok (.iconst 2, 1) := by decide +kernel
theorem dX7_occurrence_7 : decode cX7_occurrence 7 = .ok (.invokestatic 60, 3) := by decide +kernel
theorem dX7_occurrence_10 : decode cX7_occurrence 10 = .ok (.ifCond .ne 5, 3) := by decide +kernel
theorem dX7_occurrence_13 : decode cX7_occurrence 13 = .ok (.iconst (-1), 1) := by decide +kernel
theorem dX7_occurrence_14 : decode cX7_occurrence 14 = .ok (.ireturn, 1) := by decide +kernel
theorem dX7_occurrence_15 : decode cX7_occurrence 15 = .ok (.aload_n 0, 1) := by decide +kernel
theorem dX7_occurrence_16 : decode cX7_occurrence 16 = .ok (.invokevirtual 165, 3) := by decide +kernel
theorem dX7_occurrence_19 : decode cX7_occurrence 19 = .ok (.istore_n 3, 1) := by decide +kernel
theorem dX7_occurrence_20 : decode cX7_occurrence 20 = .ok (.iload_n 3, 1) := by decide +kernel
theorem dX7_occurrence_21 : decode cX7_occurrence 21 = .ok (.bipush (-9), 2) := by decide +kernel
theorem dX7_occurrence_23 : decode cX7_occurrence 23 = .ok (.if_icmp .ne 6, 3) := by decide +kernel
theorem dX7_occurrence_26 : decode cX7_occurrence 26 = .ok (.bipush (-2), 2) := by decide +kernel
theorem dX7_occurrence_28 : decode cX7_occurrence 28 = .ok (.ireturn, 1) := by decide +kernel
theorem dX7_occurrence_29 : decode cX7_occurrence 29 = .ok (.iload_n 1, 1) := by decide +kernel
theorem dX7_occurrence_30 : decode cX7_occurrence 30 = .ok (.iload_n 3, 1) := by decide +kernel
theorem dX7_occurrence_31 : decode cX7_occurrence 31 = .ok (.if_icmp .lt 6, 3) := by decide +kernel
theorem dX7_occurrence_34 : decode cX7_occurrence 34 = .ok (.bipush (-9), 2) := by decide +kernel
theorem dX7_occurrence_36 : decode cX7_occurrence 36 = .ok (.ireturn, 1) := by decide +kernel
theorem dX7_occurrence_37 : decode cX7_occurrence 37 = .ok (.iload_n 2, 1) := by decide +kernel
theorem dX7_occurrence_38 : decode cX7_occurrence 38 = .ok (.ifCond .ne 12, 3) := by decide +kernel
theorem dX7_occurrence_41 : decode cX7_occurrence 41 = .ok (.aload_n 0, 1) := by decide +kernel
theorem dX7_occurrence_42 : decode cX7_occurrence 42 = .ok (.getfield 33, 3) := by decide +kernel
theorem dX7_occurrence_45 : decode cX7_occurrence 45 = .ok (.iload_n 1, 1) := by decide +kernel
theorem dX7_occurrence_46 : decode cX7_occurrence 46 = .ok (.iaload, 1) := by decide +kernel
theorem dX7_occurrence_47 : decode cX7_occurrence 47 = .ok (.goto 23, 3) := by decide +kernel
theorem dX7_occurrence_50 : decode cX7_occurrence 50 = .ok (.iload_n 2, 1) := by decide +kernel
theorem dX7_occurrence_51 : decode cX7_occurrence 51 = .ok (.iconst 1, 1) := by decide +kernel
theorem dX7_occurrence_52 : decode cX7_occurrence 52 = .ok (.if_icmp .ne 12, 3) := by decide +kernel
theorem dX7_occurrence_55 : decode cX7_occurrence 55 = .ok (.aload_n 0, 1) := by decide +kernel
theorem dX7_occurrence_56 : decode cX7_occurrence 56 = .ok (.getfield 36, 3) := by decide +kernel
theorem dX7_occurrence_59 : decode cX7_occurrence 59 = .ok (.iload_n 1, 1) := by decide +kernel
theorem dX7_occurrence_60 : decode cX7_occurrence 60 = .ok (.iaload, 1) := by decide +kernel
theorem dX7_occurrence_61 : decode cX7_occurrence 61 = .ok (.goto 9, 3) := by decide +kernel
theorem dX7_occurrence_64 : decode cX7_occurrence 64 = .ok (.aload_n 0, 1) := by decide +kernel
theorem dX7_occurrence_65 : decode cX7_occurrence 65 = .ok (.getfield 39, 3) := by decide +kernel
theorem dX7_occurrence_68 : decode cX7_occurrence 68 = .ok (.iload_n 1, 1) := by decide +kernel
theorem dX7_occurrence_69 : decode cX7_occurrence 69 = .ok (.iaload, 1) := by decide +kernel
theorem dX7_occurrence_70 : decode cX7_occurrence 70 = .ok (.ireturn, 1) := by decide +kernel
theorem dX7_value_0 : decode cX7_value 0 = .ok (.aload_n 0, 1) := by decide +kernel
theorem dX7_value_1 : decode cX7_value 1 = .ok (.iload_n 1, 1) := by decide +kernel
theorem dX7_value_2 : decode cX7_value 2 = .ok (.invokevirtual 99, 3) := by decide +kernel
theorem dX7_value_5 : decode cX7_value 5 = .ok (.ifCond .eq 7, 3) := by decide +kernel
theorem dX7_value_8 : decode cX7_value 8 = .ok (.iload_n 2, 1) := by decide +kernel
theorem dX7_value_9 : decode cX7_value 9 = .ok (.ifCond .ge 5, 3) := by decide +kernel
theorem dX7_value_12 : decode cX7_value 12 = .ok (.iconst (-1), 1) := by decide +kernel
theorem dX7_value_13 : decode cX7_value 13 = .ok (.ireturn, 1) := by decide +kernel
theorem dX7_value_14 : decode cX7_value 14 = .ok (.aload_n 0, 1) := by decide +kernel
theorem dX7_value_15 : decode cX7_value 15 = .ok (.invokevirtual 165, 3) := by decide +kernel
theorem dX7_value_18 : decode cX7_value 18 = .ok (.istore_n 3, 1) := by decide +kernel
theorem dX7_value_19 : decode cX7_value 19 = .ok (.iload_n 3, 1) := by decide +kernel
theorem dX7_value_20 : decode cX7_value 20 = .ok (.bipush (-9), 2) := by decide +kernel
theorem dX7_value_22 : decode cX7_value 22 = .ok (.if_icmp .ne 6, 3) := by decide +kernel
theorem dX7_value_25 : decode cX7_value 25 = .ok (.bipush (-2), 2) := by decide +kernel
theorem dX7_value_27 : decode cX7_value 27 = .ok (.ireturn, 1) := by decide +kernel
theorem dX7_value_28 : decode cX7_value 28 = .ok (.iconst 0, 1) := by decide +kernel
theorem dX7_value_29 : decode cX7_value 29 = .ok (.istore 4, 2) := by decide +kernel
theorem dX7_value_31 : decode cX7_value 31 = .ok (.iconst 0, 1) := by decide +kernel
theorem dX7_value_32 : decode cX7_value 32 = .ok (.istore 5, 2) := by decide +kernel
theorem dX7_value_34 : decode cX7_value 34 = .ok (.iload 5, 2) := by decide +kernel
theorem dX7_value_36 : decode cX7_value 36 = .ok (.iload_n 3, 1) := by decide +kernel
theorem dX7_value_37 : decode cX7_value 37 = .ok (.if_icmp .ge 37, 3) := by decide +kernel
theorem dX7_value_40 : decode cX7_value 40 = .ok (.aload_n 0, 1) := by decide +kernel
theorem dX7_value_41 : decode cX7_value 41 = .ok (.getfield 33, 3) := by decide +kernel
theorem dX7_value_44 : decode cX7_value 44 = .ok (.iload 5, 2) := by decide +kernel
theorem dX7_value_46 : decode cX7_value 46 = .ok (.iaload, 1) := by decide +kernel
theorem dX7_value_47 : decode cX7_value 47 = .ok (.iload_n 1, 1) := by decide +kernel
theorem dX7_value_48 : decode cX7_value 48 = .ok (.if_icmp .ne 20, 3) := by decide +kernel
theorem dX7_value_51 : decode cX7_value 51 = .ok (.iload 4, 2) := by decide +kernel
theorem dX7_value_53 : decode cX7_value 53 = .ok (.iload_n 2, 1) := by decide +kernel
theorem dX7_value_54 : decode cX7_value 54 = .ok (.if_icmp .ne 11, 3) := by decide +kernel
theorem dX7_value_57 : decode cX7_value 57 = .ok (.aload_n 0, 1) := by decide +kernel
theorem dX7_value_58 : decode cX7_value 58 = .ok (.getfield 39, 3) := by decide +kernel
theorem dX7_value_61 : decode cX7_value 61 = .ok (.iload 5, 2) := by decide +kernel
theorem dX7_value_63 : decode cX7_value 63 = .ok (.iaload, 1) := by decide +kernel
theorem dX7_value_64 : decode cX7_value 64 = .ok (.ireturn, 1) := by decide +kernel
theorem dX7_value_65 : decode cX7_value 65 = .ok (.iinc 4 1, 3) := by decide +kernel
theorem dX7_value_68 : decode cX7_value 68 = .ok (.iinc 5 1, 3) := by decide +kernel
theorem dX7_value_71 : decode cX7_value 71 = .ok (.goto (-37), 3) := by decide +kernel
theorem dX7_value_74 : decode cX7_value 74 = .ok (.iload 4, 2) := by decide +kernel
theorem dX7_value_76 : decode cX7_value 76 = .ok (.ifCond .ne 19, 3) := by decide +kernel
theorem dX7_value_79 : decode cX7_value 79 = .ok (.iload_n 2, 1) := by decide +kernel
theorem dX7_value_80 : decode cX7_value 80 = .ok (.ifCond .ne 15, 3) := by decide +kernel
theorem dX7_value_83 : decode cX7_value 83 = .ok (.aload_n 0, 1) := by decide +kernel
theorem dX7_value_84 : decode cX7_value 84 = .ok (.getfield 7, 3) := by decide +kernel
theorem dX7_value_87 : decode cX7_value 87 = .ok (.bipush 38, 2) := by decide +kernel
theorem dX7_value_89 : decode cX7_value 89 = .ok (.iload_n 1, 1) := by decide +kernel
theorem dX7_value_90 : decode cX7_value 90 = .ok (.iadd, 1) := by decide +kernel
theorem dX7_value_91 : decode cX7_value 91 = .ok (.iaload, 1) := by decide +kernel
theorem dX7_value_92 : decode cX7_value 92 = .ok (.goto 5, 3) := by decide +kernel
theorem dX7_value_95 : decode cX7_value 95 = .ok (.bipush (-9), 2) := by decide +kernel
theorem dX7_value_97 : decode cX7_value 97 = .ok (.ireturn, 1) := by decide +kernel
theorem dX7_next_0 : decode cX7_next 0 = .ok (.aload_n 0, 1) := by decide +kernel
theorem dX7_next_1 : decode cX7_next 1 = .ok (.invokevirtual 156, 3) := by decide +kernel
theorem dX7_next_4 : decode cX7_next 4 = .ok (.iconst 0, 1) := by decide +kernel
theorem dX7_next_5 : decode cX7_next 5 = .ok (.istore_n 1, 1) := by decide +kernel
theorem dX7_next_6 : decode cX7_next 6 = .ok (.iconst 0, 1) := by decide +kernel
theorem dX7_next_7 : decode cX7_next 7 = .ok (.istore_n 2, 1) := by decide +kernel
theorem dX7_next_8 : decode cX7_next 8 = .ok (.iconst 0, 1) := by decide +kernel
theorem dX7_next_9 : decode cX7_next 9 = .ok (.istore_n 3, 1) := by decide +kernel
theorem dX7_next_10 : decode cX7_next 10 = .ok (.iload_n 3, 1) := by decide +kernel
theorem dX7_next_11 : decode cX7_next 11 = .ok (.sipush 4096, 3) := by decide +kernel
theorem dX7_next_14 : decode cX7_next 14 = .ok (.if_icmp .ge 37, 3) := by decide +kernel
theorem dX7_next_17 : decode cX7_next 17 = .ok (.aload_n 0, 1) := by decide +kernel
theorem dX7_next_18 : decode cX7_next 18 = .ok (.getfield 26, 3) := by decide +kernel
theorem dX7_next_21 : decode cX7_next 21 = .ok (.sipush 4096, 3) := by decide +kernel
theorem dX7_next_24 : decode cX7_next 24 = .ok (.aload_n 0, 1) := by decide +kernel
theorem dX7_next_25 : decode cX7_next 25 = .ok (.getfield 64, 3) := by decide +kernel
theorem dX7_next_28 : decode cX7_next 28 = .ok (.imul, 1) := by decide +kernel
theorem dX7_next_29 : decode cX7_next 29 = .ok (.iload_n 3, 1) := by decide +kernel
theorem dX7_next_30 : decode cX7_next 30 = .ok (.iadd, 1) := by decide +kernel
theorem dX7_next_31 : decode cX7_next 31 = .ok (.baload, 1) := by decide +kernel
theorem dX7_next_32 : decode cX7_next 32 = .ok (.ifCond .eq 13, 3) := by decide +kernel
theorem dX7_next_35 : decode cX7_next 35 = .ok (.iconst 1, 1) := by decide +kernel
theorem dX7_next_36 : decode cX7_next 36 = .ok (.istore_n 2, 1) := by decide +kernel
theorem dX7_next_37 : decode cX7_next 37 = .ok (.iload_n 1, 1) := by decide +kernel
theorem dX7_next_38 : decode cX7_next 38 = .ok (.aload_n 0, 1) := by decide +kernel
theorem dX7_next_39 : decode cX7_next 39 = .ok (.iload_n 3, 1) := by decide +kernel
theorem dX7_next_40 : decode cX7_next 40 = .ok (.invokevirtual 168, 3) := by decide +kernel
theorem dX7_next_43 : decode cX7_next 43 = .ok (.ior, 1) := by decide +kernel
theorem dX7_next_44 : decode cX7_next 44 = .ok (.istore_n 1, 1) := by decide +kernel
theorem dX7_next_45 : decode cX7_next 45 = .ok (.iinc 3 1, 3) := by decide +kernel
theorem dX7_next_48 : decode cX7_next 48 = .ok (.goto (-38), 3) := by decide +kernel
theorem dX7_next_51 : decode cX7_next 51 = .ok (.iload_n 2, 1) := by decide +kernel
theorem dX7_next_52 : decode cX7_next 52 = .ok (.ifCond .eq 7, 3) := by decide +kernel
theorem dX7_next_55 : decode cX7_next 55 = .ok (.iload_n 1, 1) := by decide +kernel
theorem dX7_next_56 : decode cX7_next 56 = .ok (.goto 5, 3) := by decide +kernel
theorem dX7_next_59 : decode cX7_next 59 = .ok (.bipush (-9), 2) := by decide +kernel
theorem dX7_next_61 : decode cX7_next 61 = .ok (.ireturn, 1) := by decide +kernel
theorem dX7_layValue_0 : decode cX7_layValue 0 = .ok (.iload_n 1, 1) := by decide +kernel
theorem dX7_layValue_1 : decode cX7_layValue 1 = .ok (.istore 4, 2) := by decide +kernel
theorem dX7_layValue_3 : decode cX7_layValue 3 = .ok (.aload_n 0, 1) := by decide +kernel
theorem dX7_layValue_4 : decode cX7_layValue 4 = .ok (.getfield 7, 3) := by decide +kernel
theorem dX7_layValue_7 : decode cX7_layValue 7 = .ok (.bipush 20, 2) := by decide +kernel
theorem dX7_layValue_9 : decode cX7_layValue 9 = .ok (.iload_n 2, 1) := by decide +kernel
theorem dX7_layValue_10 : decode cX7_layValue 10 = .ok (.iadd, 1) := by decide +kernel
theorem dX7_layValue_11 : decode cX7_layValue 11 = .ok (.iaload, 1) := by decide +kernel
theorem dX7_layValue_12 : decode cX7_layValue 12 = .ok (.iconst 2, 1) := by decide +kernel
theorem dX7_layValue_13 : decode cX7_layValue 13 = .ok (.if_icmp .ne 17, 3) := by decide +kernel
theorem dX7_layValue_16 : decode cX7_layValue 16 = .ok (.aload_n 0, 1) := by decide +kernel
theorem dX7_layValue_17 : decode cX7_layValue 17 = .ok (.getfield 42, 3) := by decide +kernel
theorem dX7_layValue_20 : decode cX7_layValue 20 = .ok (.iload 4, 2) := by decide +kernel
theorem dX7_layValue_22 : decode cX7_layValue 22 = .ok (.bipush 65, 2) := by decide +kernel
theorem dX7_layValue_24 : decode cX7_layValue 24 = .ok (.iload_n 3, 1) := by decide +kernel
theorem dX7_layValue_25 : decode cX7_layValue 25 = .ok (.iadd, 1) := by decide +kernel
theorem dX7_layValue_26 : decode cX7_layValue 26 = .ok (.iastore, 1) := by decide +kernel
theorem dX7_layValue_27 : decode cX7_layValue 27 = .ok (.iinc 4 1, 3) := by decide +kernel
theorem dX7_layValue_30 : decode cX7_layValue 30 = .ok (.aload_n 0, 1) := by decide +kernel
theorem dX7_layValue_31 : decode cX7_layValue 31 = .ok (.getfield 7, 3) := by decide +kernel
theorem dX7_layValue_34 : decode cX7_layValue 34 = .ok (.bipush 20, 2) := by decide +kernel
theorem dX7_layValue_36 : decode cX7_layValue 36 = .ok (.iload_n 2, 1) := by decide +kernel
theorem dX7_layValue_37 : decode cX7_layValue 37 = .ok (.iadd, 1) := by decide +kernel
theorem dX7_layValue_38 : decode cX7_layValue 38 = .ok (.iaload, 1) := by decide +kernel
theorem dX7_layValue_39 : decode cX7_layValue 39 = .ok (.iconst 1, 1) := by decide +kernel
theorem dX7_layValue_40 : decode cX7_layValue 40 = .ok (.if_icmp .ne 69, 3) := by decide +kernel
theorem dX7_layValue_43 : decode cX7_layValue 43 = .ok (.iload_n 3, 1) := by decide +kernel
theorem dX7_layValue_44 : decode cX7_layValue 44 = .ok (.bipush 99, 2) := by decide +kernel
theorem dX7_layValue_46 : decode cX7_layValue 46 = .ok (.if_icmp .le 20, 3) := by decide +kernel
theorem dX7_layValue_49 : decode cX7_layValue 49 = .ok (.aload_n 0, 1) := by decide +kernel
theorem dX7_layValue_50 : decode cX7_layValue 50 = .ok (.getfield 42, 3) := by decide +kernel
theorem dX7_layValue_53 : decode cX7_layValue 53 = .ok (.iload 4, 2) := by decide +kernel
theorem dX7_layValue_55 : decode cX7_layValue 55 = .ok (.bipush 48, 2) := by decide +kernel
theorem dX7_layValue_57 : decode cX7_layValue 57 = .ok (.iload_n 3, 1) := by decide +kernel
theorem dX7_layValue_58 : decode cX7_layValue 58 = .ok (.bipush 100, 2) := by decide +kernel
theorem dX7_layValue_60 : decode cX7_layValue 60 = .ok (.idiv, 1) := by decide +kernel
theorem dX7_layValue_61 : decode cX7_layValue 61 = .ok (.iadd, 1) := by decide +kernel
theorem dX7_layValue_62 : decode cX7_layValue 62 = .ok (.iastore, 1) := by decide +kernel
theorem dX7_layValue_63 : decode cX7_layValue 63 = .ok (.iinc 4 1, 3) := by decide +kernel
theorem dX7_layValue_66 : decode cX7_layValue 66 = .ok (.iload_n 3, 1) := by decide +kernel
theorem dX7_layValue_67 : decode cX7_layValue 67 = .ok (.bipush 9, 2) := by decide +kernel
theorem dX7_layValue_69 : decode cX7_layValue 69 = .ok (.if_icmp .le 23, 3) := by decide +kernel
theorem dX7_layValue_72 : decode cX7_layValue 72 = .ok (.aload_n 0, 1) := by decide +kernel
theorem dX7_layValue_73 : decode cX7_layValue 73 = .ok (.getfield 42, 3) := by decide +kernel
theorem dX7_layValue_76 : decode cX7_layValue 76 = .ok (.iload 4, 2) := by decide +kernel
theorem dX7_layValue_78 : decode cX7_layValue 78 = .ok (.bipush 48, 2) := by decide +kernel
theorem dX7_layValue_80 : decode cX7_layValue 80 = .ok (.iload_n 3, 1) := by decide +kernel
theorem dX7_layValue_81 : decode cX7_layValue 81 = .ok (.bipush 10, 2) := by decide +kernel
theorem dX7_layValue_83 : decode cX7_layValue 83 = .ok (.idiv, 1) := by decide +kernel
theorem dX7_layValue_84 : decode cX7_layValue 84 = .ok (.bipush 10, 2) := by decide +kernel
theorem dX7_layValue_86 : decode cX7_layValue 86 = .ok (.irem, 1) := by decide +kernel
theorem dX7_layValue_87 : decode cX7_layValue 87 = .ok (.iadd, 1) := by decide +kernel
theorem dX7_layValue_88 : decode cX7_layValue 88 = .ok (.iastore, 1) := by decide +kernel
theorem dX7_layValue_89 : decode cX7_layValue 89 = .ok (.iinc 4 1, 3) := by decide +kernel
theorem dX7_layValue_92 : decode cX7_layValue 92 = .ok (.aload_n 0, 1) := by decide +kernel
theorem dX7_layValue_93 : decode cX7_layValue 93 = .ok (.getfield 42, 3) := by decide +kernel
theorem dX7_layValue_96 : decode cX7_layValue 96 = .ok (.iload 4, 2) := by decide +kernel
theorem dX7_layValue_98 : decode cX7_layValue 98 = .ok (.bipush 48, 2) := by decide +kernel
theorem dX7_layValue_100 : decode cX7_layValue 100 = .ok (.iload_n 3, 1) := by decide +kernel
theorem dX7_layValue_101 : decode cX7_layValue 101 = .ok (.bipush 10, 2) := by decide +kernel
theorem dX7_layValue_103 : decode cX7_layValue 103 = .ok (.irem, 1) := by decide +kernel
theorem dX7_layValue_104 : decode cX7_layValue 104 = .ok (.iadd, 1) := by decide +kernel
theorem dX7_layValue_105 : decode cX7_layValue 105 = .ok (.iastore, 1) := by decide +kernel
theorem dX7_layValue_106 : decode cX7_layValue 106 = .ok (.iinc 4 1, 3) := by decide +kernel
theorem dX7_layValue_109 : decode cX7_layValue 109 = .ok (.iload 4, 2) := by decide +kernel
theorem dX7_layValue_111 : decode cX7_layValue 111 = .ok (.ireturn, 1) := by decide +kernel
theorem dX7_layForm_0 : decode cX7_layForm 0 = .ok (.iconst 0, 1) := by decide +kernel
theorem dX7_layForm_1 : decode cX7_layForm 1 = .ok (.istore_n 2, 1) := by decide +kernel
theorem dX7_layForm_2 : decode cX7_layForm 2 = .ok (.iconst 0, 1) := by decide +kernel
theorem dX7_layForm_3 : decode cX7_layForm 3 = .ok (.istore_n 3, 1) := by decide +kernel
theorem dX7_layForm_4 : decode cX7_layForm 4 = .ok (.iload_n 3, 1) := by decide +kernel
theorem dX7_layForm_5 : decode cX7_layForm 5 = .ok (.aload_n 0, 1) := by decide +kernel
theorem dX7_layForm_6 : decode cX7_layForm 6 = .ok (.getfield 7, 3) := by decide +kernel
theorem dX7_layForm_9 : decode cX7_layForm 9 = .ok (.iconst 0, 1) := by decide +kernel
theorem dX7_layForm_10 : decode cX7_layForm 10 = .ok (.iaload, 1) := by decide +kernel
theorem dX7_layForm_11 : decode cX7_layForm 11 = .ok (.if_icmp .ge 112, 3) := by decide +kernel
theorem dX7_layForm_14 : decode cX7_layForm 14 = .ok (.iconst 0, 1) := by decide +kernel
theorem dX7_layForm_15 : decode cX7_layForm 15 = .ok (.istore 4, 2) := by decide +kernel
theorem dX7_layForm_17 : decode cX7_layForm 17 = .ok (.iload 4, 2) := by decide +kernel
theorem dX7_layForm_19 : decode cX7_layForm 19 = .ok (.iload_n 1, 1) := by decide +kernel
theorem dX7_layForm_20 : decode cX7_layForm 20 = .ok (.if_icmp .ge 97, 3) := by decide +kernel
theorem dX7_layForm_23 : decode cX7_layForm 23 = .ok (.aload_n 0, 1) := by decide +kernel
theorem dX7_layForm_24 : decode cX7_layForm 24 = .ok (.getfield 33, 3) := by decide +kernel
theorem dX7_layForm_27 : decode cX7_layForm 27 = .ok (.iload 4, 2) := by decide +kernel
theorem dX7_layForm_29 : decode cX7_layForm 29 = .ok (.iaload, 1) := by decide +kernel
theorem dX7_layForm_30 : decode cX7_layForm 30 = .ok (.iload_n 3, 1) := by decide +kernel
theorem dX7_layForm_31 : decode cX7_layForm 31 = .ok (.if_icmp .ne 80, 3) := by decide +kernel
theorem dX7_layForm_34 : decode cX7_layForm 34 = .ok (.iload_n 2, 1) := by decide +kernel
theorem dX7_layForm_35 : decode cX7_layForm 35 = .ok (.ifCond .le 27, 3) := by decide +kernel
theorem dX7_layForm_38 : decode cX7_layForm 38 = .ok (.aload_n 0, 1) := by decide +kernel
theorem dX7_layForm_39 : decode cX7_layForm 39 = .ok (.getfield 7, 3) := by decide +kernel
theorem dX7_layForm_42 : decode cX7_layForm 42 = .ok (.iconst 1, 1) := by decide +kernel
theorem dX7_layForm_43 : decode cX7_layForm 43 = .ok (.iaload, 1) := by decide +kernel
theorem dX7_layForm_44 : decode cX7_layForm 44 = .ok (.ifCond .eq 18, 3) := by decide +kernel
theorem dX7_layForm_47 : decode cX7_layForm 47 = .ok (.aload_n 0, 1) := by decide +kernel
theorem dX7_layForm_48 : decode cX7_layForm 48 = .ok (.getfield 42, 3) := by decide +kernel
theorem dX7_layForm_51 : decode cX7_layForm 51 = .ok (.iload_n 2, 1) := by decide +kernel
theorem dX7_layForm_52 : decode cX7_layForm 52 = .ok (.aload_n 0, 1) := by decide +kernel
theorem dX7_layForm_53 : decode cX7_layForm 53 = .ok (.getfield 7, 3) := by decide +kernel
theorem dX7_layForm_56 : decode cX7_layForm 56 = .ok (.iconst 1, 1) := by decide +kernel
theorem dX7_layForm_57 : decode cX7_layForm 57 = .ok (.iaload, 1) := by decide +kernel
theorem dX7_layForm_58 : decode cX7_layForm 58 = .ok (.iastore, 1) := by decide +kernel
theorem dX7_layForm_59 : decode cX7_layForm 59 = .ok (.iinc 2 1, 3) := by decide +kernel
theorem dX7_layForm_62 : decode cX7_layForm 62 = .ok (.iconst 0, 1) := by decide +kernel
theorem dX7_layForm_63 : decode cX7_layForm 63 = .ok (.istore 5, 2) := by decide +kernel
theorem dX7_layForm_65 : decode cX7_layForm 65 = .ok (.iload 5, 2) := by decide +kernel
theorem dX7_layForm_67 : decode cX7_layForm 67 = .ok (.aload_n 0, 1) := by decide +kernel
theorem dX7_layForm_68 : decode cX7_layForm 68 = .ok (.iload_n 3, 1) := by decide +kernel
theorem dX7_layForm_69 : decode cX7_layForm 69 = .ok (.invokevirtual 71, 3) := by decide +kernel
theorem dX7_layForm_72 : decode cX7_layForm 72 = .ok (.if_icmp .ge 25, 3) := by decide +kernel
theorem dX7_layForm_75 : decode cX7_layForm 75 = .ok (.aload_n 0, 1) := by decide +kernel
theorem dX7_layForm_76 : decode cX7_layForm 76 = .ok (.getfield 42, 3) := by decide +kernel
theorem dX7_layForm_79 : decode cX7_layForm 79 = .ok (.iload_n 2, 1) := by decide +kernel
theorem dX7_layForm_80 : decode cX7_layForm 80 = .ok (.aload_n 0, 1) := by decide +kernel
theorem dX7_layForm_81 : decode cX7_layForm 81 = .ok (.iload_n 3, 1) := by decide +kernel
theorem dX7_layForm_82 : decode cX7_layForm 82 = .ok (.iload 5, 2) := by decide +kernel
theorem dX7_layForm_84 : decode cX7_layForm 84 = .ok (.invokevirtual 67, 3) := by decide +kernel
theorem dX7_layForm_87 : decode cX7_layForm 87 = .ok (.iastore, 1) := by decide +kernel
theorem dX7_layForm_88 : decode cX7_layForm 88 = .ok (.iinc 2 1, 3) := by decide +kernel
theorem dX7_layForm_91 : decode cX7_layForm 91 = .ok (.iinc 5 1, 3) := by decide +kernel
theorem dX7_layForm_94 : decode cX7_layForm 94 = .ok (.goto (-29), 3) := by decide +kernel
theorem dX7_layForm_97 : decode cX7_layForm 97 = .ok (.aload_n 0, 1) := by decide +kernel
theorem dX7_layForm_98 : decode cX7_layForm 98 = .ok (.iload_n 2, 1) := by decide +kernel
theorem dX7_layForm_99 : decode cX7_layForm 99 = .ok (.iload_n 3, 1) := by decide +kernel
theorem dX7_layForm_100 : decode cX7_layForm 100 = .ok (.aload_n 0, 1) := by decide +kernel
theorem dX7_layForm_101 : decode cX7_layForm 101 = .ok (.getfield 39, 3) := by decide +kernel
theorem dX7_layForm_104 : decode cX7_layForm 104 = .ok (.iload 4, 2) := by decide +kernel
theorem dX7_layForm_106 : decode cX7_layForm 106 = .ok (.iaload, 1) := by decide +kernel
theorem dX7_layForm_107 : decode cX7_layForm 107 = .ok (.invokevirtual 171, 3) := by decide +kernel
theorem dX7_layForm_110 : decode cX7_layForm 110 = .ok (.istore_n 2, 1) := by decide +kernel
theorem dX7_layForm_111 : decode cX7_layForm 111 = .ok (.iinc 4 1, 3) := by decide +kernel
theorem dX7_layForm_114 : decode cX7_layForm 114 = .ok (.goto (-97), 3) := by decide +kernel
theorem dX7_layForm_117 : decode cX7_layForm 117 = .ok (.iinc 3 1, 3) := by decide +kernel
theorem dX7_layForm_120 : decode cX7_layForm 120 = .ok (.goto (-116), 3) := by decide +kernel
theorem dX7_layForm_123 : decode cX7_layForm 123 = .ok (.iload_n 2, 1) := by decide +kernel
theorem dX7_layForm_124 : decode cX7_layForm 124 = .ok (.ireturn, 1) := by decide +kernel
theorem dX7_normal_0 : decode cX7_normal 0 = .ok (.iload_n 1, 1) := by decide +kernel
theorem dX7_normal_1 : decode cX7_normal 1 = .ok (.ifCond .ge 5, 3) := by decide +kernel
theorem dX7_normal_4 : decode cX7_normal 4 = .ok (.iconst (-1), 1) := by decide +kernel
theorem dX7_normal_5 : decode cX7_normal 5 = .ok (.ireturn, 1) := by decide +kernel
theorem dX7_normal_6 : decode cX7_normal 6 = .ok (.aload_n 0, 1) := by decide +kernel
theorem dX7_normal_7 : decode cX7_normal 7 = .ok (.invokevirtual 165, 3) := by decide +kernel
theorem dX7_normal_10 : decode cX7_normal 10 = .ok (.istore_n 2, 1) := by decide +kernel
theorem dX7_normal_11 : decode cX7_normal 11 = .ok (.iload_n 2, 1) := by decide +kernel
theorem dX7_normal_12 : decode cX7_normal 12 = .ok (.bipush (-9), 2) := by decide +kernel
theorem dX7_normal_14 : decode cX7_normal 14 = .ok (.if_icmp .ne 6, 3) := by decide +kernel
theorem dX7_normal_17 : decode cX7_normal 17 = .ok (.bipush (-2), 2) := by decide +kernel
theorem dX7_normal_19 : decode cX7_normal 19 = .ok (.ireturn, 1) := by decide +kernel
theorem dX7_normal_20 : decode cX7_normal 20 = .ok (.iload_n 1, 1) := by decide +kernel
theorem dX7_normal_21 : decode cX7_normal 21 = .ok (.aload_n 0, 1) := by decide +kernel
theorem dX7_normal_22 : decode cX7_normal 22 = .ok (.iload_n 2, 1) := by decide +kernel
theorem dX7_normal_23 : decode cX7_normal 23 = .ok (.invokevirtual 175, 3) := by decide +kernel
theorem dX7_normal_26 : decode cX7_normal 26 = .ok (.if_icmp .ge 12, 3) := by decide +kernel
theorem dX7_normal_29 : decode cX7_normal 29 = .ok (.aload_n 0, 1) := by decide +kernel
theorem dX7_normal_30 : decode cX7_normal 30 = .ok (.getfield 42, 3) := by decide +kernel
theorem dX7_normal_33 : decode cX7_normal 33 = .ok (.iload_n 1, 1) := by decide +kernel
theorem dX7_normal_34 : decode cX7_normal 34 = .ok (.iaload, 1) := by decide +kernel
theorem dX7_normal_35 : decode cX7_normal 35 = .ok (.goto 5, 3) := by decide +kernel
theorem dX7_normal_38 : decode cX7_normal 38 = .ok (.bipush (-9), 2) := by decide +kernel
theorem dX7_normal_40 : decode cX7_normal 40 = .ok (.ireturn, 1) := by decide +kernel
theorem dX7_isState_0 : decode cX7_isState 0 = .ok (.iconst 0, 1) := by decide +kernel
theorem dX7_isState_1 : decode cX7_isState 1 = .ok (.istore_n 2, 1) := by decide +kernel
theorem dX7_isState_2 : decode cX7_isState 2 = .ok (.iload_n 2, 1) := by decide +kernel
theorem dX7_isState_3 : decode cX7_isState 3 = .ok (.bipush 6, 2) := by decide +kernel
theorem dX7_isState_5 : decode cX7_isState 5 = .ok (.if_icmp .ge 42, 3) := by decide +kernel
theorem dX7_isState_8 : decode cX7_isState 8 = .ok (.iload_n 1, 1) := by decide +kernel
theorem dX7_isState_9 : decode cX7_isState 9 = .ok (.iload_n 2, 1) := by decide +kernel
theorem dX7_isState_10 : decode cX7_isState 10 = .ok (.invokestatic 125, 3) := by decide +kernel
theorem dX7_isState_13 : decode cX7_isState 13 = .ok (.iload_n 2, 1) := by decide +kernel
theorem dX7_isState_14 : decode cX7_isState 14 = .ok (.aload_n 0, 1) := by decide +kernel
theorem dX7_isState_15 : decode cX7_isState 15 = .ok (.getfield 7, 3) := by decide +kernel
theorem dX7_isState_18 : decode cX7_isState 18 = .ok (.iconst 0, 1) := by decide +kernel
theorem dX7_isState_19 : decode cX7_isState 19 = .ok (.iaload, 1) := by decide +kernel
theorem dX7_isState_20 : decode cX7_isState 20 = .ok (.if_icmp .ge 15, 3) := by decide +kernel
theorem dX7_isState_23 : decode cX7_isState 23 = .ok (.aload_n 0, 1) := by decide +kernel
theorem dX7_isState_24 : decode cX7_isState 24 = .ok (.getfield 7, 3) := by decide +kernel
theorem dX7_isState_27 : decode cX7_isState 27 = .ok (.bipush 32, 2) := by decide +kernel
theorem dX7_isState_29 : decode cX7_isState 29 = .ok (.iload_n 2, 1) := by decide +kernel
theorem dX7_isState_30 : decode cX7_isState 30 = .ok (.iadd, 1) := by decide +kernel
theorem dX7_isState_31 : decode cX7_isState 31 = .ok (.iaload, 1) := by decide +kernel
theorem dX7_isState_32 : decode cX7_isState 32 = .ok (.goto 4, 3) := by decide +kernel
theorem dX7_isState_35 : decode cX7_isState 35 = .ok (.iconst 0, 1) := by decide +kernel
theorem dX7_isState_36 : decode cX7_isState 36 = .ok (.if_icmp .le 5, 3) := by decide +kernel
theorem dX7_isState_39 : decode cX7_isState 39 = .ok (.iconst 0, 1) := by decide +kernel
theorem dX7_isState_40 : decode cX7_isState 40 = .ok (.ireturn, 1) := by decide +kernel
theorem dX7_isState_41 : decode cX7_isState 41 = .ok (.iinc 2 1, 3) := by decide +kernel
theorem dX7_isState_44 : decode cX7_isState 44 = .ok (.goto (-42), 3) := by decide +kernel
theorem dX7_isState_47 : decode cX7_isState 47 = .ok (.iconst 1, 1) := by decide +kernel
theorem dX7_isState_48 : decode cX7_isState 48 = .ok (.ireturn, 1) := by decide +kernel
theorem dX7_layOrders_0 : decode cX7_layOrders 0 = .ok (.sipush 4095, 3) := by decide +kernel
theorem dX7_layOrders_3 : decode cX7_layOrders 3 = .ok (.istore_n 1, 1) := by decide +kernel
theorem dX7_layOrders_4 : decode cX7_layOrders 4 = .ok (.iload_n 1, 1) := by decide +kernel
theorem dX7_layOrders_5 : decode cX7_layOrders 5 = .ok (.ifCond .lt 108, 3) := by decide +kernel
theorem dX7_layOrders_8 : decode cX7_layOrders 8 = .ok (.aload_n 0, 1) := by decide +kernel
theorem dX7_layOrders_9 : decode cX7_layOrders 9 = .ok (.getfield 45, 3) := by decide +kernel
theorem dX7_layOrders_12 : decode cX7_layOrders 12 = .ok (.iload_n 1, 1) := by decide +kernel
theorem dX7_layOrders_13 : decode cX7_layOrders 13 = .ok (.lconst 0, 1) := by decide +kernel
theorem dX7_layOrders_14 : decode cX7_layOrders 14 = .ok (.lastore, 1) := by decide +kernel
theorem dX7_layOrders_15 : decode cX7_layOrders 15 = .ok (.aload_n 0, 1) := by decide +kernel
theorem dX7_layOrders_16 : decode cX7_layOrders 16 = .ok (.getfield 49, 3) := by decide +kernel
theorem dX7_layOrders_19 : decode cX7_layOrders 19 = .ok (.iload_n 1, 1) := by decide +kernel
theorem dX7_layOrders_20 : decode cX7_layOrders 20 = .ok (.iload_n 1, 1) := by decide +kernel
theorem dX7_layOrders_21 : decode cX7_layOrders 21 = .ok (.ifCond .ne 7, 3) := by decide +kernel
theorem dX7_layOrders_24 : decode cX7_layOrders 24 = .ok (.lconst 1, 1) := by decide +kernel
theorem dX7_layOrders_25 : decode cX7_layOrders 25 = .ok (.goto 4, 3) := by decide +kernel
theorem dX7_layOrders_28 : decode cX7_layOrders 28 = .ok (.lconst 0, 1) := by decide +kernel
theorem dX7_layOrders_29 : decode cX7_layOrders 29 = .ok (.lastore, 1) := by decide +kernel
theorem dX7_layOrders_30 : decode cX7_layOrders 30 = .ok (.aload_n 0, 1) := by decide +kernel
theorem dX7_layOrders_31 : decode cX7_layOrders 31 = .ok (.iload_n 1, 1) := by decide +kernel
theorem dX7_layOrders_32 : decode cX7_layOrders 32 = .ok (.invokevirtual 178, 3) := by decide +kernel
theorem dX7_layOrders_35 : decode cX7_layOrders 35 = .ok (.ifCond .eq 72, 3) := by decide +kernel
theorem dX7_layOrders_38 : decode cX7_layOrders 38 = .ok (.aload_n 0, 1) := by decide +kernel
theorem dX7_layOrders_39 : decode cX7_layOrders 39 = .ok (.getfield 45, 3) := by decide +kernel
theorem dX7_layOrders_42 : decode cX7_layOrders 42 = .ok (.iload_n 1, 1) := by decide +kernel
theorem dX7_layOrders_43 : decode cX7_layOrders 43 = .ok (.aload_n 0, 1) := by decide +kernel
theorem dX7_layOrders_44 : decode cX7_layOrders 44 = .ok (.iload_n 1, 1) := by decide +kernel
theorem dX7_layOrders_45 : decode cX7_layOrders 45 = .ok (.invokevirtual 146, 3) := by decide +kernel
theorem dX7_layOrders_48 : decode cX7_layOrders 48 = .ok (.ifCond .eq 7, 3) := by decide +kernel
theorem dX7_layOrders_51 : decode cX7_layOrders 51 = .ok (.lconst 1, 1) := by decide +kernel
theorem dX7_layOrders_52 : decode cX7_layOrders 52 = .ok (.goto 4, 3) := by decide +kernel
theorem dX7_layOrders_55 : decode cX7_layOrders 55 = .ok (.lconst 0, 1) := by decide +kernel
theorem dX7_layOrders_56 : decode cX7_layOrders 56 = .ok (.lastore, 1) := by decide +kernel
theorem dX7_layOrders_57 : decode cX7_layOrders 57 = .ok (.iconst 0, 1) := by decide +kernel
theorem dX7_layOrders_58 : decode cX7_layOrders 58 = .ok (.istore_n 2, 1) := by decide +kernel
theorem dX7_layOrders_59 : decode cX7_layOrders 59 = .ok (.iload_n 2, 1) := by decide +kernel
theorem dX7_layOrders_60 : decode cX7_layOrders 60 = .ok (.aload_n 0, 1) := by decide +kernel
theorem dX7_layOrders_61 : decode cX7_layOrders 61 = .ok (.getfield 7, 3) := by decide +kernel
theorem dX7_layOrders_64 : decode cX7_layOrders 64 = .ok (.iconst 0, 1) := by decide +kernel
theorem dX7_layOrders_65 : decode cX7_layOrders 65 = .ok (.iaload, 1) := by decide +kernel
theorem dX7_layOrders_66 : decode cX7_layOrders 66 = .ok (.if_icmp .ge 41, 3) := by decide +kernel
theorem dX7_layOrders_69 : decode cX7_layOrders 69 = .ok (.aload_n 0, 1) := by decide +kernel
theorem dX7_layOrders_70 : decode cX7_layOrders 70 = .ok (.getfield 45, 3) := by decide +kernel
theorem dX7_layOrders_73 : decode cX7_layOrders 73 = .ok (.iload_n 1, 1) := by decide +kernel
theorem dX7_layOrders_74 : decode cX7_layOrders 74 = .ok (.dup2, 1) := by decide +kernel
theorem dX7_layOrders_75 : decode cX7_layOrders 75 = .ok (.laload, 1) := by decide +kernel
theorem dX7_layOrders_76 : decode cX7_layOrders 76 = .ok (.aload_n 0, 1) := by decide +kernel
theorem dX7_layOrders_77 : decode cX7_layOrders 77 = .ok (.iload_n 1, 1) := by decide +kernel
theorem dX7_layOrders_78 : decode cX7_layOrders 78 = .ok (.iload_n 2, 1) := by decide +kernel
theorem dX7_layOrders_79 : decode cX7_layOrders 79 = .ok (.invokevirtual 128, 3) := by decide +kernel
theorem dX7_layOrders_82 : decode cX7_layOrders 82 = .ok (.ifCond .eq 16, 3) := by decide +kernel
theorem dX7_layOrders_85 : decode cX7_layOrders 85 = .ok (.aload_n 0, 1) := by decide +kernel
theorem dX7_layOrders_86 : decode cX7_layOrders 86 = .ok (.getfield 45, 3) := by decide +kernel
theorem dX7_layOrders_89 : decode cX7_layOrders 89 = .ok (.iload_n 1, 1) := by decide +kernel
theorem dX7_layOrders_90 : decode cX7_layOrders 90 = .ok (.iload_n 2, 1) := by decide +kernel
theorem dX7_layOrders_91 : decode cX7_layOrders 91 = .ok (.invokestatic 143, 3) := by decide +kernel
theorem dX7_layOrders_94 : decode cX7_layOrders 94 = .ok (.laload, 1) := by decide +kernel
theorem dX7_layOrders_95 : decode cX7_layOrders 95 = .ok (.goto 4, 3) := by decide +kernel
theorem dX7_layOrders_98 : decode cX7_layOrders 98 = .ok (.lconst 0, 1) := by decide +kernel
theorem dX7_layOrders_99 : decode cX7_layOrders 99 = .ok (.ladd, 1) := by decide +kernel
theorem dX7_layOrders_100 : decode cX7_layOrders 100 = .ok (.lastore, 1) := by decide +kernel
theorem dX7_layOrders_101 : decode cX7_layOrders 101 = .ok (.iinc 2 1, 3) := by decide +kernel
theorem dX7_layOrders_104 : decode cX7_layOrders 104 = .ok (.goto (-45), 3) := by decide +kernel
theorem dX7_layOrders_107 : decode cX7_layOrders 107 = .ok (.iinc 1 (-1), 3) := by decide +kernel
theorem dX7_layOrders_110 : decode cX7_layOrders 110 = .ok (.goto (-106), 3) := by decide +kernel
theorem dX7_layOrders_113 : decode cX7_layOrders 113 = .ok (.iconst 0, 1) := by decide +kernel
theorem dX7_layOrders_114 : decode cX7_layOrders 114 = .ok (.istore_n 1, 1) := by decide +kernel
theorem dX7_layOrders_115 : decode cX7_layOrders 115 = .ok (.iload_n 1, 1) := by decide +kernel
theorem dX7_layOrders_116 : decode cX7_layOrders 116 = .ok (.sipush 4096, 3) := by decide +kernel
theorem dX7_layOrders_119 : decode cX7_layOrders 119 = .ok (.if_icmp .ge 66, 3) := by decide +kernel
theorem dX7_layOrders_122 : decode cX7_layOrders 122 = .ok (.iconst 0, 1) := by decide +kernel
theorem dX7_layOrders_123 : decode cX7_layOrders 123 = .ok (.istore_n 2, 1) := by decide +kernel
theorem dX7_layOrders_124 : decode cX7_layOrders 124 = .ok (.iload_n 2, 1) := by decide +kernel
theorem dX7_layOrders_125 : decode cX7_layOrders 125 = .ok (.aload_n 0, 1) := by decide +kernel
theorem dX7_layOrders_126 : decode cX7_layOrders 126 = .ok (.getfield 7, 3) := by decide +kernel
theorem dX7_layOrders_129 : decode cX7_layOrders 129 = .ok (.iconst 0, 1) := by decide +kernel
theorem dX7_layOrders_130 : decode cX7_layOrders 130 = .ok (.iaload, 1) := by decide +kernel
theorem dX7_layOrders_131 : decode cX7_layOrders 131 = .ok (.if_icmp .ge 48, 3) := by decide +kernel
theorem dX7_layOrders_134 : decode cX7_layOrders 134 = .ok (.aload_n 0, 1) := by decide +kernel
theorem dX7_layOrders_135 : decode cX7_layOrders 135 = .ok (.getfield 49, 3) := by decide +kernel
theorem dX7_layOrders_138 : decode cX7_layOrders 138 = .ok (.iload_n 1, 1) := by decide +kernel
theorem dX7_layOrders_139 : decode cX7_layOrders 139 = .ok (.laload, 1) := by decide +kernel
theorem dX7_layOrders_140 : decode cX7_layOrders 140 = .ok (.lconst 0, 1) := by decide +kernel
theorem dX7_layOrders_141 : decode cX7_layOrders 141 = .ok (.lcmp, 1) := by decide +kernel
theorem dX7_layOrders_142 : decode cX7_layOrders 142 = .ok (.ifCond .le 37, 3) := by decide +kernel
theorem dX7_layOrders_145 : decode cX7_layOrders 145 = .ok (.aload_n 0, 1) := by decide +kernel
theorem dX7_layOrders_146 : decode cX7_layOrders 146 = .ok (.iload_n 1, 1) := by decide +kernel
theorem dX7_layOrders_147 : decode cX7_layOrders 147 = .ok (.iload_n 2, 1) := by decide +kernel
theorem dX7_layOrders_148 : decode cX7_layOrders 148 = .ok (.invokevirtual 128, 3) := by decide +kernel
theorem dX7_layOrders_151 : decode cX7_layOrders 151 = .ok (.ifCond .eq 22, 3) := by decide +kernel
theorem dX7_layOrders_154 : decode cX7_layOrders 154 = .ok (.aload_n 0, 1) := by decide +kernel
theorem dX7_layOrders_155 : decode cX7_layOrders 155 = .ok (.getfield 49, 3) := by decide +kernel
theorem dX7_layOrders_158 : decode cX7_layOrders 158 = .ok (.iload_n 1, 1) := by decide +kernel
theorem dX7_layOrders_159 : decode cX7_layOrders 159 = .ok (.iload_n 2, 1) := by decide +kernel
theorem dX7_layOrders_160 : decode cX7_layOrders 160 = .ok (.invokestatic 143, 3) := by decide +kernel
theorem dX7_layOrders_163 : decode cX7_layOrders 163 = .ok (.dup2, 1) := by decide +kernel
theorem dX7_layOrders_164 : decode cX7_layOrders 164 = .ok (.laload, 1) := by decide +kernel
theorem dX7_layOrders_165 : decode cX7_layOrders 165 = .ok (.aload_n 0, 1) := by decide +kernel
theorem dX7_layOrders_166 : decode cX7_layOrders 166 = .ok (.getfield 49, 3) := by decide +kernel
theorem dX7_layOrders_169 : decode cX7_layOrders 169 = .ok (.iload_n 1, 1) := by decide +kernel
theorem dX7_layOrders_170 : decode cX7_layOrders 170 = .ok (.laload, 1) := by decide +kernel
theorem dX7_layOrders_171 : decode cX7_layOrders 171 = .ok (.ladd, 1) := by decide +kernel
theorem dX7_layOrders_172 : decode cX7_layOrders 172 = .ok (.lastore, 1) := by decide +kernel
theorem dX7_layOrders_173 : decode cX7_layOrders 173 = .ok (.iinc 2 1, 3) := by decide +kernel
theorem dX7_layOrders_176 : decode cX7_layOrders 176 = .ok (.goto (-52), 3) := by decide +kernel
theorem dX7_layOrders_179 : decode cX7_layOrders 179 = .ok (.iinc 1 1, 3) := by decide +kernel
theorem dX7_layOrders_182 : decode cX7_layOrders 182 = .ok (.goto (-67), 3) := by decide +kernel
theorem dX7_layOrders_185 : decode cX7_layOrders 185 = .ok (.return_, 1) := by decide +kernel
theorem dX7_sizeOf_0 : decode cX7_sizeOf 0 = .ok (.iconst 0, 1) := by decide +kernel
theorem dX7_sizeOf_1 : decode cX7_sizeOf 1 = .ok (.istore_n 1, 1) := by decide +kernel
theorem dX7_sizeOf_2 : decode cX7_sizeOf 2 = .ok (.iconst 0, 1) := by decide +kernel
theorem dX7_sizeOf_3 : decode cX7_sizeOf 3 = .ok (.istore_n 2, 1) := by decide +kernel
theorem dX7_sizeOf_4 : decode cX7_sizeOf 4 = .ok (.iload_n 2, 1) := by decide +kernel
theorem dX7_sizeOf_5 : decode cX7_sizeOf 5 = .ok (.bipush 6, 2) := by decide +kernel
theorem dX7_sizeOf_7 : decode cX7_sizeOf 7 = .ok (.if_icmp .ge 17, 3) := by decide +kernel
theorem dX7_sizeOf_10 : decode cX7_sizeOf 10 = .ok (.iload_n 1, 1) := by decide +kernel
theorem dX7_sizeOf_11 : decode cX7_sizeOf 11 = .ok (.iload_n 0, 1) := by decide +kernel
theorem dX7_sizeOf_12 : decode cX7_sizeOf 12 = .ok (.iload_n 2, 1) := by decide +kernel
theorem dX7_sizeOf_13 : decode cX7_sizeOf 13 = .ok (.invokestatic 125, 3) := by decide +kernel
theorem dX7_sizeOf_16 : decode cX7_sizeOf 16 = .ok (.iadd, 1) := by decide +kernel
theorem dX7_sizeOf_17 : decode cX7_sizeOf 17 = .ok (.istore_n 1, 1) := by decide +kernel
theorem dX7_sizeOf_18 : decode cX7_sizeOf 18 = .ok (.iinc 2 1, 3) := by decide +kernel
theorem dX7_sizeOf_21 : decode cX7_sizeOf 21 = .ok (.goto (-17), 3) := by decide +kernel
theorem dX7_sizeOf_24 : decode cX7_sizeOf 24 = .ok (.iload_n 1, 1) := by decide +kernel
theorem dX7_sizeOf_25 : decode cX7_sizeOf 25 = .ok (.ireturn, 1) := by decide +kernel
theorem dX7_orders_0 : decode cX7_orders 0 = .ok (.iload_n 1, 1) := by decide +kernel
theorem dX7_orders_1 : decode cX7_orders 1 = .ok (.iconst (-1), 1) := by decide +kernel
theorem dX7_orders_2 : decode cX7_orders 2 = .ok (.bipush 18, 2) := by decide +kernel
theorem dX7_orders_4 : decode cX7_orders 4 = .ok (.invokestatic 60, 3) := by decide +kernel
theorem dX7_orders_7 : decode cX7_orders 7 = .ok (.ifCond .ne 7, 3) := by decide +kernel
theorem dX7_orders_10 : decode cX7_orders 10 = .ok (.ldc2_w 181, 3) := by decide +kernel
theorem dX7_orders_13 : decode cX7_orders 13 = .ok (.lreturn, 1) := by decide +kernel
theorem dX7_orders_14 : decode cX7_orders 14 = .ok (.aload_n 0, 1) := by decide +kernel
theorem dX7_orders_15 : decode cX7_orders 15 = .ok (.invokevirtual 183, 3) := by decide +kernel
theorem dX7_orders_18 : decode cX7_orders 18 = .ok (.iload_n 1, 1) := by decide +kernel
theorem dX7_orders_19 : decode cX7_orders 19 = .ok (.iconst (-1), 1) := by decide +kernel
theorem dX7_orders_20 : decode cX7_orders 20 = .ok (.if_icmp .ne 10, 3) := by decide +kernel
theorem dX7_orders_23 : decode cX7_orders 23 = .ok (.aload_n 0, 1) := by decide +kernel
theorem dX7_orders_24 : decode cX7_orders 24 = .ok (.getfield 45, 3) := by decide +kernel
theorem dX7_orders_27 : decode cX7_orders 27 = .ok (.iconst 0, 1) := by decide +kernel
theorem dX7_orders_28 : decode cX7_orders 28 = .ok (.laload, 1) := by decide +kernel
theorem dX7_orders_29 : decode cX7_orders 29 = .ok (.lreturn, 1) := by decide +kernel
theorem dX7_orders_30 : decode cX7_orders 30 = .ok (.lconst 0, 1) := by decide +kernel
theorem dX7_orders_31 : decode cX7_orders 31 = .ok (.lstore_n 2, 1) := by decide +kernel
theorem dX7_orders_32 : decode cX7_orders 32 = .ok (.iconst 0, 1) := by decide +kernel
theorem dX7_orders_33 : decode cX7_orders 33 = .ok (.istore 4, 2) := by decide +kernel
theorem dX7_orders_35 : decode cX7_orders 35 = .ok (.iload 4, 2) := by decide +kernel
theorem dX7_orders_37 : decode cX7_orders 37 = .ok (.sipush 4096, 3) := by decide +kernel
theorem dX7_orders_40 : decode cX7_orders 40 = .ok (.if_icmp .ge 53, 3) := by decide +kernel
theorem dX7_orders_43 : decode cX7_orders 43 = .ok (.lload_n 2, 1) := by decide +kernel
theorem dX7_orders_44 : decode cX7_orders 44 = .ok (.aload_n 0, 1) := by decide +kernel
theorem dX7_orders_45 : decode cX7_orders 45 = .ok (.getfield 49, 3) := by decide +kernel
theorem dX7_orders_48 : decode cX7_orders 48 = .ok (.iload 4, 2) := by decide +kernel
theorem dX7_orders_50 : decode cX7_orders 50 = .ok (.laload, 1) := by decide +kernel
theorem dX7_orders_51 : decode cX7_orders 51 = .ok (.lconst 0, 1) := by decide +kernel
theorem dX7_orders_52 : decode cX7_orders 52 = .ok (.lcmp, 1) := by decide +kernel
theorem dX7_orders_53 : decode cX7_orders 53 = .ok (.ifCond .le 31, 3) := by decide +kernel
theorem dX7_orders_56 : decode cX7_orders 56 = .ok (.iload 4, 2) := by decide +kernel
theorem dX7_orders_58 : decode cX7_orders 58 = .ok (.invokestatic 186, 3) := by decide +kernel
theorem dX7_orders_61 : decode cX7_orders 61 = .ok (.iload_n 1, 1) := by decide +kernel
theorem dX7_orders_62 : decode cX7_orders 62 = .ok (.if_icmp .ne 22, 3) := by decide +kernel
theorem dX7_orders_65 : decode cX7_orders 65 = .ok (.aload_n 0, 1) := by decide +kernel
theorem dX7_orders_66 : decode cX7_orders 66 = .ok (.iload 4, 2) := by decide +kernel
theorem dX7_orders_68 : decode cX7_orders 68 = .ok (.invokevirtual 146, 3) := by decide +kernel
theorem dX7_orders_71 : decode cX7_orders 71 = .ok (.ifCond .eq 13, 3) := by decide +kernel
theorem dX7_orders_74 : decode cX7_orders 74 = .ok (.aload_n 0, 1) := by decide +kernel
theorem dX7_orders_75 : decode cX7_orders 75 = .ok (.getfield 49, 3) := by decide +kernel
theorem dX7_orders_78 : decode cX7_orders 78 = .ok (.iload 4, 2) := by decide +kernel
theorem dX7_orders_80 : decode cX7_orders 80 = .ok (.laload, 1) := by decide +kernel
theorem dX7_orders_81 : decode cX7_orders 81 = .ok (.goto 4, 3) := by decide +kernel
theorem dX7_orders_84 : decode cX7_orders 84 = .ok (.lconst 0, 1) := by decide +kernel
theorem dX7_orders_85 : decode cX7_orders 85 = .ok (.ladd, 1) := by decide +kernel
theorem dX7_orders_86 : decode cX7_orders 86 = .ok (.lstore_n 2, 1) := by decide +kernel
theorem dX7_orders_87 : decode cX7_orders 87 = .ok (.iinc 4 1, 3) := by decide +kernel
theorem dX7_orders_90 : decode cX7_orders 90 = .ok (.goto (-55), 3) := by decide +kernel
theorem dX7_orders_93 : decode cX7_orders 93 = .ok (.lload_n 2, 1) := by decide +kernel
theorem dX7_orders_94 : decode cX7_orders 94 = .ok (.lreturn, 1) := by decide +kernel
theorem dX7_order_0 : decode cX7_order 0 = .ok (.lload_n 1, 1) := by decide +kernel
theorem dX7_order_1 : decode cX7_order 1 = .ok (.lconst 0, 1) := by decide +kernel
theorem dX7_order_2 : decode cX7_order 2 = .ok (.lcmp, 1) := by decide +kernel
theorem dX7_order_3 : decode cX7_order 3 = .ok (.ifCond .lt 7, 3) := by decide +kernel
theorem dX7_order_6 : decode cX7_order 6 = .ok (.iload_n 3, 1) := by decide +kernel
theorem dX7_order_7 : decode cX7_order 7 = .ok (.ifCond .ge 5, 3) := by decide +kernel
theorem dX7_order_10 : decode cX7_order 10 = .ok (.iconst (-1), 1) := by decide +kernel
theorem dX7_order_11 : decode cX7_order 11 = .ok (.ireturn, 1) := by decide +kernel
theorem dX7_order_12 : decode cX7_order 12 = .ok (.aload_n 0, 1) := by decide +kernel
theorem dX7_order_13 : decode cX7_order 13 = .ok (.invokevirtual 183, 3) := by decide +kernel
theorem dX7_order_16 : decode cX7_order 16 = .ok (.lload_n 1, 1) := by decide +kernel
theorem dX7_order_17 : decode cX7_order 17 = .ok (.aload_n 0, 1) := by decide +kernel
theorem dX7_order_18 : decode cX7_order 18 = .ok (.getfield 45, 3) := by decide +kernel
theorem dX7_order_21 : decode cX7_order 21 = .ok (.iconst 0, 1) := by decide +kernel
theorem dX7_order_22 : decode cX7_order 22 = .ok (.laload, 1) := by decide +kernel
theorem dX7_order_23 : decode cX7_order 23 = .ok (.lcmp, 1) := by decide +kernel
theorem dX7_order_24 : decode cX7_order 24 = .ok (.ifCond .lt 6, 3) := by decide +kernel
theorem dX7_order_27 : decode cX7_order 27 = .ok (.bipush (-9), 2) := by decide +kernel
theorem dX7_order_29 : decode cX7_order 29 = .ok (.ireturn, 1) := by decide +kernel
theorem dX7_order_30 : decode cX7_order 30 = .ok (.lload_n 1, 1) := by decide +kernel
theorem dX7_order_31 : decode cX7_order 31 = .ok (.lstore 4, 2) := by decide +kernel
theorem dX7_order_33 : decode cX7_order 33 = .ok (.iconst 0, 1) := by decide +kernel
theorem dX7_order_34 : decode cX7_order 34 = .ok (.istore 6, 2) := by decide +kernel
theorem dX7_order_36 : decode cX7_order 36 = .ok (.iconst 0, 1) := by decide +kernel
theorem dX7_order_37 : decode cX7_order 37 = .ok (.istore 7, 2) := by decide +kernel
theorem dX7_order_39 : decode cX7_order 39 = .ok (.iload 7, 2) := by decide +kernel
theorem dX7_order_41 : decode cX7_order 41 = .ok (.iload_n 3, 1) := by decide +kernel
theorem dX7_order_42 : decode cX7_order 42 = .ok (.if_icmp .gt 122, 3) := by decide +kernel
theorem dX7_order_45 : decode cX7_order 45 = .ok (.aload_n 0, 1) := by decide +kernel
theorem dX7_order_46 : decode cX7_order 46 = .ok (.iload 6, 2) := by decide +kernel
theorem dX7_order_48 : decode cX7_order 48 = .ok (.invokevirtual 146, 3) := by decide +kernel
theorem dX7_order_51 : decode cX7_order 51 = .ok (.ifCond .eq 19, 3) := by decide +kernel
theorem dX7_order_54 : decode cX7_order 54 = .ok (.lload 4, 2) := by decide +kernel
theorem dX7_order_56 : decode cX7_order 56 = .ok (.lconst 0, 1) := by decide +kernel
theorem dX7_order_57 : decode cX7_order 57 = .ok (.lcmp, 1) := by decide +kernel
theorem dX7_order_58 : decode cX7_order 58 = .ok (.ifCond .ne 6, 3) := by decide +kernel
theorem dX7_order_61 : decode cX7_order 61 = .ok (.bipush (-9), 2) := by decide +kernel
theorem dX7_order_63 : decode cX7_order 63 = .ok (.ireturn, 1) := by decide +kernel
theorem dX7_order_64 : decode cX7_order 64 = .ok (.lload 4, 2) := by decide +kernel
theorem dX7_order_66 : decode cX7_order 66 = .ok (.lconst 1, 1) := by decide +kernel
theorem dX7_order_67 : decode cX7_order 67 = .ok (.lsub, 1) := by decide +kernel
theorem dX7_order_68 : decode cX7_order 68 = .ok (.lstore 4, 2) := by decide +kernel
theorem dX7_order_70 : decode cX7_order 70 = .ok (.iconst 0, 1) := by decide +kernel
theorem dX7_order_71 : decode cX7_order 71 = .ok (.istore 8, 2) := by decide +kernel
theorem dX7_order_73 : decode cX7_order 73 = .ok (.aload_n 0, 1) := by decide +kernel
theorem dX7_order_74 : decode cX7_order 74 = .ok (.iload 6, 2) := by decide +kernel
theorem dX7_order_76 : decode cX7_order 76 = .ok (.iload 8, 2) := by decide +kernel
theorem dX7_order_78 : decode cX7_order 78 = .ok (.invokevirtual 128, 3) := by decide +kernel
theorem dX7_order_81 : decode cX7_order 81 = .ok (.ifCond .eq 21, 3) := by decide +kernel
theorem dX7_order_84 : decode cX7_order 84 = .ok (.lload 4, 2) := by decide +kernel
theorem dX7_order_86 : decode cX7_order 86 = .ok (.aload_n 0, 1) := by decide +kernel
theorem dX7_order_87 : decode cX7_order 87 = .ok (.getfield 45, 3) := by decide +kernel
theorem dX7_order_90 : decode cX7_order 90 = .ok (.iload 6, 2) := by decide +kernel
theorem dX7_order_92 : decode cX7_order 92 = .ok (.iload 8, 2) := by decide +kernel
theorem dX7_order_94 : decode cX7_order 94 = .ok (.invokestatic 143, 3) := by decide +kernel
theorem dX7_order_97 : decode cX7_order 97 = .ok (.laload, 1) := by decide +kernel
theorem dX7_order_98 : decode cX7_order 98 = .ok (.lcmp, 1) := by decide +kernel
theorem dX7_order_99 : decode cX7_order 99 = .ok (.ifCond .lt 41, 3) := by decide +kernel
theorem dX7_order_102 : decode cX7_order 102 = .ok (.lload 4, 2) := by decide +kernel
theorem dX7_order_104 : decode cX7_order 104 = .ok (.aload_n 0, 1) := by decide +kernel
theorem dX7_order_105 : decode cX7_order 105 = .ok (.iload 6, 2) := by decide +kernel
theorem dX7_order_107 : decode cX7_order 107 = .ok (.iload 8, 2) := by decide +kernel
theorem dX7_order_109 : decode cX7_order 109 = .ok (.invokevirtual 128, 3) := by decide +kernel
theorem dX7_order_112 : decode cX7_order 112 = .ok (.ifCond .eq 18, 3) := by decide +kernel
theorem dX7_order_115 : decode cX7_order 115 = .ok (.aload_n 0, 1) := by decide +kernel
theorem dX7_order_116 : decode cX7_order 116 = .ok (.getfield 45, 3) := by decide +kernel
theorem dX7_order_119 : decode cX7_order 119 = .ok (.iload 6, 2) := by decide +kernel
theorem dX7_order_121 : decode cX7_order 121 = .ok (.iload 8, 2) := by decide +kernel
theorem dX7_order_123 : decode cX7_order 123 = .ok (.invokestatic 143, 3) := by decide +kernel
theorem dX7_order_126 : decode cX7_order 126 = .ok (.laload, 1) := by decide +kernel
theorem dX7_order_127 : decode cX7_order 127 = .ok (.goto 4, 3) := by decide +kernel
theorem dX7_order_130 : decode cX7_order 130 = .ok (.lconst 0, 1) := by decide +kernel
theorem dX7_order_131 : decode cX7_order 131 = .ok (.lsub, 1) := by decide +kernel
theorem dX7_order_132 : decode cX7_order 132 = .ok (.lstore 4, 2) := by decide +kernel
theorem dX7_order_134 : decode cX7_order 134 = .ok (.iinc 8 1, 3) := by decide +kernel
theorem dX7_order_137 : decode cX7_order 137 = .ok (.goto (-64), 3) := by decide +kernel
theorem dX7_order_140 : decode cX7_order 140 = .ok (.iload 7, 2) := by decide +kernel
theorem dX7_order_142 : decode cX7_order 142 = .ok (.iload_n 3, 1) := by decide +kernel
theorem dX7_order_143 : decode cX7_order 143 = .ok (.if_icmp .ne 6, 3) := by decide +kernel
theorem dX7_order_146 : decode cX7_order 146 = .ok (.iload 8, 2) := by decide +kernel
theorem dX7_order_148 : decode cX7_order 148 = .ok (.ireturn, 1) := by decide +kernel
theorem dX7_order_149 : decode cX7_order 149 = .ok (.iload 6, 2) := by decide +kernel
theorem dX7_order_151 : decode cX7_order 151 = .ok (.iload 8, 2) := by decide +kernel
theorem dX7_order_153 : decode cX7_order 153 = .ok (.invokestatic 143, 3) := by decide +kernel
theorem dX7_order_156 : decode cX7_order 156 = .ok (.istore 6, 2) := by decide +kernel
theorem dX7_order_158 : decode cX7_order 158 = .ok (.iinc 7 1, 3) := by decide +kernel
theorem dX7_order_161 : decode cX7_order 161 = .ok (.goto (-122), 3) := by decide +kernel
theorem dX7_order_164 : decode cX7_order 164 = .ok (.bipush (-9), 2) := by decide +kernel
theorem dX7_order_166 : decode cX7_order 166 = .ok (.ireturn, 1) := by decide +kernel
theorem dX7_rank_0 : decode cX7_rank 0 = .ok (.aload_n 0, 1) := by decide +kernel
theorem dX7_rank_1 : decode cX7_rank 1 = .ok (.invokevirtual 165, 3) := by decide +kernel
theorem dX7_rank_4 : decode cX7_rank 4 = .ok (.istore_n 1, 1) := by decide +kernel
theorem dX7_rank_5 : decode cX7_rank 5 = .ok (.iload_n 1, 1) := by decide +kernel
theorem dX7_rank_6 : decode cX7_rank 6 = .ok (.bipush (-9), 2) := by decide +kernel
theorem dX7_rank_8 : decode cX7_rank 8 = .ok (.if_icmp .ne 7, 3) := by decide +kernel
theorem dX7_rank_11 : decode cX7_rank 11 = .ok (.ldc2_w 189, 3) := by decide +kernel
theorem dX7_rank_14 : decode cX7_rank 14 = .ok (.lreturn, 1) := by decide +kernel
theorem dX7_rank_15 : decode cX7_rank 15 = .ok (.aload_n 0, 1) := by decide +kernel
theorem dX7_rank_16 : decode cX7_rank 16 = .ok (.invokevirtual 183, 3) := by decide +kernel
theorem dX7_rank_19 : decode cX7_rank 19 = .ok (.lconst 0, 1) := by decide +kernel
theorem dX7_rank_20 : decode cX7_rank 20 = .ok (.lstore_n 2, 1) := by decide +kernel
theorem dX7_rank_21 : decode cX7_rank 21 = .ok (.iconst 0, 1) := by decide +kernel
theorem dX7_rank_22 : decode cX7_rank 22 = .ok (.istore 4, 2) := by decide +kernel
theorem dX7_rank_24 : decode cX7_rank 24 = .ok (.iconst 0, 1) := by decide +kernel
theorem dX7_rank_25 : decode cX7_rank 25 = .ok (.istore 5, 2) := by decide +kernel
theorem dX7_rank_27 : decode cX7_rank 27 = .ok (.iload 5, 2) := by decide +kernel
theorem dX7_rank_29 : decode cX7_rank 29 = .ok (.iload_n 1, 1) := by decide +kernel
theorem dX7_rank_30 : decode cX7_rank 30 = .ok (.if_icmp .ge 91, 3) := by decide +kernel
theorem dX7_rank_33 : decode cX7_rank 33 = .ok (.lload_n 2, 1) := by decide +kernel
theorem dX7_rank_34 : decode cX7_rank 34 = .ok (.aload_n 0, 1) := by decide +kernel
theorem dX7_rank_35 : decode cX7_rank 35 = .ok (.iload 4, 2) := by decide +kernel
theorem dX7_rank_37 : decode cX7_rank 37 = .ok (.invokevirtual 146, 3) := by decide +kernel
theorem dX7_rank_40 : decode cX7_rank 40 = .ok (.ifCond .eq 7, 3) := by decide +kernel
theorem dX7_rank_43 : decode cX7_rank 43 = .ok (.lconst 1, 1) := by decide +kernel
theorem dX7_rank_44 : decode cX7_rank 44 = .ok (.goto 4, 3) := by decide +kernel
theorem dX7_rank_47 : decode cX7_rank 47 = .ok (.lconst 0, 1) := by decide +kernel
theorem dX7_rank_48 : decode cX7_rank 48 = .ok (.ladd, 1) := by decide +kernel
theorem dX7_rank_49 : decode cX7_rank 49 = .ok (.lstore_n 2, 1) := by decide +kernel
theorem dX7_rank_50 : decode cX7_rank 50 = .ok (.iconst 0, 1) := by decide +kernel
theorem dX7_rank_51 : decode cX7_rank 51 = .ok (.istore 6, 2) := by decide +kernel
theorem dX7_rank_53 : decode cX7_rank 53 = .ok (.iload 6, 2) := by decide +kernel
theorem dX7_rank_55 : decode cX7_rank 55 = .ok (.aload_n 0, 1) := by decide +kernel
theorem dX7_rank_56 : decode cX7_rank 56 = .ok (.getfield 33, 3) := by decide +kernel
theorem dX7_rank_59 : decode cX7_rank 59 = .ok (.iload 5, 2) := by decide +kernel
theorem dX7_rank_61 : decode cX7_rank 61 = .ok (.iaload, 1) := by decide +kernel
theorem dX7_rank_62 : decode cX7_rank 62 = .ok (.if_icmp .ge 39, 3) := by decide +kernel
theorem dX7_rank_65 : decode cX7_rank 65 = .ok (.lload_n 2, 1) := by decide +kernel
theorem dX7_rank_66 : decode cX7_rank 66 = .ok (.aload_n 0, 1) := by decide +kernel
theorem dX7_rank_67 : decode cX7_rank 67 = .ok (.iload 4, 2) := by decide +kernel
theorem dX7_rank_69 : decode cX7_rank 69 = .ok (.iload 6, 2) := by decide +kernel
theorem dX7_rank_71 : decode cX7_rank 71 = .ok (.invokevirtual 128, 3) := by decide +kernel
theorem dX7_rank_74 : decode cX7_rank 74 = .ok (.ifCond .eq 18, 3) := by decide +kernel
theorem dX7_rank_77 : decode cX7_rank 77 = .ok (.aload_n 0, 1) := by decide +kernel
theorem dX7_rank_78 : decode cX7_rank 78 = .ok (.getfield 45, 3) := by decide +kernel
theorem dX7_rank_81 : decode cX7_rank 81 = .ok (.iload 4, 2) := by decide +kernel
theorem dX7_rank_83 : decode cX7_rank 83 = .ok (.iload 6, 2) := by decide +kernel
theorem dX7_rank_85 : decode cX7_rank 85 = .ok (.invokestatic 143, 3) := by decide +kernel
theorem dX7_rank_88 : decode cX7_rank 88 = .ok (.laload, 1) := by decide +kernel
theorem dX7_rank_89 : decode cX7_rank 89 = .ok (.goto 4, 3) := by decide +kernel
theorem dX7_rank_92 : decode cX7_rank 92 = .ok (.lconst 0, 1) := by decide +kernel
theorem dX7_rank_93 : decode cX7_rank 93 = .ok (.ladd, 1) := by decide +kernel
theorem dX7_rank_94 : decode cX7_rank 94 = .ok (.lstore_n 2, 1) := by decide +kernel
theorem dX7_rank_95 : decode cX7_rank 95 = .ok (.iinc 6 1, 3) := by decide +kernel
theorem dX7_rank_98 : decode cX7_rank 98 = .ok (.goto (-45), 3) := by decide +kernel
theorem dX7_rank_101 : decode cX7_rank 101 = .ok (.iload 4, 2) := by decide +kernel
theorem dX7_rank_103 : decode cX7_rank 103 = .ok (.aload_n 0, 1) := by decide +kernel
theorem dX7_rank_104 : decode cX7_rank 104 = .ok (.getfield 33, 3) := by decide +kernel
theorem dX7_rank_107 : decode cX7_rank 107 = .ok (.iload 5, 2) := by decide +kernel
theorem dX7_rank_109 : decode cX7_rank 109 = .ok (.iaload, 1) := by decide +kernel
theorem dX7_rank_110 : decode cX7_rank 110 = .ok (.invokestatic 143, 3) := by decide +kernel
theorem dX7_rank_113 : decode cX7_rank 113 = .ok (.istore 4, 2) := by decide +kernel
theorem dX7_rank_115 : decode cX7_rank 115 = .ok (.iinc 5 1, 3) := by decide +kernel
theorem dX7_rank_118 : decode cX7_rank 118 = .ok (.goto (-91), 3) := by decide +kernel
theorem dX7_rank_121 : decode cX7_rank 121 = .ok (.lload_n 2, 1) := by decide +kernel
theorem dX7_rank_122 : decode cX7_rank 122 = .ok (.lreturn, 1) := by decide +kernel
theorem dX7_keep_0 : decode cX7_keep 0 = .ok (.iload_n 1, 1) := by decide +kernel
theorem dX7_keep_1 : decode cX7_keep 1 = .ok (.iconst 0, 1) := by decide +kernel
theorem dX7_keep_2 : decode cX7_keep 2 = .ok (.iconst 1, 1) := by decide +kernel
theorem dX7_keep_3 : decode cX7_keep 3 = .ok (.invokestatic 60, 3) := by decide +kernel
theorem dX7_keep_6 : decode cX7_keep 6 = .ok (.ifCond .ne 5, 3) := by decide +kernel
theorem dX7_keep_9 : decode cX7_keep 9 = .ok (.iconst (-1), 1) := by decide +kernel
theorem dX7_keep_10 : decode cX7_keep 10 = .ok (.ireturn, 1) := by decide +kernel
theorem dX7_keep_11 : decode cX7_keep 11 = .ok (.iconst 0, 1) := by decide +kernel
theorem dX7_keep_12 : decode cX7_keep 12 = .ok (.istore_n 2, 1) := by decide +kernel
theorem dX7_keep_13 : decode cX7_keep 13 = .ok (.iload_n 2, 1) := by decide +kernel
theorem dX7_keep_14 : decode cX7_keep 14 = .ok (.bipush 50, 2) := by decide +kernel
theorem dX7_keep_16 : decode cX7_keep 16 = .ok (.if_icmp .ge 26, 3) := by decide +kernel
theorem dX7_keep_19 : decode cX7_keep 19 = .ok (.aload_n 0, 1) := by decide +kernel
theorem dX7_keep_20 : decode cX7_keep 20 = .ok (.getfield 16, 3) := by decide +kernel
theorem dX7_keep_23 : decode cX7_keep 23 = .ok (.bipush 50, 2) := by decide +kernel
theorem dX7_keep_25 : decode cX7_keep 25 = .ok (.iload_n 1, 1) := by decide +kernel
theorem dX7_keep_26 : decode cX7_keep 26 = .ok (.imul, 1) := by decide +kernel
theorem dX7_keep_27 : decode cX7_keep 27 = .ok (.iload_n 2, 1) := by decide +kernel
theorem dX7_keep_28 : decode cX7_keep 28 = .ok (.iadd, 1) := by decide +kernel
theorem dX7_keep_29 : decode cX7_keep 29 = .ok (.aload_n 0, 1) := by decide +kernel
theorem dX7_keep_30 : decode cX7_keep 30 = .ok (.getfield 7, 3) := by decide +kernel
theorem dX7_keep_33 : decode cX7_keep 33 = .ok (.iload_n 2, 1) := by decide +kernel
theorem dX7_keep_34 : decode cX7_keep 34 = .ok (.iaload, 1) := by decide +kernel
theorem dX7_keep_35 : decode cX7_keep 35 = .ok (.iastore, 1) := by decide +kernel
theorem dX7_keep_36 : decode cX7_keep 36 = .ok (.iinc 2 1, 3) := by decide +kernel
theorem dX7_keep_39 : decode cX7_keep 39 = .ok (.goto (-26), 3) := by decide +kernel
theorem dX7_keep_42 : decode cX7_keep 42 = .ok (.aload_n 0, 1) := by decide +kernel
theorem dX7_keep_43 : decode cX7_keep 43 = .ok (.dup, 1) := by decide +kernel
theorem dX7_keep_44 : decode cX7_keep 44 = .ok (.getfield 191, 3) := by decide +kernel
theorem dX7_keep_47 : decode cX7_keep 47 = .ok (.iconst 1, 1) := by decide +kernel
theorem dX7_keep_48 : decode cX7_keep 48 = .ok (.iload_n 1, 1) := by decide +kernel
theorem dX7_keep_49 : decode cX7_keep 49 = .ok (.ishl, 1) := by decide +kernel
theorem dX7_keep_50 : decode cX7_keep 50 = .ok (.ior, 1) := by decide +kernel
theorem dX7_keep_51 : decode cX7_keep 51 = .ok (.putfield 191, 3) := by decide +kernel
theorem dX7_keep_54 : decode cX7_keep 54 = .ok (.aload_n 0, 1) := by decide +kernel
theorem dX7_keep_55 : decode cX7_keep 55 = .ok (.getfield 7, 3) := by decide +kernel
theorem dX7_keep_58 : decode cX7_keep 58 = .ok (.iconst 0, 1) := by decide +kernel
theorem dX7_keep_59 : decode cX7_keep 59 = .ok (.iaload, 1) := by decide +kernel
theorem dX7_keep_60 : decode cX7_keep 60 = .ok (.ireturn, 1) := by decide +kernel
theorem dX7_back_0 : decode cX7_back 0 = .ok (.iload_n 1, 1) := by decide +kernel
theorem dX7_back_1 : decode cX7_back 1 = .ok (.iconst 0, 1) := by decide +kernel
theorem dX7_back_2 : decode cX7_back 2 = .ok (.iconst 1, 1) := by decide +kernel
theorem dX7_back_3 : decode cX7_back 3 = .ok (.invokestatic 60, 3) := by decide +kernel
theorem dX7_back_6 : decode cX7_back 6 = .ok (.ifCond .ne 5, 3) := by decide +kernel
theorem dX7_back_9 : decode cX7_back 9 = .ok (.iconst (-1), 1) := by decide +kernel
theorem dX7_back_10 : decode cX7_back 10 = .ok (.ireturn, 1) := by decide +kernel
theorem dX7_back_11 : decode cX7_back 11 = .ok (.aload_n 0, 1) := by decide +kernel
theorem dX7_back_12 : decode cX7_back 12 = .ok (.getfield 191, 3) := by decide +kernel
theorem dX7_back_15 : decode cX7_back 15 = .ok (.iload_n 1, 1) := by decide +kernel
theorem dX7_back_16 : decode cX7_back 16 = .ok (.invokestatic 89, 3) := by decide +kernel
theorem dX7_back_19 : decode cX7_back 19 = .ok (.ifCond .ne 6, 3) := by decide +kernel
theorem dX7_back_22 : decode cX7_back 22 = .ok (.bipush (-2), 2) := by decide +kernel
theorem dX7_back_24 : decode cX7_back 24 = .ok (.ireturn, 1) := by decide +kernel
theorem dX7_back_25 : decode cX7_back 25 = .ok (.aload_n 0, 1) := by decide +kernel
theorem dX7_back_26 : decode cX7_back 26 = .ok (.invokevirtual 86, 3) := by decide +kernel
theorem dX7_back_29 : decode cX7_back 29 = .ok (.iconst 0, 1) := by decide +kernel
theorem dX7_back_30 : decode cX7_back 30 = .ok (.istore_n 2, 1) := by decide +kernel
theorem dX7_back_31 : decode cX7_back 31 = .ok (.iload_n 2, 1) := by decide +kernel
theorem dX7_back_32 : decode cX7_back 32 = .ok (.bipush 50, 2) := by decide +kernel
theorem dX7_back_34 : decode cX7_back 34 = .ok (.if_icmp .ge 26, 3) := by decide +kernel
theorem dX7_back_37 : decode cX7_back 37 = .ok (.aload_n 0, 1) := by decide +kernel
theorem dX7_back_38 : decode cX7_back 38 = .ok (.getfield 7, 3) := by decide +kernel
theorem dX7_back_41 : decode cX7_back 41 = .ok (.iload_n 2, 1) := by decide +kernel
theorem dX7_back_42 : decode cX7_back 42 = .ok (.aload_n 0, 1) := by decide +kernel
theorem dX7_back_43 : decode cX7_back 43 = .ok (.getfield 16, 3) := by decide +kernel
theorem dX7_back_46 : decode cX7_back 46 = .ok (.bipush 50, 2) := by decide +kernel
theorem dX7_back_48 : decode cX7_back 48 = .ok (.iload_n 1, 1) := by decide +kernel
theorem dX7_back_49 : decode cX7_back 49 = .ok (.imul, 1) := by decide +kernel
theorem dX7_back_50 : decode cX7_back 50 = .ok (.iload_n 2, 1) := by decide +kernel
theorem dX7_back_51 : decode cX7_back 51 = .ok (.iadd, 1) := by decide +kernel
theorem dX7_back_52 : decode cX7_back 52 = .ok (.iaload, 1) := by decide +kernel
theorem dX7_back_53 : decode cX7_back 53 = .ok (.iastore, 1) := by decide +kernel
theorem dX7_back_54 : decode cX7_back 54 = .ok (.iinc 2 1, 3) := by decide +kernel
theorem dX7_back_57 : decode cX7_back 57 = .ok (.goto (-26), 3) := by decide +kernel
theorem dX7_back_60 : decode cX7_back 60 = .ok (.aload_n 0, 1) := by decide +kernel
theorem dX7_back_61 : decode cX7_back 61 = .ok (.getfield 7, 3) := by decide +kernel
theorem dX7_back_64 : decode cX7_back 64 = .ok (.iconst 0, 1) := by decide +kernel
theorem dX7_back_65 : decode cX7_back 65 = .ok (.iaload, 1) := by decide +kernel
theorem dX7_back_66 : decode cX7_back 66 = .ok (.ireturn, 1) := by decide +kernel
theorem dJ6_bitCount_0f7a4_0 : decode cJ6_bitCount_0f7a4 0 = .ok (.iload_n 0, 1) := by decide +kernel
theorem dJ6_bitCount_0f7a4_1 : decode cJ6_bitCount_0f7a4 1 = .ok (.iload_n 0, 1) := by decide +kernel
theorem dJ6_bitCount_0f7a4_2 : decode cJ6_bitCount_0f7a4 2 = .ok (.iconst 1, 1) := by decide +kernel
theorem dJ6_bitCount_0f7a4_3 : decode cJ6_bitCount_0f7a4 3 = .ok (.iushr, 1) := by decide +kernel
theorem dJ6_bitCount_0f7a4_4 : decode cJ6_bitCount_0f7a4 4 = .ok (.ldc_w 265, 3) := by decide +kernel
theorem dJ6_bitCount_0f7a4_7 : decode cJ6_bitCount_0f7a4 7 = .ok (.iand, 1) := by decide +kernel
theorem dJ6_bitCount_0f7a4_8 : decode cJ6_bitCount_0f7a4 8 = .ok (.isub, 1) := by decide +kernel
theorem dJ6_bitCount_0f7a4_9 : decode cJ6_bitCount_0f7a4 9 = .ok (.istore_n 0, 1) := by decide +kernel
theorem dJ6_bitCount_0f7a4_10 : decode cJ6_bitCount_0f7a4 10 = .ok (.iload_n 0, 1) := by decide +kernel
theorem dJ6_bitCount_0f7a4_11 : decode cJ6_bitCount_0f7a4 11 = .ok (.ldc_w 266, 3) := by decide +kernel
theorem dJ6_bitCount_0f7a4_14 : decode cJ6_bitCount_0f7a4 14 = .ok (.iand, 1) := by decide +kernel
theorem dJ6_bitCount_0f7a4_15 : decode cJ6_bitCount_0f7a4 15 = .ok (.iload_n 0, 1) := by decide +kernel
theorem dJ6_bitCount_0f7a4_16 : decode cJ6_bitCount_0f7a4 16 = .ok (.iconst 2, 1) := by decide +kernel
theorem dJ6_bitCount_0f7a4_17 : decode cJ6_bitCount_0f7a4 17 = .ok (.iushr, 1) := by decide +kernel
theorem dJ6_bitCount_0f7a4_18 : decode cJ6_bitCount_0f7a4 18 = .ok (.ldc_w 266, 3) := by decide +kernel
theorem dJ6_bitCount_0f7a4_21 : decode cJ6_bitCount_0f7a4 21 = .ok (.iand, 1) := by decide +kernel
theorem dJ6_bitCount_0f7a4_22 : decode cJ6_bitCount_0f7a4 22 = .ok (.iadd, 1) := by decide +kernel
theorem dJ6_bitCount_0f7a4_23 : decode cJ6_bitCount_0f7a4 23 = .ok (.istore_n 0, 1) := by decide +kernel
theorem dJ6_bitCount_0f7a4_24 : decode cJ6_bitCount_0f7a4 24 = .ok (.iload_n 0, 1) := by decide +kernel
theorem dJ6_bitCount_0f7a4_25 : decode cJ6_bitCount_0f7a4 25 = .ok (.iload_n 0, 1) := by decide +kernel
theorem dJ6_bitCount_0f7a4_26 : decode cJ6_bitCount_0f7a4 26 = .ok (.iconst 4, 1) := by decide +kernel
theorem dJ6_bitCount_0f7a4_27 : decode cJ6_bitCount_0f7a4 27 = .ok (.iushr, 1) := by decide +kernel
theorem dJ6_bitCount_0f7a4_28 : decode cJ6_bitCount_0f7a4 28 = .ok (.iadd, 1) := by decide +kernel
theorem dJ6_bitCount_0f7a4_29 : decode cJ6_bitCount_0f7a4 29 = .ok (.ldc_w 267, 3) := by decide +kernel
theorem dJ6_bitCount_0f7a4_32 : decode cJ6_bitCount_0f7a4 32 = .ok (.iand, 1) := by decide +kernel
theorem dJ6_bitCount_0f7a4_33 : decode cJ6_bitCount_0f7a4 33 = .ok (.istore_n 0, 1) := by decide +kernel
theorem dJ6_bitCount_0f7a4_34 : decode cJ6_bitCount_0f7a4 34 = .ok (.iload_n 0, 1) := by decide +kernel
theorem dJ6_bitCount_0f7a4_35 : decode cJ6_bitCount_0f7a4 35 = .ok (.iload_n 0, 1) := by decide +kernel
theorem dJ6_bitCount_0f7a4_36 : decode cJ6_bitCount_0f7a4 36 = .ok (.bipush 8, 2) := by decide +kernel
theorem dJ6_bitCount_0f7a4_38 : decode cJ6_bitCount_0f7a4 38 = .ok (.iushr, 1) := by decide +kernel
theorem dJ6_bitCount_0f7a4_39 : decode cJ6_bitCount_0f7a4 39 = .ok (.iadd, 1) := by decide +kernel
theorem dJ6_bitCount_0f7a4_40 : decode cJ6_bitCount_0f7a4 40 = .ok (.istore_n 0, 1) := by decide +kernel
theorem dJ6_bitCount_0f7a4_41 : decode cJ6_bitCount_0f7a4 41 = .ok (.iload_n 0, 1) := by decide +kernel
theorem dJ6_bitCount_0f7a4_42 : decode cJ6_bitCount_0f7a4 42 = .ok (.iload_n 0, 1) := by decide +kernel
theorem dJ6_bitCount_0f7a4_43 : decode cJ6_bitCount_0f7a4 43 = .ok (.bipush 16, 2) := by decide +kernel
theorem dJ6_bitCount_0f7a4_45 : decode cJ6_bitCount_0f7a4 45 = .ok (.iushr, 1) := by decide +kernel
theorem dJ6_bitCount_0f7a4_46 : decode cJ6_bitCount_0f7a4 46 = .ok (.iadd, 1) := by decide +kernel
theorem dJ6_bitCount_0f7a4_47 : decode cJ6_bitCount_0f7a4 47 = .ok (.istore_n 0, 1) := by decide +kernel
theorem dJ6_bitCount_0f7a4_48 : decode cJ6_bitCount_0f7a4 48 = .ok (.iload_n 0, 1) := by decide +kernel
theorem dJ6_bitCount_0f7a4_49 : decode cJ6_bitCount_0f7a4 49 = .ok (.bipush 63, 2) := by decide +kernel
theorem dJ6_bitCount_0f7a4_51 : decode cJ6_bitCount_0f7a4 51 = .ok (.iand, 1) := by decide +kernel
theorem dJ6_bitCount_0f7a4_52 : decode cJ6_bitCount_0f7a4 52 = .ok (.ireturn, 1) := by decide +kernel
theorem dJ9_max_7cf53_0 : decode cJ9_max_7cf53 0 = .ok (.iload_n 0, 1) := by decide +kernel
theorem dJ9_max_7cf53_1 : decode cJ9_max_7cf53 1 = .ok (.iload_n 1, 1) := by decide +kernel
theorem dJ9_max_7cf53_2 : decode cJ9_max_7cf53 2 = .ok (.if_icmp .lt 7, 3) := by decide +kernel
theorem dJ9_max_7cf53_5 : decode cJ9_max_7cf53 5 = .ok (.iload_n 0, 1) := by decide +kernel
theorem dJ9_max_7cf53_6 : decode cJ9_max_7cf53 6 = .ok (.goto 4, 3) := by decide +kernel
theorem dJ9_max_7cf53_9 : decode cJ9_max_7cf53 9 = .ok (.iload_n 1, 1) := by decide +kernel
theorem dJ9_max_7cf53_10 : decode cJ9_max_7cf53 10 = .ok (.ireturn, 1) := by decide +kernel
theorem dJ9_min_7cf53_0 : decode cJ9_min_7cf53 0 = .ok (.iload_n 0, 1) := by decide +kernel
theorem dJ9_min_7cf53_1 : decode cJ9_min_7cf53 1 = .ok (.iload_n 1, 1) := by decide +kernel
theorem dJ9_min_7cf53_2 : decode cJ9_min_7cf53 2 = .ok (.if_icmp .gt 7, 3) := by decide +kernel
theorem dJ9_min_7cf53_5 : decode cJ9_min_7cf53 5 = .ok (.iload_n 0, 1) := by decide +kernel
theorem dJ9_min_7cf53_6 : decode cJ9_min_7cf53 6 = .ok (.goto 4, 3) := by decide +kernel
theorem dJ9_min_7cf53_9 : decode cJ9_min_7cf53 9 = .ok (.iload_n 1, 1) := by decide +kernel
theorem dJ9_min_7cf53_10 : decode cJ9_min_7cf53 10 = .ok (.ireturn, 1) := by decide +kernel
theorem dJ9_min_f86c9_0 : decode cJ9_min_f86c9 0 = .ok (.lload_n 0, 1) := by decide +kernel
theorem dJ9_min_f86c9_1 : decode cJ9_min_f86c9 1 = .ok (.lload_n 2, 1) := by decide +kernel
theorem dJ9_min_f86c9_2 : decode cJ9_min_f86c9 2 = .ok (.lcmp, 1) := by decide +kernel
theorem dJ9_min_f86c9_3 : decode cJ9_min_f86c9 3 = .ok (.ifCond .gt 7, 3) := by decide +kernel
theorem dJ9_min_f86c9_6 : decode cJ9_min_f86c9 6 = .ok (.lload_n 0, 1) := by decide +kernel
theorem dJ9_min_f86c9_7 : decode cJ9_min_f86c9 7 = .ok (.goto 4, 3) := by decide +kernel
theorem dJ9_min_f86c9_10 : decode cJ9_min_f86c9 10 = .ok (.lload_n 2, 1) := by decide +kernel
theorem dJ9_min_f86c9_11 : decode cJ9_min_f86c9 11 = .ok (.lreturn, 1) := by decide +kernel
theorem dL_law_0 : decode cL_law 0 = .ok (.new 7, 3) := by decide +kernel
theorem dL_law_3 : decode cL_law 3 = .ok (.dup, 1) := by decide +kernel
theorem dL_law_4 : decode cL_law 4 = .ok (.invokespecial 9, 3) := by decide +kernel
theorem dL_law_7 : decode cL_law 7 = .ok (.astore_n 1, 1) := by decide +kernel
theorem dL_law_8 : decode cL_law 8 = .ok (.new 10, 3) := by decide +kernel
theorem dL_law_11 : decode cL_law 11 = .ok (.dup, 1) := by decide +kernel
theorem dL_law_12 : decode cL_law 12 = .ok (.invokespecial 12, 3) := by decide +kernel
theorem dL_law_15 : decode cL_law 15 = .ok (.astore_n 2, 1) := by decide +kernel
theorem dL_law_16 : decode cL_law 16 = .ok (.iconst 0, 1) := by decide +kernel
theorem dL_law_17 : decode cL_law 17 = .ok (.istore_n 3, 1) := by decide +kernel
theorem dL_law_18 : decode cL_law 18 = .ok (.iload_n 3, 1) := by decide +kernel
theorem dL_law_19 : decode cL_law 19 = .ok (.aload_n 0, 1) := by decide +kernel
theorem dL_law_20 : decode cL_law 20 = .ok (.arraylength, 1) := by decide +kernel
theorem dL_law_21 : decode cL_law 21 = .ok (.iconst 4, 1) := by decide +kernel
theorem dL_law_22 : decode cL_law 22 = .ok (.isub, 1) := by decide +kernel
theorem dL_law_23 : decode cL_law 23 = .ok (.if_icmp .gt 707, 3) := by decide +kernel
theorem dL_law_26 : decode cL_law 26 = .ok (.aload_n 0, 1) := by decide +kernel
theorem dL_law_27 : decode cL_law 27 = .ok (.iload_n 3, 1) := by decide +kernel
theorem dL_law_28 : decode cL_law 28 = .ok (.iaload, 1) := by decide +kernel
theorem dL_law_29 : decode cL_law 29 = .ok (.bipush 31, 2) := by decide +kernel
theorem dL_law_31 : decode cL_law 31 = .ok (.iand, 1) := by decide +kernel
theorem dL_law_32 : decode cL_law 32 = .ok (.tableswitch 692 0 21 #[104, 127, 140, 183, 206, 249, 282, 305, 348, 361, 384, 417, 430, 443, 476, 509, 522, 545, 569, 632, 646, 669], 104) := by decide +kernel
theorem dL_law_136 : decode cL_law 136 = .ok (.aload_n 1, 1) := by decide +kernel
theorem dL_law_137 : decode cL_law 137 = .ok (.aload_n 0, 1) := by decide +kernel
theorem dL_law_138 : decode cL_law 138 = .ok (.iload_n 3, 1) := by decide +kernel
theorem dL_law_139 : decode cL_law 139 = .ok (.iconst 1, 1) := by decide +kernel
theorem dL_law_140 : decode cL_law 140 = .ok (.iadd, 1) := by decide +kernel
theorem dL_law_141 : decode cL_law 141 = .ok (.iaload, 1) := by decide +kernel
theorem dL_law_142 : decode cL_law 142 = .ok (.invokevirtual 13, 3) := by decide +kernel
theorem dL_law_145 : decode cL_law 145 = .ok (.aload_n 2, 1) := by decide +kernel
theorem dL_law_146 : decode cL_law 146 = .ok (.aload_n 0, 1) := by decide +kernel
theorem dL_law_147 : decode cL_law 147 = .ok (.iload_n 3, 1) := by decide +kernel
theorem dL_law_148 : decode cL_law 148 = .ok (.iconst 1, 1) := by decide +kernel
theorem dL_law_149 : decode cL_law 149 = .ok (.iadd, 1) := by decide +kernel
theorem dL_law_150 : decode cL_law 150 = .ok (.iaload, 1) := by decide +kernel
theorem dL_law_151 : decode cL_law 151 = .ok (.invokevirtual 17, 3) := by decide +kernel
theorem dL_law_154 : decode cL_law 154 = .ok (.if_icmp .eq 570, 3) := by decide +kernel
theorem dL_law_157 : decode cL_law 157 = .ok (.iconst 0, 1) := by decide +kernel
theorem dL_law_158 : decode cL_law 158 = .ok (.ireturn, 1) := by decide +kernel
theorem dL_law_159 : decode cL_law 159 = .ok (.aload_n 1, 1) := by decide +kernel
theorem dL_law_160 : decode cL_law 160 = .ok (.invokevirtual 18, 3) := by decide +kernel
theorem dL_law_163 : decode cL_law 163 = .ok (.aload_n 2, 1) := by decide +kernel
theorem dL_law_164 : decode cL_law 164 = .ok (.invokevirtual 22, 3) := by decide +kernel
theorem dL_law_167 : decode cL_law 167 = .ok (.if_icmp .eq 557, 3) := by decide +kernel
theorem dL_law_170 : decode cL_law 170 = .ok (.iconst 0, 1) := by decide +kernel
theorem dL_law_171 : decode cL_law 171 = .ok (.ireturn, 1) := by decide +kernel
theorem dL_law_172 : decode cL_law 172 = .ok (.aload_n 1, 1) := by decide +kernel
theorem dL_law_173 : decode cL_law 173 = .ok (.aload_n 0, 1) := by decide +kernel
theorem dL_law_174 : decode cL_law 174 = .ok (.iload_n 3, 1) := by decide +kernel
theorem dL_law_175 : decode cL_law 175 = .ok (.iconst 1, 1) := by decide +kernel
theorem dL_law_176 : decode cL_law 176 = .ok (.iadd, 1) := by decide +kernel
theorem dL_law_177 : decode cL_law 177 = .ok (.iaload, 1) := by decide +kernel
theorem dL_law_178 : decode cL_law 178 = .ok (.aload_n 0, 1) := by decide +kernel
theorem dL_law_179 : decode cL_law 179 = .ok (.iload_n 3, 1) := by decide +kernel
theorem dL_law_180 : decode cL_law 180 = .ok (.iconst 2, 1) := by decide +kernel
theorem dL_law_181 : decode cL_law 181 = .ok (.iadd, 1) := by decide +kernel
theorem dL_law_182 : decode cL_law 182 = .ok (.iaload, 1) := by decide +kernel
theorem dL_law_183 : decode cL_law 183 = .ok (.aload_n 0, 1) := by decide +kernel
theorem dL_law_184 : decode cL_law 184 = .ok (.iload_n 3, 1) := by decide +kernel
theorem dL_law_185 : decode cL_law 185 = .ok (.iconst 3, 1) := by decide +kernel
theorem dL_law_186 : decode cL_law 186 = .ok (.iadd, 1) := by decide +kernel
theorem dL_law_187 : decode cL_law 187 = .ok (.iaload, 1) := by decide +kernel
theorem dL_law_188 : decode cL_law 188 = .ok (.invokevirtual 23, 3) := by decide +kernel
theorem dL_law_191 : decode cL_law 191 = .ok (.aload_n 2, 1) := by decide +kernel
theorem dL_law_192 : decode cL_law 192 = .ok (.aload_n 0, 1) := by decide +kernel
theorem dL_law_193 : decode cL_law 193 = .ok (.iload_n 3, 1) := by decide +kernel
theorem dL_law_194 : decode cL_law 194 = .ok (.iconst 1, 1) := by decide +kernel
theorem dL_law_195 : decode cL_law 195 = .ok (.iadd, 1) := by decide +kernel
theorem dL_law_196 : decode cL_law 196 = .ok (.iaload, 1) := by decide +kernel
theorem dL_law_197 : decode cL_law 197 = .ok (.aload_n 0, 1) := by decide +kernel
theorem dL_law_198 : decode cL_law 198 = .ok (.iload_n 3, 1) := by decide +kernel
theorem dL_law_199 : decode cL_law 199 = .ok (.iconst 2, 1) := by decide +kernel
theorem dL_law_200 : decode cL_law 200 = .ok (.iadd, 1) := by decide +kernel
theorem dL_law_201 : decode cL_law 201 = .ok (.iaload, 1) := by decide +kernel
theorem dL_law_202 : decode cL_law 202 = .ok (.aload_n 0, 1) := by decide +kernel
theorem dL_law_203 : decode cL_law 203 = .ok (.iload_n 3, 1) := by decide +kernel
theorem dL_law_204 : decode cL_law 204 = .ok (.iconst 3, 1) := by decide +kernel
theorem dL_law_205 : decode cL_law 205 = .ok (.iadd, 1) := by decide +kernel
theorem dL_law_206 : decode cL_law 206 = .ok (.iaload, 1) := by decide +kernel
theorem dL_law_207 : decode cL_law 207 = .ok (.invokevirtual 27, 3) := by decide +kernel
theorem dL_law_210 : decode cL_law 210 = .ok (.if_icmp .eq 514, 3) := by decide +kernel
theorem dL_law_213 : decode cL_law 213 = .ok (.iconst 0, 1) := by decide +kernel
theorem dL_law_214 : decode cL_law 214 = .ok (.ireturn, 1) := by decide +kernel
theorem dL_law_215 : decode cL_law 215 = .ok (.aload_n 1, 1) := by decide +kernel
theorem dL_law_216 : decode cL_law 216 = .ok (.aload_n 0, 1) := by decide +kernel
theorem dL_law_217 : decode cL_law 217 = .ok (.iload_n 3, 1) := by decide +kernel
theorem dL_law_218 : decode cL_law 218 = .ok (.iconst 1, 1) := by decide +kernel
theorem dL_law_219 : decode cL_law 219 = .ok (.iadd, 1) := by decide +kernel
theorem dL_law_220 : decode cL_law 220 = .ok (.iaload, 1) := by decide +kernel
theorem dL_law_221 : decode cL_law 221 = .ok (.invokevirtual 28, 3) := by decide +kernel
theorem dL_law_224 : decode cL_law 224 = .ok (.aload_n 2, 1) := by decide +kernel
theorem dL_law_225 : decode cL_law 225 = .ok (.aload_n 0, 1) := by decide +kernel
theorem dL_law_226 : decode cL_law 226 = .ok (.iload_n 3, 1) := by decide +kernel
theorem dL_law_227 : decode cL_law 227 = .ok (.iconst 1, 1) := by decide +kernel
theorem dL_law_228 : decode cL_law 228 = .ok (.iadd, 1) := by decide +kernel
theorem dL_law_229 : decode cL_law 229 = .ok (.iaload, 1) := by decide +kernel
theorem dL_law_230 : decode cL_law 230 = .ok (.invokevirtual 31, 3) := by decide +kernel
theorem dL_law_233 : decode cL_law 233 = .ok (.if_icmp .eq 491, 3) := by decide +kernel
theorem dL_law_236 : decode cL_law 236 = .ok (.iconst 0, 1) := by decide +kernel
theorem dL_law_237 : decode cL_law 237 = .ok (.ireturn, 1) := by decide +kernel
theorem dL_law_238 : decode cL_law 238 = .ok (.aload_n 1, 1) := by decide +kernel
theorem dL_law_239 : decode cL_law 239 = .ok (.aload_n 0, 1) := by decide +kernel
theorem dL_law_240 : decode cL_law 240 = .ok (.iload_n 3, 1) := by decide +kernel
theorem dL_law_241 : decode cL_law 241 = .ok (.iconst 1, 1) := by decide +kernel
theorem dL_law_242 : decode cL_law 242 = .ok (.iadd, 1) := by decide +kernel
theorem dL_law_243 : decode cL_law 243 = .ok (.iaload, 1) := by decide +kernel
theorem dL_law_244 : decode cL_law 244 = .ok (.aload_n 0, 1) := by decide +kernel
theorem dL_law_245 : decode cL_law 245 = .ok (.iload_n 3, 1) := by decide +kernel
theorem dL_law_246 : decode cL_law 246 = .ok (.iconst 2, 1) := by decide +kernel
theorem dL_law_247 : decode cL_law 247 = .ok (.iadd, 1) := by decide +kernel
theorem dL_law_248 : decode cL_law 248 = .ok (.iaload, 1) := by decide +kernel
theorem dL_law_249 : decode cL_law 249 = .ok (.aload_n 0, 1) := by decide +kernel
theorem dL_law_250 : decode cL_law 250 = .ok (.iload_n 3, 1) := by decide +kernel
theorem dL_law_251 : decode cL_law 251 = .ok (.iconst 3, 1) := by decide +kernel
theorem dL_law_252 : decode cL_law 252 = .ok (.iadd, 1) := by decide +kernel
theorem dL_law_253 : decode cL_law 253 = .ok (.iaload, 1) := by decide +kernel
theorem dL_law_254 : decode cL_law 254 = .ok (.invokevirtual 32, 3) := by decide +kernel
theorem dL_law_257 : decode cL_law 257 = .ok (.aload_n 2, 1) := by decide +kernel
theorem dL_law_258 : decode cL_law 258 = .ok (.aload_n 0, 1) := by decide +kernel
theorem dL_law_259 : decode cL_law 259 = .ok (.iload_n 3, 1) := by decide +kernel
theorem dL_law_260 : decode cL_law 260 = .ok (.iconst 1, 1) := by decide +kernel
theorem dL_law_261 : decode cL_law 261 = .ok (.iadd, 1) := by decide +kernel
theorem dL_law_262 : decode cL_law 262 = .ok (.iaload, 1) := by decide +kernel
theorem dL_law_263 : decode cL_law 263 = .ok (.aload_n 0, 1) := by decide +kernel
theorem dL_law_264 : decode cL_law 264 = .ok (.iload_n 3, 1) := by decide +kernel
theorem dL_law_265 : decode cL_law 265 = .ok (.iconst 2, 1) := by decide +kernel
theorem dL_law_266 : decode cL_law 266 = .ok (.iadd, 1) := by decide +kernel
theorem dL_law_267 : decode cL_law 267 = .ok (.iaload, 1) := by decide +kernel
theorem dL_law_268 : decode cL_law 268 = .ok (.aload_n 0, 1) := by decide +kernel
theorem dL_law_269 : decode cL_law 269 = .ok (.iload_n 3, 1) := by decide +kernel
theorem dL_law_270 : decode cL_law 270 = .ok (.iconst 3, 1) := by decide +kernel
theorem dL_law_271 : decode cL_law 271 = .ok (.iadd, 1) := by decide +kernel
theorem dL_law_272 : decode cL_law 272 = .ok (.iaload, 1) := by decide +kernel
theorem dL_law_273 : decode cL_law 273 = .ok (.invokevirtual 35, 3) := by decide +kernel
theorem dL_law_276 : decode cL_law 276 = .ok (.if_icmp .eq 448, 3) := by decide +kernel
theorem dL_law_279 : decode cL_law 279 = .ok (.iconst 0, 1) := by decide +kernel
theorem dL_law_280 : decode cL_law 280 = .ok (.ireturn, 1) := by decide +kernel
theorem dL_law_281 : decode cL_law 281 = .ok (.aload_n 1, 1) := by decide +kernel
theorem dL_law_282 : decode cL_law 282 = .ok (.aload_n 0, 1) := by decide +kernel
theorem dL_law_283 : decode cL_law 283 = .ok (.iload_n 3, 1) := by decide +kernel
theorem dL_law_284 : decode cL_law 284 = .ok (.iconst 1, 1) := by decide +kernel
theorem dL_law_285 : decode cL_law 285 = .ok (.iadd, 1) := by decide +kernel
theorem dL_law_286 : decode cL_law 286 = .ok (.iaload, 1) := by decide +kernel
theorem dL_law_287 : decode cL_law 287 = .ok (.aload_n 0, 1) := by decide +kernel
theorem dL_law_288 : decode cL_law 288 = .ok (.iload_n 3, 1) := by decide +kernel
theorem dL_law_289 : decode cL_law 289 = .ok (.iconst 2, 1) := by decide +kernel
theorem dL_law_290 : decode cL_law 290 = .ok (.iadd, 1) := by decide +kernel
theorem dL_law_291 : decode cL_law 291 = .ok (.iaload, 1) := by decide +kernel
theorem dL_law_292 : decode cL_law 292 = .ok (.invokevirtual 36, 3) := by decide +kernel
theorem dL_law_295 : decode cL_law 295 = .ok (.aload_n 2, 1) := by decide +kernel
theorem dL_law_296 : decode cL_law 296 = .ok (.aload_n 0, 1) := by decide +kernel
theorem dL_law_297 : decode cL_law 297 = .ok (.iload_n 3, 1) := by decide +kernel
theorem dL_law_298 : decode cL_law 298 = .ok (.iconst 1, 1) := by decide +kernel
theorem dL_law_299 : decode cL_law 299 = .ok (.iadd, 1) := by decide +kernel
theorem dL_law_300 : decode cL_law 300 = .ok (.iaload, 1) := by decide +kernel
theorem dL_law_301 : decode cL_law 301 = .ok (.aload_n 0, 1) := by decide +kernel
theorem dL_law_302 : decode cL_law 302 = .ok (.iload_n 3, 1) := by decide +kernel
theorem dL_law_303 : decode cL_law 303 = .ok (.iconst 2, 1) := by decide +kernel
theorem dL_law_304 : decode cL_law 304 = .ok (.iadd, 1) := by decide +kernel
theorem dL_law_305 : decode cL_law 305 = .ok (.iaload, 1) := by decide +kernel
theorem dL_law_306 : decode cL_law 306 = .ok (.invokevirtual 40, 3) := by decide +kernel
theorem dL_law_309 : decode cL_law 309 = .ok (.if_icmp .eq 415, 3) := by decide +kernel
theorem dL_law_312 : decode cL_law 312 = .ok (.iconst 0, 1) := by decide +kernel
theorem dL_law_313 : decode cL_law 313 = .ok (.ireturn, 1) := by decide +kernel
theorem dL_law_314 : decode cL_law 314 = .ok (.aload_n 1, 1) := by decide +kernel
theorem dL_law_315 : decode cL_law 315 = .ok (.aload_n 0, 1) := by decide +kernel
theorem dL_law_316 : decode cL_law 316 = .ok (.iload_n 3, 1) := by decide +kernel
theorem dL_law_317 : decode cL_law 317 = .ok (.iconst 1, 1) := by decide +kernel
theorem dL_law_318 : decode cL_law 318 = .ok (.iadd, 1) := by decide +kernel
theorem dL_law_319 : decode cL_law 319 = .ok (.iaload, 1) := by decide +kernel
theorem dL_law_320 : decode cL_law 320 = .ok (.invokevirtual 41, 3) := by decide +kernel
theorem dL_law_323 : decode cL_law 323 = .ok (.aload_n 2, 1) := by decide +kernel
theorem dL_law_324 : decode cL_law 324 = .ok (.aload_n 0, 1) := by decide +kernel
theorem dL_law_325 : decode cL_law 325 = .ok (.iload_n 3, 1) := by decide +kernel
theorem dL_law_326 : decode cL_law 326 = .ok (.iconst 1, 1) := by decide +kernel
theorem dL_law_327 : decode cL_law 327 = .ok (.iadd, 1) := by decide +kernel
theorem dL_law_328 : decode cL_law 328 = .ok (.iaload, 1) := by decide +kernel
theorem dL_law_329 : decode cL_law 329 = .ok (.invokevirtual 44, 3) := by decide +kernel
theorem dL_law_332 : decode cL_law 332 = .ok (.if_icmp .eq 392, 3) := by decide +kernel
theorem dL_law_335 : decode cL_law 335 = .ok (.iconst 0, 1) := by decide +kernel
theorem dL_law_336 : decode cL_law 336 = .ok (.ireturn, 1) := by decide +kernel
theorem dL_law_337 : decode cL_law 337 = .ok (.aload_n 1, 1) := by decide +kernel
theorem dL_law_338 : decode cL_law 338 = .ok (.aload_n 0, 1) := by decide +kernel
theorem dL_law_339 : decode cL_law 339 = .ok (.iload_n 3, 1) := by decide +kernel
theorem dL_law_340 : decode cL_law 340 = .ok (.iconst 1, 1) := by decide +kernel
theorem dL_law_341 : decode cL_law 341 = .ok (.iadd, 1) := by decide +kernel
theorem dL_law_342 : decode cL_law 342 = .ok (.iaload, 1) := by decide +kernel
theorem dL_law_343 : decode cL_law 343 = .ok (.aload_n 0, 1) := by decide +kernel
theorem dL_law_344 : decode cL_law 344 = .ok (.iload_n 3, 1) := by decide +kernel
theorem dL_law_345 : decode cL_law 345 = .ok (.iconst 2, 1) := by decide +kernel
theorem dL_law_346 : decode cL_law 346 = .ok (.iadd, 1) := by decide +kernel
theorem dL_law_347 : decode cL_law 347 = .ok (.iaload, 1) := by decide +kernel
theorem dL_law_348 : decode cL_law 348 = .ok (.aload_n 0, 1) := by decide +kernel
theorem dL_law_349 : decode cL_law 349 = .ok (.iload_n 3, 1) := by decide +kernel
theorem dL_law_350 : decode cL_law 350 = .ok (.iconst 3, 1) := by decide +kernel
theorem dL_law_351 : decode cL_law 351 = .ok (.iadd, 1) := by decide +kernel
theorem dL_law_352 : decode cL_law 352 = .ok (.iaload, 1) := by decide +kernel
theorem dL_law_353 : decode cL_law 353 = .ok (.invokevirtual 45, 3) := by decide +kernel
theorem dL_law_356 : decode cL_law 356 = .ok (.aload_n 2, 1) := by decide +kernel
theorem dL_law_357 : decode cL_law 357 = .ok (.aload_n 0, 1) := by decide +kernel
theorem dL_law_358 : decode cL_law 358 = .ok (.iload_n 3, 1) := by decide +kernel
theorem dL_law_359 : decode cL_law 359 = .ok (.iconst 1, 1) := by decide +kernel
theorem dL_law_360 : decode cL_law 360 = .ok (.iadd, 1) := by decide +kernel
theorem dL_law_361 : decode cL_law 361 = .ok (.iaload, 1) := by decide +kernel
theorem dL_law_362 : decode cL_law 362 = .ok (.aload_n 0, 1) := by decide +kernel
theorem dL_law_363 : decode cL_law 363 = .ok (.iload_n 3, 1) := by decide +kernel
theorem dL_law_364 : decode cL_law 364 = .ok (.iconst 2, 1) := by decide +kernel
theorem dL_law_365 : decode cL_law 365 = .ok (.iadd, 1) := by decide +kernel
theorem dL_law_366 : decode cL_law 366 = .ok (.iaload, 1) := by decide +kernel
theorem dL_law_367 : decode cL_law 367 = .ok (.aload_n 0, 1) := by decide +kernel
theorem dL_law_368 : decode cL_law 368 = .ok (.iload_n 3, 1) := by decide +kernel
theorem dL_law_369 : decode cL_law 369 = .ok (.iconst 3, 1) := by decide +kernel
theorem dL_law_370 : decode cL_law 370 = .ok (.iadd, 1) := by decide +kernel
theorem dL_law_371 : decode cL_law 371 = .ok (.iaload, 1) := by decide +kernel
theorem dL_law_372 : decode cL_law 372 = .ok (.invokevirtual 48, 3) := by decide +kernel
theorem dL_law_375 : decode cL_law 375 = .ok (.if_icmp .eq 349, 3) := by decide +kernel
theorem dL_law_378 : decode cL_law 378 = .ok (.iconst 0, 1) := by decide +kernel
theorem dL_law_379 : decode cL_law 379 = .ok (.ireturn, 1) := by decide +kernel
theorem dL_law_380 : decode cL_law 380 = .ok (.aload_n 1, 1) := by decide +kernel
theorem dL_law_381 : decode cL_law 381 = .ok (.invokevirtual 49, 3) := by decide +kernel
theorem dL_law_384 : decode cL_law 384 = .ok (.aload_n 2, 1) := by decide +kernel
theorem dL_law_385 : decode cL_law 385 = .ok (.invokevirtual 52, 3) := by decide +kernel
theorem dL_law_388 : decode cL_law 388 = .ok (.if_icmp .eq 336, 3) := by decide +kernel
theorem dL_law_391 : decode cL_law 391 = .ok (.iconst 0, 1) := by decide +kernel
theorem dL_law_392 : decode cL_law 392 = .ok (.ireturn, 1) := by decide +kernel
theorem dL_law_393 : decode cL_law 393 = .ok (.aload_n 1, 1) := by decide +kernel
theorem dL_law_394 : decode cL_law 394 = .ok (.aload_n 0, 1) := by decide +kernel
theorem dL_law_395 : decode cL_law 395 = .ok (.iload_n 3, 1) := by decide +kernel
theorem dL_law_396 : decode cL_law 396 = .ok (.iconst 1, 1) := by decide +kernel
theorem dL_law_397 : decode cL_law 397 = .ok (.iadd, 1) := by decide +kernel
theorem dL_law_398 : decode cL_law 398 = .ok (.iaload, 1) := by decide +kernel
theorem dL_law_399 : decode cL_law 399 = .ok (.invokevirtual 53, 3) := by decide +kernel
theorem dL_law_402 : decode cL_law 402 = .ok (.aload_n 2, 1) := by decide +kernel
theorem dL_law_403 : decode cL_law 403 = .ok (.aload_n 0, 1) := by decide +kernel
theorem dL_law_404 : decode cL_law 404 = .ok (.iload_n 3, 1) := by decide +kernel
theorem dL_law_405 : decode cL_law 405 = .ok (.iconst 1, 1) := by decide +kernel
theorem dL_law_406 : decode cL_law 406 = .ok (.iadd, 1) := by decide +kernel
theorem dL_law_407 : decode cL_law 407 = .ok (.iaload, 1) := by decide +kernel
theorem dL_law_408 : decode cL_law 408 = .ok (.invokevirtual 56, 3) := by decide +kernel
theorem dL_law_411 : decode cL_law 411 = .ok (.if_icmp .eq 313, 3) := by decide +kernel
theorem dL_law_414 : decode cL_law 414 = .ok (.iconst 0, 1) := by decide +kernel
theorem dL_law_415 : decode cL_law 415 = .ok (.ireturn, 1) := by decide +kernel
theorem dL_law_416 : decode cL_law 416 = .ok (.aload_n 1, 1) := by decide +kernel
theorem dL_law_417 : decode cL_law 417 = .ok (.aload_n 0, 1) := by decide +kernel
theorem dL_law_418 : decode cL_law 418 = .ok (.iload_n 3, 1) := by decide +kernel
theorem dL_law_419 : decode cL_law 419 = .ok (.iconst 1, 1) := by decide +kernel
theorem dL_law_420 : decode cL_law 420 = .ok (.iadd, 1) := by decide +kernel
theorem dL_law_421 : decode cL_law 421 = .ok (.iaload, 1) := by decide +kernel
theorem dL_law_422 : decode cL_law 422 = .ok (.aload_n 0, 1) := by decide +kernel
theorem dL_law_423 : decode cL_law 423 = .ok (.iload_n 3, 1) := by decide +kernel
theorem dL_law_424 : decode cL_law 424 = .ok (.iconst 2, 1) := by decide +kernel
theorem dL_law_425 : decode cL_law 425 = .ok (.iadd, 1) := by decide +kernel
theorem dL_law_426 : decode cL_law 426 = .ok (.iaload, 1) := by decide +kernel
theorem dL_law_427 : decode cL_law 427 = .ok (.invokevirtual 57, 3) := by decide +kernel
theorem dL_law_430 : decode cL_law 430 = .ok (.aload_n 2, 1) := by decide +kernel
theorem dL_law_431 : decode cL_law 431 = .ok (.aload_n 0, 1) := by decide +kernel
theorem dL_law_432 : decode cL_law 432 = .ok (.iload_n 3, 1) := by decide +kernel
theorem dL_law_433 : decode cL_law 433 = .ok (.iconst 1, 1) := by decide +kernel
theorem dL_law_434 : decode cL_law 434 = .ok (.iadd, 1) := by decide +kernel
theorem dL_law_435 : decode cL_law 435 = .ok (.iaload, 1) := by decide +kernel
theorem dL_law_436 : decode cL_law 436 = .ok (.aload_n 0, 1) := by decide +kernel
theorem dL_law_437 : decode cL_law 437 = .ok (.iload_n 3, 1) := by decide +kernel
theorem dL_law_438 : decode cL_law 438 = .ok (.iconst 2, 1) := by decide +kernel
theorem dL_law_439 : decode cL_law 439 = .ok (.iadd, 1) := by decide +kernel
theorem dL_law_440 : decode cL_law 440 = .ok (.iaload, 1) := by decide +kernel
theorem dL_law_441 : decode cL_law 441 = .ok (.invokevirtual 60, 3) := by decide +kernel
theorem dL_law_444 : decode cL_law 444 = .ok (.if_icmp .eq 280, 3) := by decide +kernel
theorem dL_law_447 : decode cL_law 447 = .ok (.iconst 0, 1) := by decide +kernel
theorem dL_law_448 : decode cL_law 448 = .ok (.ireturn, 1) := by decide +kernel
theorem dL_law_449 : decode cL_law 449 = .ok (.aload_n 1, 1) := by decide +kernel
theorem dL_law_450 : decode cL_law 450 = .ok (.invokevirtual 61, 3) := by decide +kernel
theorem dL_law_453 : decode cL_law 453 = .ok (.aload_n 2, 1) := by decide +kernel
theorem dL_law_454 : decode cL_law 454 = .ok (.invokevirtual 64, 3) := by decide +kernel
theorem dL_law_457 : decode cL_law 457 = .ok (.if_icmp .eq 267, 3) := by decide +kernel
theorem dL_law_460 : decode cL_law 460 = .ok (.iconst 0, 1) := by decide +kernel
theorem dL_law_461 : decode cL_law 461 = .ok (.ireturn, 1) := by decide +kernel
theorem dL_law_462 : decode cL_law 462 = .ok (.aload_n 1, 1) := by decide +kernel
theorem dL_law_463 : decode cL_law 463 = .ok (.invokevirtual 65, 3) := by decide +kernel
theorem dL_law_466 : decode cL_law 466 = .ok (.aload_n 2, 1) := by decide +kernel
theorem dL_law_467 : decode cL_law 467 = .ok (.invokevirtual 68, 3) := by decide +kernel
theorem dL_law_470 : decode cL_law 470 = .ok (.if_icmp .eq 254, 3) := by decide +kernel
theorem dL_law_473 : decode cL_law 473 = .ok (.iconst 0, 1) := by decide +kernel
theorem dL_law_474 : decode cL_law 474 = .ok (.ireturn, 1) := by decide +kernel
theorem dL_law_475 : decode cL_law 475 = .ok (.aload_n 1, 1) := by decide +kernel
theorem dL_law_476 : decode cL_law 476 = .ok (.aload_n 0, 1) := by decide +kernel
theorem dL_law_477 : decode cL_law 477 = .ok (.iload_n 3, 1) := by decide +kernel
theorem dL_law_478 : decode cL_law 478 = .ok (.iconst 1, 1) := by decide +kernel
theorem dL_law_479 : decode cL_law 479 = .ok (.iadd, 1) := by decide +kernel
theorem dL_law_480 : decode cL_law 480 = .ok (.iaload, 1) := by decide +kernel
theorem dL_law_481 : decode cL_law 481 = .ok (.aload_n 0, 1) := by decide +kernel
theorem dL_law_482 : decode cL_law 482 = .ok (.iload_n 3, 1) := by decide +kernel
theorem dL_law_483 : decode cL_law 483 = .ok (.iconst 2, 1) := by decide +kernel
theorem dL_law_484 : decode cL_law 484 = .ok (.iadd, 1) := by decide +kernel
theorem dL_law_485 : decode cL_law 485 = .ok (.iaload, 1) := by decide +kernel
theorem dL_law_486 : decode cL_law 486 = .ok (.invokevirtual 69, 3) := by decide +kernel
theorem dL_law_489 : decode cL_law 489 = .ok (.aload_n 2, 1) := by decide +kernel
theorem dL_law_490 : decode cL_law 490 = .ok (.aload_n 0, 1) := by decide +kernel
theorem dL_law_491 : decode cL_law 491 = .ok (.iload_n 3, 1) := by decide +kernel
theorem dL_law_492 : decode cL_law 492 = .ok (.iconst 1, 1) := by decide +kernel
theorem dL_law_493 : decode cL_law 493 = .ok (.iadd, 1) := by decide +kernel
theorem dL_law_494 : decode cL_law 494 = .ok (.iaload, 1) := by decide +kernel
theorem dL_law_495 : decode cL_law 495 = .ok (.aload_n 0, 1) := by decide +kernel
theorem dL_law_496 : decode cL_law 496 = .ok (.iload_n 3, 1) := by decide +kernel
theorem dL_law_497 : decode cL_law 497 = .ok (.iconst 2, 1) := by decide +kernel
theorem dL_law_498 : decode cL_law 498 = .ok (.iadd, 1) := by decide +kernel
theorem dL_law_499 : decode cL_law 499 = .ok (.iaload, 1) := by decide +kernel
theorem dL_law_500 : decode cL_law 500 = .ok (.invokevirtual 72, 3) := by decide +kernel
theorem dL_law_503 : decode cL_law 503 = .ok (.if_icmp .eq 221, 3) := by decide +kernel
theorem dL_law_506 : decode cL_law 506 = .ok (.iconst 0, 1) := by decide +kernel
theorem dL_law_507 : decode cL_law 507 = .ok (.ireturn, 1) := by decide +kernel
theorem dL_law_508 : decode cL_law 508 = .ok (.aload_n 1, 1) := by decide +kernel
theorem dL_law_509 : decode cL_law 509 = .ok (.aload_n 0, 1) := by decide +kernel
theorem dL_law_510 : decode cL_law 510 = .ok (.iload_n 3, 1) := by decide +kernel
theorem dL_law_511 : decode cL_law 511 = .ok (.iconst 1, 1) := by decide +kernel
theorem dL_law_512 : decode cL_law 512 = .ok (.iadd, 1) := by decide +kernel
theorem dL_law_513 : decode cL_law 513 = .ok (.iaload, 1) := by decide +kernel
theorem dL_law_514 : decode cL_law 514 = .ok (.aload_n 0, 1) := by decide +kernel
theorem dL_law_515 : decode cL_law 515 = .ok (.iload_n 3, 1) := by decide +kernel
theorem dL_law_516 : decode cL_law 516 = .ok (.iconst 2, 1) := by decide +kernel
theorem dL_law_517 : decode cL_law 517 = .ok (.iadd, 1) := by decide +kernel
theorem dL_law_518 : decode cL_law 518 = .ok (.iaload, 1) := by decide +kernel
theorem dL_law_519 : decode cL_law 519 = .ok (.invokevirtual 73, 3) := by decide +kernel
theorem dL_law_522 : decode cL_law 522 = .ok (.aload_n 2, 1) := by decide +kernel
theorem dL_law_523 : decode cL_law 523 = .ok (.aload_n 0, 1) := by decide +kernel
theorem dL_law_524 : decode cL_law 524 = .ok (.iload_n 3, 1) := by decide +kernel
theorem dL_law_525 : decode cL_law 525 = .ok (.iconst 1, 1) := by decide +kernel
theorem dL_law_526 : decode cL_law 526 = .ok (.iadd, 1) := by decide +kernel
theorem dL_law_527 : decode cL_law 527 = .ok (.iaload, 1) := by decide +kernel
theorem dL_law_528 : decode cL_law 528 = .ok (.aload_n 0, 1) := by decide +kernel
theorem dL_law_529 : decode cL_law 529 = .ok (.iload_n 3, 1) := by decide +kernel
theorem dL_law_530 : decode cL_law 530 = .ok (.iconst 2, 1) := by decide +kernel
theorem dL_law_531 : decode cL_law 531 = .ok (.iadd, 1) := by decide +kernel
theorem dL_law_532 : decode cL_law 532 = .ok (.iaload, 1) := by decide +kernel
theorem dL_law_533 : decode cL_law 533 = .ok (.invokevirtual 76, 3) := by decide +kernel
theorem dL_law_536 : decode cL_law 536 = .ok (.if_icmp .eq 188, 3) := by decide +kernel
theorem dL_law_539 : decode cL_law 539 = .ok (.iconst 0, 1) := by decide +kernel
theorem dL_law_540 : decode cL_law 540 = .ok (.ireturn, 1) := by decide +kernel
theorem dL_law_541 : decode cL_law 541 = .ok (.aload_n 1, 1) := by decide +kernel
theorem dL_law_542 : decode cL_law 542 = .ok (.invokevirtual 77, 3) := by decide +kernel
theorem dL_law_545 : decode cL_law 545 = .ok (.aload_n 2, 1) := by decide +kernel
theorem dL_law_546 : decode cL_law 546 = .ok (.invokevirtual 80, 3) := by decide +kernel
theorem dL_law_549 : decode cL_law 549 = .ok (.if_icmp .eq 175, 3) := by decide +kernel
theorem dL_law_552 : decode cL_law 552 = .ok (.iconst 0, 1) := by decide +kernel
theorem dL_law_553 : decode cL_law 553 = .ok (.ireturn, 1) := by decide +kernel
theorem dL_law_554 : decode cL_law 554 = .ok (.aload_n 1, 1) := by decide +kernel
theorem dL_law_555 : decode cL_law 555 = .ok (.aload_n 0, 1) := by decide +kernel
theorem dL_law_556 : decode cL_law 556 = .ok (.iload_n 3, 1) := by decide +kernel
theorem dL_law_557 : decode cL_law 557 = .ok (.iconst 1, 1) := by decide +kernel
theorem dL_law_558 : decode cL_law 558 = .ok (.iadd, 1) := by decide +kernel
theorem dL_law_559 : decode cL_law 559 = .ok (.iaload, 1) := by decide +kernel
theorem dL_law_560 : decode cL_law 560 = .ok (.invokevirtual 81, 3) := by decide +kernel
theorem dL_law_563 : decode cL_law 563 = .ok (.aload_n 2, 1) := by decide +kernel
theorem dL_law_564 : decode cL_law 564 = .ok (.aload_n 0, 1) := by decide +kernel
theorem dL_law_565 : decode cL_law 565 = .ok (.iload_n 3, 1) := by decide +kernel
theorem dL_law_566 : decode cL_law 566 = .ok (.iconst 1, 1) := by decide +kernel
theorem dL_law_567 : decode cL_law 567 = .ok (.iadd, 1) := by decide +kernel
theorem dL_law_568 : decode cL_law 568 = .ok (.iaload, 1) := by decide +kernel
theorem dL_law_569 : decode cL_law 569 = .ok (.invokevirtual 84, 3) := by decide +kernel
theorem dL_law_572 : decode cL_law 572 = .ok (.if_icmp .eq 152, 3) := by decide +kernel
theorem dL_law_575 : decode cL_law 575 = .ok (.iconst 0, 1) := by decide +kernel
theorem dL_law_576 : decode cL_law 576 = .ok (.ireturn, 1) := by decide +kernel
theorem dL_law_577 : decode cL_law 577 = .ok (.aload_n 1, 1) := by decide +kernel
theorem dL_law_578 : decode cL_law 578 = .ok (.aload_n 0, 1) := by decide +kernel
theorem dL_law_579 : decode cL_law 579 = .ok (.iload_n 3, 1) := by decide +kernel
theorem dL_law_580 : decode cL_law 580 = .ok (.iconst 1, 1) := by decide +kernel
theorem dL_law_581 : decode cL_law 581 = .ok (.iadd, 1) := by decide +kernel
theorem dL_law_582 : decode cL_law 582 = .ok (.iaload, 1) := by decide +kernel
theorem dL_law_583 : decode cL_law 583 = .ok (.invokevirtual 85, 3) := by decide +kernel
theorem dL_law_586 : decode cL_law 586 = .ok (.aload_n 2, 1) := by decide +kernel
theorem dL_law_587 : decode cL_law 587 = .ok (.aload_n 0, 1) := by decide +kernel
theorem dL_law_588 : decode cL_law 588 = .ok (.iload_n 3, 1) := by decide +kernel
theorem dL_law_589 : decode cL_law 589 = .ok (.iconst 1, 1) := by decide +kernel
theorem dL_law_590 : decode cL_law 590 = .ok (.iadd, 1) := by decide +kernel
theorem dL_law_591 : decode cL_law 591 = .ok (.iaload, 1) := by decide +kernel
theorem dL_law_592 : decode cL_law 592 = .ok (.invokevirtual 89, 3) := by decide +kernel
theorem dL_law_595 : decode cL_law 595 = .ok (.lcmp, 1) := by decide +kernel
theorem dL_law_596 : decode cL_law 596 = .ok (.ifCond .eq 128, 3) := by decide +kernel
theorem dL_law_599 : decode cL_law 599 = .ok (.iconst 0, 1) := by decide +kernel
theorem dL_law_600 : decode cL_law 600 = .ok (.ireturn, 1) := by decide +kernel
theorem dL_law_601 : decode cL_law 601 = .ok (.aload_n 1, 1) := by decide +kernel
theorem dL_law_602 : decode cL_law 602 = .ok (.aload_n 0, 1) := by decide +kernel
theorem dL_law_603 : decode cL_law 603 = .ok (.iload_n 3, 1) := by decide +kernel
theorem dL_law_604 : decode cL_law 604 = .ok (.iconst 1, 1) := by decide +kernel
theorem dL_law_605 : decode cL_law 605 = .ok (.iadd, 1) := by decide +kernel
theorem dL_law_606 : decode cL_law 606 = .ok (.iaload, 1) := by decide +kernel
theorem dL_law_607 : decode cL_law 607 = .ok (.i2l, 1) := by decide +kernel
theorem dL_law_608 : decode cL_law 608 = .ok (.bipush 32, 2) := by decide +kernel
theorem dL_law_610 : decode cL_law 610 = .ok (.lshl, 1) := by decide +kernel
theorem dL_law_611 : decode cL_law 611 = .ok (.aload_n 0, 1) := by decide +kernel
theorem dL_law_612 : decode cL_law 612 = .ok (.iload_n 3, 1) := by decide +kernel
theorem dL_law_613 : decode cL_law 613 = .ok (.iconst 2, 1) := by decide +kernel
theorem dL_law_614 : decode cL_law 614 = .ok (.iadd, 1) := by decide +kernel
theorem dL_law_615 : decode cL_law 615 = .ok (.iaload, 1) := by decide +kernel
theorem dL_law_616 : decode cL_law 616 = .ok (.i2l, 1) := by decide +kernel
theorem dL_law_617 : decode cL_law 617 = .ok (.ldc2_w 90, 3) := by decide +kernel
theorem dL_law_620 : decode cL_law 620 = .ok (.land, 1) := by decide +kernel
theorem dL_law_621 : decode cL_law 621 = .ok (.lor, 1) := by decide +kernel
theorem dL_law_622 : decode cL_law 622 = .ok (.aload_n 0, 1) := by decide +kernel
theorem dL_law_623 : decode cL_law 623 = .ok (.iload_n 3, 1) := by decide +kernel
theorem dL_law_624 : decode cL_law 624 = .ok (.iconst 3, 1) := by decide +kernel
theorem dL_law_625 : decode cL_law 625 = .ok (.iadd, 1) := by decide +kernel
theorem dL_law_626 : decode cL_law 626 = .ok (.iaload, 1) := by decide +kernel
theorem dL_law_627 : decode cL_law 627 = .ok (.invokevirtual 92, 3) := by decide +kernel
theorem dL_law_630 : decode cL_law 630 = .ok (.aload_n 2, 1) := by decide +kernel
theorem dL_law_631 : decode cL_law 631 = .ok (.aload_n 0, 1) := by decide +kernel
theorem dL_law_632 : decode cL_law 632 = .ok (.iload_n 3, 1) := by decide +kernel
theorem dL_law_633 : decode cL_law 633 = .ok (.iconst 1, 1) := by decide +kernel
theorem dL_law_634 : decode cL_law 634 = .ok (.iadd, 1) := by decide +kernel
theorem dL_law_635 : decode cL_law 635 = .ok (.iaload, 1) := by decide +kernel
theorem dL_law_636 : decode cL_law 636 = .ok (.i2l, 1) := by decide +kernel
theorem dL_law_637 : decode cL_law 637 = .ok (.bipush 32, 2) := by decide +kernel
theorem dL_law_639 : decode cL_law 639 = .ok (.lshl, 1) := by decide +kernel
theorem dL_law_640 : decode cL_law 640 = .ok (.aload_n 0, 1) := by decide +kernel
theorem dL_law_641 : decode cL_law 641 = .ok (.iload_n 3, 1) := by decide +kernel
theorem dL_law_642 : decode cL_law 642 = .ok (.iconst 2, 1) := by decide +kernel
theorem dL_law_643 : decode cL_law 643 = .ok (.iadd, 1) := by decide +kernel
theorem dL_law_644 : decode cL_law 644 = .ok (.iaload, 1) := by decide +kernel
theorem dL_law_645 : decode cL_law 645 = .ok (.i2l, 1) := by decide +kernel
theorem dL_law_646 : decode cL_law 646 = .ok (.ldc2_w 90, 3) := by decide +kernel
theorem dL_law_649 : decode cL_law 649 = .ok (.land, 1) := by decide +kernel
theorem dL_law_650 : decode cL_law 650 = .ok (.lor, 1) := by decide +kernel
theorem dL_law_651 : decode cL_law 651 = .ok (.aload_n 0, 1) := by decide +kernel
theorem dL_law_652 : decode cL_law 652 = .ok (.iload_n 3, 1) := by decide +kernel
theorem dL_law_653 : decode cL_law 653 = .ok (.iconst 3, 1) := by decide +kernel
theorem dL_law_654 : decode cL_law 654 = .ok (.iadd, 1) := by decide +kernel
theorem dL_law_655 : decode cL_law 655 = .ok (.iaload, 1) := by decide +kernel
theorem dL_law_656 : decode cL_law 656 = .ok (.invokevirtual 96, 3) := by decide +kernel
theorem dL_law_659 : decode cL_law 659 = .ok (.if_icmp .eq 65, 3) := by decide +kernel
theorem dL_law_662 : decode cL_law 662 = .ok (.iconst 0, 1) := by decide +kernel
theorem dL_law_663 : decode cL_law 663 = .ok (.ireturn, 1) := by decide +kernel
theorem dL_law_664 : decode cL_law 664 = .ok (.aload_n 1, 1) := by decide +kernel
theorem dL_law_665 : decode cL_law 665 = .ok (.invokevirtual 97, 3) := by decide +kernel
theorem dL_law_668 : decode cL_law 668 = .ok (.aload_n 2, 1) := by decide +kernel
theorem dL_law_669 : decode cL_law 669 = .ok (.invokevirtual 101, 3) := by decide +kernel
theorem dL_law_672 : decode cL_law 672 = .ok (.lcmp, 1) := by decide +kernel
theorem dL_law_673 : decode cL_law 673 = .ok (.ifCond .eq 51, 3) := by decide +kernel
theorem dL_law_676 : decode cL_law 676 = .ok (.iconst 0, 1) := by decide +kernel
theorem dL_law_677 : decode cL_law 677 = .ok (.ireturn, 1) := by decide +kernel
theorem dL_law_678 : decode cL_law 678 = .ok (.aload_n 1, 1) := by decide +kernel
theorem dL_law_679 : decode cL_law 679 = .ok (.aload_n 0, 1) := by decide +kernel
theorem dL_law_680 : decode cL_law 680 = .ok (.iload_n 3, 1) := by decide +kernel
theorem dL_law_681 : decode cL_law 681 = .ok (.iconst 1, 1) := by decide +kernel
theorem dL_law_682 : decode cL_law 682 = .ok (.iadd, 1) := by decide +kernel
theorem dL_law_683 : decode cL_law 683 = .ok (.iaload, 1) := by decide +kernel
theorem dL_law_684 : decode cL_law 684 = .ok (.invokevirtual 102, 3) := by decide +kernel
theorem dL_law_687 : decode cL_law 687 = .ok (.aload_n 2, 1) := by decide +kernel
theorem dL_law_688 : decode cL_law 688 = .ok (.aload_n 0, 1) := by decide +kernel
theorem dL_law_689 : decode cL_law 689 = .ok (.iload_n 3, 1) := by decide +kernel
theorem dL_law_690 : decode cL_law 690 = .ok (.iconst 1, 1) := by decide +kernel
theorem dL_law_691 : decode cL_law 691 = .ok (.iadd, 1) := by decide +kernel
theorem dL_law_692 : decode cL_law 692 = .ok (.iaload, 1) := by decide +kernel
theorem dL_law_693 : decode cL_law 693 = .ok (.invokevirtual 105, 3) := by decide +kernel
theorem dL_law_696 : decode cL_law 696 = .ok (.if_icmp .eq 28, 3) := by decide +kernel
theorem dL_law_699 : decode cL_law 699 = .ok (.iconst 0, 1) := by decide +kernel
theorem dL_law_700 : decode cL_law 700 = .ok (.ireturn, 1) := by decide +kernel
theorem dL_law_701 : decode cL_law 701 = .ok (.aload_n 1, 1) := by decide +kernel
theorem dL_law_702 : decode cL_law 702 = .ok (.aload_n 0, 1) := by decide +kernel
theorem dL_law_703 : decode cL_law 703 = .ok (.iload_n 3, 1) := by decide +kernel
theorem dL_law_704 : decode cL_law 704 = .ok (.iconst 1, 1) := by decide +kernel
theorem dL_law_705 : decode cL_law 705 = .ok (.iadd, 1) := by decide +kernel
theorem dL_law_706 : decode cL_law 706 = .ok (.iaload, 1) := by decide +kernel
theorem dL_law_707 : decode cL_law 707 = .ok (.invokevirtual 106, 3) := by decide +kernel
theorem dL_law_710 : decode cL_law 710 = .ok (.aload_n 2, 1) := by decide +kernel
theorem dL_law_711 : decode cL_law 711 = .ok (.aload_n 0, 1) := by decide +kernel
theorem dL_law_712 : decode cL_law 712 = .ok (.iload_n 3, 1) := by decide +kernel
theorem dL_law_713 : decode cL_law 713 = .ok (.iconst 1, 1) := by decide +kernel
theorem dL_law_714 : decode cL_law 714 = .ok (.iadd, 1) := by decide +kernel
theorem dL_law_715 : decode cL_law 715 = .ok (.iaload, 1) := by decide +kernel
theorem dL_law_716 : decode cL_law 716 = .ok (.invokevirtual 109, 3) := by decide +kernel
theorem dL_law_719 : decode cL_law 719 = .ok (.if_icmp .eq 5, 3) := by decide +kernel
theorem dL_law_722 : decode cL_law 722 = .ok (.iconst 0, 1) := by decide +kernel
theorem dL_law_723 : decode cL_law 723 = .ok (.ireturn, 1) := by decide +kernel
theorem dL_law_724 : decode cL_law 724 = .ok (.iinc 3 4, 3) := by decide +kernel
theorem dL_law_727 : decode cL_law 727 = .ok (.goto (-709), 3) := by decide +kernel
theorem dL_law_730 : decode cL_law 730 = .ok (.iconst 1, 1) := by decide +kernel
theorem dL_law_731 : decode cL_law 731 = .ok (.ireturn, 1) := by decide +kernel
