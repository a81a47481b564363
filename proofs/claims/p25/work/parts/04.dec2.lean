theorem dX6_formNormal_11 : decode cX6_formNormal 11 = .ok (.getfield 22, 3) := by decide +kernel
theorem dX6_formNormal_14 : decode cX6_formNormal 14 = .ok (.getfield 79, 3) := by decide +kernel
theorem dX6_formNormal_17 : decode cX6_formNormal 17 = .ok (.if_icmp .ge 98, 3) := by decide +kernel
theorem dX6_formNormal_20 : decode cX6_formNormal 20 = .ok (.iconst 0, 1) := by decide +kernel
theorem dX6_formNormal_21 : decode cX6_formNormal 21 = .ok (.istore_n 2, 1) := by decide +kernel
theorem dX6_formNormal_22 : decode cX6_formNormal 22 = .ok (.iload_n 2, 1) := by decide +kernel
theorem dX6_formNormal_23 : decode cX6_formNormal 23 = .ok (.aload_n 0, 1) := by decide +kernel
theorem dX6_formNormal_24 : decode cX6_formNormal 24 = .ok (.getfield 44, 3) := by decide +kernel
theorem dX6_formNormal_27 : decode cX6_formNormal 27 = .ok (.getfield 197, 3) := by decide +kernel
theorem dX6_formNormal_30 : decode cX6_formNormal 30 = .ok (.if_icmp .ge 79, 3) := by decide +kernel
theorem dX6_formNormal_33 : decode cX6_formNormal 33 = .ok (.aload_n 0, 1) := by decide +kernel
theorem dX6_formNormal_34 : decode cX6_formNormal 34 = .ok (.getfield 44, 3) := by decide +kernel
theorem dX6_formNormal_37 : decode cX6_formNormal 37 = .ok (.iload_n 2, 1) := by decide +kernel
theorem dX6_formNormal_38 : decode cX6_formNormal 38 = .ok (.invokevirtual 188, 3) := by decide +kernel
theorem dX6_formNormal_41 : decode cX6_formNormal 41 = .ok (.iload_n 1, 1) := by decide +kernel
theorem dX6_formNormal_42 : decode cX6_formNormal 42 = .ok (.if_icmp .ne 61, 3) := by decide +kernel
theorem dX6_formNormal_45 : decode cX6_formNormal 45 = .ok (.aload_n 0, 1) := by decide +kernel
theorem dX6_formNormal_46 : decode cX6_formNormal 46 = .ok (.getfield 16, 3) := by decide +kernel
theorem dX6_formNormal_49 : decode cX6_formNormal 49 = .ok (.getfield 62, 3) := by decide +kernel
theorem dX6_formNormal_52 : decode cX6_formNormal 52 = .ok (.ifCond .le 28, 3) := by decide +kernel
theorem dX6_formNormal_55 : decode cX6_formNormal 55 = .ok (.aload_n 0, 1) := by decide +kernel
theorem dX6_formNormal_56 : decode cX6_formNormal 56 = .ok (.getfield 22, 3) := by decide +kernel
theorem dX6_formNormal_59 : decode cX6_formNormal 59 = .ok (.getfield 114, 3) := by decide +kernel
theorem dX6_formNormal_62 : decode cX6_formNormal 62 = .ok (.ifCond .eq 18, 3) := by decide +kernel
theorem dX6_formNormal_65 : decode cX6_formNormal 65 = .ok (.aload_n 0, 1) := by decide +kernel
theorem dX6_formNormal_66 : decode cX6_formNormal 66 = .ok (.getfield 16, 3) := by decide +kernel
theorem dX6_formNormal_69 : decode cX6_formNormal 69 = .ok (.aload_n 0, 1) := by decide +kernel
theorem dX6_formNormal_70 : decode cX6_formNormal 70 = .ok (.getfield 22, 3) := by decide +kernel
theorem dX6_formNormal_73 : decode cX6_formNormal 73 = .ok (.getfield 114, 3) := by decide +kernel
theorem dX6_formNormal_76 : decode cX6_formNormal 76 = .ok (.invokevirtual 55, 3) := by decide +kernel
theorem dX6_formNormal_79 : decode cX6_formNormal 79 = .ok (.pop, 1) := by decide +kernel
theorem dX6_formNormal_80 : decode cX6_formNormal 80 = .ok (.aload_n 0, 1) := by decide +kernel
theorem dX6_formNormal_81 : decode cX6_formNormal 81 = .ok (.getfield 16, 3) := by decide +kernel
theorem dX6_formNormal_84 : decode cX6_formNormal 84 = .ok (.aload_n 0, 1) := by decide +kernel
theorem dX6_formNormal_85 : decode cX6_formNormal 85 = .ok (.getfield 22, 3) := by decide +kernel
theorem dX6_formNormal_88 : decode cX6_formNormal 88 = .ok (.iload_n 1, 1) := by decide +kernel
theorem dX6_formNormal_89 : decode cX6_formNormal 89 = .ok (.invokevirtual 96, 3) := by decide +kernel
theorem dX6_formNormal_92 : decode cX6_formNormal 92 = .ok (.aload_n 0, 1) := by decide +kernel
theorem dX6_formNormal_93 : decode cX6_formNormal 93 = .ok (.getfield 44, 3) := by decide +kernel
theorem dX6_formNormal_96 : decode cX6_formNormal 96 = .ok (.iload_n 2, 1) := by decide +kernel
theorem dX6_formNormal_97 : decode cX6_formNormal 97 = .ok (.invokevirtual 194, 3) := by decide +kernel
theorem dX6_formNormal_100 : decode cX6_formNormal 100 = .ok (.invokevirtual 209, 3) := by decide +kernel
theorem dX6_formNormal_103 : decode cX6_formNormal 103 = .ok (.iinc 2 1, 3) := by decide +kernel
theorem dX6_formNormal_106 : decode cX6_formNormal 106 = .ok (.goto (-84), 3) := by decide +kernel
theorem dX6_formNormal_109 : decode cX6_formNormal 109 = .ok (.iinc 1 1, 3) := by decide +kernel
theorem dX6_formNormal_112 : decode cX6_formNormal 112 = .ok (.goto (-103), 3) := by decide +kernel
theorem dX6_formNormal_115 : decode cX6_formNormal 115 = .ok (.return_, 1) := by decide +kernel
theorem dX6_orders_0 : decode cX6_orders 0 = .ok (.iload_n 1, 1) := by decide +kernel
theorem dX6_orders_1 : decode cX6_orders 1 = .ok (.iconst (-1), 1) := by decide +kernel
theorem dX6_orders_2 : decode cX6_orders 2 = .ok (.if_icmp .lt 9, 3) := by decide +kernel
theorem dX6_orders_5 : decode cX6_orders 5 = .ok (.iload_n 1, 1) := by decide +kernel
theorem dX6_orders_6 : decode cX6_orders 6 = .ok (.bipush 18, 2) := by decide +kernel
theorem dX6_orders_8 : decode cX6_orders 8 = .ok (.if_icmp .le 7, 3) := by decide +kernel
theorem dX6_orders_11 : decode cX6_orders 11 = .ok (.ldc2_w 213, 3) := by decide +kernel
theorem dX6_orders_14 : decode cX6_orders 14 = .ok (.lreturn, 1) := by decide +kernel
theorem dX6_orders_15 : decode cX6_orders 15 = .ok (.aload_n 0, 1) := by decide +kernel
theorem dX6_orders_16 : decode cX6_orders 16 = .ok (.getfield 51, 3) := by decide +kernel
theorem dX6_orders_19 : decode cX6_orders 19 = .ok (.aload_n 0, 1) := by decide +kernel
theorem dX6_orders_20 : decode cX6_orders 20 = .ok (.getfield 22, 3) := by decide +kernel
theorem dX6_orders_23 : decode cX6_orders 23 = .ok (.iload_n 1, 1) := by decide +kernel
theorem dX6_orders_24 : decode cX6_orders 24 = .ok (.invokevirtual 215, 3) := by decide +kernel
theorem dX6_orders_27 : decode cX6_orders 27 = .ok (.aload_n 0, 1) := by decide +kernel
theorem dX6_orders_28 : decode cX6_orders 28 = .ok (.getfield 51, 3) := by decide +kernel
theorem dX6_orders_31 : decode cX6_orders 31 = .ok (.iconst 0, 1) := by decide +kernel
theorem dX6_orders_32 : decode cX6_orders 32 = .ok (.invokevirtual 218, 3) := by decide +kernel
theorem dX6_orders_35 : decode cX6_orders 35 = .ok (.lreturn, 1) := by decide +kernel
theorem dX6_order_0 : decode cX6_order 0 = .ok (.lload_n 1, 1) := by decide +kernel
theorem dX6_order_1 : decode cX6_order 1 = .ok (.lconst 0, 1) := by decide +kernel
theorem dX6_order_2 : decode cX6_order 2 = .ok (.lcmp, 1) := by decide +kernel
theorem dX6_order_3 : decode cX6_order 3 = .ok (.ifCond .lt 7, 3) := by decide +kernel
theorem dX6_order_6 : decode cX6_order 6 = .ok (.iload_n 3, 1) := by decide +kernel
theorem dX6_order_7 : decode cX6_order 7 = .ok (.ifCond .ge 5, 3) := by decide +kernel
theorem dX6_order_10 : decode cX6_order 10 = .ok (.iconst (-1), 1) := by decide +kernel
theorem dX6_order_11 : decode cX6_order 11 = .ok (.ireturn, 1) := by decide +kernel
theorem dX6_order_12 : decode cX6_order 12 = .ok (.aload_n 0, 1) := by decide +kernel
theorem dX6_order_13 : decode cX6_order 13 = .ok (.getfield 51, 3) := by decide +kernel
theorem dX6_order_16 : decode cX6_order 16 = .ok (.aload_n 0, 1) := by decide +kernel
theorem dX6_order_17 : decode cX6_order 17 = .ok (.getfield 22, 3) := by decide +kernel
theorem dX6_order_20 : decode cX6_order 20 = .ok (.iconst (-1), 1) := by decide +kernel
theorem dX6_order_21 : decode cX6_order 21 = .ok (.invokevirtual 215, 3) := by decide +kernel
theorem dX6_order_24 : decode cX6_order 24 = .ok (.aload_n 0, 1) := by decide +kernel
theorem dX6_order_25 : decode cX6_order 25 = .ok (.getfield 51, 3) := by decide +kernel
theorem dX6_order_28 : decode cX6_order 28 = .ok (.aload_n 0, 1) := by decide +kernel
theorem dX6_order_29 : decode cX6_order 29 = .ok (.getfield 22, 3) := by decide +kernel
theorem dX6_order_32 : decode cX6_order 32 = .ok (.lload_n 1, 1) := by decide +kernel
theorem dX6_order_33 : decode cX6_order 33 = .ok (.iload_n 3, 1) := by decide +kernel
theorem dX6_order_34 : decode cX6_order 34 = .ok (.invokevirtual 221, 3) := by decide +kernel
theorem dX6_order_37 : decode cX6_order 37 = .ok (.ireturn, 1) := by decide +kernel
theorem dX6_rank_0 : decode cX6_rank 0 = .ok (.aload_n 0, 1) := by decide +kernel
theorem dX6_rank_1 : decode cX6_rank 1 = .ok (.getfield 44, 3) := by decide +kernel
theorem dX6_rank_4 : decode cX6_rank 4 = .ok (.aload_n 0, 1) := by decide +kernel
theorem dX6_rank_5 : decode cX6_rank 5 = .ok (.getfield 22, 3) := by decide +kernel
theorem dX6_rank_8 : decode cX6_rank 8 = .ok (.aload_n 0, 1) := by decide +kernel
theorem dX6_rank_9 : decode cX6_rank 9 = .ok (.getfield 10, 3) := by decide +kernel
theorem dX6_rank_12 : decode cX6_rank 12 = .ok (.invokevirtual 164, 3) := by decide +kernel
theorem dX6_rank_15 : decode cX6_rank 15 = .ok (.aload_n 0, 1) := by decide +kernel
theorem dX6_rank_16 : decode cX6_rank 16 = .ok (.getfield 44, 3) := by decide +kernel
theorem dX6_rank_19 : decode cX6_rank 19 = .ok (.invokevirtual 168, 3) := by decide +kernel
theorem dX6_rank_22 : decode cX6_rank 22 = .ok (.ifCond .ne 7, 3) := by decide +kernel
theorem dX6_rank_25 : decode cX6_rank 25 = .ok (.ldc2_w 225, 3) := by decide +kernel
theorem dX6_rank_28 : decode cX6_rank 28 = .ok (.lreturn, 1) := by decide +kernel
theorem dX6_rank_29 : decode cX6_rank 29 = .ok (.aload_n 0, 1) := by decide +kernel
theorem dX6_rank_30 : decode cX6_rank 30 = .ok (.getfield 51, 3) := by decide +kernel
theorem dX6_rank_33 : decode cX6_rank 33 = .ok (.aload_n 0, 1) := by decide +kernel
theorem dX6_rank_34 : decode cX6_rank 34 = .ok (.getfield 22, 3) := by decide +kernel
theorem dX6_rank_37 : decode cX6_rank 37 = .ok (.iconst (-1), 1) := by decide +kernel
theorem dX6_rank_38 : decode cX6_rank 38 = .ok (.invokevirtual 215, 3) := by decide +kernel
theorem dX6_rank_41 : decode cX6_rank 41 = .ok (.aload_n 0, 1) := by decide +kernel
theorem dX6_rank_42 : decode cX6_rank 42 = .ok (.getfield 51, 3) := by decide +kernel
theorem dX6_rank_45 : decode cX6_rank 45 = .ok (.aload_n 0, 1) := by decide +kernel
theorem dX6_rank_46 : decode cX6_rank 46 = .ok (.getfield 22, 3) := by decide +kernel
theorem dX6_rank_49 : decode cX6_rank 49 = .ok (.aload_n 0, 1) := by decide +kernel
theorem dX6_rank_50 : decode cX6_rank 50 = .ok (.getfield 44, 3) := by decide +kernel
theorem dX6_rank_53 : decode cX6_rank 53 = .ok (.invokevirtual 227, 3) := by decide +kernel
theorem dX6_rank_56 : decode cX6_rank 56 = .ok (.lreturn, 1) := by decide +kernel
theorem dX6_keep_0 : decode cX6_keep 0 = .ok (.aload_n 0, 1) := by decide +kernel
theorem dX6_keep_1 : decode cX6_keep 1 = .ok (.iload_n 1, 1) := by decide +kernel
theorem dX6_keep_2 : decode cX6_keep 2 = .ok (.invokevirtual 231, 3) := by decide +kernel
theorem dX6_keep_5 : decode cX6_keep 5 = .ok (.ifCond .ne 5, 3) := by decide +kernel
theorem dX6_keep_8 : decode cX6_keep 8 = .ok (.iconst (-1), 1) := by decide +kernel
theorem dX6_keep_9 : decode cX6_keep 9 = .ok (.ireturn, 1) := by decide +kernel
theorem dX6_keep_10 : decode cX6_keep 10 = .ok (.aload_n 0, 1) := by decide +kernel
theorem dX6_keep_11 : decode cX6_keep 11 = .ok (.getfield 33, 3) := by decide +kernel
theorem dX6_keep_14 : decode cX6_keep 14 = .ok (.iload_n 1, 1) := by decide +kernel
theorem dX6_keep_15 : decode cX6_keep 15 = .ok (.aaload, 1) := by decide +kernel
theorem dX6_keep_16 : decode cX6_keep 16 = .ok (.aload_n 0, 1) := by decide +kernel
theorem dX6_keep_17 : decode cX6_keep 17 = .ok (.getfield 22, 3) := by decide +kernel
theorem dX6_keep_20 : decode cX6_keep 20 = .ok (.invokevirtual 234, 3) := by decide +kernel
theorem dX6_keep_23 : decode cX6_keep 23 = .ok (.aload_n 0, 1) := by decide +kernel
theorem dX6_keep_24 : decode cX6_keep 24 = .ok (.getfield 37, 3) := by decide +kernel
theorem dX6_keep_27 : decode cX6_keep 27 = .ok (.iload_n 1, 1) := by decide +kernel
theorem dX6_keep_28 : decode cX6_keep 28 = .ok (.iconst 1, 1) := by decide +kernel
theorem dX6_keep_29 : decode cX6_keep 29 = .ok (.bastore, 1) := by decide +kernel
theorem dX6_keep_30 : decode cX6_keep 30 = .ok (.aload_n 0, 1) := by decide +kernel
theorem dX6_keep_31 : decode cX6_keep 31 = .ok (.getfield 22, 3) := by decide +kernel
theorem dX6_keep_34 : decode cX6_keep 34 = .ok (.getfield 79, 3) := by decide +kernel
theorem dX6_keep_37 : decode cX6_keep 37 = .ok (.ireturn, 1) := by decide +kernel
theorem dX6_back_0 : decode cX6_back 0 = .ok (.aload_n 0, 1) := by decide +kernel
theorem dX6_back_1 : decode cX6_back 1 = .ok (.iload_n 1, 1) := by decide +kernel
theorem dX6_back_2 : decode cX6_back 2 = .ok (.invokevirtual 231, 3) := by decide +kernel
theorem dX6_back_5 : decode cX6_back 5 = .ok (.ifCond .ne 5, 3) := by decide +kernel
theorem dX6_back_8 : decode cX6_back 8 = .ok (.iconst (-1), 1) := by decide +kernel
theorem dX6_back_9 : decode cX6_back 9 = .ok (.ireturn, 1) := by decide +kernel
theorem dX6_back_10 : decode cX6_back 10 = .ok (.aload_n 0, 1) := by decide +kernel
theorem dX6_back_11 : decode cX6_back 11 = .ok (.getfield 37, 3) := by decide +kernel
theorem dX6_back_14 : decode cX6_back 14 = .ok (.iload_n 1, 1) := by decide +kernel
theorem dX6_back_15 : decode cX6_back 15 = .ok (.baload, 1) := by decide +kernel
theorem dX6_back_16 : decode cX6_back 16 = .ok (.ifCond .ne 6, 3) := by decide +kernel
theorem dX6_back_19 : decode cX6_back 19 = .ok (.bipush (-2), 2) := by decide +kernel
theorem dX6_back_21 : decode cX6_back 21 = .ok (.ireturn, 1) := by decide +kernel
theorem dX6_back_22 : decode cX6_back 22 = .ok (.aload_n 0, 1) := by decide +kernel
theorem dX6_back_23 : decode cX6_back 23 = .ok (.invokevirtual 82, 3) := by decide +kernel
theorem dX6_back_26 : decode cX6_back 26 = .ok (.aload_n 0, 1) := by decide +kernel
theorem dX6_back_27 : decode cX6_back 27 = .ok (.getfield 22, 3) := by decide +kernel
theorem dX6_back_30 : decode cX6_back 30 = .ok (.aload_n 0, 1) := by decide +kernel
theorem dX6_back_31 : decode cX6_back 31 = .ok (.getfield 33, 3) := by decide +kernel
theorem dX6_back_34 : decode cX6_back 34 = .ok (.iload_n 1, 1) := by decide +kernel
theorem dX6_back_35 : decode cX6_back 35 = .ok (.aaload, 1) := by decide +kernel
theorem dX6_back_36 : decode cX6_back 36 = .ok (.invokevirtual 234, 3) := by decide +kernel
theorem dX6_back_39 : decode cX6_back 39 = .ok (.aload_n 0, 1) := by decide +kernel
theorem dX6_back_40 : decode cX6_back 40 = .ok (.getfield 22, 3) := by decide +kernel
theorem dX6_back_43 : decode cX6_back 43 = .ok (.getfield 79, 3) := by decide +kernel
theorem dX6_back_46 : decode cX6_back 46 = .ok (.ireturn, 1) := by decide +kernel
theorem dX6_isImage_0 : decode cX6_isImage 0 = .ok (.iload_n 1, 1) := by decide +kernel
theorem dX6_isImage_1 : decode cX6_isImage 1 = .ok (.ifCond .lt 25, 3) := by decide +kernel
theorem dX6_isImage_4 : decode cX6_isImage 4 = .ok (.iload_n 1, 1) := by decide +kernel
theorem dX6_isImage_5 : decode cX6_isImage 5 = .ok (.aload_n 0, 1) := by decide +kernel
theorem dX6_isImage_6 : decode cX6_isImage 6 = .ok (.getfield 33, 3) := by decide +kernel
theorem dX6_isImage_9 : decode cX6_isImage 9 = .ok (.arraylength, 1) := by decide +kernel
theorem dX6_isImage_10 : decode cX6_isImage 10 = .ok (.if_icmp .ge 16, 3) := by decide +kernel
theorem dX6_isImage_13 : decode cX6_isImage 13 = .ok (.iload_n 1, 1) := by decide +kernel
theorem dX6_isImage_14 : decode cX6_isImage 14 = .ok (.aload_n 0, 1) := by decide +kernel
theorem dX6_isImage_15 : decode cX6_isImage 15 = .ok (.getfield 37, 3) := by decide +kernel
theorem dX6_isImage_18 : decode cX6_isImage 18 = .ok (.arraylength, 1) := by decide +kernel
theorem dX6_isImage_19 : decode cX6_isImage 19 = .ok (.if_icmp .ge 7, 3) := by decide +kernel
theorem dX6_isImage_22 : decode cX6_isImage 22 = .ok (.iconst 1, 1) := by decide +kernel
theorem dX6_isImage_23 : decode cX6_isImage 23 = .ok (.goto 4, 3) := by decide +kernel
theorem dX6_isImage_26 : decode cX6_isImage 26 = .ok (.iconst 0, 1) := by decide +kernel
theorem dX6_isImage_27 : decode cX6_isImage 27 = .ok (.ireturn, 1) := by decide +kernel
theorem dX6_isKind_0 : decode cX6_isKind 0 = .ok (.iload_n 0, 1) := by decide +kernel
theorem dX6_isKind_1 : decode cX6_isKind 1 = .ok (.ifCond .eq 13, 3) := by decide +kernel
theorem dX6_isKind_4 : decode cX6_isKind 4 = .ok (.iload_n 0, 1) := by decide +kernel
theorem dX6_isKind_5 : decode cX6_isKind 5 = .ok (.iconst 1, 1) := by decide +kernel
theorem dX6_isKind_6 : decode cX6_isKind 6 = .ok (.if_icmp .eq 8, 3) := by decide +kernel
theorem dX6_isKind_9 : decode cX6_isKind 9 = .ok (.iload_n 0, 1) := by decide +kernel
theorem dX6_isKind_10 : decode cX6_isKind 10 = .ok (.iconst 2, 1) := by decide +kernel
theorem dX6_isKind_11 : decode cX6_isKind 11 = .ok (.if_icmp .ne 7, 3) := by decide +kernel
theorem dX6_isKind_14 : decode cX6_isKind 14 = .ok (.iconst 1, 1) := by decide +kernel
theorem dX6_isKind_15 : decode cX6_isKind 15 = .ok (.goto 4, 3) := by decide +kernel
theorem dX6_isKind_18 : decode cX6_isKind 18 = .ok (.iconst 0, 1) := by decide +kernel
theorem dX6_isKind_19 : decode cX6_isKind 19 = .ok (.ireturn, 1) := by decide +kernel
theorem dX6_isDigit_0 : decode cX6_isDigit 0 = .ok (.iload_n 0, 1) := by decide +kernel
theorem dX6_isDigit_1 : decode cX6_isDigit 1 = .ok (.bipush 48, 2) := by decide +kernel
theorem dX6_isDigit_3 : decode cX6_isDigit 3 = .ok (.if_icmp .lt 13, 3) := by decide +kernel
theorem dX6_isDigit_6 : decode cX6_isDigit 6 = .ok (.iload_n 0, 1) := by decide +kernel
theorem dX6_isDigit_7 : decode cX6_isDigit 7 = .ok (.bipush 57, 2) := by decide +kernel
theorem dX6_isDigit_9 : decode cX6_isDigit 9 = .ok (.if_icmp .gt 7, 3) := by decide +kernel
theorem dX6_isDigit_12 : decode cX6_isDigit 12 = .ok (.iconst 1, 1) := by decide +kernel
theorem dX6_isDigit_13 : decode cX6_isDigit 13 = .ok (.goto 4, 3) := by decide +kernel
theorem dX6_isDigit_16 : decode cX6_isDigit 16 = .ok (.iconst 0, 1) := by decide +kernel
theorem dX6_isDigit_17 : decode cX6_isDigit 17 = .ok (.ireturn, 1) := by decide +kernel
theorem dX6_isSmallLetter_0 : decode cX6_isSmallLetter 0 = .ok (.iload_n 0, 1) := by decide +kernel
theorem dX6_isSmallLetter_1 : decode cX6_isSmallLetter 1 = .ok (.bipush 97, 2) := by decide +kernel
theorem dX6_isSmallLetter_3 : decode cX6_isSmallLetter 3 = .ok (.if_icmp .lt 13, 3) := by decide +kernel
theorem dX6_isSmallLetter_6 : decode cX6_isSmallLetter 6 = .ok (.iload_n 0, 1) := by decide +kernel
theorem dX6_isSmallLetter_7 : decode cX6_isSmallLetter 7 = .ok (.bipush 122, 2) := by decide +kernel
theorem dX6_isSmallLetter_9 : decode cX6_isSmallLetter 9 = .ok (.if_icmp .gt 7, 3) := by decide +kernel
theorem dX6_isSmallLetter_12 : decode cX6_isSmallLetter 12 = .ok (.iconst 1, 1) := by decide +kernel
theorem dX6_isSmallLetter_13 : decode cX6_isSmallLetter 13 = .ok (.goto 4, 3) := by decide +kernel
theorem dX6_isSmallLetter_16 : decode cX6_isSmallLetter 16 = .ok (.iconst 0, 1) := by decide +kernel
theorem dX6_isSmallLetter_17 : decode cX6_isSmallLetter 17 = .ok (.ireturn, 1) := by decide +kernel
theorem dX6_isCapital_0 : decode cX6_isCapital 0 = .ok (.iload_n 0, 1) := by decide +kernel
theorem dX6_isCapital_1 : decode cX6_isCapital 1 = .ok (.bipush 65, 2) := by decide +kernel
theorem dX6_isCapital_3 : decode cX6_isCapital 3 = .ok (.if_icmp .lt 13, 3) := by decide +kernel
theorem dX6_isCapital_6 : decode cX6_isCapital 6 = .ok (.iload_n 0, 1) := by decide +kernel
theorem dX6_isCapital_7 : decode cX6_isCapital 7 = .ok (.bipush 90, 2) := by decide +kernel
theorem dX6_isCapital_9 : decode cX6_isCapital 9 = .ok (.if_icmp .gt 7, 3) := by decide +kernel
theorem dX6_isCapital_12 : decode cX6_isCapital 12 = .ok (.iconst 1, 1) := by decide +kernel
theorem dX6_isCapital_13 : decode cX6_isCapital 13 = .ok (.goto 4, 3) := by decide +kernel
theorem dX6_isCapital_16 : decode cX6_isCapital 16 = .ok (.iconst 0, 1) := by decide +kernel
theorem dX6_isCapital_17 : decode cX6_isCapital 17 = .ok (.ireturn, 1) := by decide +kernel
theorem dX6_bitOf_0 : decode cX6_bitOf 0 = .ok (.iload_n 0, 1) := by decide +kernel
theorem dX6_bitOf_1 : decode cX6_bitOf 1 = .ok (.iload_n 1, 1) := by decide +kernel
theorem dX6_bitOf_2 : decode cX6_bitOf 2 = .ok (.ishr, 1) := by decide +kernel
theorem dX6_bitOf_3 : decode cX6_bitOf 3 = .ok (.iconst 1, 1) := by decide +kernel
theorem dX6_bitOf_4 : decode cX6_bitOf 4 = .ok (.iand, 1) := by decide +kernel
theorem dX6_bitOf_5 : decode cX6_bitOf 5 = .ok (.ireturn, 1) := by decide +kernel
theorem dX6_withBit_0 : decode cX6_withBit 0 = .ok (.iload_n 0, 1) := by decide +kernel
theorem dX6_withBit_1 : decode cX6_withBit 1 = .ok (.iconst 1, 1) := by decide +kernel
theorem dX6_withBit_2 : decode cX6_withBit 2 = .ok (.iload_n 1, 1) := by decide +kernel
theorem dX6_withBit_3 : decode cX6_withBit 3 = .ok (.ishl, 1) := by decide +kernel
theorem dX6_withBit_4 : decode cX6_withBit 4 = .ok (.iconst (-1), 1) := by decide +kernel
theorem dX6_withBit_5 : decode cX6_withBit 5 = .ok (.ixor, 1) := by decide +kernel
theorem dX6_withBit_6 : decode cX6_withBit 6 = .ok (.iand, 1) := by decide +kernel
theorem dX6_withBit_7 : decode cX6_withBit 7 = .ok (.iload_n 2, 1) := by decide +kernel
theorem dX6_withBit_8 : decode cX6_withBit 8 = .ok (.iload_n 1, 1) := by decide +kernel
theorem dX6_withBit_9 : decode cX6_withBit 9 = .ok (.ishl, 1) := by decide +kernel
theorem dX6_withBit_10 : decode cX6_withBit 10 = .ok (.ior, 1) := by decide +kernel
theorem dX6_withBit_11 : decode cX6_withBit 11 = .ok (.ireturn, 1) := by decide +kernel
theorem dX6_bitsBelow_0 : decode cX6_bitsBelow 0 = .ok (.iload_n 0, 1) := by decide +kernel
theorem dX6_bitsBelow_1 : decode cX6_bitsBelow 1 = .ok (.iconst 1, 1) := by decide +kernel
theorem dX6_bitsBelow_2 : decode cX6_bitsBelow 2 = .ok (.iload_n 1, 1) := by decide +kernel
theorem dX6_bitsBelow_3 : decode cX6_bitsBelow 3 = .ok (.ishl, 1) := by decide +kernel
theorem dX6_bitsBelow_4 : decode cX6_bitsBelow 4 = .ok (.iconst 1, 1) := by decide +kernel
theorem dX6_bitsBelow_5 : decode cX6_bitsBelow 5 = .ok (.isub, 1) := by decide +kernel
theorem dX6_bitsBelow_6 : decode cX6_bitsBelow 6 = .ok (.iand, 1) := by decide +kernel
theorem dX6_bitsBelow_7 : decode cX6_bitsBelow 7 = .ok (.ireturn, 1) := by decide +kernel
theorem dX6_withBitMoved_0 : decode cX6_withBitMoved 0 = .ok (.iload_n 0, 1) := by decide +kernel
theorem dX6_withBitMoved_1 : decode cX6_withBitMoved 1 = .ok (.iload_n 1, 1) := by decide +kernel
theorem dX6_withBitMoved_2 : decode cX6_withBitMoved 2 = .ok (.invokestatic 237, 3) := by decide +kernel
theorem dX6_withBitMoved_5 : decode cX6_withBitMoved 5 = .ok (.iload_n 0, 1) := by decide +kernel
theorem dX6_withBitMoved_6 : decode cX6_withBitMoved 6 = .ok (.iload_n 1, 1) := by decide +kernel
theorem dX6_withBitMoved_7 : decode cX6_withBitMoved 7 = .ok (.iconst 1, 1) := by decide +kernel
theorem dX6_withBitMoved_8 : decode cX6_withBitMoved 8 = .ok (.iadd, 1) := by decide +kernel
theorem dX6_withBitMoved_9 : decode cX6_withBitMoved 9 = .ok (.ishr, 1) := by decide +kernel
theorem dX6_withBitMoved_10 : decode cX6_withBitMoved 10 = .ok (.iload_n 1, 1) := by decide +kernel
theorem dX6_withBitMoved_11 : decode cX6_withBitMoved 11 = .ok (.ishl, 1) := by decide +kernel
theorem dX6_withBitMoved_12 : decode cX6_withBitMoved 12 = .ok (.ior, 1) := by decide +kernel
theorem dX6_withBitMoved_13 : decode cX6_withBitMoved 13 = .ok (.istore_n 3, 1) := by decide +kernel
theorem dX6_withBitMoved_14 : decode cX6_withBitMoved 14 = .ok (.iload_n 3, 1) := by decide +kernel
theorem dX6_withBitMoved_15 : decode cX6_withBitMoved 15 = .ok (.iload_n 2, 1) := by decide +kernel
theorem dX6_withBitMoved_16 : decode cX6_withBitMoved 16 = .ok (.invokestatic 237, 3) := by decide +kernel
theorem dX6_withBitMoved_19 : decode cX6_withBitMoved 19 = .ok (.iload_n 0, 1) := by decide +kernel
theorem dX6_withBitMoved_20 : decode cX6_withBitMoved 20 = .ok (.iload_n 1, 1) := by decide +kernel
theorem dX6_withBitMoved_21 : decode cX6_withBitMoved 21 = .ok (.invokestatic 120, 3) := by decide +kernel
theorem dX6_withBitMoved_24 : decode cX6_withBitMoved 24 = .ok (.iload_n 2, 1) := by decide +kernel
theorem dX6_withBitMoved_25 : decode cX6_withBitMoved 25 = .ok (.ishl, 1) := by decide +kernel
theorem dX6_withBitMoved_26 : decode cX6_withBitMoved 26 = .ok (.ior, 1) := by decide +kernel
theorem dX6_withBitMoved_27 : decode cX6_withBitMoved 27 = .ok (.iload_n 3, 1) := by decide +kernel
theorem dX6_withBitMoved_28 : decode cX6_withBitMoved 28 = .ok (.iload_n 2, 1) := by decide +kernel
theorem dX6_withBitMoved_29 : decode cX6_withBitMoved 29 = .ok (.ishr, 1) := by decide +kernel
theorem dX6_withBitMoved_30 : decode cX6_withBitMoved 30 = .ok (.iload_n 2, 1) := by decide +kernel
theorem dX6_withBitMoved_31 : decode cX6_withBitMoved 31 = .ok (.iconst 1, 1) := by decide +kernel
theorem dX6_withBitMoved_32 : decode cX6_withBitMoved 32 = .ok (.iadd, 1) := by decide +kernel
theorem dX6_withBitMoved_33 : decode cX6_withBitMoved 33 = .ok (.ishl, 1) := by decide +kernel
theorem dX6_withBitMoved_34 : decode cX6_withBitMoved 34 = .ok (.ior, 1) := by decide +kernel
theorem dX6_withBitMoved_35 : decode cX6_withBitMoved 35 = .ok (.ireturn, 1) := by decide +kernel
theorem dX6_timesIn_0 : decode cX6_timesIn 0 = .ok (.iload_n 0, 1) := by decide +kernel
theorem dX6_timesIn_1 : decode cX6_timesIn 1 = .ok (.iconst 2, 1) := by decide +kernel
theorem dX6_timesIn_2 : decode cX6_timesIn 2 = .ok (.iload_n 1, 1) := by decide +kernel
theorem dX6_timesIn_3 : decode cX6_timesIn 3 = .ok (.imul, 1) := by decide +kernel
theorem dX6_timesIn_4 : decode cX6_timesIn 4 = .ok (.ishr, 1) := by decide +kernel
theorem dX6_timesIn_5 : decode cX6_timesIn 5 = .ok (.iconst 3, 1) := by decide +kernel
theorem dX6_timesIn_6 : decode cX6_timesIn 6 = .ok (.iand, 1) := by decide +kernel
theorem dX6_timesIn_7 : decode cX6_timesIn 7 = .ok (.ireturn, 1) := by decide +kernel
theorem dX6_withOneMore_0 : decode cX6_withOneMore 0 = .ok (.iload_n 0, 1) := by decide +kernel
theorem dX6_withOneMore_1 : decode cX6_withOneMore 1 = .ok (.iconst 1, 1) := by decide +kernel
theorem dX6_withOneMore_2 : decode cX6_withOneMore 2 = .ok (.iconst 2, 1) := by decide +kernel
theorem dX6_withOneMore_3 : decode cX6_withOneMore 3 = .ok (.iload_n 1, 1) := by decide +kernel
theorem dX6_withOneMore_4 : decode cX6_withOneMore 4 = .ok (.imul, 1) := by decide +kernel
theorem dX6_withOneMore_5 : decode cX6_withOneMore 5 = .ok (.ishl, 1) := by decide +kernel
theorem dX6_withOneMore_6 : decode cX6_withOneMore 6 = .ok (.iadd, 1) := by decide +kernel
theorem dX6_withOneMore_7 : decode cX6_withOneMore 7 = .ok (.ireturn, 1) := by decide +kernel
theorem dJ6_bitCount_0f7a4_0 : decode cJ6_bitCount_0f7a4 0 = .ok (.iload_n 0, 1) := by decide +kernel
theorem dJ6_bitCount_0f7a4_1 : decode cJ6_bitCount_0f7a4 1 = .ok (.iload_n 0, 1) := by decide +kernel
theorem dJ6_bitCount_0f7a4_2 : decode cJ6_bitCount_0f7a4 2 = .ok (.iconst 1, 1) := by decide +kernel
theorem dJ6_bitCount_0f7a4_3 : decode cJ6_bitCount_0f7a4 3 = .ok (.iushr, 1) := by decide +kernel
theorem dJ6_bitCount_0f7a4_4 : decode cJ6_bitCount_0f7a4 4 = .ok (.ldc_w 265, 3) := by decide +kernel
theorem dJ6_bitCount_0f7a4_7 : decode cJ6_bitCount_0f7a4 7 = .ok (.iand, 1) := by decide +kernel
theorem dJ6_bitCount_0f7a4_8 : decode cJ6_bitCount_0f7a4 8 = .ok (.isub, 1) := by decide +kernel
theorem dJ6_bitCount_0f7a4_9 : decode cJ6_bitCount_0f7a4 9 = .ok (.istore_n 0, 1) := by decide +kernel
theorem dJ6_bitCount_0f7a4_10 : decode cJ6_bitCount_0f7a4 10 = .ok (.iload_n 0, 1) := by decide +kernel
theorem dJ6_bitCount_0f7a4_11 : decode cJ6_bitCount_0f7a4 11 = .ok (.ldc_w 266, 3) := by decide +kernel
theorem dJ6_bitCount_0f7a4_14 : decode cJ6_bitCount_0f7a4 14 = .ok (.iand, 1) := by decide +kernel
theorem dJ6_bitCount_0f7a4_15 : decode cJ6_bitCount_0f7a4 15 = .ok (.iload_n 0, 1) := by decide +kernel
theorem dJ6_bitCount_0f7a4_16 : decode cJ6_bitCount_0f7a4 16 = .ok (.iconst 2, 1) := by decide +kernel
theorem dJ6_bitCount_0f7a4_17 : decode cJ6_bitCount_0f7a4 17 = .ok (.iushr, 1) := by decide +kernel
theorem dJ6_bitCount_0f7a4_18 : decode cJ6_bitCount_0f7a4 18 = .ok (.ldc_w 266, 3) := by decide +kernel
theorem dJ6_bitCount_0f7a4_21 : decode cJ6_bitCount_0f7a4 21 = .ok (.iand, 1) := by decide +kernel
theorem dJ6_bitCount_0f7a4_22 : decode cJ6_bitCount_0f7a4 22 = .ok (.iadd, 1) := by decide +kernel
theorem dJ6_bitCount_0f7a4_23 : decode cJ6_bitCount_0f7a4 23 = .ok (.istore_n 0, 1) := by decide +kernel
theorem dJ6_bitCount_0f7a4_24 : decode cJ6_bitCount_0f7a4 24 = .ok (.iload_n 0, 1) := by decide +kernel
theorem dJ6_bitCount_0f7a4_25 : decode cJ6_bitCount_0f7a4 25 = .ok (.iload_n 0, 1) := by decide +kernel
theorem dJ6_bitCount_0f7a4_26 : decode cJ6_bitCount_0f7a4 26 = .ok (.iconst 4, 1) := by decide +kernel
theorem dJ6_bitCount_0f7a4_27 : decode cJ6_bitCount_0f7a4 27 = .ok (.iushr, 1) := by decide +kernel
theorem dJ6_bitCount_0f7a4_28 : decode cJ6_bitCount_0f7a4 28 = .ok (.iadd, 1) := by decide +kernel
theorem dJ6_bitCount_0f7a4_29 : decode cJ6_bitCount_0f7a4 29 = .ok (.ldc_w 267, 3) := by decide +kernel
theorem dJ6_bitCount_0f7a4_32 : decode cJ6_bitCount_0f7a4 32 = .ok (.iand, 1) := by decide +kernel
theorem dJ6_bitCount_0f7a4_33 : decode cJ6_bitCount_0f7a4 33 = .ok (.istore_n 0, 1) := by decide +kernel
theorem dJ6_bitCount_0f7a4_34 : decode cJ6_bitCount_0f7a4 34 = .ok (.iload_n 0, 1) := by decide +kernel
theorem dJ6_bitCount_0f7a4_35 : decode cJ6_bitCount_0f7a4 35 = .ok (.iload_n 0, 1) := by decide +kernel
theorem dJ6_bitCount_0f7a4_36 : decode cJ6_bitCount_0f7a4 36 = .ok (.bipush 8, 2) := by decide +kernel
theorem dJ6_bitCount_0f7a4_38 : decode cJ6_bitCount_0f7a4 38 = .ok (.iushr, 1) := by decide +kernel
theorem dJ6_bitCount_0f7a4_39 : decode cJ6_bitCount_0f7a4 39 = .ok (.iadd, 1) := by decide +kernel
theorem dJ6_bitCount_0f7a4_40 : decode cJ6_bitCount_0f7a4 40 = .ok (.istore_n 0, 1) := by decide +kernel
theorem dJ6_bitCount_0f7a4_41 : decode cJ6_bitCount_0f7a4 41 = .ok (.iload_n 0, 1) := by decide +kernel
theorem dJ6_bitCount_0f7a4_42 : decode cJ6_bitCount_0f7a4 42 = .ok (.iload_n 0, 1) := by decide +kernel
theorem dJ6_bitCount_0f7a4_43 : decode cJ6_bitCount_0f7a4 43 = .ok (.bipush 16, 2) := by decide +kernel
theorem dJ6_bitCount_0f7a4_45 : decode cJ6_bitCount_0f7a4 45 = .ok (.iushr, 1) := by decide +kernel
theorem dJ6_bitCount_0f7a4_46 : decode cJ6_bitCount_0f7a4 46 = .ok (.iadd, 1) := by decide +kernel
theorem dJ6_bitCount_0f7a4_47 : decode cJ6_bitCount_0f7a4 47 = .ok (.istore_n 0, 1) := by decide +kernel
theorem dJ6_bitCount_0f7a4_48 : decode cJ6_bitCount_0f7a4 48 = .ok (.iload_n 0, 1) := by decide +kernel
theorem dJ6_bitCount_0f7a4_49 : decode cJ6_bitCount_0f7a4 49 = .ok (.bipush 63, 2) := by decide +kernel
theorem dJ6_bitCount_0f7a4_51 : decode cJ6_bitCount_0f7a4 51 = .ok (.iand, 1) := by decide +kernel
theorem dJ6_bitCount_0f7a4_52 : decode cJ6_bitCount_0f7a4 52 = .ok (.ireturn, 1) := by decide +kernel
theorem dJ9_max_7cf53_0 : decode cJ9_max_7cf53 0 = .ok (.iload_n 0, 1) := by decide +kernel
theorem dJ9_max_7cf53_1 : decode cJ9_max_7cf53 1 = .ok (.iload_n 1, 1) := by decide +kernel
theorem dJ9_max_7cf53_2 : decode cJ9_max_7cf53 2 = .ok (.if_icmp .lt 7, 3) := by decide +kernel
theorem dJ9_max_7cf53_5 : decode cJ9_max_7cf53 5 = .ok (.iload_n 0, 1) := by decide +kernel
theorem dJ9_max_7cf53_6 : decode cJ9_max_7cf53 6 = .ok (.goto 4, 3) := by decide +kernel
theorem dJ9_max_7cf53_9 : decode cJ9_max_7cf53 9 = .ok (.iload_n 1, 1) := by decide +kernel
theorem dJ9_max_7cf53_10 : decode cJ9_max_7cf53 10 = .ok (.ireturn, 1) := by decide +kernel
theorem dJ9_min_7cf53_0 : decode cJ9_min_7cf53 0 = .ok (.iload_n 0, 1) := by decide +kernel
theorem dJ9_min_7cf53_1 : decode cJ9_min_7cf53 1 = .ok (.iload_n 1, 1) := by decide +kernel
theorem dJ9_min_7cf53_2 : decode cJ9_min_7cf53 2 = .ok (.if_icmp .gt 7, 3) := by decide +kernel
theorem dJ9_min_7cf53_5 : decode cJ9_min_7cf53 5 = .ok (.iload_n 0, 1) := by decide +kernel
theorem dJ9_min_7cf53_6 : decode cJ9_min_7cf53 6 = .ok (.goto 4, 3) := by decide +kernel
theorem dJ9_min_7cf53_9 : decode cJ9_min_7cf53 9 = .ok (.iload_n 1, 1) := by decide +kernel
theorem dJ9_min_7cf53_10 : decode cJ9_min_7cf53 10 = .ok (.ireturn, 1) := by decide +kernel
theorem dJ9_min_f86c9_0 : decode cJ9_min_f86c9 0 = .ok (.lload_n 0, 1) := by decide +kernel
theorem dJ9_min_f86c9_1 : decode cJ9_min_f86c9 1 = .ok (.lload_n 2, 1) := by decide +kernel
theorem dJ9_min_f86c9_2 : decode cJ9_min_f86c9 2 = .ok (.lcmp, 1) := by decide +kernel
theorem dJ9_min_f86c9_3 : decode cJ9_min_f86c9 3 = .ok (.ifCond .gt 7, 3) := by decide +kernel
theorem dJ9_min_f86c9_6 : decode cJ9_min_f86c9 6 = .ok (.lload_n 0, 1) := by decide +kernel
theorem dJ9_min_f86c9_7 : decode cJ9_min_f86c9 7 = .ok (.goto 4, 3) := by decide +kernel
theorem dJ9_min_f86c9_10 : decode cJ9_min_f86c9 10 = .ok (.lload_n 2, 1) := by decide +kernel
theorem dJ9_min_f86c9_11 : decode cJ9_min_f86c9 11 = .ok (.lreturn, 1) := by decide +kernel
theorem dL_cell_0 : decode cL_cell 0 = .ok (.iload_n 1, 1) := by decide +kernel
theorem dL_cell_1 : decode cL_cell 1 = .ok (.aload_n 0, 1) := by decide +kernel
theorem dL_cell_2 : decode cL_cell 2 = .ok (.arraylength, 1) := by decide +kernel
theorem dL_cell_3 : decode cL_cell 3 = .ok (.if_icmp .ge 9, 3) := by decide +kernel
theorem dL_cell_6 : decode cL_cell 6 = .ok (.aload_n 0, 1) := by decide +kernel
theorem dL_cell_7 : decode cL_cell 7 = .ok (.iload_n 1, 1) := by decide +kernel
theorem dL_cell_8 : decode cL_cell 8 = .ok (.iaload, 1) := by decide +kernel
theorem dL_cell_9 : decode cL_cell 9 = .ok (.goto 9, 3) := by decide +kernel
theorem dL_cell_12 : decode cL_cell 12 = .ok (.ldc 7, 2) := by decide +kernel
theorem dL_cell_14 : decode cL_cell 14 = .ok (.iload_n 1, 1) := by decide +kernel
theorem dL_cell_15 : decode cL_cell 15 = .ok (.iconst 1, 1) := by decide +kernel
theorem dL_cell_16 : decode cL_cell 16 = .ok (.iadd, 1) := by decide +kernel
theorem dL_cell_17 : decode cL_cell 17 = .ok (.imul, 1) := by decide +kernel
theorem dL_cell_18 : decode cL_cell 18 = .ok (.ireturn, 1) := by decide +kernel
theorem dL_low_0 : decode cL_low 0 = .ok (.iload_n 0, 1) := by decide +kernel
theorem dL_low_1 : decode cL_low 1 = .ok (.ldc 8, 2) := by decide +kernel
theorem dL_low_3 : decode cL_low 3 = .ok (.iand, 1) := by decide +kernel
theorem dL_low_4 : decode cL_low 4 = .ok (.iload_n 1, 1) := by decide +kernel
theorem dL_low_5 : decode cL_low 5 = .ok (.irem, 1) := by decide +kernel
theorem dL_low_6 : decode cL_low 6 = .ok (.ireturn, 1) := by decide +kernel
theorem dL_word_0 : decode cL_word 0 = .ok (.aload_n 0, 1) := by decide +kernel
theorem dL_word_1 : decode cL_word 1 = .ok (.invokevirtual 9, 3) := by decide +kernel
theorem dL_word_4 : decode cL_word 4 = .ok (.istore_n 2, 1) := by decide +kernel
theorem dL_word_5 : decode cL_word 5 = .ok (.iconst 1, 1) := by decide +kernel
theorem dL_word_6 : decode cL_word 6 = .ok (.iload_n 1, 1) := by decide +kernel
theorem dL_word_7 : decode cL_word 7 = .ok (.iconst 3, 1) := by decide +kernel
theorem dL_word_8 : decode cL_word 8 = .ok (.invokestatic 15, 3) := by decide +kernel
theorem dL_word_11 : decode cL_word 11 = .ok (.iadd, 1) := by decide +kernel
theorem dL_word_12 : decode cL_word 12 = .ok (.istore_n 3, 1) := by decide +kernel
theorem dL_word_13 : decode cL_word 13 = .ok (.iconst 0, 1) := by decide +kernel
theorem dL_word_14 : decode cL_word 14 = .ok (.istore 4, 2) := by decide +kernel
theorem dL_word_16 : decode cL_word 16 = .ok (.iload 4, 2) := by decide +kernel
theorem dL_word_18 : decode cL_word 18 = .ok (.iload_n 3, 1) := by decide +kernel
theorem dL_word_19 : decode cL_word 19 = .ok (.if_icmp .ge 29, 3) := by decide +kernel
theorem dL_word_22 : decode cL_word 22 = .ok (.aload_n 0, 1) := by decide +kernel
theorem dL_word_23 : decode cL_word 23 = .ok (.bipush 97, 2) := by decide +kernel
theorem dL_word_25 : decode cL_word 25 = .ok (.iload_n 1, 1) := by decide +kernel
theorem dL_word_26 : decode cL_word 26 = .ok (.iconst 2, 1) := by decide +kernel
theorem dL_word_27 : decode cL_word 27 = .ok (.iconst 2, 1) := by decide +kernel
theorem dL_word_28 : decode cL_word 28 = .ok (.iload 4, 2) := by decide +kernel
theorem dL_word_30 : decode cL_word 30 = .ok (.imul, 1) := by decide +kernel
theorem dL_word_31 : decode cL_word 31 = .ok (.iadd, 1) := by decide +kernel
theorem dL_word_32 : decode cL_word 32 = .ok (.ishr, 1) := by decide +kernel
theorem dL_word_33 : decode cL_word 33 = .ok (.iconst 2, 1) := by decide +kernel
theorem dL_word_34 : decode cL_word 34 = .ok (.invokestatic 15, 3) := by decide +kernel
theorem dL_word_37 : decode cL_word 37 = .ok (.iadd, 1) := by decide +kernel
theorem dL_word_38 : decode cL_word 38 = .ok (.invokevirtual 21, 3) := by decide +kernel
theorem dL_word_41 : decode cL_word 41 = .ok (.istore_n 2, 1) := by decide +kernel
theorem dL_word_42 : decode cL_word 42 = .ok (.iinc 4 1, 3) := by decide +kernel
theorem dL_word_45 : decode cL_word 45 = .ok (.goto (-29), 3) := by decide +kernel
theorem dL_word_48 : decode cL_word 48 = .ok (.iload_n 2, 1) := by decide +kernel
theorem dL_word_49 : decode cL_word 49 = .ok (.ireturn, 1) := by decide +kernel
theorem dL_change_0 : decode cL_change 0 = .ok (.iload_n 1, 1) := by decide +kernel
theorem dL_change_1 : decode cL_change 1 = .ok (.iconst 5, 1) := by decide +kernel
theorem dL_change_2 : decode cL_change 2 = .ok (.ishr, 1) := by decide +kernel
theorem dL_change_3 : decode cL_change 3 = .ok (.iconst 4, 1) := by decide +kernel
theorem dL_change_4 : decode cL_change 4 = .ok (.invokestatic 15, 3) := by decide +kernel
theorem dL_change_7 : decode cL_change 7 = .ok (.istore_n 3, 1) := by decide +kernel
theorem dL_change_8 : decode cL_change 8 = .ok (.iload_n 1, 1) := by decide +kernel
theorem dL_change_9 : decode cL_change 9 = .ok (.bipush 8, 2) := by decide +kernel
theorem dL_change_11 : decode cL_change 11 = .ok (.ishr, 1) := by decide +kernel
theorem dL_change_12 : decode cL_change 12 = .ok (.iconst 4, 1) := by decide +kernel
theorem dL_change_13 : decode cL_change 13 = .ok (.invokestatic 15, 3) := by decide +kernel
theorem dL_change_16 : decode cL_change 16 = .ok (.istore 4, 2) := by decide +kernel
theorem dL_change_18 : decode cL_change 18 = .ok (.iload_n 1, 1) := by decide +kernel
theorem dL_change_19 : decode cL_change 19 = .ok (.bipush 14, 2) := by decide +kernel
theorem dL_change_21 : decode cL_change 21 = .ok (.invokestatic 15, 3) := by decide +kernel
theorem dL_change_24 : decode cL_change 24 = .ok (.tableswitch 249 0 10 #[60, 60, 60, 60, 130, 149, 167, 175, 194, 194, 215], 60) := by decide +kernel
theorem dL_change_84 : decode cL_change 84 = .ok (.aload_n 0, 1) := by decide +kernel
theorem dL_change_85 : decode cL_change 85 = .ok (.iload_n 2, 1) := by decide +kernel
theorem dL_change_86 : decode cL_change 86 = .ok (.invokestatic 25, 3) := by decide +kernel
theorem dL_change_89 : decode cL_change 89 = .ok (.istore 5, 2) := by decide +kernel
theorem dL_change_91 : decode cL_change 91 = .ok (.iload_n 2, 1) := by decide +kernel
theorem dL_change_92 : decode cL_change 92 = .ok (.bipush 10, 2) := by decide +kernel
theorem dL_change_94 : decode cL_change 94 = .ok (.ishr, 1) := by decide +kernel
theorem dL_change_95 : decode cL_change 95 = .ok (.iconst 4, 1) := by decide +kernel
theorem dL_change_96 : decode cL_change 96 = .ok (.invokestatic 15, 3) := by decide +kernel
theorem dL_change_99 : decode cL_change 99 = .ok (.iconst 2, 1) := by decide +kernel
theorem dL_change_100 : decode cL_change 100 = .ok (.if_icmp .ge 7, 3) := by decide +kernel
theorem dL_change_103 : decode cL_change 103 = .ok (.iconst 0, 1) := by decide +kernel
theorem dL_change_104 : decode cL_change 104 = .ok (.goto 11, 3) := by decide +kernel
theorem dL_change_107 : decode cL_change 107 = .ok (.iload_n 2, 1) := by decide +kernel
theorem dL_change_108 : decode cL_change 108 = .ok (.bipush 12, 2) := by decide +kernel
theorem dL_change_110 : decode cL_change 110 = .ok (.ishr, 1) := by decide +kernel
theorem dL_change_111 : decode cL_change 111 = .ok (.iconst 2, 1) := by decide +kernel
theorem dL_change_112 : decode cL_change 112 = .ok (.invokestatic 15, 3) := by decide +kernel
theorem dL_change_115 : decode cL_change 115 = .ok (.istore 6, 2) := by decide +kernel
theorem dL_change_117 : decode cL_change 117 = .ok (.iload 5, 2) := by decide +kernel
theorem dL_change_119 : decode cL_change 119 = .ok (.ifCond .ge 8, 3) := by decide +kernel
theorem dL_change_122 : decode cL_change 122 = .ok (.iload 5, 2) := by decide +kernel
theorem dL_change_124 : decode cL_change 124 = .ok (.goto 29, 3) := by decide +kernel
theorem dL_change_127 : decode cL_change 127 = .ok (.aload_n 0, 1) := by decide +kernel
theorem dL_change_128 : decode cL_change 128 = .ok (.iload_n 1, 1) := by decide +kernel
theorem dL_change_129 : decode cL_change 129 = .ok (.iconst 5, 1) := by decide +kernel
theorem dL_change_130 : decode cL_change 130 = .ok (.ishr, 1) := by decide +kernel
theorem dL_change_131 : decode cL_change 131 = .ok (.iconst 3, 1) := by decide +kernel
theorem dL_change_132 : decode cL_change 132 = .ok (.invokestatic 15, 3) := by decide +kernel
theorem dL_change_135 : decode cL_change 135 = .ok (.iload 6, 2) := by decide +kernel
theorem dL_change_137 : decode cL_change 137 = .ok (.iload 6, 2) := by decide +kernel
theorem dL_change_139 : decode cL_change 139 = .ok (.iconst 1, 1) := by decide +kernel
theorem dL_change_140 : decode cL_change 140 = .ok (.iadd, 1) := by decide +kernel
theorem dL_change_141 : decode cL_change 141 = .ok (.iload_n 2, 1) := by decide +kernel
theorem dL_change_142 : decode cL_change 142 = .ok (.bipush 14, 2) := by decide +kernel
theorem dL_change_144 : decode cL_change 144 = .ok (.ishr, 1) := by decide +kernel
theorem dL_change_145 : decode cL_change 145 = .ok (.iconst 2, 1) := by decide +kernel
theorem dL_change_146 : decode cL_change 146 = .ok (.invokestatic 15, 3) := by decide +kernel
theorem dL_change_149 : decode cL_change 149 = .ok (.iadd, 1) := by decide +kernel
theorem dL_change_150 : decode cL_change 150 = .ok (.invokevirtual 29, 3) := by decide +kernel
theorem dL_change_153 : decode cL_change 153 = .ok (.ireturn, 1) := by decide +kernel
theorem dL_change_154 : decode cL_change 154 = .ok (.iload_n 2, 1) := by decide +kernel
theorem dL_change_155 : decode cL_change 155 = .ok (.iconst 3, 1) := by decide +kernel
theorem dL_change_156 : decode cL_change 156 = .ok (.invokestatic 15, 3) := by decide +kernel
theorem dL_change_159 : decode cL_change 159 = .ok (.ifCond .ne 11, 3) := by decide +kernel
theorem dL_change_162 : decode cL_change 162 = .ok (.aload_n 0, 1) := by decide +kernel
theorem dL_change_163 : decode cL_change 163 = .ok (.iload_n 3, 1) := by decide +kernel
theorem dL_change_164 : decode cL_change 164 = .ok (.invokevirtual 33, 3) := by decide +kernel
theorem dL_change_167 : decode cL_change 167 = .ok (.goto 5, 3) := by decide +kernel
theorem dL_change_170 : decode cL_change 170 = .ok (.bipush (-9), 2) := by decide +kernel
theorem dL_change_172 : decode cL_change 172 = .ok (.ireturn, 1) := by decide +kernel
theorem dL_change_173 : decode cL_change 173 = .ok (.aload_n 0, 1) := by decide +kernel
theorem dL_change_174 : decode cL_change 174 = .ok (.iload_n 3, 1) := by decide +kernel
theorem dL_change_175 : decode cL_change 175 = .ok (.iload_n 2, 1) := by decide +kernel
theorem dL_change_176 : decode cL_change 176 = .ok (.iconst 4, 1) := by decide +kernel
theorem dL_change_177 : decode cL_change 177 = .ok (.invokestatic 15, 3) := by decide +kernel
theorem dL_change_180 : decode cL_change 180 = .ok (.iload_n 2, 1) := by decide +kernel
theorem dL_change_181 : decode cL_change 181 = .ok (.iconst 2, 1) := by decide +kernel
theorem dL_change_182 : decode cL_change 182 = .ok (.ishr, 1) := by decide +kernel
theorem dL_change_183 : decode cL_change 183 = .ok (.iconst 4, 1) := by decide +kernel
theorem dL_change_184 : decode cL_change 184 = .ok (.invokestatic 15, 3) := by decide +kernel
theorem dL_change_187 : decode cL_change 187 = .ok (.invokevirtual 36, 3) := by decide +kernel
theorem dL_change_190 : decode cL_change 190 = .ok (.ireturn, 1) := by decide +kernel
theorem dL_change_191 : decode cL_change 191 = .ok (.aload_n 0, 1) := by decide +kernel
theorem dL_change_192 : decode cL_change 192 = .ok (.iload_n 3, 1) := by decide +kernel
theorem dL_change_193 : decode cL_change 193 = .ok (.iload 4, 2) := by decide +kernel
theorem dL_change_195 : decode cL_change 195 = .ok (.invokevirtual 39, 3) := by decide +kernel
theorem dL_change_198 : decode cL_change 198 = .ok (.ireturn, 1) := by decide +kernel
theorem dL_change_199 : decode cL_change 199 = .ok (.aload_n 0, 1) := by decide +kernel
theorem dL_change_200 : decode cL_change 200 = .ok (.iload_n 2, 1) := by decide +kernel
theorem dL_change_201 : decode cL_change 201 = .ok (.iconst 3, 1) := by decide +kernel
theorem dL_change_202 : decode cL_change 202 = .ok (.invokestatic 15, 3) := by decide +kernel
theorem dL_change_205 : decode cL_change 205 = .ok (.ifCond .ne 7, 3) := by decide +kernel
theorem dL_change_208 : decode cL_change 208 = .ok (.iconst 0, 1) := by decide +kernel
theorem dL_change_209 : decode cL_change 209 = .ok (.goto 5, 3) := by decide +kernel
theorem dL_change_212 : decode cL_change 212 = .ok (.bipush 44, 2) := by decide +kernel
theorem dL_change_214 : decode cL_change 214 = .ok (.invokevirtual 42, 3) := by decide +kernel
theorem dL_change_217 : decode cL_change 217 = .ok (.ireturn, 1) := by decide +kernel
theorem dL_change_218 : decode cL_change 218 = .ok (.aload_n 0, 1) := by decide +kernel
theorem dL_change_219 : decode cL_change 219 = .ok (.iload_n 3, 1) := by decide +kernel
theorem dL_change_220 : decode cL_change 220 = .ok (.iload 4, 2) := by decide +kernel
theorem dL_change_222 : decode cL_change 222 = .ok (.iload_n 2, 1) := by decide +kernel
theorem dL_change_223 : decode cL_change 223 = .ok (.iconst 4, 1) := by decide +kernel
theorem dL_change_224 : decode cL_change 224 = .ok (.invokestatic 15, 3) := by decide +kernel
theorem dL_change_227 : decode cL_change 227 = .ok (.ifCond .ne 7, 3) := by decide +kernel
theorem dL_change_230 : decode cL_change 230 = .ok (.iconst 0, 1) := by decide +kernel
theorem dL_change_231 : decode cL_change 231 = .ok (.goto 4, 3) := by decide +kernel
theorem dL_change_234 : decode cL_change 234 = .ok (.iconst 1, 1) := by decide +kernel
theorem dL_change_235 : decode cL_change 235 = .ok (.invokevirtual 45, 3) := by decide +kernel
theorem dL_change_238 : decode cL_change 238 = .ok (.ireturn, 1) := by decide +kernel
theorem dL_change_239 : decode cL_change 239 = .ok (.iload_n 2, 1) := by decide +kernel
theorem dL_change_240 : decode cL_change 240 = .ok (.iconst 2, 1) := by decide +kernel
theorem dL_change_241 : decode cL_change 241 = .ok (.invokestatic 15, 3) := by decide +kernel
theorem dL_change_244 : decode cL_change 244 = .ok (.ifCond .ne 17, 3) := by decide +kernel
theorem dL_change_247 : decode cL_change 247 = .ok (.aload_n 0, 1) := by decide +kernel
theorem dL_change_248 : decode cL_change 248 = .ok (.iload_n 2, 1) := by decide +kernel
theorem dL_change_249 : decode cL_change 249 = .ok (.iconst 1, 1) := by decide +kernel
theorem dL_change_250 : decode cL_change 250 = .ok (.ishr, 1) := by decide +kernel
theorem dL_change_251 : decode cL_change 251 = .ok (.iconst 2, 1) := by decide +kernel
theorem dL_change_252 : decode cL_change 252 = .ok (.invokestatic 15, 3) := by decide +kernel
theorem dL_change_255 : decode cL_change 255 = .ok (.invokevirtual 48, 3) := by decide +kernel
theorem dL_change_258 : decode cL_change 258 = .ok (.goto 14, 3) := by decide +kernel
theorem dL_change_261 : decode cL_change 261 = .ok (.aload_n 0, 1) := by decide +kernel
theorem dL_change_262 : decode cL_change 262 = .ok (.iload_n 2, 1) := by decide +kernel
theorem dL_change_263 : decode cL_change 263 = .ok (.iconst 1, 1) := by decide +kernel
theorem dL_change_264 : decode cL_change 264 = .ok (.ishr, 1) := by decide +kernel
theorem dL_change_265 : decode cL_change 265 = .ok (.iconst 2, 1) := by decide +kernel
theorem dL_change_266 : decode cL_change 266 = .ok (.invokestatic 15, 3) := by decide +kernel
theorem dL_change_269 : decode cL_change 269 = .ok (.invokevirtual 51, 3) := by decide +kernel
theorem dL_change_272 : decode cL_change 272 = .ok (.ireturn, 1) := by decide +kernel
theorem dL_change_273 : decode cL_change 273 = .ok (.aload_n 0, 1) := by decide +kernel
theorem dL_change_274 : decode cL_change 274 = .ok (.invokevirtual 54, 3) := by decide +kernel
theorem dL_change_277 : decode cL_change 277 = .ok (.ireturn, 1) := by decide +kernel
theorem dL_text_0 : decode cL_text 0 = .ok (.aload_n 0, 1) := by decide +kernel
theorem dL_text_1 : decode cL_text 1 = .ok (.invokevirtual 9, 3) := by decide +kernel
theorem dL_text_4 : decode cL_text 4 = .ok (.istore_n 3, 1) := by decide +kernel
theorem dL_text_5 : decode cL_text 5 = .ok (.aload_n 0, 1) := by decide +kernel
theorem dL_text_6 : decode cL_text 6 = .ok (.iconst 0, 1) := by decide +kernel
theorem dL_text_7 : decode cL_text 7 = .ok (.invokevirtual 57, 3) := by decide +kernel
theorem dL_text_10 : decode cL_text 10 = .ok (.istore 4, 2) := by decide +kernel
theorem dL_text_12 : decode cL_text 12 = .ok (.aload_n 0, 1) := by decide +kernel
theorem dL_text_13 : decode cL_text 13 = .ok (.iconst 1, 1) := by decide +kernel
theorem dL_text_14 : decode cL_text 14 = .ok (.invokevirtual 57, 3) := by decide +kernel
theorem dL_text_17 : decode cL_text 17 = .ok (.istore 5, 2) := by decide +kernel
theorem dL_text_19 : decode cL_text 19 = .ok (.iload 4, 2) := by decide +kernel
theorem dL_text_21 : decode cL_text 21 = .ok (.ifCond .ne 7, 3) := by decide +kernel
theorem dL_text_24 : decode cL_text 24 = .ok (.iconst 0, 1) := by decide +kernel
theorem dL_text_25 : decode cL_text 25 = .ok (.goto 9, 3) := by decide +kernel
theorem dL_text_28 : decode cL_text 28 = .ok (.iload_n 1, 1) := by decide +kernel
theorem dL_text_29 : decode cL_text 29 = .ok (.bipush 6, 2) := by decide +kernel
theorem dL_text_31 : decode cL_text 31 = .ok (.invokestatic 15, 3) := by decide +kernel
theorem dL_text_34 : decode cL_text 34 = .ok (.istore 6, 2) := by decide +kernel
theorem dL_text_36 : decode cL_text 36 = .ok (.iconst 0, 1) := by decide +kernel
theorem dL_text_37 : decode cL_text 37 = .ok (.istore 7, 2) := by decide +kernel
theorem dL_text_39 : decode cL_text 39 = .ok (.iconst 0, 1) := by decide +kernel
theorem dL_text_40 : decode cL_text 40 = .ok (.istore 8, 2) := by decide +kernel
theorem dL_text_42 : decode cL_text 42 = .ok (.iload 8, 2) := by decide +kernel
theorem dL_text_44 : decode cL_text 44 = .ok (.iload 6, 2) := by decide +kernel
theorem dL_text_46 : decode cL_text 46 = .ok (.if_icmp .ge 205, 3) := by decide +kernel
theorem dL_text_49 : decode cL_text 49 = .ok (.iload_n 1, 1) := by decide +kernel
theorem dL_text_50 : decode cL_text 50 = .ok (.iconst 3, 1) := by decide +kernel
theorem dL_text_51 : decode cL_text 51 = .ok (.iconst 3, 1) := by decide +kernel
theorem dL_text_52 : decode cL_text 52 = .ok (.iload 8, 2) := by decide +kernel
theorem dL_text_54 : decode cL_text 54 = .ok (.imul, 1) := by decide +kernel
theorem dL_text_55 : decode cL_text 55 = .ok (.iadd, 1) := by decide +kernel
theorem dL_text_56 : decode cL_text 56 = .ok (.ishr, 1) := by decide +kernel
theorem dL_text_57 : decode cL_text 57 = .ok (.iload 4, 2) := by decide +kernel
theorem dL_text_59 : decode cL_text 59 = .ok (.invokestatic 15, 3) := by decide +kernel
theorem dL_text_62 : decode cL_text 62 = .ok (.istore 9, 2) := by decide +kernel
theorem dL_text_64 : decode cL_text 64 = .ok (.iload 8, 2) := by decide +kernel
theorem dL_text_66 : decode cL_text 66 = .ok (.ifCond .le 32, 3) := by decide +kernel
theorem dL_text_69 : decode cL_text 69 = .ok (.iload 5, 2) := by decide +kernel
theorem dL_text_71 : decode cL_text 71 = .ok (.ifCond .le 27, 3) := by decide +kernel
theorem dL_text_74 : decode cL_text 74 = .ok (.iload_n 2, 1) := by decide +kernel
theorem dL_text_75 : decode cL_text 75 = .ok (.bipush 20, 2) := by decide +kernel
theorem dL_text_77 : decode cL_text 77 = .ok (.iload 8, 2) := by decide +kernel
theorem dL_text_79 : decode cL_text 79 = .ok (.iadd, 1) := by decide +kernel
theorem dL_text_80 : decode cL_text 80 = .ok (.ishr, 1) := by decide +kernel
theorem dL_text_81 : decode cL_text 81 = .ok (.bipush 9, 2) := by decide +kernel
theorem dL_text_83 : decode cL_text 83 = .ok (.invokestatic 15, 3) := by decide +kernel
theorem dL_text_86 : decode cL_text 86 = .ok (.ifCond .le 12, 3) := by decide +kernel
theorem dL_text_89 : decode cL_text 89 = .ok (.aload_n 0, 1) := by decide +kernel
theorem dL_text_90 : decode cL_text 90 = .ok (.iload 5, 2) := by decide +kernel
theorem dL_text_92 : decode cL_text 92 = .ok (.invokevirtual 21, 3) := by decide +kernel
theorem dL_text_95 : decode cL_text 95 = .ok (.goto 5, 3) := by decide +kernel
theorem dL_text_98 : decode cL_text 98 = .ok (.iload 7, 2) := by decide +kernel
theorem dL_text_100 : decode cL_text 100 = .ok (.istore 7, 2) := by decide +kernel
theorem dL_text_102 : decode cL_text 102 = .ok (.iconst 5, 1) := by decide +kernel
theorem dL_text_103 : decode cL_text 103 = .ok (.istore 10, 2) := by decide +kernel
theorem dL_text_105 : decode cL_text 105 = .ok (.iload 10, 2) := by decide +kernel
theorem dL_text_107 : decode cL_text 107 = .ok (.bipush 8, 2) := by decide +kernel
theorem dL_text_109 : decode cL_text 109 = .ok (.if_icmp .ge 39, 3) := by decide +kernel
theorem dL_text_112 : decode cL_text 112 = .ok (.aload_n 0, 1) := by decide +kernel
theorem dL_text_113 : decode cL_text 113 = .ok (.iload 9, 2) := by decide +kernel
theorem dL_text_115 : decode cL_text 115 = .ok (.iload 10, 2) := by decide +kernel
theorem dL_text_117 : decode cL_text 117 = .ok (.invokevirtual 60, 3) := by decide +kernel
theorem dL_text_120 : decode cL_text 120 = .ok (.ifCond .lt 18, 3) := by decide +kernel
theorem dL_text_123 : decode cL_text 123 = .ok (.aload_n 0, 1) := by decide +kernel
theorem dL_text_124 : decode cL_text 124 = .ok (.aload_n 0, 1) := by decide +kernel
theorem dL_text_125 : decode cL_text 125 = .ok (.iload 9, 2) := by decide +kernel
theorem dL_text_127 : decode cL_text 127 = .ok (.iload 10, 2) := by decide +kernel
theorem dL_text_129 : decode cL_text 129 = .ok (.invokevirtual 60, 3) := by decide +kernel
theorem dL_text_132 : decode cL_text 132 = .ok (.invokevirtual 21, 3) := by decide +kernel
theorem dL_text_135 : decode cL_text 135 = .ok (.goto 5, 3) := by decide +kernel
theorem dL_text_138 : decode cL_text 138 = .ok (.iload 7, 2) := by decide +kernel
theorem dL_text_140 : decode cL_text 140 = .ok (.istore 7, 2) := by decide +kernel
theorem dL_text_142 : decode cL_text 142 = .ok (.iinc 10 1, 3) := by decide +kernel
theorem dL_text_145 : decode cL_text 145 = .ok (.goto (-40), 3) := by decide +kernel
theorem dL_text_148 : decode cL_text 148 = .ok (.aload_n 0, 1) := by decide +kernel
theorem dL_text_149 : decode cL_text 149 = .ok (.iload 9, 2) := by decide +kernel
theorem dL_text_151 : decode cL_text 151 = .ok (.iconst 0, 1) := by decide +kernel
theorem dL_text_152 : decode cL_text 152 = .ok (.invokevirtual 60, 3) := by decide +kernel
theorem dL_text_155 : decode cL_text 155 = .ok (.istore 10, 2) := by decide +kernel
theorem dL_text_157 : decode cL_text 157 = .ok (.iload_n 2, 1) := by decide +kernel
theorem dL_text_158 : decode cL_text 158 = .ok (.iconst 4, 1) := by decide +kernel
theorem dL_text_159 : decode cL_text 159 = .ok (.iload 8, 2) := by decide +kernel
theorem dL_text_161 : decode cL_text 161 = .ok (.imul, 1) := by decide +kernel
theorem dL_text_162 : decode cL_text 162 = .ok (.ishr, 1) := by decide +kernel
theorem dL_text_163 : decode cL_text 163 = .ok (.istore 11, 2) := by decide +kernel
theorem dL_text_165 : decode cL_text 165 = .ok (.iload 10, 2) := by decide +kernel
theorem dL_text_167 : decode cL_text 167 = .ok (.iconst 1, 1) := by decide +kernel
theorem dL_text_168 : decode cL_text 168 = .ok (.if_icmp .ne 50, 3) := by decide +kernel
theorem dL_text_171 : decode cL_text 171 = .ok (.iload 11, 2) := by decide +kernel
theorem dL_text_173 : decode cL_text 173 = .ok (.iconst 3, 1) := by decide +kernel
theorem dL_text_174 : decode cL_text 174 = .ok (.invokestatic 15, 3) := by decide +kernel
theorem dL_text_177 : decode cL_text 177 = .ok (.ifCond .ne 19, 3) := by decide +kernel
theorem dL_text_180 : decode cL_text 180 = .ok (.aload_n 0, 1) := by decide +kernel
theorem dL_text_181 : decode cL_text 181 = .ok (.bipush 48, 2) := by decide +kernel
theorem dL_text_183 : decode cL_text 183 = .ok (.iload 11, 2) := by decide +kernel
theorem dL_text_185 : decode cL_text 185 = .ok (.iconst 4, 1) := by decide +kernel
theorem dL_text_186 : decode cL_text 186 = .ok (.invokestatic 15, 3) := by decide +kernel
theorem dL_text_189 : decode cL_text 189 = .ok (.iadd, 1) := by decide +kernel
theorem dL_text_190 : decode cL_text 190 = .ok (.invokevirtual 21, 3) := by decide +kernel
theorem dL_text_193 : decode cL_text 193 = .ok (.goto 5, 3) := by decide +kernel
theorem dL_text_196 : decode cL_text 196 = .ok (.iload 7, 2) := by decide +kernel
theorem dL_text_198 : decode cL_text 198 = .ok (.istore 7, 2) := by decide +kernel
theorem dL_text_200 : decode cL_text 200 = .ok (.aload_n 0, 1) := by decide +kernel
theorem dL_text_201 : decode cL_text 201 = .ok (.bipush 48, 2) := by decide +kernel
theorem dL_text_203 : decode cL_text 203 = .ok (.iload 11, 2) := by decide +kernel
theorem dL_text_205 : decode cL_text 205 = .ok (.iconst 2, 1) := by decide +kernel
theorem dL_text_206 : decode cL_text 206 = .ok (.ishr, 1) := by decide +kernel
theorem dL_text_207 : decode cL_text 207 = .ok (.bipush 10, 2) := by decide +kernel
theorem dL_text_209 : decode cL_text 209 = .ok (.invokestatic 15, 3) := by decide +kernel
theorem dL_text_212 : decode cL_text 212 = .ok (.iadd, 1) := by decide +kernel
theorem dL_text_213 : decode cL_text 213 = .ok (.invokevirtual 21, 3) := by decide +kernel
theorem dL_text_216 : decode cL_text 216 = .ok (.istore 7, 2) := by decide +kernel
theorem dL_text_218 : decode cL_text 218 = .ok (.iload 10, 2) := by decide +kernel
theorem dL_text_220 : decode cL_text 220 = .ok (.iconst 2, 1) := by decide +kernel
theorem dL_text_221 : decode cL_text 221 = .ok (.if_icmp .ne 20, 3) := by decide +kernel
theorem dL_text_224 : decode cL_text 224 = .ok (.aload_n 0, 1) := by decide +kernel
theorem dL_text_225 : decode cL_text 225 = .ok (.bipush 65, 2) := by decide +kernel
theorem dL_text_227 : decode cL_text 227 = .ok (.iload 11, 2) := by decide +kernel
theorem dL_text_229 : decode cL_text 229 = .ok (.bipush 26, 2) := by decide +kernel
theorem dL_text_231 : decode cL_text 231 = .ok (.invokestatic 15, 3) := by decide +kernel
theorem dL_text_234 : decode cL_text 234 = .ok (.iadd, 1) := by decide +kernel
theorem dL_text_235 : decode cL_text 235 = .ok (.invokevirtual 21, 3) := by decide +kernel
theorem dL_text_238 : decode cL_text 238 = .ok (.goto 5, 3) := by decide +kernel
theorem dL_text_241 : decode cL_text 241 = .ok (.iload 7, 2) := by decide +kernel
theorem dL_text_243 : decode cL_text 243 = .ok (.istore 7, 2) := by decide +kernel
theorem dL_text_245 : decode cL_text 245 = .ok (.iinc 8 1, 3) := by decide +kernel
theorem dL_text_248 : decode cL_text 248 = .ok (.goto (-206), 3) := by decide +kernel
theorem dL_text_251 : decode cL_text 251 = .ok (.iload 7, 2) := by decide +kernel
theorem dL_text_253 : decode cL_text 253 = .ok (.ireturn, 1) := by decide +kernel
theorem dL_isRead_0 : decode cL_isRead 0 = .ok (.aload_n 0, 1) := by decide +kernel
theorem dL_isRead_1 : decode cL_isRead 1 = .ok (.invokevirtual 63, 3) := by decide +kernel
theorem dL_isRead_4 : decode cL_isRead 4 = .ok (.istore_n 1, 1) := by decide +kernel
theorem dL_isRead_5 : decode cL_isRead 5 = .ok (.iload_n 1, 1) := by decide +kernel
theorem dL_isRead_6 : decode cL_isRead 6 = .ok (.ifCond .ne 60, 3) := by decide +kernel
theorem dL_isRead_9 : decode cL_isRead 9 = .ok (.aload_n 0, 1) := by decide +kernel
theorem dL_isRead_10 : decode cL_isRead 10 = .ok (.invokevirtual 66, 3) := by decide +kernel
theorem dL_isRead_13 : decode cL_isRead 13 = .ok (.ifCond .lt 51, 3) := by decide +kernel
theorem dL_isRead_16 : decode cL_isRead 16 = .ok (.aload_n 0, 1) := by decide +kernel
theorem dL_isRead_17 : decode cL_isRead 17 = .ok (.invokevirtual 66, 3) := by decide +kernel
theorem dL_isRead_20 : decode cL_isRead 20 = .ok (.aload_n 0, 1) := by decide +kernel
theorem dL_isRead_21 : decode cL_isRead 21 = .ok (.iconst 4, 1) := by decide +kernel
theorem dL_isRead_22 : decode cL_isRead 22 = .ok (.invokevirtual 57, 3) := by decide +kernel
theorem dL_isRead_25 : decode cL_isRead 25 = .ok (.if_icmp .gt 39, 3) := by decide +kernel
theorem dL_isRead_28 : decode cL_isRead 28 = .ok (.aload_n 0, 1) := by decide +kernel
theorem dL_isRead_29 : decode cL_isRead 29 = .ok (.iconst 0, 1) := by decide +kernel
theorem dL_isRead_30 : decode cL_isRead 30 = .ok (.iconst 0, 1) := by decide +kernel
theorem dL_isRead_31 : decode cL_isRead 31 = .ok (.invokevirtual 69, 3) := by decide +kernel
theorem dL_isRead_34 : decode cL_isRead 34 = .ok (.bipush (-2), 2) := by decide +kernel
theorem dL_isRead_36 : decode cL_isRead 36 = .ok (.if_icmp .ne 28, 3) := by decide +kernel
theorem dL_isRead_39 : decode cL_isRead 39 = .ok (.aload_n 0, 1) := by decide +kernel
theorem dL_isRead_40 : decode cL_isRead 40 = .ok (.invokevirtual 72, 3) := by decide +kernel
theorem dL_isRead_43 : decode cL_isRead 43 = .ok (.ldc2_w 76, 3) := by decide +kernel
theorem dL_isRead_46 : decode cL_isRead 46 = .ok (.lcmp, 1) := by decide +kernel
theorem dL_isRead_47 : decode cL_isRead 47 = .ok (.ifCond .ne 17, 3) := by decide +kernel
theorem dL_isRead_50 : decode cL_isRead 50 = .ok (.aload_n 0, 1) := by decide +kernel
theorem dL_isRead_51 : decode cL_isRead 51 = .ok (.iconst 0, 1) := by decide +kernel
theorem dL_isRead_52 : decode cL_isRead 52 = .ok (.invokevirtual 78, 3) := by decide +kernel
theorem dL_isRead_55 : decode cL_isRead 55 = .ok (.bipush (-2), 2) := by decide +kernel
theorem dL_isRead_57 : decode cL_isRead 57 = .ok (.if_icmp .ne 7, 3) := by decide +kernel
theorem dL_isRead_60 : decode cL_isRead 60 = .ok (.iconst 1, 1) := by decide +kernel
theorem dL_isRead_61 : decode cL_isRead 61 = .ok (.goto 4, 3) := by decide +kernel
theorem dL_isRead_64 : decode cL_isRead 64 = .ok (.iconst 0, 1) := by decide +kernel
theorem dL_isRead_65 : decode cL_isRead 65 = .ok (.ireturn, 1) := by decide +kernel
theorem dL_isRead_66 : decode cL_isRead 66 = .ok (.aload_n 0, 1) := by decide +kernel
theorem dL_isRead_67 : decode cL_isRead 67 = .ok (.invokevirtual 72, 3) := by decide +kernel
theorem dL_isRead_70 : decode cL_isRead 70 = .ok (.lstore_n 2, 1) := by decide +kernel
theorem dL_isRead_71 : decode cL_isRead 71 = .ok (.iconst 0, 1) := by decide +kernel
theorem dL_isRead_72 : decode cL_isRead 72 = .ok (.istore 4, 2) := by decide +kernel
theorem dL_isRead_74 : decode cL_isRead 74 = .ok (.iconst 0, 1) := by decide +kernel
theorem dL_isRead_75 : decode cL_isRead 75 = .ok (.istore 5, 2) := by decide +kernel
theorem dL_isRead_77 : decode cL_isRead 77 = .ok (.iconst 0, 1) := by decide +kernel
theorem dL_isRead_78 : decode cL_isRead 78 = .ok (.istore 6, 2) := by decide +kernel
theorem dL_isRead_80 : decode cL_isRead 80 = .ok (.aload_n 0, 1) := by decide +kernel
theorem dL_isRead_81 : decode cL_isRead 81 = .ok (.iload 5, 2) := by decide +kernel
theorem dL_isRead_83 : decode cL_isRead 83 = .ok (.iconst 0, 1) := by decide +kernel
theorem dL_isRead_84 : decode cL_isRead 84 = .ok (.invokevirtual 69, 3) := by decide +kernel
theorem dL_isRead_87 : decode cL_isRead 87 = .ok (.ifCond .lt 266, 3) := by decide +kernel
theorem dL_isRead_90 : decode cL_isRead 90 = .ok (.aload_n 0, 1) := by decide +kernel
theorem dL_isRead_91 : decode cL_isRead 91 = .ok (.iload 5, 2) := by decide +kernel
theorem dL_isRead_93 : decode cL_isRead 93 = .ok (.iconst 0, 1) := by decide +kernel
theorem dL_isRead_94 : decode cL_isRead 94 = .ok (.invokevirtual 69, 3) := by decide +kernel
theorem dL_isRead_97 : decode cL_isRead 97 = .ok (.istore 7, 2) := by decide +kernel
theorem dL_isRead_99 : decode cL_isRead 99 = .ok (.iload 4, 2) := by decide +kernel
theorem dL_isRead_101 : decode cL_isRead 101 = .ok (.iload 5, 2) := by decide +kernel
theorem dL_isRead_103 : decode cL_isRead 103 = .ok (.ifCond .le 15, 3) := by decide +kernel
theorem dL_isRead_106 : decode cL_isRead 106 = .ok (.aload_n 0, 1) := by decide +kernel
theorem dL_isRead_107 : decode cL_isRead 107 = .ok (.iconst 1, 1) := by decide +kernel
theorem dL_isRead_108 : decode cL_isRead 108 = .ok (.invokevirtual 57, 3) := by decide +kernel
theorem dL_isRead_111 : decode cL_isRead 111 = .ok (.ifCond .le 7, 3) := by decide +kernel
theorem dL_isRead_114 : decode cL_isRead 114 = .ok (.iconst 1, 1) := by decide +kernel
theorem dL_isRead_115 : decode cL_isRead 115 = .ok (.goto 4, 3) := by decide +kernel
theorem dL_isRead_118 : decode cL_isRead 118 = .ok (.iconst 0, 1) := by decide +kernel
theorem dL_isRead_119 : decode cL_isRead 119 = .ok (.iadd, 1) := by decide +kernel
theorem dL_isRead_120 : decode cL_isRead 120 = .ok (.istore 8, 2) := by decide +kernel
theorem dL_isRead_122 : decode cL_isRead 122 = .ok (.aload_n 0, 1) := by decide +kernel
theorem dL_isRead_123 : decode cL_isRead 123 = .ok (.iload 5, 2) := by decide +kernel
theorem dL_isRead_125 : decode cL_isRead 125 = .ok (.iconst 1, 1) := by decide +kernel
theorem dL_isRead_126 : decode cL_isRead 126 = .ok (.invokevirtual 69, 3) := by decide +kernel
theorem dL_isRead_129 : decode cL_isRead 129 = .ok (.iload 8, 2) := by decide +kernel
theorem dL_isRead_131 : decode cL_isRead 131 = .ok (.if_icmp .ne 41, 3) := by decide +kernel
theorem dL_isRead_134 : decode cL_isRead 134 = .ok (.aload_n 0, 1) := by decide +kernel
theorem dL_isRead_135 : decode cL_isRead 135 = .ok (.lload_n 2, 1) := by decide +kernel
theorem dL_isRead_136 : decode cL_isRead 136 = .ok (.iload 5, 2) := by decide +kernel
theorem dL_isRead_138 : decode cL_isRead 138 = .ok (.invokevirtual 81, 3) := by decide +kernel
theorem dL_isRead_141 : decode cL_isRead 141 = .ok (.iload 7, 2) := by decide +kernel
theorem dL_isRead_143 : decode cL_isRead 143 = .ok (.if_icmp .ne 29, 3) := by decide +kernel
theorem dL_isRead_146 : decode cL_isRead 146 = .ok (.aload_n 0, 1) := by decide +kernel
theorem dL_isRead_147 : decode cL_isRead 147 = .ok (.iload 7, 2) := by decide +kernel
theorem dL_isRead_149 : decode cL_isRead 149 = .ok (.iload 6, 2) := by decide +kernel
theorem dL_isRead_151 : decode cL_isRead 151 = .ok (.iconst 4, 1) := by decide +kernel
theorem dL_isRead_152 : decode cL_isRead 152 = .ok (.iload 7, 2) := by decide +kernel
theorem dL_isRead_154 : decode cL_isRead 154 = .ok (.imul, 1) := by decide +kernel
theorem dL_isRead_155 : decode cL_isRead 155 = .ok (.ishr, 1) := by decide +kernel
theorem dL_isRead_156 : decode cL_isRead 156 = .ok (.bipush 15, 2) := by decide +kernel
theorem dL_isRead_158 : decode cL_isRead 158 = .ok (.iand, 1) := by decide +kernel
theorem dL_isRead_159 : decode cL_isRead 159 = .ok (.invokevirtual 85, 3) := by decide +kernel
theorem dL_isRead_162 : decode cL_isRead 162 = .ok (.aload_n 0, 1) := by decide +kernel
theorem dL_isRead_163 : decode cL_isRead 163 = .ok (.iload 5, 2) := by decide +kernel
theorem dL_isRead_165 : decode cL_isRead 165 = .ok (.iconst 2, 1) := by decide +kernel
theorem dL_isRead_166 : decode cL_isRead 166 = .ok (.invokevirtual 69, 3) := by decide +kernel
theorem dL_isRead_169 : decode cL_isRead 169 = .ok (.if_icmp .eq 5, 3) := by decide +kernel
theorem dL_isRead_172 : decode cL_isRead 172 = .ok (.iconst 0, 1) := by decide +kernel
theorem dL_isRead_173 : decode cL_isRead 173 = .ok (.ireturn, 1) := by decide +kernel
theorem dL_isRead_174 : decode cL_isRead 174 = .ok (.iconst 0, 1) := by decide +kernel
theorem dL_isRead_175 : decode cL_isRead 175 = .ok (.istore 9, 2) := by decide +kernel
theorem dL_isRead_177 : decode cL_isRead 177 = .ok (.iload 9, 2) := by decide +kernel
theorem dL_isRead_179 : decode cL_isRead 179 = .ok (.aload_n 0, 1) := by decide +kernel
theorem dL_isRead_180 : decode cL_isRead 180 = .ok (.iconst 0, 1) := by decide +kernel
theorem dL_isRead_181 : decode cL_isRead 181 = .ok (.invokevirtual 57, 3) := by decide +kernel
theorem dL_isRead_184 : decode cL_isRead 184 = .ok (.if_icmp .ge 41, 3) := by decide +kernel
theorem dL_isRead_187 : decode cL_isRead 187 = .ok (.aload_n 0, 1) := by decide +kernel
theorem dL_isRead_188 : decode cL_isRead 188 = .ok (.iload 7, 2) := by decide +kernel
theorem dL_isRead_190 : decode cL_isRead 190 = .ok (.bipush 8, 2) := by decide +kernel
theorem dL_isRead_192 : decode cL_isRead 192 = .ok (.invokevirtual 60, 3) := by decide +kernel
theorem dL_isRead_195 : decode cL_isRead 195 = .ok (.iload 9, 2) := by decide +kernel
theorem dL_isRead_197 : decode cL_isRead 197 = .ok (.ishr, 1) := by decide +kernel
theorem dL_isRead_198 : decode cL_isRead 198 = .ok (.iconst 1, 1) := by decide +kernel
theorem dL_isRead_199 : decode cL_isRead 199 = .ok (.iand, 1) := by decide +kernel
theorem dL_isRead_200 : decode cL_isRead 200 = .ok (.iconst 1, 1) := by decide +kernel
theorem dL_isRead_201 : decode cL_isRead 201 = .ok (.if_icmp .ne 18, 3) := by decide +kernel
theorem dL_isRead_204 : decode cL_isRead 204 = .ok (.iload 6, 2) := by decide +kernel
theorem dL_isRead_206 : decode cL_isRead 206 = .ok (.iconst 4, 1) := by decide +kernel
theorem dL_isRead_207 : decode cL_isRead 207 = .ok (.iload 9, 2) := by decide +kernel
theorem dL_isRead_209 : decode cL_isRead 209 = .ok (.imul, 1) := by decide +kernel
theorem dL_isRead_210 : decode cL_isRead 210 = .ok (.ishr, 1) := by decide +kernel
theorem dL_isRead_211 : decode cL_isRead 211 = .ok (.bipush 15, 2) := by decide +kernel
theorem dL_isRead_213 : decode cL_isRead 213 = .ok (.iand, 1) := by decide +kernel
theorem dL_isRead_214 : decode cL_isRead 214 = .ok (.ifCond .le 5, 3) := by decide +kernel
theorem dL_isRead_217 : decode cL_isRead 217 = .ok (.iconst 0, 1) := by decide +kernel
theorem dL_isRead_218 : decode cL_isRead 218 = .ok (.ireturn, 1) := by decide +kernel
theorem dL_isRead_219 : decode cL_isRead 219 = .ok (.iinc 9 1, 3) := by decide +kernel
theorem dL_isRead_222 : decode cL_isRead 222 = .ok (.goto (-45), 3) := by decide +kernel
theorem dL_isRead_225 : decode cL_isRead 225 = .ok (.iload 6, 2) := by decide +kernel
theorem dL_isRead_227 : decode cL_isRead 227 = .ok (.iconst 1, 1) := by decide +kernel
theorem dL_isRead_228 : decode cL_isRead 228 = .ok (.iconst 4, 1) := by decide +kernel
theorem dL_isRead_229 : decode cL_isRead 229 = .ok (.iload 7, 2) := by decide +kernel
theorem dL_isRead_231 : decode cL_isRead 231 = .ok (.imul, 1) := by decide +kernel
theorem dL_isRead_232 : decode cL_isRead 232 = .ok (.ishl, 1) := by decide +kernel
theorem dL_isRead_233 : decode cL_isRead 233 = .ok (.iadd, 1) := by decide +kernel
theorem dL_isRead_234 : decode cL_isRead 234 = .ok (.istore 6, 2) := by decide +kernel
theorem dL_isRead_236 : decode cL_isRead 236 = .ok (.aload_n 0, 1) := by decide +kernel
theorem dL_isRead_237 : decode cL_isRead 237 = .ok (.iload 5, 2) := by decide +kernel
theorem dL_isRead_239 : decode cL_isRead 239 = .ok (.iconst 1, 1) := by decide +kernel
theorem dL_isRead_240 : decode cL_isRead 240 = .ok (.iadd, 1) := by decide +kernel
theorem dL_isRead_241 : decode cL_isRead 241 = .ok (.iconst 1, 1) := by decide +kernel
theorem dL_isRead_242 : decode cL_isRead 242 = .ok (.invokevirtual 69, 3) := by decide +kernel
theorem dL_isRead_245 : decode cL_isRead 245 = .ok (.istore 9, 2) := by decide +kernel
theorem dL_isRead_247 : decode cL_isRead 247 = .ok (.iload 9, 2) := by decide +kernel
theorem dL_isRead_249 : decode cL_isRead 249 = .ok (.ifCond .ge 11, 3) := by decide +kernel
theorem dL_isRead_252 : decode cL_isRead 252 = .ok (.aload_n 0, 1) := by decide +kernel
theorem dL_isRead_253 : decode cL_isRead 253 = .ok (.iconst 4, 1) := by decide +kernel
theorem dL_isRead_254 : decode cL_isRead 254 = .ok (.invokevirtual 57, 3) := by decide +kernel
theorem dL_isRead_257 : decode cL_isRead 257 = .ok (.goto 19, 3) := by decide +kernel
theorem dL_isRead_260 : decode cL_isRead 260 = .ok (.iload 9, 2) := by decide +kernel
theorem dL_isRead_262 : decode cL_isRead 262 = .ok (.aload_n 0, 1) := by decide +kernel
theorem dL_isRead_263 : decode cL_isRead 263 = .ok (.iconst 1, 1) := by decide +kernel
theorem dL_isRead_264 : decode cL_isRead 264 = .ok (.invokevirtual 57, 3) := by decide +kernel
theorem dL_isRead_267 : decode cL_isRead 267 = .ok (.ifCond .le 7, 3) := by decide +kernel
theorem dL_isRead_270 : decode cL_isRead 270 = .ok (.iconst 1, 1) := by decide +kernel
theorem dL_isRead_271 : decode cL_isRead 271 = .ok (.goto 4, 3) := by decide +kernel
theorem dL_isRead_274 : decode cL_isRead 274 = .ok (.iconst 0, 1) := by decide +kernel
theorem dL_isRead_275 : decode cL_isRead 275 = .ok (.isub, 1) := by decide +kernel
theorem dL_isRead_276 : decode cL_isRead 276 = .ok (.istore 4, 2) := by decide +kernel
theorem dL_isRead_278 : decode cL_isRead 278 = .ok (.iload 4, 2) := by decide +kernel
theorem dL_isRead_280 : decode cL_isRead 280 = .ok (.iload 8, 2) := by decide +kernel
theorem dL_isRead_282 : decode cL_isRead 282 = .ok (.isub, 1) := by decide +kernel
theorem dL_isRead_283 : decode cL_isRead 283 = .ok (.aload_n 0, 1) := by decide +kernel
theorem dL_isRead_284 : decode cL_isRead 284 = .ok (.iload 7, 2) := by decide +kernel
theorem dL_isRead_286 : decode cL_isRead 286 = .ok (.iconst 4, 1) := by decide +kernel
theorem dL_isRead_287 : decode cL_isRead 287 = .ok (.invokevirtual 60, 3) := by decide +kernel
theorem dL_isRead_290 : decode cL_isRead 290 = .ok (.isub, 1) := by decide +kernel
theorem dL_isRead_291 : decode cL_isRead 291 = .ok (.istore 10, 2) := by decide +kernel
theorem dL_isRead_293 : decode cL_isRead 293 = .ok (.aload_n 0, 1) := by decide +kernel
theorem dL_isRead_294 : decode cL_isRead 294 = .ok (.iload 7, 2) := by decide +kernel
theorem dL_isRead_296 : decode cL_isRead 296 = .ok (.iconst 0, 1) := by decide +kernel
theorem dL_isRead_297 : decode cL_isRead 297 = .ok (.invokevirtual 60, 3) := by decide +kernel
theorem dL_isRead_300 : decode cL_isRead 300 = .ok (.istore 11, 2) := by decide +kernel
theorem dL_isRead_302 : decode cL_isRead 302 = .ok (.iload 11, 2) := by decide +kernel
theorem dL_isRead_304 : decode cL_isRead 304 = .ok (.ifCond .ne 11, 3) := by decide +kernel
theorem dL_isRead_307 : decode cL_isRead 307 = .ok (.iload 10, 2) := by decide +kernel
theorem dL_isRead_309 : decode cL_isRead 309 = .ok (.ifCond .eq 35, 3) := by decide +kernel
theorem dL_isRead_312 : decode cL_isRead 312 = .ok (.goto 30, 3) := by decide +kernel
theorem dL_isRead_315 : decode cL_isRead 315 = .ok (.iload 11, 2) := by decide +kernel
theorem dL_isRead_317 : decode cL_isRead 317 = .ok (.iconst 2, 1) := by decide +kernel
theorem dL_isRead_318 : decode cL_isRead 318 = .ok (.if_icmp .ne 12, 3) := by decide +kernel
theorem dL_isRead_321 : decode cL_isRead 321 = .ok (.iload 10, 2) := by decide +kernel
theorem dL_isRead_323 : decode cL_isRead 323 = .ok (.iconst 1, 1) := by decide +kernel
theorem dL_isRead_324 : decode cL_isRead 324 = .ok (.if_icmp .eq 20, 3) := by decide +kernel
theorem dL_isRead_327 : decode cL_isRead 327 = .ok (.goto 15, 3) := by decide +kernel
theorem dL_isRead_330 : decode cL_isRead 330 = .ok (.iload 10, 2) := by decide +kernel
theorem dL_isRead_332 : decode cL_isRead 332 = .ok (.iconst 1, 1) := by decide +kernel
theorem dL_isRead_333 : decode cL_isRead 333 = .ok (.if_icmp .lt 9, 3) := by decide +kernel
theorem dL_isRead_336 : decode cL_isRead 336 = .ok (.iload 10, 2) := by decide +kernel
theorem dL_isRead_338 : decode cL_isRead 338 = .ok (.iconst 3, 1) := by decide +kernel
theorem dL_isRead_339 : decode cL_isRead 339 = .ok (.if_icmp .le 5, 3) := by decide +kernel
theorem dL_isRead_342 : decode cL_isRead 342 = .ok (.iconst 0, 1) := by decide +kernel
theorem dL_isRead_343 : decode cL_isRead 343 = .ok (.ireturn, 1) := by decide +kernel
theorem dL_isRead_344 : decode cL_isRead 344 = .ok (.iload 5, 2) := by decide +kernel
theorem dL_isRead_346 : decode cL_isRead 346 = .ok (.iconst 1, 1) := by decide +kernel
theorem dL_isRead_347 : decode cL_isRead 347 = .ok (.iadd, 1) := by decide +kernel
theorem dL_isRead_348 : decode cL_isRead 348 = .ok (.istore 5, 2) := by decide +kernel
theorem dL_isRead_350 : decode cL_isRead 350 = .ok (.goto (-270), 3) := by decide +kernel
theorem dL_isRead_353 : decode cL_isRead 353 = .ok (.iconst 0, 1) := by decide +kernel
theorem dL_isRead_354 : decode cL_isRead 354 = .ok (.istore 7, 2) := by decide +kernel
theorem dL_isRead_356 : decode cL_isRead 356 = .ok (.iload 7, 2) := by decide +kernel
theorem dL_isRead_358 : decode cL_isRead 358 = .ok (.aload_n 0, 1) := by decide +kernel
theorem dL_isRead_359 : decode cL_isRead 359 = .ok (.iconst 0, 1) := by decide +kernel
theorem dL_isRead_360 : decode cL_isRead 360 = .ok (.invokevirtual 57, 3) := by decide +kernel
theorem dL_isRead_363 : decode cL_isRead 363 = .ok (.if_icmp .ge 75, 3) := by decide +kernel
theorem dL_isRead_366 : decode cL_isRead 366 = .ok (.iload 6, 2) := by decide +kernel
theorem dL_isRead_368 : decode cL_isRead 368 = .ok (.iconst 4, 1) := by decide +kernel
theorem dL_isRead_369 : decode cL_isRead 369 = .ok (.iload 7, 2) := by decide +kernel
theorem dL_isRead_371 : decode cL_isRead 371 = .ok (.imul, 1) := by decide +kernel
theorem dL_isRead_372 : decode cL_isRead 372 = .ok (.ishr, 1) := by decide +kernel
theorem dL_isRead_373 : decode cL_isRead 373 = .ok (.bipush 15, 2) := by decide +kernel
theorem dL_isRead_375 : decode cL_isRead 375 = .ok (.iand, 1) := by decide +kernel
theorem dL_isRead_376 : decode cL_isRead 376 = .ok (.istore 8, 2) := by decide +kernel
theorem dL_isRead_378 : decode cL_isRead 378 = .ok (.iload 8, 2) := by decide +kernel
theorem dL_isRead_380 : decode cL_isRead 380 = .ok (.aload_n 0, 1) := by decide +kernel
theorem dL_isRead_381 : decode cL_isRead 381 = .ok (.iload 7, 2) := by decide +kernel
theorem dL_isRead_383 : decode cL_isRead 383 = .ok (.iconst 1, 1) := by decide +kernel
theorem dL_isRead_384 : decode cL_isRead 384 = .ok (.invokevirtual 60, 3) := by decide +kernel
theorem dL_isRead_387 : decode cL_isRead 387 = .ok (.if_icmp .lt 43, 3) := by decide +kernel
theorem dL_isRead_390 : decode cL_isRead 390 = .ok (.iload 8, 2) := by decide +kernel
theorem dL_isRead_392 : decode cL_isRead 392 = .ok (.aload_n 0, 1) := by decide +kernel
theorem dL_isRead_393 : decode cL_isRead 393 = .ok (.iload 7, 2) := by decide +kernel
theorem dL_isRead_395 : decode cL_isRead 395 = .ok (.iconst 2, 1) := by decide +kernel
theorem dL_isRead_396 : decode cL_isRead 396 = .ok (.invokevirtual 60, 3) := by decide +kernel
theorem dL_isRead_399 : decode cL_isRead 399 = .ok (.if_icmp .gt 31, 3) := by decide +kernel
theorem dL_isRead_402 : decode cL_isRead 402 = .ok (.aload_n 0, 1) := by decide +kernel
theorem dL_isRead_403 : decode cL_isRead 403 = .ok (.iload 7, 2) := by decide +kernel
theorem dL_isRead_405 : decode cL_isRead 405 = .ok (.iload 8, 2) := by decide +kernel
theorem dL_isRead_407 : decode cL_isRead 407 = .ok (.invokevirtual 85, 3) := by decide +kernel
theorem dL_isRead_410 : decode cL_isRead 410 = .ok (.iload 8, 2) := by decide +kernel
theorem dL_isRead_412 : decode cL_isRead 412 = .ok (.ifCond .ne 13, 3) := by decide +kernel
theorem dL_isRead_415 : decode cL_isRead 415 = .ok (.aload_n 0, 1) := by decide +kernel
theorem dL_isRead_416 : decode cL_isRead 416 = .ok (.iload 7, 2) := by decide +kernel
theorem dL_isRead_418 : decode cL_isRead 418 = .ok (.iconst 3, 1) := by decide +kernel
theorem dL_isRead_419 : decode cL_isRead 419 = .ok (.invokevirtual 60, 3) := by decide +kernel
theorem dL_isRead_422 : decode cL_isRead 422 = .ok (.goto 5, 3) := by decide +kernel
theorem dL_isRead_425 : decode cL_isRead 425 = .ok (.bipush (-9), 2) := by decide +kernel
theorem dL_isRead_427 : decode cL_isRead 427 = .ok (.if_icmp .eq 5, 3) := by decide +kernel
theorem dL_isRead_430 : decode cL_isRead 430 = .ok (.iconst 0, 1) := by decide +kernel
theorem dL_isRead_431 : decode cL_isRead 431 = .ok (.ireturn, 1) := by decide +kernel
theorem dL_isRead_432 : decode cL_isRead 432 = .ok (.iinc 7 1, 3) := by decide +kernel
theorem dL_isRead_435 : decode cL_isRead 435 = .ok (.goto (-79), 3) := by decide +kernel
theorem dL_isRead_438 : decode cL_isRead 438 = .ok (.aload_n 0, 1) := by decide +kernel
theorem dL_isRead_439 : decode cL_isRead 439 = .ok (.invokevirtual 66, 3) := by decide +kernel
theorem dL_isRead_442 : decode cL_isRead 442 = .ok (.bipush (-9), 2) := by decide +kernel
theorem dL_isRead_444 : decode cL_isRead 444 = .ok (.if_icmp .ne 71, 3) := by decide +kernel
theorem dL_isRead_447 : decode cL_isRead 447 = .ok (.iload 4, 2) := by decide +kernel
theorem dL_isRead_449 : decode cL_isRead 449 = .ok (.aload_n 0, 1) := by decide +kernel
theorem dL_isRead_450 : decode cL_isRead 450 = .ok (.iconst 4, 1) := by decide +kernel
theorem dL_isRead_451 : decode cL_isRead 451 = .ok (.invokevirtual 57, 3) := by decide +kernel
theorem dL_isRead_454 : decode cL_isRead 454 = .ok (.if_icmp .ne 61, 3) := by decide +kernel
theorem dL_isRead_457 : decode cL_isRead 457 = .ok (.lload_n 2, 1) := by decide +kernel
theorem dL_isRead_458 : decode cL_isRead 458 = .ok (.lconst 0, 1) := by decide +kernel
theorem dL_isRead_459 : decode cL_isRead 459 = .ok (.lcmp, 1) := by decide +kernel
theorem dL_isRead_460 : decode cL_isRead 460 = .ok (.ifCond .lt 55, 3) := by decide +kernel
theorem dL_isRead_463 : decode cL_isRead 463 = .ok (.lload_n 2, 1) := by decide +kernel
theorem dL_isRead_464 : decode cL_isRead 464 = .ok (.aload_n 0, 1) := by decide +kernel
theorem dL_isRead_465 : decode cL_isRead 465 = .ok (.iconst (-1), 1) := by decide +kernel
theorem dL_isRead_466 : decode cL_isRead 466 = .ok (.invokevirtual 88, 3) := by decide +kernel
theorem dL_isRead_469 : decode cL_isRead 469 = .ok (.lcmp, 1) := by decide +kernel
theorem dL_isRead_470 : decode cL_isRead 470 = .ok (.ifCond .ge 45, 3) := by decide +kernel
theorem dL_isRead_473 : decode cL_isRead 473 = .ok (.aload_n 0, 1) := by decide +kernel
theorem dL_isRead_474 : decode cL_isRead 474 = .ok (.lload_n 2, 1) := by decide +kernel
theorem dL_isRead_475 : decode cL_isRead 475 = .ok (.iload 5, 2) := by decide +kernel
theorem dL_isRead_477 : decode cL_isRead 477 = .ok (.invokevirtual 81, 3) := by decide +kernel
theorem dL_isRead_480 : decode cL_isRead 480 = .ok (.bipush (-9), 2) := by decide +kernel
theorem dL_isRead_482 : decode cL_isRead 482 = .ok (.if_icmp .ne 33, 3) := by decide +kernel
theorem dL_isRead_485 : decode cL_isRead 485 = .ok (.iload 5, 2) := by decide +kernel
theorem dL_isRead_487 : decode cL_isRead 487 = .ok (.ifCond .ne 7, 3) := by decide +kernel
theorem dL_isRead_490 : decode cL_isRead 490 = .ok (.iconst 1, 1) := by decide +kernel
theorem dL_isRead_491 : decode cL_isRead 491 = .ok (.goto 4, 3) := by decide +kernel
theorem dL_isRead_494 : decode cL_isRead 494 = .ok (.iconst 0, 1) := by decide +kernel
theorem dL_isRead_495 : decode cL_isRead 495 = .ok (.aload_n 0, 1) := by decide +kernel
theorem dL_isRead_496 : decode cL_isRead 496 = .ok (.iconst 4, 1) := by decide +kernel
theorem dL_isRead_497 : decode cL_isRead 497 = .ok (.invokevirtual 57, 3) := by decide +kernel
theorem dL_isRead_500 : decode cL_isRead 500 = .ok (.ifCond .ne 7, 3) := by decide +kernel
theorem dL_isRead_503 : decode cL_isRead 503 = .ok (.iconst 1, 1) := by decide +kernel
theorem dL_isRead_504 : decode cL_isRead 504 = .ok (.goto 4, 3) := by decide +kernel
theorem dL_isRead_507 : decode cL_isRead 507 = .ok (.iconst 0, 1) := by decide +kernel
theorem dL_isRead_508 : decode cL_isRead 508 = .ok (.if_icmp .ne 7, 3) := by decide +kernel
theorem dL_isRead_511 : decode cL_isRead 511 = .ok (.iconst 1, 1) := by decide +kernel
theorem dL_isRead_512 : decode cL_isRead 512 = .ok (.goto 4, 3) := by decide +kernel
theorem dL_isRead_515 : decode cL_isRead 515 = .ok (.iconst 0, 1) := by decide +kernel
theorem dL_isRead_516 : decode cL_isRead 516 = .ok (.ireturn, 1) := by decide +kernel
theorem dL_isFollowed_0 : decode cL_isFollowed 0 = .ok (.aload_n 0, 1) := by decide +kernel
theorem dL_isFollowed_1 : decode cL_isFollowed 1 = .ok (.invokevirtual 92, 3) := by decide +kernel
theorem dL_isFollowed_4 : decode cL_isFollowed 4 = .ok (.istore_n 1, 1) := by decide +kernel
theorem dL_isFollowed_5 : decode cL_isFollowed 5 = .ok (.iload_n 1, 1) := by decide +kernel
theorem dL_isFollowed_6 : decode cL_isFollowed 6 = .ok (.bipush (-9), 2) := by decide +kernel
theorem dL_isFollowed_8 : decode cL_isFollowed 8 = .ok (.if_icmp .eq 13, 3) := by decide +kernel
theorem dL_isFollowed_11 : decode cL_isFollowed 11 = .ok (.aload_n 0, 1) := by decide +kernel
theorem dL_isFollowed_12 : decode cL_isFollowed 12 = .ok (.iconst 4, 1) := by decide +kernel
theorem dL_isFollowed_13 : decode cL_isFollowed 13 = .ok (.invokevirtual 57, 3) := by decide +kernel
theorem dL_isFollowed_16 : decode cL_isFollowed 16 = .ok (.bipush 50, 2) := by decide +kernel
theorem dL_isFollowed_18 : decode cL_isFollowed 18 = .ok (.if_icmp .le 22, 3) := by decide +kernel
theorem dL_isFollowed_21 : decode cL_isFollowed 21 = .ok (.iload_n 1, 1) := by decide +kernel
theorem dL_isFollowed_22 : decode cL_isFollowed 22 = .ok (.bipush (-9), 2) := by decide +kernel
theorem dL_isFollowed_24 : decode cL_isFollowed 24 = .ok (.if_icmp .ne 10, 3) := by decide +kernel
theorem dL_isFollowed_27 : decode cL_isFollowed 27 = .ok (.aload_n 0, 1) := by decide +kernel
theorem dL_isFollowed_28 : decode cL_isFollowed 28 = .ok (.invokevirtual 63, 3) := by decide +kernel
theorem dL_isFollowed_31 : decode cL_isFollowed 31 = .ok (.ifCond .ne 7, 3) := by decide +kernel
theorem dL_isFollowed_34 : decode cL_isFollowed 34 = .ok (.iconst 1, 1) := by decide +kernel
theorem dL_isFollowed_35 : decode cL_isFollowed 35 = .ok (.goto 4, 3) := by decide +kernel
theorem dL_isFollowed_38 : decode cL_isFollowed 38 = .ok (.iconst 0, 1) := by decide +kernel
theorem dL_isFollowed_39 : decode cL_isFollowed 39 = .ok (.ireturn, 1) := by decide +kernel
theorem dL_isFollowed_40 : decode cL_isFollowed 40 = .ok (.aload_n 0, 1) := by decide +kernel
theorem dL_isFollowed_41 : decode cL_isFollowed 41 = .ok (.iconst 4, 1) := by decide +kernel
theorem dL_isFollowed_42 : decode cL_isFollowed 42 = .ok (.invokevirtual 57, 3) := by decide +kernel
theorem dL_isFollowed_45 : decode cL_isFollowed 45 = .ok (.istore_n 2, 1) := by decide +kernel
theorem dL_isFollowed_46 : decode cL_isFollowed 46 = .ok (.aload_n 0, 1) := by decide +kernel
theorem dL_isFollowed_47 : decode cL_isFollowed 47 = .ok (.invokevirtual 63, 3) := by decide +kernel
theorem dL_isFollowed_50 : decode cL_isFollowed 50 = .ok (.ifCond .gt 18, 3) := by decide +kernel
theorem dL_isFollowed_53 : decode cL_isFollowed 53 = .ok (.aload_n 0, 1) := by decide +kernel
theorem dL_isFollowed_54 : decode cL_isFollowed 54 = .ok (.invokevirtual 66, 3) := by decide +kernel
theorem dL_isFollowed_57 : decode cL_isFollowed 57 = .ok (.iload_n 2, 1) := by decide +kernel
theorem dL_isFollowed_58 : decode cL_isFollowed 58 = .ok (.if_icmp .ne 14, 3) := by decide +kernel
theorem dL_isFollowed_61 : decode cL_isFollowed 61 = .ok (.iload_n 1, 1) := by decide +kernel
theorem dL_isFollowed_62 : decode cL_isFollowed 62 = .ok (.bipush 6, 2) := by decide +kernel
theorem dL_isFollowed_64 : decode cL_isFollowed 64 = .ok (.ishr, 1) := by decide +kernel
theorem dL_isFollowed_65 : decode cL_isFollowed 65 = .ok (.ifCond .ne 7, 3) := by decide +kernel
theorem dL_isFollowed_68 : decode cL_isFollowed 68 = .ok (.iconst 1, 1) := by decide +kernel
theorem dL_isFollowed_69 : decode cL_isFollowed 69 = .ok (.goto 4, 3) := by decide +kernel
theorem dL_isFollowed_72 : decode cL_isFollowed 72 = .ok (.iconst 0, 1) := by decide +kernel
theorem dL_isFollowed_73 : decode cL_isFollowed 73 = .ok (.ireturn, 1) := by decide +kernel
theorem dL_areOrders_0 : decode cL_areOrders 0 = .ok (.lconst 0, 1) := by decide +kernel
theorem dL_areOrders_1 : decode cL_areOrders 1 = .ok (.lstore_n 1, 1) := by decide +kernel
theorem dL_areOrders_2 : decode cL_areOrders 2 = .ok (.iconst 0, 1) := by decide +kernel
theorem dL_areOrders_3 : decode cL_areOrders 3 = .ok (.istore_n 3, 1) := by decide +kernel
theorem dL_areOrders_4 : decode cL_areOrders 4 = .ok (.iload_n 3, 1) := by decide +kernel
theorem dL_areOrders_5 : decode cL_areOrders 5 = .ok (.bipush 19, 2) := by decide +kernel
theorem dL_areOrders_7 : decode cL_areOrders 7 = .ok (.if_icmp .ge 17, 3) := by decide +kernel
theorem dL_areOrders_10 : decode cL_areOrders 10 = .ok (.lload_n 1, 1) := by decide +kernel
theorem dL_areOrders_11 : decode cL_areOrders 11 = .ok (.aload_n 0, 1) := by decide +kernel
theorem dL_areOrders_12 : decode cL_areOrders 12 = .ok (.iload_n 3, 1) := by decide +kernel
theorem dL_areOrders_13 : decode cL_areOrders 13 = .ok (.invokevirtual 88, 3) := by decide +kernel
theorem dL_areOrders_16 : decode cL_areOrders 16 = .ok (.ladd, 1) := by decide +kernel
theorem dL_areOrders_17 : decode cL_areOrders 17 = .ok (.lstore_n 1, 1) := by decide +kernel
theorem dL_areOrders_18 : decode cL_areOrders 18 = .ok (.iinc 3 1, 3) := by decide +kernel
theorem dL_areOrders_21 : decode cL_areOrders 21 = .ok (.goto (-17), 3) := by decide +kernel
theorem dL_areOrders_24 : decode cL_areOrders 24 = .ok (.aload_n 0, 1) := by decide +kernel
theorem dL_areOrders_25 : decode cL_areOrders 25 = .ok (.iconst (-1), 1) := by decide +kernel
theorem dL_areOrders_26 : decode cL_areOrders 26 = .ok (.invokevirtual 88, 3) := by decide +kernel
theorem dL_areOrders_29 : decode cL_areOrders 29 = .ok (.lload_n 1, 1) := by decide +kernel
theorem dL_areOrders_30 : decode cL_areOrders 30 = .ok (.lcmp, 1) := by decide +kernel
theorem dL_areOrders_31 : decode cL_areOrders 31 = .ok (.ifCond .ne 18, 3) := by decide +kernel
theorem dL_areOrders_34 : decode cL_areOrders 34 = .ok (.aload_n 0, 1) := by decide +kernel
theorem dL_areOrders_35 : decode cL_areOrders 35 = .ok (.lload_n 1, 1) := by decide +kernel
theorem dL_areOrders_36 : decode cL_areOrders 36 = .ok (.iconst 0, 1) := by decide +kernel
theorem dL_areOrders_37 : decode cL_areOrders 37 = .ok (.invokevirtual 81, 3) := by decide +kernel
theorem dL_areOrders_40 : decode cL_areOrders 40 = .ok (.bipush (-9), 2) := by decide +kernel
theorem dL_areOrders_42 : decode cL_areOrders 42 = .ok (.if_icmp .ne 7, 3) := by decide +kernel
theorem dL_areOrders_45 : decode cL_areOrders 45 = .ok (.iconst 1, 1) := by decide +kernel
theorem dL_areOrders_46 : decode cL_areOrders 46 = .ok (.goto 4, 3) := by decide +kernel
theorem dL_areOrders_49 : decode cL_areOrders 49 = .ok (.iconst 0, 1) := by decide +kernel
theorem dL_areOrders_50 : decode cL_areOrders 50 = .ok (.istore_n 3, 1) := by decide +kernel
theorem dL_areOrders_51 : decode cL_areOrders 51 = .ok (.iload_n 3, 1) := by decide +kernel
theorem dL_areOrders_52 : decode cL_areOrders 52 = .ok (.ifCond .eq 37, 3) := by decide +kernel
theorem dL_areOrders_55 : decode cL_areOrders 55 = .ok (.lload_n 1, 1) := by decide +kernel
theorem dL_areOrders_56 : decode cL_areOrders 56 = .ok (.lconst 0, 1) := by decide +kernel
theorem dL_areOrders_57 : decode cL_areOrders 57 = .ok (.lcmp, 1) := by decide +kernel
theorem dL_areOrders_58 : decode cL_areOrders 58 = .ok (.ifCond .eq 14, 3) := by decide +kernel
theorem dL_areOrders_61 : decode cL_areOrders 61 = .ok (.aload_n 0, 1) := by decide +kernel
theorem dL_areOrders_62 : decode cL_areOrders 62 = .ok (.lconst 0, 1) := by decide +kernel
theorem dL_areOrders_63 : decode cL_areOrders 63 = .ok (.iconst 0, 1) := by decide +kernel
theorem dL_areOrders_64 : decode cL_areOrders 64 = .ok (.invokevirtual 81, 3) := by decide +kernel
theorem dL_areOrders_67 : decode cL_areOrders 67 = .ok (.bipush (-9), 2) := by decide +kernel
theorem dL_areOrders_69 : decode cL_areOrders 69 = .ok (.if_icmp .lt 20, 3) := by decide +kernel
theorem dL_areOrders_72 : decode cL_areOrders 72 = .ok (.aload_n 0, 1) := by decide +kernel
theorem dL_areOrders_73 : decode cL_areOrders 73 = .ok (.bipush 19, 2) := by decide +kernel
theorem dL_areOrders_75 : decode cL_areOrders 75 = .ok (.invokevirtual 88, 3) := by decide +kernel
theorem dL_areOrders_78 : decode cL_areOrders 78 = .ok (.ldc2_w 95, 3) := by decide +kernel
theorem dL_areOrders_81 : decode cL_areOrders 81 = .ok (.lcmp, 1) := by decide +kernel
theorem dL_areOrders_82 : decode cL_areOrders 82 = .ok (.ifCond .ne 7, 3) := by decide +kernel
theorem dL_areOrders_85 : decode cL_areOrders 85 = .ok (.iconst 1, 1) := by decide +kernel
theorem dL_areOrders_86 : decode cL_areOrders 86 = .ok (.goto 4, 3) := by decide +kernel
theorem dL_areOrders_89 : decode cL_areOrders 89 = .ok (.iconst 0, 1) := by decide +kernel
theorem dL_areOrders_90 : decode cL_areOrders 90 = .ok (.ireturn, 1) := by decide +kernel
theorem dL_areAlike_0 : decode cL_areAlike 0 = .ok (.aload_n 0, 1) := by decide +kernel
theorem dL_areAlike_1 : decode cL_areAlike 1 = .ok (.invokevirtual 63, 3) := by decide +kernel
theorem dL_areAlike_4 : decode cL_areAlike 4 = .ok (.aload_n 1, 1) := by decide +kernel
theorem dL_areAlike_5 : decode cL_areAlike 5 = .ok (.invokevirtual 63, 3) := by decide +kernel
theorem dL_areAlike_8 : decode cL_areAlike 8 = .ok (.if_icmp .ne 43, 3) := by decide +kernel
theorem dL_areAlike_11 : decode cL_areAlike 11 = .ok (.aload_n 0, 1) := by decide +kernel
theorem dL_areAlike_12 : decode cL_areAlike 12 = .ok (.invokevirtual 66, 3) := by decide +kernel
theorem dL_areAlike_15 : decode cL_areAlike 15 = .ok (.aload_n 1, 1) := by decide +kernel
theorem dL_areAlike_16 : decode cL_areAlike 16 = .ok (.invokevirtual 66, 3) := by decide +kernel
theorem dL_areAlike_19 : decode cL_areAlike 19 = .ok (.if_icmp .ne 32, 3) := by decide +kernel
theorem dL_areAlike_22 : decode cL_areAlike 22 = .ok (.aload_n 0, 1) := by decide +kernel
theorem dL_areAlike_23 : decode cL_areAlike 23 = .ok (.invokevirtual 92, 3) := by decide +kernel
theorem dL_areAlike_26 : decode cL_areAlike 26 = .ok (.aload_n 1, 1) := by decide +kernel
theorem dL_areAlike_27 : decode cL_areAlike 27 = .ok (.invokevirtual 92, 3) := by decide +kernel
theorem dL_areAlike_30 : decode cL_areAlike 30 = .ok (.if_icmp .ne 21, 3) := by decide +kernel
theorem dL_areAlike_33 : decode cL_areAlike 33 = .ok (.aload_n 0, 1) := by decide +kernel
theorem dL_areAlike_34 : decode cL_areAlike 34 = .ok (.iconst (-1), 1) := by decide +kernel
theorem dL_areAlike_35 : decode cL_areAlike 35 = .ok (.invokevirtual 88, 3) := by decide +kernel
theorem dL_areAlike_38 : decode cL_areAlike 38 = .ok (.aload_n 1, 1) := by decide +kernel
theorem dL_areAlike_39 : decode cL_areAlike 39 = .ok (.iconst (-1), 1) := by decide +kernel
theorem dL_areAlike_40 : decode cL_areAlike 40 = .ok (.invokevirtual 88, 3) := by decide +kernel
theorem dL_areAlike_43 : decode cL_areAlike 43 = .ok (.lcmp, 1) := by decide +kernel
theorem dL_areAlike_44 : decode cL_areAlike 44 = .ok (.ifCond .ne 7, 3) := by decide +kernel
theorem dL_areAlike_47 : decode cL_areAlike 47 = .ok (.iconst 1, 1) := by decide +kernel
theorem dL_areAlike_48 : decode cL_areAlike 48 = .ok (.goto 4, 3) := by decide +kernel
theorem dL_areAlike_51 : decode cL_areAlike 51 = .ok (.iconst 0, 1) := by decide +kernel
theorem dL_areAlike_52 : decode cL_areAlike 52 = .ok (.istore_n 2, 1) := by decide +kernel
theorem dL_areAlike_53 : decode cL_areAlike 53 = .ok (.iconst 0, 1) := by decide +kernel
theorem dL_areAlike_54 : decode cL_areAlike 54 = .ok (.istore_n 3, 1) := by decide +kernel
theorem dL_areAlike_55 : decode cL_areAlike 55 = .ok (.iload_n 3, 1) := by decide +kernel
theorem dL_areAlike_56 : decode cL_areAlike 56 = .ok (.bipush 8, 2) := by decide +kernel
theorem dL_areAlike_58 : decode cL_areAlike 58 = .ok (.if_icmp .ge 32, 3) := by decide +kernel
theorem dL_areAlike_61 : decode cL_areAlike 61 = .ok (.iload_n 2, 1) := by decide +kernel
theorem dL_areAlike_62 : decode cL_areAlike 62 = .ok (.ifCond .eq 20, 3) := by decide +kernel
theorem dL_areAlike_65 : decode cL_areAlike 65 = .ok (.aload_n 0, 1) := by decide +kernel
theorem dL_areAlike_66 : decode cL_areAlike 66 = .ok (.iload_n 3, 1) := by decide +kernel
theorem dL_areAlike_67 : decode cL_areAlike 67 = .ok (.invokevirtual 57, 3) := by decide +kernel
theorem dL_areAlike_70 : decode cL_areAlike 70 = .ok (.aload_n 1, 1) := by decide +kernel
theorem dL_areAlike_71 : decode cL_areAlike 71 = .ok (.iload_n 3, 1) := by decide +kernel
theorem dL_areAlike_72 : decode cL_areAlike 72 = .ok (.invokevirtual 57, 3) := by decide +kernel
theorem dL_areAlike_75 : decode cL_areAlike 75 = .ok (.if_icmp .ne 7, 3) := by decide +kernel
theorem dL_areAlike_78 : decode cL_areAlike 78 = .ok (.iconst 1, 1) := by decide +kernel
theorem dL_areAlike_79 : decode cL_areAlike 79 = .ok (.goto 4, 3) := by decide +kernel
theorem dL_areAlike_82 : decode cL_areAlike 82 = .ok (.iconst 0, 1) := by decide +kernel
theorem dL_areAlike_83 : decode cL_areAlike 83 = .ok (.istore_n 2, 1) := by decide +kernel
theorem dL_areAlike_84 : decode cL_areAlike 84 = .ok (.iinc 3 1, 3) := by decide +kernel
theorem dL_areAlike_87 : decode cL_areAlike 87 = .ok (.goto (-32), 3) := by decide +kernel
theorem dL_areAlike_90 : decode cL_areAlike 90 = .ok (.iconst 0, 1) := by decide +kernel
theorem dL_areAlike_91 : decode cL_areAlike 91 = .ok (.istore_n 3, 1) := by decide +kernel
theorem dL_areAlike_92 : decode cL_areAlike 92 = .ok (.iload_n 3, 1) := by decide +kernel
theorem dL_areAlike_93 : decode cL_areAlike 93 = .ok (.aload_n 0, 1) := by decide +kernel
theorem dL_areAlike_94 : decode cL_areAlike 94 = .ok (.iconst 0, 1) := by decide +kernel
theorem dL_areAlike_95 : decode cL_areAlike 95 = .ok (.invokevirtual 57, 3) := by decide +kernel
theorem dL_areAlike_98 : decode cL_areAlike 98 = .ok (.if_icmp .ge 52, 3) := by decide +kernel
theorem dL_areAlike_101 : decode cL_areAlike 101 = .ok (.iconst 0, 1) := by decide +kernel
theorem dL_areAlike_102 : decode cL_areAlike 102 = .ok (.istore 4, 2) := by decide +kernel
theorem dL_areAlike_104 : decode cL_areAlike 104 = .ok (.iload 4, 2) := by decide +kernel
theorem dL_areAlike_106 : decode cL_areAlike 106 = .ok (.bipush 10, 2) := by decide +kernel
theorem dL_areAlike_108 : decode cL_areAlike 108 = .ok (.if_icmp .ge 36, 3) := by decide +kernel
theorem dL_areAlike_111 : decode cL_areAlike 111 = .ok (.iload_n 2, 1) := by decide +kernel
theorem dL_areAlike_112 : decode cL_areAlike 112 = .ok (.ifCond .eq 24, 3) := by decide +kernel
theorem dL_areAlike_115 : decode cL_areAlike 115 = .ok (.aload_n 0, 1) := by decide +kernel
theorem dL_areAlike_116 : decode cL_areAlike 116 = .ok (.iload_n 3, 1) := by decide +kernel
theorem dL_areAlike_117 : decode cL_areAlike 117 = .ok (.iload 4, 2) := by decide +kernel
theorem dL_areAlike_119 : decode cL_areAlike 119 = .ok (.invokevirtual 60, 3) := by decide +kernel
theorem dL_areAlike_122 : decode cL_areAlike 122 = .ok (.aload_n 1, 1) := by decide +kernel
theorem dL_areAlike_123 : decode cL_areAlike 123 = .ok (.iload_n 3, 1) := by decide +kernel
theorem dL_areAlike_124 : decode cL_areAlike 124 = .ok (.iload 4, 2) := by decide +kernel
theorem dL_areAlike_126 : decode cL_areAlike 126 = .ok (.invokevirtual 60, 3) := by decide +kernel
theorem dL_areAlike_129 : decode cL_areAlike 129 = .ok (.if_icmp .ne 7, 3) := by decide +kernel
theorem dL_areAlike_132 : decode cL_areAlike 132 = .ok (.iconst 1, 1) := by decide +kernel
theorem dL_areAlike_133 : decode cL_areAlike 133 = .ok (.goto 4, 3) := by decide +kernel
theorem dL_areAlike_136 : decode cL_areAlike 136 = .ok (.iconst 0, 1) := by decide +kernel
theorem dL_areAlike_137 : decode cL_areAlike 137 = .ok (.istore_n 2, 1) := by decide +kernel
theorem dL_areAlike_138 : decode cL_areAlike 138 = .ok (.iinc 4 1, 3) := by decide +kernel
theorem dL_areAlike_141 : decode cL_areAlike 141 = .ok (.goto (-37), 3) := by decide +kernel
theorem dL_areAlike_144 : decode cL_areAlike 144 = .ok (.iinc 3 1, 3) := by decide +kernel
theorem dL_areAlike_147 : decode cL_areAlike 147 = .ok (.goto (-55), 3) := by decide +kernel
theorem dL_areAlike_150 : decode cL_areAlike 150 = .ok (.iload_n 2, 1) := by decide +kernel
theorem dL_areAlike_151 : decode cL_areAlike 151 = .ok (.ireturn, 1) := by decide +kernel
theorem dL_law_0 : decode cL_law 0 = .ok (.new 10, 3) := by decide +kernel
theorem dL_law_3 : decode cL_law 3 = .ok (.dup, 1) := by decide +kernel
theorem dL_law_4 : decode cL_law 4 = .ok (.invokespecial 97, 3) := by decide +kernel
theorem dL_law_7 : decode cL_law 7 = .ok (.astore_n 1, 1) := by decide +kernel
theorem dL_law_8 : decode cL_law 8 = .ok (.new 10, 3) := by decide +kernel
theorem dL_law_11 : decode cL_law 11 = .ok (.dup, 1) := by decide +kernel
theorem dL_law_12 : decode cL_law 12 = .ok (.invokespecial 97, 3) := by decide +kernel
theorem dL_law_15 : decode cL_law 15 = .ok (.astore_n 2, 1) := by decide +kernel
theorem dL_law_16 : decode cL_law 16 = .ok (.iconst 0, 1) := by decide +kernel
theorem dL_law_17 : decode cL_law 17 = .ok (.istore_n 3, 1) := by decide +kernel
theorem dL_law_18 : decode cL_law 18 = .ok (.iload_n 3, 1) := by decide +kernel
theorem dL_law_19 : decode cL_law 19 = .ok (.bipush 16, 2) := by decide +kernel
theorem dL_law_21 : decode cL_law 21 = .ok (.if_icmp .ge 106, 3) := by decide +kernel
theorem dL_law_24 : decode cL_law 24 = .ok (.aload_n 0, 1) := by decide +kernel
theorem dL_law_25 : decode cL_law 25 = .ok (.iconst 2, 1) := by decide +kernel
theorem dL_law_26 : decode cL_law 26 = .ok (.iload_n 3, 1) := by decide +kernel
theorem dL_law_27 : decode cL_law 27 = .ok (.imul, 1) := by decide +kernel
theorem dL_law_28 : decode cL_law 28 = .ok (.invokestatic 98, 3) := by decide +kernel
theorem dL_law_31 : decode cL_law 31 = .ok (.istore 4, 2) := by decide +kernel
theorem dL_law_33 : decode cL_law 33 = .ok (.aload_n 0, 1) := by decide +kernel
theorem dL_law_34 : decode cL_law 34 = .ok (.iconst 2, 1) := by decide +kernel
theorem dL_law_35 : decode cL_law 35 = .ok (.iload_n 3, 1) := by decide +kernel
theorem dL_law_36 : decode cL_law 36 = .ok (.imul, 1) := by decide +kernel
theorem dL_law_37 : decode cL_law 37 = .ok (.iconst 1, 1) := by decide +kernel
theorem dL_law_38 : decode cL_law 38 = .ok (.iadd, 1) := by decide +kernel
theorem dL_law_39 : decode cL_law 39 = .ok (.invokestatic 98, 3) := by decide +kernel
theorem dL_law_42 : decode cL_law 42 = .ok (.istore 5, 2) := by decide +kernel
theorem dL_law_44 : decode cL_law 44 = .ok (.aload_n 1, 1) := by decide +kernel
theorem dL_law_45 : decode cL_law 45 = .ok (.iload 4, 2) := by decide +kernel
theorem dL_law_47 : decode cL_law 47 = .ok (.iload 5, 2) := by decide +kernel
theorem dL_law_49 : decode cL_law 49 = .ok (.invokestatic 102, 3) := by decide +kernel
theorem dL_law_52 : decode cL_law 52 = .ok (.aload_n 2, 1) := by decide +kernel
theorem dL_law_53 : decode cL_law 53 = .ok (.iload 4, 2) := by decide +kernel
theorem dL_law_55 : decode cL_law 55 = .ok (.iload 5, 2) := by decide +kernel
theorem dL_law_57 : decode cL_law 57 = .ok (.invokestatic 102, 3) := by decide +kernel
theorem dL_law_60 : decode cL_law 60 = .ok (.if_icmp .ne 10, 3) := by decide +kernel
theorem dL_law_63 : decode cL_law 63 = .ok (.aload_n 1, 1) := by decide +kernel
theorem dL_law_64 : decode cL_law 64 = .ok (.invokestatic 106, 3) := by decide +kernel
theorem dL_law_67 : decode cL_law 67 = .ok (.ifCond .ne 5, 3) := by decide +kernel
theorem dL_law_70 : decode cL_law 70 = .ok (.iconst 0, 1) := by decide +kernel
theorem dL_law_71 : decode cL_law 71 = .ok (.ireturn, 1) := by decide +kernel
theorem dL_law_72 : decode cL_law 72 = .ok (.aload_n 1, 1) := by decide +kernel
theorem dL_law_73 : decode cL_law 73 = .ok (.iload 5, 2) := by decide +kernel
theorem dL_law_75 : decode cL_law 75 = .ok (.iload 4, 2) := by decide +kernel
theorem dL_law_77 : decode cL_law 77 = .ok (.iconst 3, 1) := by decide +kernel
theorem dL_law_78 : decode cL_law 78 = .ok (.ishr, 1) := by decide +kernel
theorem dL_law_79 : decode cL_law 79 = .ok (.ixor, 1) := by decide +kernel
theorem dL_law_80 : decode cL_law 80 = .ok (.iload 4, 2) := by decide +kernel
theorem dL_law_82 : decode cL_law 82 = .ok (.invokestatic 110, 3) := by decide +kernel
theorem dL_law_85 : decode cL_law 85 = .ok (.istore 6, 2) := by decide +kernel
theorem dL_law_87 : decode cL_law 87 = .ok (.aload_n 2, 1) := by decide +kernel
theorem dL_law_88 : decode cL_law 88 = .ok (.iload 5, 2) := by decide +kernel
theorem dL_law_90 : decode cL_law 90 = .ok (.iload 4, 2) := by decide +kernel
theorem dL_law_92 : decode cL_law 92 = .ok (.iconst 3, 1) := by decide +kernel
theorem dL_law_93 : decode cL_law 93 = .ok (.ishr, 1) := by decide +kernel
theorem dL_law_94 : decode cL_law 94 = .ok (.ixor, 1) := by decide +kernel
theorem dL_law_95 : decode cL_law 95 = .ok (.iload 4, 2) := by decide +kernel
theorem dL_law_97 : decode cL_law 97 = .ok (.invokestatic 110, 3) := by decide +kernel
theorem dL_law_100 : decode cL_law 100 = .ok (.iload 6, 2) := by decide +kernel
theorem dL_law_102 : decode cL_law 102 = .ok (.if_icmp .ne 17, 3) := by decide +kernel
theorem dL_law_105 : decode cL_law 105 = .ok (.aload_n 1, 1) := by decide +kernel
theorem dL_law_106 : decode cL_law 106 = .ok (.invokestatic 113, 3) := by decide +kernel
theorem dL_law_109 : decode cL_law 109 = .ok (.ifCond .eq 10, 3) := by decide +kernel
theorem dL_law_112 : decode cL_law 112 = .ok (.aload_n 1, 1) := by decide +kernel
theorem dL_law_113 : decode cL_law 113 = .ok (.invokestatic 116, 3) := by decide +kernel
theorem dL_law_116 : decode cL_law 116 = .ok (.ifCond .ne 5, 3) := by decide +kernel
theorem dL_law_119 : decode cL_law 119 = .ok (.iconst 0, 1) := by decide +kernel
theorem dL_law_120 : decode cL_law 120 = .ok (.ireturn, 1) := by decide +kernel
theorem dL_law_121 : decode cL_law 121 = .ok (.iinc 3 1, 3) := by decide +kernel
theorem dL_law_124 : decode cL_law 124 = .ok (.goto (-106), 3) := by decide +kernel
theorem dL_law_127 : decode cL_law 127 = .ok (.aload_n 1, 1) := by decide +kernel
theorem dL_law_128 : decode cL_law 128 = .ok (.aload_n 2, 1) := by decide +kernel
theorem dL_law_129 : decode cL_law 129 = .ok (.invokestatic 119, 3) := by decide +kernel
theorem dL_law_132 : decode cL_law 132 = .ok (.ireturn, 1) := by decide +kernel
