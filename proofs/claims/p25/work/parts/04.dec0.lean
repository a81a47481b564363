theorem dX0_init_0 : decode cX0_init 0 = .ok (.aload_n 0, 1) := by decide +kernel
theorem dX0_init_1 : decode cX0_init 1 = .ok (.invokespecial 3, 3) := by decide +kernel
theorem dX0_init_4 : decode cX0_init 4 = .ok (.aload_n 0, 1) := by decide +kernel
theorem dX0_init_5 : decode cX0_init 5 = .ok (.bipush 60, 2) := by decide +kernel
theorem dX0_init_7 : decode cX0_init 7 = .ok (.newarray .int, 2) := by decide +kernel
theorem dX0_init_9 : decode cX0_init 9 = .ok (.putfield 9, 3) := by decide +kernel
theorem dX0_init_12 : decode cX0_init 12 = .ok (.return_, 1) := by decide +kernel
theorem dX0_clear_0 : decode cX0_clear 0 = .ok (.aload_n 0, 1) := by decide +kernel
theorem dX0_clear_1 : decode cX0_clear 1 = .ok (.iconst 0, 1) := by decide +kernel
theorem dX0_clear_2 : decode cX0_clear 2 = .ok (.putfield 15, 3) := by decide +kernel
theorem dX0_clear_5 : decode cX0_clear 5 = .ok (.return_, 1) := by decide +kernel
theorem dX0_append_0 : decode cX0_append 0 = .ok (.aload_n 0, 1) := by decide +kernel
theorem dX0_append_1 : decode cX0_append 1 = .ok (.getfield 15, 3) := by decide +kernel
theorem dX0_append_4 : decode cX0_append 4 = .ok (.ifCond .lt 15, 3) := by decide +kernel
theorem dX0_append_7 : decode cX0_append 7 = .ok (.aload_n 0, 1) := by decide +kernel
theorem dX0_append_8 : decode cX0_append 8 = .ok (.getfield 15, 3) := by decide +kernel
theorem dX0_append_11 : decode cX0_append 11 = .ok (.aload_n 0, 1) := by decide +kernel
theorem dX0_append_12 : decode cX0_append 12 = .ok (.getfield 9, 3) := by decide +kernel
theorem dX0_append_15 : decode cX0_append 15 = .ok (.arraylength, 1) := by decide +kernel
theorem dX0_append_16 : decode cX0_append 16 = .ok (.if_icmp .lt 5, 3) := by decide +kernel
theorem dX0_append_19 : decode cX0_append 19 = .ok (.iconst 0, 1) := by decide +kernel
theorem dX0_append_20 : decode cX0_append 20 = .ok (.ireturn, 1) := by decide +kernel
theorem dX0_append_21 : decode cX0_append 21 = .ok (.aload_n 0, 1) := by decide +kernel
theorem dX0_append_22 : decode cX0_append 22 = .ok (.getfield 9, 3) := by decide +kernel
theorem dX0_append_25 : decode cX0_append 25 = .ok (.aload_n 0, 1) := by decide +kernel
theorem dX0_append_26 : decode cX0_append 26 = .ok (.getfield 15, 3) := by decide +kernel
theorem dX0_append_29 : decode cX0_append 29 = .ok (.iload_n 1, 1) := by decide +kernel
theorem dX0_append_30 : decode cX0_append 30 = .ok (.iastore, 1) := by decide +kernel
theorem dX0_append_31 : decode cX0_append 31 = .ok (.aload_n 0, 1) := by decide +kernel
theorem dX0_append_32 : decode cX0_append 32 = .ok (.dup, 1) := by decide +kernel
theorem dX0_append_33 : decode cX0_append 33 = .ok (.getfield 15, 3) := by decide +kernel
theorem dX0_append_36 : decode cX0_append 36 = .ok (.iconst 1, 1) := by decide +kernel
theorem dX0_append_37 : decode cX0_append 37 = .ok (.iadd, 1) := by decide +kernel
theorem dX0_append_38 : decode cX0_append 38 = .ok (.putfield 15, 3) := by decide +kernel
theorem dX0_append_41 : decode cX0_append 41 = .ok (.iconst 1, 1) := by decide +kernel
theorem dX0_append_42 : decode cX0_append 42 = .ok (.ireturn, 1) := by decide +kernel
theorem dX0_at_0 : decode cX0_at 0 = .ok (.iload_n 1, 1) := by decide +kernel
theorem dX0_at_1 : decode cX0_at 1 = .ok (.ifCond .lt 29, 3) := by decide +kernel
theorem dX0_at_4 : decode cX0_at 4 = .ok (.iload_n 1, 1) := by decide +kernel
theorem dX0_at_5 : decode cX0_at 5 = .ok (.aload_n 0, 1) := by decide +kernel
theorem dX0_at_6 : decode cX0_at 6 = .ok (.getfield 15, 3) := by decide +kernel
theorem dX0_at_9 : decode cX0_at 9 = .ok (.if_icmp .ge 21, 3) := by decide +kernel
theorem dX0_at_12 : decode cX0_at 12 = .ok (.iload_n 1, 1) := by decide +kernel
theorem dX0_at_13 : decode cX0_at 13 = .ok (.aload_n 0, 1) := by decide +kernel
theorem dX0_at_14 : decode cX0_at 14 = .ok (.getfield 9, 3) := by decide +kernel
theorem dX0_at_17 : decode cX0_at 17 = .ok (.arraylength, 1) := by decide +kernel
theorem dX0_at_18 : decode cX0_at 18 = .ok (.if_icmp .ge 12, 3) := by decide +kernel
theorem dX0_at_21 : decode cX0_at 21 = .ok (.aload_n 0, 1) := by decide +kernel
theorem dX0_at_22 : decode cX0_at 22 = .ok (.getfield 9, 3) := by decide +kernel
theorem dX0_at_25 : decode cX0_at 25 = .ok (.iload_n 1, 1) := by decide +kernel
theorem dX0_at_26 : decode cX0_at 26 = .ok (.iaload, 1) := by decide +kernel
theorem dX0_at_27 : decode cX0_at 27 = .ok (.goto 5, 3) := by decide +kernel
theorem dX0_at_30 : decode cX0_at 30 = .ok (.bipush (-9), 2) := by decide +kernel
theorem dX0_at_32 : decode cX0_at 32 = .ok (.ireturn, 1) := by decide +kernel
theorem dX0_asWord_0 : decode cX0_asWord 0 = .ok (.aload_n 0, 1) := by decide +kernel
theorem dX0_asWord_1 : decode cX0_asWord 1 = .ok (.getfield 15, 3) := by decide +kernel
theorem dX0_asWord_4 : decode cX0_asWord 4 = .ok (.iconst 3, 1) := by decide +kernel
theorem dX0_asWord_5 : decode cX0_asWord 5 = .ok (.if_icmp .le 5, 3) := by decide +kernel
theorem dX0_asWord_8 : decode cX0_asWord 8 = .ok (.iconst 0, 1) := by decide +kernel
theorem dX0_asWord_9 : decode cX0_asWord 9 = .ok (.ireturn, 1) := by decide +kernel
theorem dX0_asWord_10 : decode cX0_asWord 10 = .ok (.iconst 0, 1) := by decide +kernel
theorem dX0_asWord_11 : decode cX0_asWord 11 = .ok (.istore_n 1, 1) := by decide +kernel
theorem dX0_asWord_12 : decode cX0_asWord 12 = .ok (.iconst 0, 1) := by decide +kernel
theorem dX0_asWord_13 : decode cX0_asWord 13 = .ok (.istore_n 2, 1) := by decide +kernel
theorem dX0_asWord_14 : decode cX0_asWord 14 = .ok (.iload_n 2, 1) := by decide +kernel
theorem dX0_asWord_15 : decode cX0_asWord 15 = .ok (.aload_n 0, 1) := by decide +kernel
theorem dX0_asWord_16 : decode cX0_asWord 16 = .ok (.getfield 15, 3) := by decide +kernel
theorem dX0_asWord_19 : decode cX0_asWord 19 = .ok (.if_icmp .ge 35, 3) := by decide +kernel
theorem dX0_asWord_22 : decode cX0_asWord 22 = .ok (.aload_n 0, 1) := by decide +kernel
theorem dX0_asWord_23 : decode cX0_asWord 23 = .ok (.iload_n 2, 1) := by decide +kernel
theorem dX0_asWord_24 : decode cX0_asWord 24 = .ok (.invokevirtual 19, 3) := by decide +kernel
theorem dX0_asWord_27 : decode cX0_asWord 27 = .ok (.invokestatic 23, 3) := by decide +kernel
theorem dX0_asWord_30 : decode cX0_asWord 30 = .ok (.ifCond .ne 5, 3) := by decide +kernel
theorem dX0_asWord_33 : decode cX0_asWord 33 = .ok (.iconst 0, 1) := by decide +kernel
theorem dX0_asWord_34 : decode cX0_asWord 34 = .ok (.ireturn, 1) := by decide +kernel
theorem dX0_asWord_35 : decode cX0_asWord 35 = .ok (.iload_n 1, 1) := by decide +kernel
theorem dX0_asWord_36 : decode cX0_asWord 36 = .ok (.aload_n 0, 1) := by decide +kernel
theorem dX0_asWord_37 : decode cX0_asWord 37 = .ok (.iload_n 2, 1) := by decide +kernel
theorem dX0_asWord_38 : decode cX0_asWord 38 = .ok (.invokevirtual 19, 3) := by decide +kernel
theorem dX0_asWord_41 : decode cX0_asWord 41 = .ok (.bipush 8, 2) := by decide +kernel
theorem dX0_asWord_43 : decode cX0_asWord 43 = .ok (.iload_n 2, 1) := by decide +kernel
theorem dX0_asWord_44 : decode cX0_asWord 44 = .ok (.imul, 1) := by decide +kernel
theorem dX0_asWord_45 : decode cX0_asWord 45 = .ok (.ishl, 1) := by decide +kernel
theorem dX0_asWord_46 : decode cX0_asWord 46 = .ok (.ior, 1) := by decide +kernel
theorem dX0_asWord_47 : decode cX0_asWord 47 = .ok (.istore_n 1, 1) := by decide +kernel
theorem dX0_asWord_48 : decode cX0_asWord 48 = .ok (.iinc 2 1, 3) := by decide +kernel
theorem dX0_asWord_51 : decode cX0_asWord 51 = .ok (.goto (-37), 3) := by decide +kernel
theorem dX0_asWord_54 : decode cX0_asWord 54 = .ok (.iload_n 1, 1) := by decide +kernel
theorem dX0_asWord_55 : decode cX0_asWord 55 = .ok (.ireturn, 1) := by decide +kernel
theorem dX0_lettersMatched_0 : decode cX0_lettersMatched 0 = .ok (.iconst 0, 1) := by decide +kernel
theorem dX0_lettersMatched_1 : decode cX0_lettersMatched 1 = .ok (.istore_n 3, 1) := by decide +kernel
theorem dX0_lettersMatched_2 : decode cX0_lettersMatched 2 = .ok (.iload_n 3, 1) := by decide +kernel
theorem dX0_lettersMatched_3 : decode cX0_lettersMatched 3 = .ok (.aload_n 1, 1) := by decide +kernel
theorem dX0_lettersMatched_4 : decode cX0_lettersMatched 4 = .ok (.invokevirtual 27, 3) := by decide +kernel
theorem dX0_lettersMatched_7 : decode cX0_lettersMatched 7 = .ok (.if_icmp .ge 24, 3) := by decide +kernel
theorem dX0_lettersMatched_10 : decode cX0_lettersMatched 10 = .ok (.aload_n 0, 1) := by decide +kernel
theorem dX0_lettersMatched_11 : decode cX0_lettersMatched 11 = .ok (.iload_n 2, 1) := by decide +kernel
theorem dX0_lettersMatched_12 : decode cX0_lettersMatched 12 = .ok (.iload_n 3, 1) := by decide +kernel
theorem dX0_lettersMatched_13 : decode cX0_lettersMatched 13 = .ok (.iadd, 1) := by decide +kernel
theorem dX0_lettersMatched_14 : decode cX0_lettersMatched 14 = .ok (.invokevirtual 19, 3) := by decide +kernel
theorem dX0_lettersMatched_17 : decode cX0_lettersMatched 17 = .ok (.aload_n 1, 1) := by decide +kernel
theorem dX0_lettersMatched_18 : decode cX0_lettersMatched 18 = .ok (.iload_n 3, 1) := by decide +kernel
theorem dX0_lettersMatched_19 : decode cX0_lettersMatched 19 = .ok (.invokevirtual 33, 3) := by decide +kernel
theorem dX0_lettersMatched_22 : decode cX0_lettersMatched 22 = .ok (.if_icmp .ne 9, 3) := by decide +kernel
theorem dX0_lettersMatched_25 : decode cX0_lettersMatched 25 = .ok (.iinc 3 1, 3) := by decide +kernel
theorem dX0_lettersMatched_28 : decode cX0_lettersMatched 28 = .ok (.goto (-26), 3) := by decide +kernel
theorem dX0_lettersMatched_31 : decode cX0_lettersMatched 31 = .ok (.iload_n 3, 1) := by decide +kernel
theorem dX0_lettersMatched_32 : decode cX0_lettersMatched 32 = .ok (.ireturn, 1) := by decide +kernel
theorem dX0_digitsFrom_0 : decode cX0_digitsFrom 0 = .ok (.iconst 0, 1) := by decide +kernel
theorem dX0_digitsFrom_1 : decode cX0_digitsFrom 1 = .ok (.istore_n 2, 1) := by decide +kernel
theorem dX0_digitsFrom_2 : decode cX0_digitsFrom 2 = .ok (.iload_n 2, 1) := by decide +kernel
theorem dX0_digitsFrom_3 : decode cX0_digitsFrom 3 = .ok (.iconst 3, 1) := by decide +kernel
theorem dX0_digitsFrom_4 : decode cX0_digitsFrom 4 = .ok (.if_icmp .ge 22, 3) := by decide +kernel
theorem dX0_digitsFrom_7 : decode cX0_digitsFrom 7 = .ok (.aload_n 0, 1) := by decide +kernel
theorem dX0_digitsFrom_8 : decode cX0_digitsFrom 8 = .ok (.iload_n 1, 1) := by decide +kernel
theorem dX0_digitsFrom_9 : decode cX0_digitsFrom 9 = .ok (.iload_n 2, 1) := by decide +kernel
theorem dX0_digitsFrom_10 : decode cX0_digitsFrom 10 = .ok (.iadd, 1) := by decide +kernel
theorem dX0_digitsFrom_11 : decode cX0_digitsFrom 11 = .ok (.invokevirtual 19, 3) := by decide +kernel
theorem dX0_digitsFrom_14 : decode cX0_digitsFrom 14 = .ok (.invokestatic 36, 3) := by decide +kernel
theorem dX0_digitsFrom_17 : decode cX0_digitsFrom 17 = .ok (.ifCond .eq 9, 3) := by decide +kernel
theorem dX0_digitsFrom_20 : decode cX0_digitsFrom 20 = .ok (.iinc 2 1, 3) := by decide +kernel
theorem dX0_digitsFrom_23 : decode cX0_digitsFrom 23 = .ok (.goto (-21), 3) := by decide +kernel
theorem dX0_digitsFrom_26 : decode cX0_digitsFrom 26 = .ok (.iload_n 2, 1) := by decide +kernel
theorem dX0_digitsFrom_27 : decode cX0_digitsFrom 27 = .ok (.ireturn, 1) := by decide +kernel
theorem dX0_endOf_0 : decode cX0_endOf 0 = .ok (.iload_n 2, 1) := by decide +kernel
theorem dX0_endOf_1 : decode cX0_endOf 1 = .ok (.aload_n 1, 1) := by decide +kernel
theorem dX0_endOf_2 : decode cX0_endOf 2 = .ok (.invokevirtual 27, 3) := by decide +kernel
theorem dX0_endOf_5 : decode cX0_endOf 5 = .ok (.iadd, 1) := by decide +kernel
theorem dX0_endOf_6 : decode cX0_endOf 6 = .ok (.istore_n 3, 1) := by decide +kernel
theorem dX0_endOf_7 : decode cX0_endOf 7 = .ok (.aload_n 0, 1) := by decide +kernel
theorem dX0_endOf_8 : decode cX0_endOf 8 = .ok (.aload_n 1, 1) := by decide +kernel
theorem dX0_endOf_9 : decode cX0_endOf 9 = .ok (.iload_n 2, 1) := by decide +kernel
theorem dX0_endOf_10 : decode cX0_endOf 10 = .ok (.invokevirtual 39, 3) := by decide +kernel
theorem dX0_endOf_13 : decode cX0_endOf 13 = .ok (.aload_n 1, 1) := by decide +kernel
theorem dX0_endOf_14 : decode cX0_endOf 14 = .ok (.invokevirtual 27, 3) := by decide +kernel
theorem dX0_endOf_17 : decode cX0_endOf 17 = .ok (.if_icmp .ge 6, 3) := by decide +kernel
theorem dX0_endOf_20 : decode cX0_endOf 20 = .ok (.bipush (-9), 2) := by decide +kernel
theorem dX0_endOf_22 : decode cX0_endOf 22 = .ok (.ireturn, 1) := by decide +kernel
theorem dX0_endOf_23 : decode cX0_endOf 23 = .ok (.aload_n 1, 1) := by decide +kernel
theorem dX0_endOf_24 : decode cX0_endOf 24 = .ok (.getfield 43, 3) := by decide +kernel
theorem dX0_endOf_27 : decode cX0_endOf 27 = .ok (.iconst 1, 1) := by decide +kernel
theorem dX0_endOf_28 : decode cX0_endOf 28 = .ok (.if_icmp .ne 25, 3) := by decide +kernel
theorem dX0_endOf_31 : decode cX0_endOf 31 = .ok (.aload_n 0, 1) := by decide +kernel
theorem dX0_endOf_32 : decode cX0_endOf 32 = .ok (.iload_n 3, 1) := by decide +kernel
theorem dX0_endOf_33 : decode cX0_endOf 33 = .ok (.invokevirtual 46, 3) := by decide +kernel
theorem dX0_endOf_36 : decode cX0_endOf 36 = .ok (.istore 4, 2) := by decide +kernel
theorem dX0_endOf_38 : decode cX0_endOf 38 = .ok (.iload 4, 2) := by decide +kernel
theorem dX0_endOf_40 : decode cX0_endOf 40 = .ok (.ifCond .le 10, 3) := by decide +kernel
theorem dX0_endOf_43 : decode cX0_endOf 43 = .ok (.iload_n 3, 1) := by decide +kernel
theorem dX0_endOf_44 : decode cX0_endOf 44 = .ok (.iload 4, 2) := by decide +kernel
theorem dX0_endOf_46 : decode cX0_endOf 46 = .ok (.iadd, 1) := by decide +kernel
theorem dX0_endOf_47 : decode cX0_endOf 47 = .ok (.goto 5, 3) := by decide +kernel
theorem dX0_endOf_50 : decode cX0_endOf 50 = .ok (.bipush (-9), 2) := by decide +kernel
theorem dX0_endOf_52 : decode cX0_endOf 52 = .ok (.ireturn, 1) := by decide +kernel
theorem dX0_endOf_53 : decode cX0_endOf 53 = .ok (.aload_n 1, 1) := by decide +kernel
theorem dX0_endOf_54 : decode cX0_endOf 54 = .ok (.getfield 43, 3) := by decide +kernel
theorem dX0_endOf_57 : decode cX0_endOf 57 = .ok (.iconst 2, 1) := by decide +kernel
theorem dX0_endOf_58 : decode cX0_endOf 58 = .ok (.if_icmp .ne 23, 3) := by decide +kernel
theorem dX0_endOf_61 : decode cX0_endOf 61 = .ok (.aload_n 0, 1) := by decide +kernel
theorem dX0_endOf_62 : decode cX0_endOf 62 = .ok (.iload_n 3, 1) := by decide +kernel
theorem dX0_endOf_63 : decode cX0_endOf 63 = .ok (.invokevirtual 19, 3) := by decide +kernel
theorem dX0_endOf_66 : decode cX0_endOf 66 = .ok (.invokestatic 49, 3) := by decide +kernel
theorem dX0_endOf_69 : decode cX0_endOf 69 = .ok (.ifCond .eq 9, 3) := by decide +kernel
theorem dX0_endOf_72 : decode cX0_endOf 72 = .ok (.iload_n 3, 1) := by decide +kernel
theorem dX0_endOf_73 : decode cX0_endOf 73 = .ok (.iconst 1, 1) := by decide +kernel
theorem dX0_endOf_74 : decode cX0_endOf 74 = .ok (.iadd, 1) := by decide +kernel
theorem dX0_endOf_75 : decode cX0_endOf 75 = .ok (.goto 5, 3) := by decide +kernel
theorem dX0_endOf_78 : decode cX0_endOf 78 = .ok (.bipush (-9), 2) := by decide +kernel
theorem dX0_endOf_80 : decode cX0_endOf 80 = .ok (.ireturn, 1) := by decide +kernel
theorem dX0_endOf_81 : decode cX0_endOf 81 = .ok (.iload_n 3, 1) := by decide +kernel
theorem dX0_endOf_82 : decode cX0_endOf 82 = .ok (.ireturn, 1) := by decide +kernel
theorem dX0_numberIn_0 : decode cX0_numberIn 0 = .ok (.iload_n 2, 1) := by decide +kernel
theorem dX0_numberIn_1 : decode cX0_numberIn 1 = .ok (.aload_n 1, 1) := by decide +kernel
theorem dX0_numberIn_2 : decode cX0_numberIn 2 = .ok (.invokevirtual 27, 3) := by decide +kernel
theorem dX0_numberIn_5 : decode cX0_numberIn 5 = .ok (.iadd, 1) := by decide +kernel
theorem dX0_numberIn_6 : decode cX0_numberIn 6 = .ok (.istore 4, 2) := by decide +kernel
theorem dX0_numberIn_8 : decode cX0_numberIn 8 = .ok (.aload_n 1, 1) := by decide +kernel
theorem dX0_numberIn_9 : decode cX0_numberIn 9 = .ok (.getfield 43, 3) := by decide +kernel
theorem dX0_numberIn_12 : decode cX0_numberIn 12 = .ok (.iconst 1, 1) := by decide +kernel
theorem dX0_numberIn_13 : decode cX0_numberIn 13 = .ok (.if_icmp .ne 51, 3) := by decide +kernel
theorem dX0_numberIn_16 : decode cX0_numberIn 16 = .ok (.iconst 0, 1) := by decide +kernel
theorem dX0_numberIn_17 : decode cX0_numberIn 17 = .ok (.istore 5, 2) := by decide +kernel
theorem dX0_numberIn_19 : decode cX0_numberIn 19 = .ok (.iload 4, 2) := by decide +kernel
theorem dX0_numberIn_21 : decode cX0_numberIn 21 = .ok (.istore 6, 2) := by decide +kernel
theorem dX0_numberIn_23 : decode cX0_numberIn 23 = .ok (.iload 6, 2) := by decide +kernel
theorem dX0_numberIn_25 : decode cX0_numberIn 25 = .ok (.iload_n 3, 1) := by decide +kernel
theorem dX0_numberIn_26 : decode cX0_numberIn 26 = .ok (.if_icmp .ge 35, 3) := by decide +kernel
theorem dX0_numberIn_29 : decode cX0_numberIn 29 = .ok (.iload 6, 2) := by decide +kernel
theorem dX0_numberIn_31 : decode cX0_numberIn 31 = .ok (.aload_n 0, 1) := by decide +kernel
theorem dX0_numberIn_32 : decode cX0_numberIn 32 = .ok (.getfield 15, 3) := by decide +kernel
theorem dX0_numberIn_35 : decode cX0_numberIn 35 = .ok (.if_icmp .ge 26, 3) := by decide +kernel
theorem dX0_numberIn_38 : decode cX0_numberIn 38 = .ok (.bipush 10, 2) := by decide +kernel
theorem dX0_numberIn_40 : decode cX0_numberIn 40 = .ok (.iload 5, 2) := by decide +kernel
theorem dX0_numberIn_42 : decode cX0_numberIn 42 = .ok (.imul, 1) := by decide +kernel
theorem dX0_numberIn_43 : decode cX0_numberIn 43 = .ok (.aload_n 0, 1) := by decide +kernel
theorem dX0_numberIn_44 : decode cX0_numberIn 44 = .ok (.iload 6, 2) := by decide +kernel
theorem dX0_numberIn_46 : decode cX0_numberIn 46 = .ok (.invokevirtual 19, 3) := by decide +kernel
theorem dX0_numberIn_49 : decode cX0_numberIn 49 = .ok (.iadd, 1) := by decide +kernel
theorem dX0_numberIn_50 : decode cX0_numberIn 50 = .ok (.bipush 48, 2) := by decide +kernel
theorem dX0_numberIn_52 : decode cX0_numberIn 52 = .ok (.isub, 1) := by decide +kernel
theorem dX0_numberIn_53 : decode cX0_numberIn 53 = .ok (.istore 5, 2) := by decide +kernel
theorem dX0_numberIn_55 : decode cX0_numberIn 55 = .ok (.iinc 6 1, 3) := by decide +kernel
theorem dX0_numberIn_58 : decode cX0_numberIn 58 = .ok (.goto (-35), 3) := by decide +kernel
theorem dX0_numberIn_61 : decode cX0_numberIn 61 = .ok (.iload 5, 2) := by decide +kernel
theorem dX0_numberIn_63 : decode cX0_numberIn 63 = .ok (.ireturn, 1) := by decide +kernel
theorem dX0_numberIn_64 : decode cX0_numberIn 64 = .ok (.aload_n 1, 1) := by decide +kernel
theorem dX0_numberIn_65 : decode cX0_numberIn 65 = .ok (.getfield 43, 3) := by decide +kernel
theorem dX0_numberIn_68 : decode cX0_numberIn 68 = .ok (.iconst 2, 1) := by decide +kernel
theorem dX0_numberIn_69 : decode cX0_numberIn 69 = .ok (.if_icmp .ne 15, 3) := by decide +kernel
theorem dX0_numberIn_72 : decode cX0_numberIn 72 = .ok (.aload_n 0, 1) := by decide +kernel
theorem dX0_numberIn_73 : decode cX0_numberIn 73 = .ok (.iload 4, 2) := by decide +kernel
theorem dX0_numberIn_75 : decode cX0_numberIn 75 = .ok (.invokevirtual 19, 3) := by decide +kernel
theorem dX0_numberIn_78 : decode cX0_numberIn 78 = .ok (.bipush 65, 2) := by decide +kernel
theorem dX0_numberIn_80 : decode cX0_numberIn 80 = .ok (.isub, 1) := by decide +kernel
theorem dX0_numberIn_81 : decode cX0_numberIn 81 = .ok (.goto 4, 3) := by decide +kernel
theorem dX0_numberIn_84 : decode cX0_numberIn 84 = .ok (.iconst 1, 1) := by decide +kernel
theorem dX0_numberIn_85 : decode cX0_numberIn 85 = .ok (.ireturn, 1) := by decide +kernel
theorem dX0_appendOccurrence_0 : decode cX0_appendOccurrence 0 = .ok (.iconst 0, 1) := by decide +kernel
theorem dX0_appendOccurrence_1 : decode cX0_appendOccurrence 1 = .ok (.istore_n 3, 1) := by decide +kernel
theorem dX0_appendOccurrence_2 : decode cX0_appendOccurrence 2 = .ok (.iload_n 3, 1) := by decide +kernel
theorem dX0_appendOccurrence_3 : decode cX0_appendOccurrence 3 = .ok (.aload_n 1, 1) := by decide +kernel
theorem dX0_appendOccurrence_4 : decode cX0_appendOccurrence 4 = .ok (.invokevirtual 27, 3) := by decide +kernel
theorem dX0_appendOccurrence_7 : decode cX0_appendOccurrence 7 = .ok (.if_icmp .ge 19, 3) := by decide +kernel
theorem dX0_appendOccurrence_10 : decode cX0_appendOccurrence 10 = .ok (.aload_n 0, 1) := by decide +kernel
theorem dX0_appendOccurrence_11 : decode cX0_appendOccurrence 11 = .ok (.aload_n 1, 1) := by decide +kernel
theorem dX0_appendOccurrence_12 : decode cX0_appendOccurrence 12 = .ok (.iload_n 3, 1) := by decide +kernel
theorem dX0_appendOccurrence_13 : decode cX0_appendOccurrence 13 = .ok (.invokevirtual 33, 3) := by decide +kernel
theorem dX0_appendOccurrence_16 : decode cX0_appendOccurrence 16 = .ok (.invokevirtual 52, 3) := by decide +kernel
theorem dX0_appendOccurrence_19 : decode cX0_appendOccurrence 19 = .ok (.pop, 1) := by decide +kernel
theorem dX0_appendOccurrence_20 : decode cX0_appendOccurrence 20 = .ok (.iinc 3 1, 3) := by decide +kernel
theorem dX0_appendOccurrence_23 : decode cX0_appendOccurrence 23 = .ok (.goto (-21), 3) := by decide +kernel
theorem dX0_appendOccurrence_26 : decode cX0_appendOccurrence 26 = .ok (.aload_n 1, 1) := by decide +kernel
theorem dX0_appendOccurrence_27 : decode cX0_appendOccurrence 27 = .ok (.getfield 43, 3) := by decide +kernel
theorem dX0_appendOccurrence_30 : decode cX0_appendOccurrence 30 = .ok (.iconst 1, 1) := by decide +kernel
theorem dX0_appendOccurrence_31 : decode cX0_appendOccurrence 31 = .ok (.if_icmp .ne 11, 3) := by decide +kernel
theorem dX0_appendOccurrence_34 : decode cX0_appendOccurrence 34 = .ok (.aload_n 0, 1) := by decide +kernel
theorem dX0_appendOccurrence_35 : decode cX0_appendOccurrence 35 = .ok (.iload_n 2, 1) := by decide +kernel
theorem dX0_appendOccurrence_36 : decode cX0_appendOccurrence 36 = .ok (.invokevirtual 55, 3) := by decide +kernel
theorem dX0_appendOccurrence_39 : decode cX0_appendOccurrence 39 = .ok (.goto 20, 3) := by decide +kernel
theorem dX0_appendOccurrence_42 : decode cX0_appendOccurrence 42 = .ok (.aload_n 1, 1) := by decide +kernel
theorem dX0_appendOccurrence_43 : decode cX0_appendOccurrence 43 = .ok (.getfield 43, 3) := by decide +kernel
theorem dX0_appendOccurrence_46 : decode cX0_appendOccurrence 46 = .ok (.iconst 2, 1) := by decide +kernel
theorem dX0_appendOccurrence_47 : decode cX0_appendOccurrence 47 = .ok (.if_icmp .ne 12, 3) := by decide +kernel
theorem dX0_appendOccurrence_50 : decode cX0_appendOccurrence 50 = .ok (.aload_n 0, 1) := by decide +kernel
theorem dX0_appendOccurrence_51 : decode cX0_appendOccurrence 51 = .ok (.bipush 65, 2) := by decide +kernel
theorem dX0_appendOccurrence_53 : decode cX0_appendOccurrence 53 = .ok (.iload_n 2, 1) := by decide +kernel
theorem dX0_appendOccurrence_54 : decode cX0_appendOccurrence 54 = .ok (.iadd, 1) := by decide +kernel
theorem dX0_appendOccurrence_55 : decode cX0_appendOccurrence 55 = .ok (.invokevirtual 52, 3) := by decide +kernel
theorem dX0_appendOccurrence_58 : decode cX0_appendOccurrence 58 = .ok (.pop, 1) := by decide +kernel
theorem dX0_appendOccurrence_59 : decode cX0_appendOccurrence 59 = .ok (.return_, 1) := by decide +kernel
theorem dX0_appendNumber_0 : decode cX0_appendNumber 0 = .ok (.iload_n 1, 1) := by decide +kernel
theorem dX0_appendNumber_1 : decode cX0_appendNumber 1 = .ok (.bipush 100, 2) := by decide +kernel
theorem dX0_appendNumber_3 : decode cX0_appendNumber 3 = .ok (.if_icmp .lt 15, 3) := by decide +kernel
theorem dX0_appendNumber_6 : decode cX0_appendNumber 6 = .ok (.aload_n 0, 1) := by decide +kernel
theorem dX0_appendNumber_7 : decode cX0_appendNumber 7 = .ok (.bipush 48, 2) := by decide +kernel
theorem dX0_appendNumber_9 : decode cX0_appendNumber 9 = .ok (.iload_n 1, 1) := by decide +kernel
theorem dX0_appendNumber_10 : decode cX0_appendNumber 10 = .ok (.bipush 100, 2) := by decide +kernel
theorem dX0_appendNumber_12 : decode cX0_appendNumber 12 = .ok (.idiv, 1) := by decide +kernel
theorem dX0_appendNumber_13 : decode cX0_appendNumber 13 = .ok (.iadd, 1) := by decide +kernel
theorem dX0_appendNumber_14 : decode cX0_appendNumber 14 = .ok (.invokevirtual 52, 3) := by decide +kernel
theorem dX0_appendNumber_17 : decode cX0_appendNumber 17 = .ok (.pop, 1) := by decide +kernel
theorem dX0_appendNumber_18 : decode cX0_appendNumber 18 = .ok (.iload_n 1, 1) := by decide +kernel
theorem dX0_appendNumber_19 : decode cX0_appendNumber 19 = .ok (.bipush 10, 2) := by decide +kernel
theorem dX0_appendNumber_21 : decode cX0_appendNumber 21 = .ok (.if_icmp .lt 18, 3) := by decide +kernel
theorem dX0_appendNumber_24 : decode cX0_appendNumber 24 = .ok (.aload_n 0, 1) := by decide +kernel
theorem dX0_appendNumber_25 : decode cX0_appendNumber 25 = .ok (.bipush 48, 2) := by decide +kernel
theorem dX0_appendNumber_27 : decode cX0_appendNumber 27 = .ok (.iload_n 1, 1) := by decide +kernel
theorem dX0_appendNumber_28 : decode cX0_appendNumber 28 = .ok (.bipush 10, 2) := by decide +kernel
theorem dX0_appendNumber_30 : decode cX0_appendNumber 30 = .ok (.idiv, 1) := by decide +kernel
theorem dX0_appendNumber_31 : decode cX0_appendNumber 31 = .ok (.bipush 10, 2) := by decide +kernel
theorem dX0_appendNumber_33 : decode cX0_appendNumber 33 = .ok (.irem, 1) := by decide +kernel
theorem dX0_appendNumber_34 : decode cX0_appendNumber 34 = .ok (.iadd, 1) := by decide +kernel
theorem dX0_appendNumber_35 : decode cX0_appendNumber 35 = .ok (.invokevirtual 52, 3) := by decide +kernel
theorem dX0_appendNumber_38 : decode cX0_appendNumber 38 = .ok (.pop, 1) := by decide +kernel
theorem dX0_appendNumber_39 : decode cX0_appendNumber 39 = .ok (.aload_n 0, 1) := by decide +kernel
theorem dX0_appendNumber_40 : decode cX0_appendNumber 40 = .ok (.bipush 48, 2) := by decide +kernel
theorem dX0_appendNumber_42 : decode cX0_appendNumber 42 = .ok (.iload_n 1, 1) := by decide +kernel
theorem dX0_appendNumber_43 : decode cX0_appendNumber 43 = .ok (.bipush 10, 2) := by decide +kernel
theorem dX0_appendNumber_45 : decode cX0_appendNumber 45 = .ok (.irem, 1) := by decide +kernel
theorem dX0_appendNumber_46 : decode cX0_appendNumber 46 = .ok (.iadd, 1) := by decide +kernel
theorem dX0_appendNumber_47 : decode cX0_appendNumber 47 = .ok (.invokevirtual 52, 3) := by decide +kernel
theorem dX0_appendNumber_50 : decode cX0_appendNumber 50 = .ok (.pop, 1) := by decide +kernel
theorem dX0_appendNumber_51 : decode cX0_appendNumber 51 = .ok (.return_, 1) := by decide +kernel
theorem dX1_init_0 : decode cX1_init 0 = .ok (.aload_n 0, 1) := by decide +kernel
theorem dX1_init_1 : decode cX1_init 1 = .ok (.invokespecial 3, 3) := by decide +kernel
theorem dX1_init_4 : decode cX1_init 4 = .ok (.aload_n 0, 1) := by decide +kernel
theorem dX1_init_5 : decode cX1_init 5 = .ok (.bipush 6, 2) := by decide +kernel
theorem dX1_init_7 : decode cX1_init 7 = .ok (.anewarray 9, 3) := by decide +kernel
theorem dX1_init_10 : decode cX1_init 10 = .ok (.putfield 11, 3) := by decide +kernel
theorem dX1_init_13 : decode cX1_init 13 = .ok (.aload_n 0, 1) := by decide +kernel
theorem dX1_init_14 : decode cX1_init 14 = .ok (.new 9, 3) := by decide +kernel
theorem dX1_init_17 : decode cX1_init 17 = .ok (.dup, 1) := by decide +kernel
theorem dX1_init_18 : decode cX1_init 18 = .ok (.invokespecial 17, 3) := by decide +kernel
theorem dX1_init_21 : decode cX1_init 21 = .ok (.putfield 18, 3) := by decide +kernel
theorem dX1_init_24 : decode cX1_init 24 = .ok (.iconst 0, 1) := by decide +kernel
theorem dX1_init_25 : decode cX1_init 25 = .ok (.istore_n 1, 1) := by decide +kernel
theorem dX1_init_26 : decode cX1_init 26 = .ok (.iload_n 1, 1) := by decide +kernel
theorem dX1_init_27 : decode cX1_init 27 = .ok (.aload_n 0, 1) := by decide +kernel
theorem dX1_init_28 : decode cX1_init 28 = .ok (.getfield 11, 3) := by decide +kernel
theorem dX1_init_31 : decode cX1_init 31 = .ok (.arraylength, 1) := by decide +kernel
theorem dX1_init_32 : decode cX1_init 32 = .ok (.if_icmp .ge 22, 3) := by decide +kernel
theorem dX1_init_35 : decode cX1_init 35 = .ok (.aload_n 0, 1) := by decide +kernel
theorem dX1_init_36 : decode cX1_init 36 = .ok (.getfield 11, 3) := by decide +kernel
theorem dX1_init_39 : decode cX1_init 39 = .ok (.iload_n 1, 1) := by decide +kernel
theorem dX1_init_40 : decode cX1_init 40 = .ok (.new 9, 3) := by decide +kernel
theorem dX1_init_43 : decode cX1_init 43 = .ok (.dup, 1) := by decide +kernel
theorem dX1_init_44 : decode cX1_init 44 = .ok (.invokespecial 17, 3) := by decide +kernel
theorem dX1_init_47 : decode cX1_init 47 = .ok (.aastore, 1) := by decide +kernel
theorem dX1_init_48 : decode cX1_init 48 = .ok (.iinc 1 1, 3) := by decide +kernel
theorem dX1_init_51 : decode cX1_init 51 = .ok (.goto (-25), 3) := by decide +kernel
theorem dX1_init_54 : decode cX1_init 54 = .ok (.return_, 1) := by decide +kernel
theorem dX1_copyFrom_0 : decode cX1_copyFrom 0 = .ok (.aload_n 0, 1) := by decide +kernel
theorem dX1_copyFrom_1 : decode cX1_copyFrom 1 = .ok (.aload_n 1, 1) := by decide +kernel
theorem dX1_copyFrom_2 : decode cX1_copyFrom 2 = .ok (.getfield 22, 3) := by decide +kernel
theorem dX1_copyFrom_5 : decode cX1_copyFrom 5 = .ok (.putfield 22, 3) := by decide +kernel
theorem dX1_copyFrom_8 : decode cX1_copyFrom 8 = .ok (.aload_n 0, 1) := by decide +kernel
theorem dX1_copyFrom_9 : decode cX1_copyFrom 9 = .ok (.aload_n 1, 1) := by decide +kernel
theorem dX1_copyFrom_10 : decode cX1_copyFrom 10 = .ok (.getfield 26, 3) := by decide +kernel
theorem dX1_copyFrom_13 : decode cX1_copyFrom 13 = .ok (.putfield 26, 3) := by decide +kernel
theorem dX1_copyFrom_16 : decode cX1_copyFrom 16 = .ok (.iconst 0, 1) := by decide +kernel
theorem dX1_copyFrom_17 : decode cX1_copyFrom 17 = .ok (.istore_n 2, 1) := by decide +kernel
theorem dX1_copyFrom_18 : decode cX1_copyFrom 18 = .ok (.iload_n 2, 1) := by decide +kernel
theorem dX1_copyFrom_19 : decode cX1_copyFrom 19 = .ok (.aload_n 0, 1) := by decide +kernel
theorem dX1_copyFrom_20 : decode cX1_copyFrom 20 = .ok (.getfield 11, 3) := by decide +kernel
theorem dX1_copyFrom_23 : decode cX1_copyFrom 23 = .ok (.arraylength, 1) := by decide +kernel
theorem dX1_copyFrom_24 : decode cX1_copyFrom 24 = .ok (.if_icmp .ge 23, 3) := by decide +kernel
theorem dX1_copyFrom_27 : decode cX1_copyFrom 27 = .ok (.aload_n 0, 1) := by decide +kernel
theorem dX1_copyFrom_28 : decode cX1_copyFrom 28 = .ok (.getfield 11, 3) := by decide +kernel
theorem dX1_copyFrom_31 : decode cX1_copyFrom 31 = .ok (.iload_n 2, 1) := by decide +kernel
theorem dX1_copyFrom_32 : decode cX1_copyFrom 32 = .ok (.aaload, 1) := by decide +kernel
theorem dX1_copyFrom_33 : decode cX1_copyFrom 33 = .ok (.aload_n 1, 1) := by decide +kernel
theorem dX1_copyFrom_34 : decode cX1_copyFrom 34 = .ok (.iload_n 2, 1) := by decide +kernel
theorem dX1_copyFrom_35 : decode cX1_copyFrom 35 = .ok (.invokevirtual 29, 3) := by decide +kernel
theorem dX1_copyFrom_38 : decode cX1_copyFrom 38 = .ok (.invokevirtual 33, 3) := by decide +kernel
theorem dX1_copyFrom_41 : decode cX1_copyFrom 41 = .ok (.iinc 2 1, 3) := by decide +kernel
theorem dX1_copyFrom_44 : decode cX1_copyFrom 44 = .ok (.goto (-26), 3) := by decide +kernel
theorem dX1_copyFrom_47 : decode cX1_copyFrom 47 = .ok (.return_, 1) := by decide +kernel
theorem dX1_has_0 : decode cX1_has 0 = .ok (.iload_n 1, 1) := by decide +kernel
theorem dX1_has_1 : decode cX1_has 1 = .ok (.ifCond .lt 24, 3) := by decide +kernel
theorem dX1_has_4 : decode cX1_has 4 = .ok (.iload_n 1, 1) := by decide +kernel
theorem dX1_has_5 : decode cX1_has 5 = .ok (.aload_n 0, 1) := by decide +kernel
theorem dX1_has_6 : decode cX1_has 6 = .ok (.getfield 22, 3) := by decide +kernel
theorem dX1_has_9 : decode cX1_has 9 = .ok (.if_icmp .ge 16, 3) := by decide +kernel
theorem dX1_has_12 : decode cX1_has 12 = .ok (.iload_n 1, 1) := by decide +kernel
theorem dX1_has_13 : decode cX1_has 13 = .ok (.aload_n 0, 1) := by decide +kernel
theorem dX1_has_14 : decode cX1_has 14 = .ok (.getfield 11, 3) := by decide +kernel
theorem dX1_has_17 : decode cX1_has 17 = .ok (.arraylength, 1) := by decide +kernel
theorem dX1_has_18 : decode cX1_has 18 = .ok (.if_icmp .ge 7, 3) := by decide +kernel
theorem dX1_has_21 : decode cX1_has 21 = .ok (.iconst 1, 1) := by decide +kernel
theorem dX1_has_22 : decode cX1_has 22 = .ok (.goto 4, 3) := by decide +kernel
theorem dX1_has_25 : decode cX1_has 25 = .ok (.iconst 0, 1) := by decide +kernel
theorem dX1_has_26 : decode cX1_has 26 = .ok (.ireturn, 1) := by decide +kernel
theorem dX1_at_0 : decode cX1_at 0 = .ok (.iload_n 1, 1) := by decide +kernel
theorem dX1_at_1 : decode cX1_at 1 = .ok (.ifCond .lt 21, 3) := by decide +kernel
theorem dX1_at_4 : decode cX1_at 4 = .ok (.iload_n 1, 1) := by decide +kernel
theorem dX1_at_5 : decode cX1_at 5 = .ok (.aload_n 0, 1) := by decide +kernel
theorem dX1_at_6 : decode cX1_at 6 = .ok (.getfield 11, 3) := by decide +kernel
theorem dX1_at_9 : decode cX1_at 9 = .ok (.arraylength, 1) := by decide +kernel
theorem dX1_at_10 : decode cX1_at 10 = .ok (.if_icmp .ge 12, 3) := by decide +kernel
theorem dX1_at_13 : decode cX1_at 13 = .ok (.aload_n 0, 1) := by decide +kernel
theorem dX1_at_14 : decode cX1_at 14 = .ok (.getfield 11, 3) := by decide +kernel
theorem dX1_at_17 : decode cX1_at 17 = .ok (.iload_n 1, 1) := by decide +kernel
theorem dX1_at_18 : decode cX1_at 18 = .ok (.aaload, 1) := by decide +kernel
theorem dX1_at_19 : decode cX1_at 19 = .ok (.goto 7, 3) := by decide +kernel
theorem dX1_at_22 : decode cX1_at 22 = .ok (.aload_n 0, 1) := by decide +kernel
theorem dX1_at_23 : decode cX1_at 23 = .ok (.getfield 18, 3) := by decide +kernel
theorem dX1_at_26 : decode cX1_at 26 = .ok (.areturn, 1) := by decide +kernel
theorem dX1_hasWord_0 : decode cX1_hasWord 0 = .ok (.iconst 0, 1) := by decide +kernel
theorem dX1_hasWord_1 : decode cX1_hasWord 1 = .ok (.istore_n 2, 1) := by decide +kernel
theorem dX1_hasWord_2 : decode cX1_hasWord 2 = .ok (.iload_n 2, 1) := by decide +kernel
theorem dX1_hasWord_3 : decode cX1_hasWord 3 = .ok (.aload_n 0, 1) := by decide +kernel
theorem dX1_hasWord_4 : decode cX1_hasWord 4 = .ok (.getfield 22, 3) := by decide +kernel
theorem dX1_hasWord_7 : decode cX1_hasWord 7 = .ok (.if_icmp .ge 23, 3) := by decide +kernel
theorem dX1_hasWord_10 : decode cX1_hasWord 10 = .ok (.aload_n 0, 1) := by decide +kernel
theorem dX1_hasWord_11 : decode cX1_hasWord 11 = .ok (.iload_n 2, 1) := by decide +kernel
theorem dX1_hasWord_12 : decode cX1_hasWord 12 = .ok (.invokevirtual 29, 3) := by decide +kernel
theorem dX1_hasWord_15 : decode cX1_hasWord 15 = .ok (.getfield 37, 3) := by decide +kernel
theorem dX1_hasWord_18 : decode cX1_hasWord 18 = .ok (.iload_n 1, 1) := by decide +kernel
theorem dX1_hasWord_19 : decode cX1_hasWord 19 = .ok (.if_icmp .ne 5, 3) := by decide +kernel
theorem dX1_hasWord_22 : decode cX1_hasWord 22 = .ok (.iconst 1, 1) := by decide +kernel
theorem dX1_hasWord_23 : decode cX1_hasWord 23 = .ok (.ireturn, 1) := by decide +kernel
theorem dX1_hasWord_24 : decode cX1_hasWord 24 = .ok (.iinc 2 1, 3) := by decide +kernel
theorem dX1_hasWord_27 : decode cX1_hasWord 27 = .ok (.goto (-25), 3) := by decide +kernel
theorem dX1_hasWord_30 : decode cX1_hasWord 30 = .ok (.iconst 0, 1) := by decide +kernel
theorem dX1_hasWord_31 : decode cX1_hasWord 31 = .ok (.ireturn, 1) := by decide +kernel
theorem dX1_add_0 : decode cX1_add 0 = .ok (.aload_n 0, 1) := by decide +kernel
theorem dX1_add_1 : decode cX1_add 1 = .ok (.aload_n 0, 1) := by decide +kernel
theorem dX1_add_2 : decode cX1_add 2 = .ok (.getfield 22, 3) := by decide +kernel
theorem dX1_add_5 : decode cX1_add 5 = .ok (.invokevirtual 29, 3) := by decide +kernel
theorem dX1_add_8 : decode cX1_add 8 = .ok (.astore 5, 2) := by decide +kernel
theorem dX1_add_10 : decode cX1_add 10 = .ok (.aload 5, 2) := by decide +kernel
theorem dX1_add_12 : decode cX1_add 12 = .ok (.iload_n 1, 1) := by decide +kernel
theorem dX1_add_13 : decode cX1_add 13 = .ok (.putfield 37, 3) := by decide +kernel
theorem dX1_add_16 : decode cX1_add 16 = .ok (.aload 5, 2) := by decide +kernel
theorem dX1_add_18 : decode cX1_add 18 = .ok (.iload_n 2, 1) := by decide +kernel
theorem dX1_add_19 : decode cX1_add 19 = .ok (.putfield 40, 3) := by decide +kernel
theorem dX1_add_22 : decode cX1_add 22 = .ok (.aload 5, 2) := by decide +kernel
theorem dX1_add_24 : decode cX1_add 24 = .ok (.iload_n 3, 1) := by decide +kernel
theorem dX1_add_25 : decode cX1_add 25 = .ok (.putfield 43, 3) := by decide +kernel
theorem dX1_add_28 : decode cX1_add 28 = .ok (.aload 5, 2) := by decide +kernel
theorem dX1_add_30 : decode cX1_add 30 = .ok (.iload 4, 2) := by decide +kernel
theorem dX1_add_32 : decode cX1_add 32 = .ok (.putfield 46, 3) := by decide +kernel
theorem dX1_add_35 : decode cX1_add 35 = .ok (.aload 5, 2) := by decide +kernel
theorem dX1_add_37 : decode cX1_add 37 = .ok (.iconst 0, 1) := by decide +kernel
theorem dX1_add_38 : decode cX1_add 38 = .ok (.putfield 49, 3) := by decide +kernel
theorem dX1_add_41 : decode cX1_add 41 = .ok (.aload 5, 2) := by decide +kernel
theorem dX1_add_43 : decode cX1_add 43 = .ok (.iconst 0, 1) := by decide +kernel
theorem dX1_add_44 : decode cX1_add 44 = .ok (.putfield 52, 3) := by decide +kernel
theorem dX1_add_47 : decode cX1_add 47 = .ok (.aload_n 0, 1) := by decide +kernel
theorem dX1_add_48 : decode cX1_add 48 = .ok (.dup, 1) := by decide +kernel
theorem dX1_add_49 : decode cX1_add 49 = .ok (.getfield 22, 3) := by decide +kernel
theorem dX1_add_52 : decode cX1_add 52 = .ok (.iconst 1, 1) := by decide +kernel
theorem dX1_add_53 : decode cX1_add 53 = .ok (.iadd, 1) := by decide +kernel
theorem dX1_add_54 : decode cX1_add 54 = .ok (.putfield 22, 3) := by decide +kernel
theorem dX1_add_57 : decode cX1_add 57 = .ok (.aload_n 0, 1) := by decide +kernel
theorem dX1_add_58 : decode cX1_add 58 = .ok (.getfield 22, 3) := by decide +kernel
theorem dX1_add_61 : decode cX1_add 61 = .ok (.iconst 1, 1) := by decide +kernel
theorem dX1_add_62 : decode cX1_add 62 = .ok (.isub, 1) := by decide +kernel
theorem dX1_add_63 : decode cX1_add 63 = .ok (.ireturn, 1) := by decide +kernel
theorem dX1_reseat_0 : decode cX1_reseat 0 = .ok (.aload_n 0, 1) := by decide +kernel
theorem dX1_reseat_1 : decode cX1_reseat 1 = .ok (.iload_n 1, 1) := by decide +kernel
theorem dX1_reseat_2 : decode cX1_reseat 2 = .ok (.invokevirtual 55, 3) := by decide +kernel
theorem dX1_reseat_5 : decode cX1_reseat 5 = .ok (.ifCond .eq 11, 3) := by decide +kernel
theorem dX1_reseat_8 : decode cX1_reseat 8 = .ok (.aload_n 0, 1) := by decide +kernel
theorem dX1_reseat_9 : decode cX1_reseat 9 = .ok (.iload_n 2, 1) := by decide +kernel
theorem dX1_reseat_10 : decode cX1_reseat 10 = .ok (.invokevirtual 55, 3) := by decide +kernel
theorem dX1_reseat_13 : decode cX1_reseat 13 = .ok (.ifCond .ne 4, 3) := by decide +kernel
theorem dX1_reseat_16 : decode cX1_reseat 16 = .ok (.return_, 1) := by decide +kernel
theorem dX1_reseat_17 : decode cX1_reseat 17 = .ok (.aload_n 0, 1) := by decide +kernel
theorem dX1_reseat_18 : decode cX1_reseat 18 = .ok (.getfield 11, 3) := by decide +kernel
theorem dX1_reseat_21 : decode cX1_reseat 21 = .ok (.iload_n 1, 1) := by decide +kernel
theorem dX1_reseat_22 : decode cX1_reseat 22 = .ok (.aaload, 1) := by decide +kernel
theorem dX1_reseat_23 : decode cX1_reseat 23 = .ok (.astore_n 3, 1) := by decide +kernel
theorem dX1_reseat_24 : decode cX1_reseat 24 = .ok (.iload_n 1, 1) := by decide +kernel
theorem dX1_reseat_25 : decode cX1_reseat 25 = .ok (.istore 4, 2) := by decide +kernel
theorem dX1_reseat_27 : decode cX1_reseat 27 = .ok (.iload 4, 2) := by decide +kernel
theorem dX1_reseat_29 : decode cX1_reseat 29 = .ok (.iload_n 2, 1) := by decide +kernel
theorem dX1_reseat_30 : decode cX1_reseat 30 = .ok (.if_icmp .ge 25, 3) := by decide +kernel
theorem dX1_reseat_33 : decode cX1_reseat 33 = .ok (.aload_n 0, 1) := by decide +kernel
theorem dX1_reseat_34 : decode cX1_reseat 34 = .ok (.getfield 11, 3) := by decide +kernel
theorem dX1_reseat_37 : decode cX1_reseat 37 = .ok (.iload 4, 2) := by decide +kernel
theorem dX1_reseat_39 : decode cX1_reseat 39 = .ok (.aload_n 0, 1) := by decide +kernel
theorem dX1_reseat_40 : decode cX1_reseat 40 = .ok (.getfield 11, 3) := by decide +kernel
theorem dX1_reseat_43 : decode cX1_reseat 43 = .ok (.iload 4, 2) := by decide +kernel
theorem dX1_reseat_45 : decode cX1_reseat 45 = .ok (.iconst 1, 1) := by decide +kernel
theorem dX1_reseat_46 : decode cX1_reseat 46 = .ok (.iadd, 1) := by decide +kernel
theorem dX1_reseat_47 : decode cX1_reseat 47 = .ok (.aaload, 1) := by decide +kernel
theorem dX1_reseat_48 : decode cX1_reseat 48 = .ok (.aastore, 1) := by decide +kernel
theorem dX1_reseat_49 : decode cX1_reseat 49 = .ok (.iinc 4 1, 3) := by decide +kernel
theorem dX1_reseat_52 : decode cX1_reseat 52 = .ok (.goto (-25), 3) := by decide +kernel
theorem dX1_reseat_55 : decode cX1_reseat 55 = .ok (.iload_n 1, 1) := by decide +kernel
theorem dX1_reseat_56 : decode cX1_reseat 56 = .ok (.istore 4, 2) := by decide +kernel
theorem dX1_reseat_58 : decode cX1_reseat 58 = .ok (.iload 4, 2) := by decide +kernel
theorem dX1_reseat_60 : decode cX1_reseat 60 = .ok (.iload_n 2, 1) := by decide +kernel
theorem dX1_reseat_61 : decode cX1_reseat 61 = .ok (.if_icmp .le 25, 3) := by decide +kernel
theorem dX1_reseat_64 : decode cX1_reseat 64 = .ok (.aload_n 0, 1) := by decide +kernel
theorem dX1_reseat_65 : decode cX1_reseat 65 = .ok (.getfield 11, 3) := by decide +kernel
theorem dX1_reseat_68 : decode cX1_reseat 68 = .ok (.iload 4, 2) := by decide +kernel
theorem dX1_reseat_70 : decode cX1_reseat 70 = .ok (.aload_n 0, 1) := by decide +kernel
theorem dX1_reseat_71 : decode cX1_reseat 71 = .ok (.getfield 11, 3) := by decide +kernel
theorem dX1_reseat_74 : decode cX1_reseat 74 = .ok (.iload 4, 2) := by decide +kernel
theorem dX1_reseat_76 : decode cX1_reseat 76 = .ok (.iconst 1, 1) := by decide +kernel
theorem dX1_reseat_77 : decode cX1_reseat 77 = .ok (.isub, 1) := by decide +kernel
theorem dX1_reseat_78 : decode cX1_reseat 78 = .ok (.aaload, 1) := by decide +kernel
theorem dX1_reseat_79 : decode cX1_reseat 79 = .ok (.aastore, 1) := by decide +kernel
theorem dX1_reseat_80 : decode cX1_reseat 80 = .ok (.iinc 4 (-1), 3) := by decide +kernel
theorem dX1_reseat_83 : decode cX1_reseat 83 = .ok (.goto (-25), 3) := by decide +kernel
theorem dX1_reseat_86 : decode cX1_reseat 86 = .ok (.aload_n 0, 1) := by decide +kernel
theorem dX1_reseat_87 : decode cX1_reseat 87 = .ok (.getfield 11, 3) := by decide +kernel
theorem dX1_reseat_90 : decode cX1_reseat 90 = .ok (.iload_n 2, 1) := by decide +kernel
theorem dX1_reseat_91 : decode cX1_reseat 91 = .ok (.aload_n 3, 1) := by decide +kernel
theorem dX1_reseat_92 : decode cX1_reseat 92 = .ok (.aastore, 1) := by decide +kernel
theorem dX1_reseat_93 : decode cX1_reseat 93 = .ok (.iconst 0, 1) := by decide +kernel
theorem dX1_reseat_94 : decode cX1_reseat 94 = .ok (.istore 4, 2) := by decide +kernel
theorem dX1_reseat_96 : decode cX1_reseat 96 = .ok (.iload 4, 2) := by decide +kernel
theorem dX1_reseat_98 : decode cX1_reseat 98 = .ok (.aload_n 0, 1) := by decide +kernel
theorem dX1_reseat_99 : decode cX1_reseat 99 = .ok (.getfield 22, 3) := by decide +kernel
theorem dX1_reseat_102 : decode cX1_reseat 102 = .ok (.if_icmp .ge 32, 3) := by decide +kernel
theorem dX1_reseat_105 : decode cX1_reseat 105 = .ok (.aload_n 0, 1) := by decide +kernel
theorem dX1_reseat_106 : decode cX1_reseat 106 = .ok (.iload 4, 2) := by decide +kernel
theorem dX1_reseat_108 : decode cX1_reseat 108 = .ok (.invokevirtual 29, 3) := by decide +kernel
theorem dX1_reseat_111 : decode cX1_reseat 111 = .ok (.aload_n 0, 1) := by decide +kernel
theorem dX1_reseat_112 : decode cX1_reseat 112 = .ok (.iload 4, 2) := by decide +kernel
theorem dX1_reseat_114 : decode cX1_reseat 114 = .ok (.invokevirtual 29, 3) := by decide +kernel
theorem dX1_reseat_117 : decode cX1_reseat 117 = .ok (.getfield 52, 3) := by decide +kernel
theorem dX1_reseat_120 : decode cX1_reseat 120 = .ok (.iload_n 1, 1) := by decide +kernel
theorem dX1_reseat_121 : decode cX1_reseat 121 = .ok (.iload_n 2, 1) := by decide +kernel
theorem dX1_reseat_122 : decode cX1_reseat 122 = .ok (.invokestatic 59, 3) := by decide +kernel
theorem dX1_reseat_125 : decode cX1_reseat 125 = .ok (.putfield 52, 3) := by decide +kernel
theorem dX1_reseat_128 : decode cX1_reseat 128 = .ok (.iinc 4 1, 3) := by decide +kernel
theorem dX1_reseat_131 : decode cX1_reseat 131 = .ok (.goto (-35), 3) := by decide +kernel
theorem dX1_reseat_134 : decode cX1_reseat 134 = .ok (.return_, 1) := by decide +kernel
theorem dX1_takeOut_0 : decode cX1_takeOut 0 = .ok (.aload_n 0, 1) := by decide +kernel
theorem dX1_takeOut_1 : decode cX1_takeOut 1 = .ok (.iload_n 1, 1) := by decide +kernel
theorem dX1_takeOut_2 : decode cX1_takeOut 2 = .ok (.invokevirtual 55, 3) := by decide +kernel
theorem dX1_takeOut_5 : decode cX1_takeOut 5 = .ok (.ifCond .ne 4, 3) := by decide +kernel
theorem dX1_takeOut_8 : decode cX1_takeOut 8 = .ok (.return_, 1) := by decide +kernel
theorem dX1_takeOut_9 : decode cX1_takeOut 9 = .ok (.aload_n 0, 1) := by decide +kernel
theorem dX1_takeOut_10 : decode cX1_takeOut 10 = .ok (.iload_n 1, 1) := by decide +kernel
theorem dX1_takeOut_11 : decode cX1_takeOut 11 = .ok (.aload_n 0, 1) := by decide +kernel
theorem dX1_takeOut_12 : decode cX1_takeOut 12 = .ok (.getfield 22, 3) := by decide +kernel
theorem dX1_takeOut_15 : decode cX1_takeOut 15 = .ok (.iconst 1, 1) := by decide +kernel
theorem dX1_takeOut_16 : decode cX1_takeOut 16 = .ok (.isub, 1) := by decide +kernel
theorem dX1_takeOut_17 : decode cX1_takeOut 17 = .ok (.invokevirtual 63, 3) := by decide +kernel
theorem dX1_takeOut_20 : decode cX1_takeOut 20 = .ok (.aload_n 0, 1) := by decide +kernel
theorem dX1_takeOut_21 : decode cX1_takeOut 21 = .ok (.dup, 1) := by decide +kernel
theorem dX1_takeOut_22 : decode cX1_takeOut 22 = .ok (.getfield 22, 3) := by decide +kernel
theorem dX1_takeOut_25 : decode cX1_takeOut 25 = .ok (.iconst 1, 1) := by decide +kernel
theorem dX1_takeOut_26 : decode cX1_takeOut 26 = .ok (.isub, 1) := by decide +kernel
theorem dX1_takeOut_27 : decode cX1_takeOut 27 = .ok (.putfield 22, 3) := by decide +kernel
theorem dX1_takeOut_30 : decode cX1_takeOut 30 = .ok (.iconst 0, 1) := by decide +kernel
theorem dX1_takeOut_31 : decode cX1_takeOut 31 = .ok (.istore_n 2, 1) := by decide +kernel
theorem dX1_takeOut_32 : decode cX1_takeOut 32 = .ok (.iload_n 2, 1) := by decide +kernel
theorem dX1_takeOut_33 : decode cX1_takeOut 33 = .ok (.aload_n 0, 1) := by decide +kernel
theorem dX1_takeOut_34 : decode cX1_takeOut 34 = .ok (.getfield 22, 3) := by decide +kernel
theorem dX1_takeOut_37 : decode cX1_takeOut 37 = .ok (.if_icmp .ge 32, 3) := by decide +kernel
theorem dX1_takeOut_40 : decode cX1_takeOut 40 = .ok (.aload_n 0, 1) := by decide +kernel
theorem dX1_takeOut_41 : decode cX1_takeOut 41 = .ok (.iload_n 2, 1) := by decide +kernel
theorem dX1_takeOut_42 : decode cX1_takeOut 42 = .ok (.invokevirtual 29, 3) := by decide +kernel
theorem dX1_takeOut_45 : decode cX1_takeOut 45 = .ok (.aload_n 0, 1) := by decide +kernel
theorem dX1_takeOut_46 : decode cX1_takeOut 46 = .ok (.iload_n 2, 1) := by decide +kernel
theorem dX1_takeOut_47 : decode cX1_takeOut 47 = .ok (.invokevirtual 29, 3) := by decide +kernel
theorem dX1_takeOut_50 : decode cX1_takeOut 50 = .ok (.getfield 52, 3) := by decide +kernel
theorem dX1_takeOut_53 : decode cX1_takeOut 53 = .ok (.aload_n 0, 1) := by decide +kernel
theorem dX1_takeOut_54 : decode cX1_takeOut 54 = .ok (.getfield 22, 3) := by decide +kernel
theorem dX1_takeOut_57 : decode cX1_takeOut 57 = .ok (.invokestatic 67, 3) := by decide +kernel
theorem dX1_takeOut_60 : decode cX1_takeOut 60 = .ok (.putfield 52, 3) := by decide +kernel
theorem dX1_takeOut_63 : decode cX1_takeOut 63 = .ok (.iinc 2 1, 3) := by decide +kernel
theorem dX1_takeOut_66 : decode cX1_takeOut 66 = .ok (.goto (-34), 3) := by decide +kernel
theorem dX1_takeOut_69 : decode cX1_takeOut 69 = .ok (.return_, 1) := by decide +kernel
theorem dX1_countRules_0 : decode cX1_countRules 0 = .ok (.iconst 0, 1) := by decide +kernel
theorem dX1_countRules_1 : decode cX1_countRules 1 = .ok (.istore_n 1, 1) := by decide +kernel
theorem dX1_countRules_2 : decode cX1_countRules 2 = .ok (.iconst 0, 1) := by decide +kernel
theorem dX1_countRules_3 : decode cX1_countRules 3 = .ok (.istore_n 2, 1) := by decide +kernel
theorem dX1_countRules_4 : decode cX1_countRules 4 = .ok (.iload_n 2, 1) := by decide +kernel
theorem dX1_countRules_5 : decode cX1_countRules 5 = .ok (.aload_n 0, 1) := by decide +kernel
theorem dX1_countRules_6 : decode cX1_countRules 6 = .ok (.getfield 22, 3) := by decide +kernel
theorem dX1_countRules_9 : decode cX1_countRules 9 = .ok (.if_icmp .ge 23, 3) := by decide +kernel
theorem dX1_countRules_12 : decode cX1_countRules 12 = .ok (.iload_n 1, 1) := by decide +kernel
theorem dX1_countRules_13 : decode cX1_countRules 13 = .ok (.aload_n 0, 1) := by decide +kernel
theorem dX1_countRules_14 : decode cX1_countRules 14 = .ok (.iload_n 2, 1) := by decide +kernel
theorem dX1_countRules_15 : decode cX1_countRules 15 = .ok (.invokevirtual 29, 3) := by decide +kernel
theorem dX1_countRules_18 : decode cX1_countRules 18 = .ok (.getfield 52, 3) := by decide +kernel
theorem dX1_countRules_21 : decode cX1_countRules 21 = .ok (.invokestatic 71, 3) := by decide +kernel
theorem dX1_countRules_24 : decode cX1_countRules 24 = .ok (.iadd, 1) := by decide +kernel
theorem dX1_countRules_25 : decode cX1_countRules 25 = .ok (.istore_n 1, 1) := by decide +kernel
theorem dX1_countRules_26 : decode cX1_countRules 26 = .ok (.iinc 2 1, 3) := by decide +kernel
theorem dX1_countRules_29 : decode cX1_countRules 29 = .ok (.goto (-25), 3) := by decide +kernel
theorem dX1_countRules_32 : decode cX1_countRules 32 = .ok (.iload_n 1, 1) := by decide +kernel
theorem dX1_countRules_33 : decode cX1_countRules 33 = .ok (.ireturn, 1) := by decide +kernel
theorem dX1_clashesOf_0 : decode cX1_clashesOf 0 = .ok (.iconst 0, 1) := by decide +kernel
theorem dX1_clashesOf_1 : decode cX1_clashesOf 1 = .ok (.istore_n 2, 1) := by decide +kernel
theorem dX1_clashesOf_2 : decode cX1_clashesOf 2 = .ok (.iconst 0, 1) := by decide +kernel
theorem dX1_clashesOf_3 : decode cX1_clashesOf 3 = .ok (.istore_n 3, 1) := by decide +kernel
theorem dX1_clashesOf_4 : decode cX1_clashesOf 4 = .ok (.iload_n 3, 1) := by decide +kernel
theorem dX1_clashesOf_5 : decode cX1_clashesOf 5 = .ok (.aload_n 0, 1) := by decide +kernel
theorem dX1_clashesOf_6 : decode cX1_clashesOf 6 = .ok (.getfield 22, 3) := by decide +kernel
theorem dX1_clashesOf_9 : decode cX1_clashesOf 9 = .ok (.if_icmp .ge 36, 3) := by decide +kernel
theorem dX1_clashesOf_12 : decode cX1_clashesOf 12 = .ok (.iload_n 3, 1) := by decide +kernel
theorem dX1_clashesOf_13 : decode cX1_clashesOf 13 = .ok (.iload_n 1, 1) := by decide +kernel
theorem dX1_clashesOf_14 : decode cX1_clashesOf 14 = .ok (.if_icmp .eq 25, 3) := by decide +kernel
theorem dX1_clashesOf_17 : decode cX1_clashesOf 17 = .ok (.aload_n 0, 1) := by decide +kernel
theorem dX1_clashesOf_18 : decode cX1_clashesOf 18 = .ok (.iload_n 1, 1) := by decide +kernel
theorem dX1_clashesOf_19 : decode cX1_clashesOf 19 = .ok (.invokevirtual 29, 3) := by decide +kernel
theorem dX1_clashesOf_22 : decode cX1_clashesOf 22 = .ok (.aload_n 0, 1) := by decide +kernel
theorem dX1_clashesOf_23 : decode cX1_clashesOf 23 = .ok (.iload_n 3, 1) := by decide +kernel
theorem dX1_clashesOf_24 : decode cX1_clashesOf 24 = .ok (.invokevirtual 29, 3) := by decide +kernel
theorem dX1_clashesOf_27 : decode cX1_clashesOf 27 = .ok (.invokevirtual 77, 3) := by decide +kernel
theorem dX1_clashesOf_30 : decode cX1_clashesOf 30 = .ok (.ifCond .eq 9, 3) := by decide +kernel
theorem dX1_clashesOf_33 : decode cX1_clashesOf 33 = .ok (.iload_n 2, 1) := by decide +kernel
theorem dX1_clashesOf_34 : decode cX1_clashesOf 34 = .ok (.iconst 1, 1) := by decide +kernel
theorem dX1_clashesOf_35 : decode cX1_clashesOf 35 = .ok (.iload_n 3, 1) := by decide +kernel
theorem dX1_clashesOf_36 : decode cX1_clashesOf 36 = .ok (.ishl, 1) := by decide +kernel
theorem dX1_clashesOf_37 : decode cX1_clashesOf 37 = .ok (.ior, 1) := by decide +kernel
theorem dX1_clashesOf_38 : decode cX1_clashesOf 38 = .ok (.istore_n 2, 1) := by decide +kernel
theorem dX1_clashesOf_39 : decode cX1_clashesOf 39 = .ok (.iinc 3 1, 3) := by decide +kernel
theorem dX1_clashesOf_42 : decode cX1_clashesOf 42 = .ok (.goto (-38), 3) := by decide +kernel
theorem dX1_clashesOf_45 : decode cX1_clashesOf 45 = .ok (.iload_n 2, 1) := by decide +kernel
theorem dX1_clashesOf_46 : decode cX1_clashesOf 46 = .ok (.ireturn, 1) := by decide +kernel
theorem dX1_countClashingPairs_0 : decode cX1_countClashingPairs 0 = .ok (.iconst 0, 1) := by decide +kernel
theorem dX1_countClashingPairs_1 : decode cX1_countClashingPairs 1 = .ok (.istore_n 1, 1) := by decide +kernel
theorem dX1_countClashingPairs_2 : decode cX1_countClashingPairs 2 = .ok (.iconst 0, 1) := by decide +kernel
theorem dX1_countClashingPairs_3 : decode cX1_countClashingPairs 3 = .ok (.istore_n 2, 1) := by decide +kernel
theorem dX1_countClashingPairs_4 : decode cX1_countClashingPairs 4 = .ok (.iload_n 2, 1) := by decide +kernel
theorem dX1_countClashingPairs_5 : decode cX1_countClashingPairs 5 = .ok (.aload_n 0, 1) := by decide +kernel
theorem dX1_countClashingPairs_6 : decode cX1_countClashingPairs 6 = .ok (.getfield 22, 3) := by decide +kernel
theorem dX1_countClashingPairs_9 : decode cX1_countClashingPairs 9 = .ok (.if_icmp .ge 20, 3) := by decide +kernel
theorem dX1_countClashingPairs_12 : decode cX1_countClashingPairs 12 = .ok (.iload_n 1, 1) := by decide +kernel
theorem dX1_countClashingPairs_13 : decode cX1_countClashingPairs 13 = .ok (.aload_n 0, 1) := by decide +kernel
theorem dX1_countClashingPairs_14 : decode cX1_countClashingPairs 14 = .ok (.iload_n 2, 1) := by decide +kernel
theorem dX1_countClashingPairs_15 : decode cX1_countClashingPairs 15 = .ok (.invokevirtual 81, 3) := by decide +kernel
theorem dX1_countClashingPairs_18 : decode cX1_countClashingPairs 18 = .ok (.invokestatic 71, 3) := by decide +kernel
theorem dX1_countClashingPairs_21 : decode cX1_countClashingPairs 21 = .ok (.iadd, 1) := by decide +kernel
theorem dX1_countClashingPairs_22 : decode cX1_countClashingPairs 22 = .ok (.istore_n 1, 1) := by decide +kernel
theorem dX1_countClashingPairs_23 : decode cX1_countClashingPairs 23 = .ok (.iinc 2 1, 3) := by decide +kernel
theorem dX1_countClashingPairs_26 : decode cX1_countClashingPairs 26 = .ok (.goto (-22), 3) := by decide +kernel
theorem dX1_countClashingPairs_29 : decode cX1_countClashingPairs 29 = .ok (.iload_n 1, 1) := by decide +kernel
theorem dX1_countClashingPairs_30 : decode cX1_countClashingPairs 30 = .ok (.iconst 2, 1) := by decide +kernel
theorem dX1_countClashingPairs_31 : decode cX1_countClashingPairs 31 = .ok (.idiv, 1) := by decide +kernel
theorem dX1_countClashingPairs_32 : decode cX1_countClashingPairs 32 = .ok (.ireturn, 1) := by decide +kernel
theorem dX1_leastOccurrences_0 : decode cX1_leastOccurrences 0 = .ok (.iconst 0, 1) := by decide +kernel
theorem dX1_leastOccurrences_1 : decode cX1_leastOccurrences 1 = .ok (.istore_n 1, 1) := by decide +kernel
theorem dX1_leastOccurrences_2 : decode cX1_leastOccurrences 2 = .ok (.iconst 0, 1) := by decide +kernel
theorem dX1_leastOccurrences_3 : decode cX1_leastOccurrences 3 = .ok (.istore_n 2, 1) := by decide +kernel
theorem dX1_leastOccurrences_4 : decode cX1_leastOccurrences 4 = .ok (.iload_n 2, 1) := by decide +kernel
theorem dX1_leastOccurrences_5 : decode cX1_leastOccurrences 5 = .ok (.aload_n 0, 1) := by decide +kernel
theorem dX1_leastOccurrences_6 : decode cX1_leastOccurrences 6 = .ok (.getfield 22, 3) := by decide +kernel
theorem dX1_leastOccurrences_9 : decode cX1_leastOccurrences 9 = .ok (.if_icmp .ge 20, 3) := by decide +kernel
theorem dX1_leastOccurrences_12 : decode cX1_leastOccurrences 12 = .ok (.iload_n 1, 1) := by decide +kernel
theorem dX1_leastOccurrences_13 : decode cX1_leastOccurrences 13 = .ok (.aload_n 0, 1) := by decide +kernel
theorem dX1_leastOccurrences_14 : decode cX1_leastOccurrences 14 = .ok (.iload_n 2, 1) := by decide +kernel
theorem dX1_leastOccurrences_15 : decode cX1_leastOccurrences 15 = .ok (.invokevirtual 29, 3) := by decide +kernel
theorem dX1_leastOccurrences_18 : decode cX1_leastOccurrences 18 = .ok (.getfield 43, 3) := by decide +kernel
theorem dX1_leastOccurrences_21 : decode cX1_leastOccurrences 21 = .ok (.iadd, 1) := by decide +kernel
theorem dX1_leastOccurrences_22 : decode cX1_leastOccurrences 22 = .ok (.istore_n 1, 1) := by decide +kernel
theorem dX1_leastOccurrences_23 : decode cX1_leastOccurrences 23 = .ok (.iinc 2 1, 3) := by decide +kernel
theorem dX1_leastOccurrences_26 : decode cX1_leastOccurrences 26 = .ok (.goto (-22), 3) := by decide +kernel
theorem dX1_leastOccurrences_29 : decode cX1_leastOccurrences 29 = .ok (.iload_n 1, 1) := by decide +kernel
theorem dX1_leastOccurrences_30 : decode cX1_leastOccurrences 30 = .ok (.ireturn, 1) := by decide +kernel
theorem dX1_mostOccurrences_0 : decode cX1_mostOccurrences 0 = .ok (.iconst 0, 1) := by decide +kernel
theorem dX1_mostOccurrences_1 : decode cX1_mostOccurrences 1 = .ok (.istore_n 1, 1) := by decide +kernel
theorem dX1_mostOccurrences_2 : decode cX1_mostOccurrences 2 = .ok (.iconst 0, 1) := by decide +kernel
theorem dX1_mostOccurrences_3 : decode cX1_mostOccurrences 3 = .ok (.istore_n 2, 1) := by decide +kernel
theorem dX1_mostOccurrences_4 : decode cX1_mostOccurrences 4 = .ok (.iload_n 2, 1) := by decide +kernel
theorem dX1_mostOccurrences_5 : decode cX1_mostOccurrences 5 = .ok (.aload_n 0, 1) := by decide +kernel
theorem dX1_mostOccurrences_6 : decode cX1_mostOccurrences 6 = .ok (.getfield 22, 3) := by decide +kernel
theorem dX1_mostOccurrences_9 : decode cX1_mostOccurrences 9 = .ok (.if_icmp .ge 20, 3) := by decide +kernel
theorem dX1_mostOccurrences_12 : decode cX1_mostOccurrences 12 = .ok (.iload_n 1, 1) := by decide +kernel
theorem dX1_mostOccurrences_13 : decode cX1_mostOccurrences 13 = .ok (.aload_n 0, 1) := by decide +kernel
theorem dX1_mostOccurrences_14 : decode cX1_mostOccurrences 14 = .ok (.iload_n 2, 1) := by decide +kernel
theorem dX1_mostOccurrences_15 : decode cX1_mostOccurrences 15 = .ok (.invokevirtual 29, 3) := by decide +kernel
theorem dX1_mostOccurrences_18 : decode cX1_mostOccurrences 18 = .ok (.getfield 46, 3) := by decide +kernel
theorem dX1_mostOccurrences_21 : decode cX1_mostOccurrences 21 = .ok (.iadd, 1) := by decide +kernel
theorem dX1_mostOccurrences_22 : decode cX1_mostOccurrences 22 = .ok (.istore_n 1, 1) := by decide +kernel
theorem dX1_mostOccurrences_23 : decode cX1_mostOccurrences 23 = .ok (.iinc 2 1, 3) := by decide +kernel
theorem dX1_mostOccurrences_26 : decode cX1_mostOccurrences 26 = .ok (.goto (-22), 3) := by decide +kernel
theorem dX1_mostOccurrences_29 : decode cX1_mostOccurrences 29 = .ok (.iload_n 1, 1) := by decide +kernel
theorem dX1_mostOccurrences_30 : decode cX1_mostOccurrences 30 = .ok (.ireturn, 1) := by decide +kernel
theorem dX1_tallies_0 : decode cX1_tallies 0 = .ok (.iconst 1, 1) := by decide +kernel
theorem dX1_tallies_1 : decode cX1_tallies 1 = .ok (.iconst 2, 1) := by decide +kernel
theorem dX1_tallies_2 : decode cX1_tallies 2 = .ok (.aload_n 0, 1) := by decide +kernel
theorem dX1_tallies_3 : decode cX1_tallies 3 = .ok (.getfield 22, 3) := by decide +kernel
theorem dX1_tallies_6 : decode cX1_tallies 6 = .ok (.imul, 1) := by decide +kernel
theorem dX1_tallies_7 : decode cX1_tallies 7 = .ok (.ishl, 1) := by decide +kernel
theorem dX1_tallies_8 : decode cX1_tallies 8 = .ok (.ireturn, 1) := by decide +kernel
theorem dX1_lengthOf_0 : decode cX1_lengthOf 0 = .ok (.iconst 0, 1) := by decide +kernel
theorem dX1_lengthOf_1 : decode cX1_lengthOf 1 = .ok (.istore_n 2, 1) := by decide +kernel
theorem dX1_lengthOf_2 : decode cX1_lengthOf 2 = .ok (.iconst 0, 1) := by decide +kernel
theorem dX1_lengthOf_3 : decode cX1_lengthOf 3 = .ok (.istore_n 3, 1) := by decide +kernel
theorem dX1_lengthOf_4 : decode cX1_lengthOf 4 = .ok (.iload_n 3, 1) := by decide +kernel
theorem dX1_lengthOf_5 : decode cX1_lengthOf 5 = .ok (.aload_n 0, 1) := by decide +kernel
theorem dX1_lengthOf_6 : decode cX1_lengthOf 6 = .ok (.getfield 22, 3) := by decide +kernel
theorem dX1_lengthOf_9 : decode cX1_lengthOf 9 = .ok (.if_icmp .ge 17, 3) := by decide +kernel
theorem dX1_lengthOf_12 : decode cX1_lengthOf 12 = .ok (.iload_n 2, 1) := by decide +kernel
theorem dX1_lengthOf_13 : decode cX1_lengthOf 13 = .ok (.iload_n 1, 1) := by decide +kernel
theorem dX1_lengthOf_14 : decode cX1_lengthOf 14 = .ok (.iload_n 3, 1) := by decide +kernel
theorem dX1_lengthOf_15 : decode cX1_lengthOf 15 = .ok (.invokestatic 84, 3) := by decide +kernel
theorem dX1_lengthOf_18 : decode cX1_lengthOf 18 = .ok (.iadd, 1) := by decide +kernel
theorem dX1_lengthOf_19 : decode cX1_lengthOf 19 = .ok (.istore_n 2, 1) := by decide +kernel
theorem dX1_lengthOf_20 : decode cX1_lengthOf 20 = .ok (.iinc 3 1, 3) := by decide +kernel
theorem dX1_lengthOf_23 : decode cX1_lengthOf 23 = .ok (.goto (-19), 3) := by decide +kernel
theorem dX1_lengthOf_26 : decode cX1_lengthOf 26 = .ok (.iload_n 2, 1) := by decide +kernel
theorem dX1_lengthOf_27 : decode cX1_lengthOf 27 = .ok (.ireturn, 1) := by decide +kernel
theorem dX1_isEnough_0 : decode cX1_isEnough 0 = .ok (.iconst 0, 1) := by decide +kernel
theorem dX1_isEnough_1 : decode cX1_isEnough 1 = .ok (.istore_n 2, 1) := by decide +kernel
theorem dX1_isEnough_2 : decode cX1_isEnough 2 = .ok (.iload_n 2, 1) := by decide +kernel
theorem dX1_isEnough_3 : decode cX1_isEnough 3 = .ok (.aload_n 0, 1) := by decide +kernel
theorem dX1_isEnough_4 : decode cX1_isEnough 4 = .ok (.getfield 22, 3) := by decide +kernel
theorem dX1_isEnough_7 : decode cX1_isEnough 7 = .ok (.if_icmp .ge 27, 3) := by decide +kernel
theorem dX1_isEnough_10 : decode cX1_isEnough 10 = .ok (.iload_n 1, 1) := by decide +kernel
theorem dX1_isEnough_11 : decode cX1_isEnough 11 = .ok (.iload_n 2, 1) := by decide +kernel
theorem dX1_isEnough_12 : decode cX1_isEnough 12 = .ok (.invokestatic 84, 3) := by decide +kernel
theorem dX1_isEnough_15 : decode cX1_isEnough 15 = .ok (.aload_n 0, 1) := by decide +kernel
theorem dX1_isEnough_16 : decode cX1_isEnough 16 = .ok (.iload_n 2, 1) := by decide +kernel
theorem dX1_isEnough_17 : decode cX1_isEnough 17 = .ok (.invokevirtual 29, 3) := by decide +kernel
theorem dX1_isEnough_20 : decode cX1_isEnough 20 = .ok (.getfield 43, 3) := by decide +kernel
theorem dX1_isEnough_23 : decode cX1_isEnough 23 = .ok (.if_icmp .ge 5, 3) := by decide +kernel
theorem dX1_isEnough_26 : decode cX1_isEnough 26 = .ok (.iconst 0, 1) := by decide +kernel
theorem dX1_isEnough_27 : decode cX1_isEnough 27 = .ok (.ireturn, 1) := by decide +kernel
theorem dX1_isEnough_28 : decode cX1_isEnough 28 = .ok (.iinc 2 1, 3) := by decide +kernel
theorem dX1_isEnough_31 : decode cX1_isEnough 31 = .ok (.goto (-29), 3) := by decide +kernel
theorem dX1_isEnough_34 : decode cX1_isEnough 34 = .ok (.iconst 1, 1) := by decide +kernel
theorem dX1_isEnough_35 : decode cX1_isEnough 35 = .ok (.ireturn, 1) := by decide +kernel
theorem dX1_presentIn_0 : decode cX1_presentIn 0 = .ok (.iconst 0, 1) := by decide +kernel
theorem dX1_presentIn_1 : decode cX1_presentIn 1 = .ok (.istore_n 2, 1) := by decide +kernel
theorem dX1_presentIn_2 : decode cX1_presentIn 2 = .ok (.iconst 0, 1) := by decide +kernel
theorem dX1_presentIn_3 : decode cX1_presentIn 3 = .ok (.istore_n 3, 1) := by decide +kernel
theorem dX1_presentIn_4 : decode cX1_presentIn 4 = .ok (.iload_n 3, 1) := by decide +kernel
theorem dX1_presentIn_5 : decode cX1_presentIn 5 = .ok (.aload_n 0, 1) := by decide +kernel
theorem dX1_presentIn_6 : decode cX1_presentIn 6 = .ok (.getfield 22, 3) := by decide +kernel
theorem dX1_presentIn_9 : decode cX1_presentIn 9 = .ok (.if_icmp .ge 23, 3) := by decide +kernel
theorem dX1_presentIn_12 : decode cX1_presentIn 12 = .ok (.iload_n 1, 1) := by decide +kernel
theorem dX1_presentIn_13 : decode cX1_presentIn 13 = .ok (.iload_n 3, 1) := by decide +kernel
theorem dX1_presentIn_14 : decode cX1_presentIn 14 = .ok (.invokestatic 84, 3) := by decide +kernel
theorem dX1_presentIn_17 : decode cX1_presentIn 17 = .ok (.ifCond .le 9, 3) := by decide +kernel
theorem dX1_presentIn_20 : decode cX1_presentIn 20 = .ok (.iload_n 2, 1) := by decide +kernel
theorem dX1_presentIn_21 : decode cX1_presentIn 21 = .ok (.iconst 1, 1) := by decide +kernel
theorem dX1_presentIn_22 : decode cX1_presentIn 22 = .ok (.iload_n 3, 1) := by decide +kernel
theorem dX1_presentIn_23 : decode cX1_presentIn 23 = .ok (.ishl, 1) := by decide +kernel
theorem dX1_presentIn_24 : decode cX1_presentIn 24 = .ok (.ior, 1) := by decide +kernel
theorem dX1_presentIn_25 : decode cX1_presentIn 25 = .ok (.istore_n 2, 1) := by decide +kernel
theorem dX1_presentIn_26 : decode cX1_presentIn 26 = .ok (.iinc 3 1, 3) := by decide +kernel
theorem dX1_presentIn_29 : decode cX1_presentIn 29 = .ok (.goto (-25), 3) := by decide +kernel
theorem dX1_presentIn_32 : decode cX1_presentIn 32 = .ok (.iload_n 2, 1) := by decide +kernel
theorem dX1_presentIn_33 : decode cX1_presentIn 33 = .ok (.ireturn, 1) := by decide +kernel
theorem dX1_followers_0 : decode cX1_followers 0 = .ok (.aload_n 0, 1) := by decide +kernel
theorem dX1_followers_1 : decode cX1_followers 1 = .ok (.iload_n 1, 1) := by decide +kernel
theorem dX1_followers_2 : decode cX1_followers 2 = .ok (.invokevirtual 87, 3) := by decide +kernel
theorem dX1_followers_5 : decode cX1_followers 5 = .ok (.istore_n 2, 1) := by decide +kernel
theorem dX1_followers_6 : decode cX1_followers 6 = .ok (.iconst 0, 1) := by decide +kernel
theorem dX1_followers_7 : decode cX1_followers 7 = .ok (.istore_n 3, 1) := by decide +kernel
theorem dX1_followers_8 : decode cX1_followers 8 = .ok (.iconst 0, 1) := by decide +kernel
theorem dX1_followers_9 : decode cX1_followers 9 = .ok (.istore 4, 2) := by decide +kernel
theorem dX1_followers_11 : decode cX1_followers 11 = .ok (.iload 4, 2) := by decide +kernel
theorem dX1_followers_13 : decode cX1_followers 13 = .ok (.aload_n 0, 1) := by decide +kernel
theorem dX1_followers_14 : decode cX1_followers 14 = .ok (.getfield 22, 3) := by decide +kernel
theorem dX1_followers_17 : decode cX1_followers 17 = .ok (.if_icmp .ge 48, 3) := by decide +kernel
theorem dX1_followers_20 : decode cX1_followers 20 = .ok (.iload_n 1, 1) := by decide +kernel
theorem dX1_followers_21 : decode cX1_followers 21 = .ok (.iload 4, 2) := by decide +kernel
theorem dX1_followers_23 : decode cX1_followers 23 = .ok (.invokestatic 84, 3) := by decide +kernel
theorem dX1_followers_26 : decode cX1_followers 26 = .ok (.aload_n 0, 1) := by decide +kernel
theorem dX1_followers_27 : decode cX1_followers 27 = .ok (.iload 4, 2) := by decide +kernel
theorem dX1_followers_29 : decode cX1_followers 29 = .ok (.invokevirtual 29, 3) := by decide +kernel
theorem dX1_followers_32 : decode cX1_followers 32 = .ok (.getfield 46, 3) := by decide +kernel
theorem dX1_followers_35 : decode cX1_followers 35 = .ok (.if_icmp .ge 24, 3) := by decide +kernel
theorem dX1_followers_38 : decode cX1_followers 38 = .ok (.aload_n 0, 1) := by decide +kernel
theorem dX1_followers_39 : decode cX1_followers 39 = .ok (.iload 4, 2) := by decide +kernel
theorem dX1_followers_41 : decode cX1_followers 41 = .ok (.invokevirtual 29, 3) := by decide +kernel
theorem dX1_followers_44 : decode cX1_followers 44 = .ok (.getfield 52, 3) := by decide +kernel
theorem dX1_followers_47 : decode cX1_followers 47 = .ok (.iload_n 2, 1) := by decide +kernel
theorem dX1_followers_48 : decode cX1_followers 48 = .ok (.iand, 1) := by decide +kernel
theorem dX1_followers_49 : decode cX1_followers 49 = .ok (.ifCond .ne 10, 3) := by decide +kernel
theorem dX1_followers_52 : decode cX1_followers 52 = .ok (.iload_n 3, 1) := by decide +kernel
theorem dX1_followers_53 : decode cX1_followers 53 = .ok (.iconst 1, 1) := by decide +kernel
theorem dX1_followers_54 : decode cX1_followers 54 = .ok (.iload 4, 2) := by decide +kernel
theorem dX1_followers_56 : decode cX1_followers 56 = .ok (.ishl, 1) := by decide +kernel
theorem dX1_followers_57 : decode cX1_followers 57 = .ok (.ior, 1) := by decide +kernel
theorem dX1_followers_58 : decode cX1_followers 58 = .ok (.istore_n 3, 1) := by decide +kernel
theorem dX1_followers_59 : decode cX1_followers 59 = .ok (.iinc 4 1, 3) := by decide +kernel
theorem dX1_followers_62 : decode cX1_followers 62 = .ok (.goto (-51), 3) := by decide +kernel
theorem dX1_followers_65 : decode cX1_followers 65 = .ok (.iload_n 3, 1) := by decide +kernel
theorem dX1_followers_66 : decode cX1_followers 66 = .ok (.ireturn, 1) := by decide +kernel
theorem dX2_init_0 : decode cX2_init 0 = .ok (.aload_n 0, 1) := by decide +kernel
theorem dX2_init_1 : decode cX2_init 1 = .ok (.invokespecial 3, 3) := by decide +kernel
theorem dX2_init_4 : decode cX2_init 4 = .ok (.aload_n 0, 1) := by decide +kernel
theorem dX2_init_5 : decode cX2_init 5 = .ok (.bipush 8, 2) := by decide +kernel
theorem dX2_init_7 : decode cX2_init 7 = .ok (.anewarray 9, 3) := by decide +kernel
theorem dX2_init_10 : decode cX2_init 10 = .ok (.putfield 11, 3) := by decide +kernel
theorem dX2_init_13 : decode cX2_init 13 = .ok (.iconst 0, 1) := by decide +kernel
theorem dX2_init_14 : decode cX2_init 14 = .ok (.istore_n 1, 1) := by decide +kernel
theorem dX2_init_15 : decode cX2_init 15 = .ok (.iload_n 1, 1) := by decide +kernel
theorem dX2_init_16 : decode cX2_init 16 = .ok (.aload_n 0, 1) := by decide +kernel
theorem dX2_init_17 : decode cX2_init 17 = .ok (.getfield 11, 3) := by decide +kernel
theorem dX2_init_20 : decode cX2_init 20 = .ok (.arraylength, 1) := by decide +kernel
theorem dX2_init_21 : decode cX2_init 21 = .ok (.if_icmp .ge 22, 3) := by decide +kernel
theorem dX2_init_24 : decode cX2_init 24 = .ok (.aload_n 0, 1) := by decide +kernel
theorem dX2_init_25 : decode cX2_init 25 = .ok (.getfield 11, 3) := by decide +kernel
theorem dX2_init_28 : decode cX2_init 28 = .ok (.iload_n 1, 1) := by decide +kernel
theorem dX2_init_29 : decode cX2_init 29 = .ok (.new 9, 3) := by decide +kernel
theorem dX2_init_32 : decode cX2_init 32 = .ok (.dup, 1) := by decide +kernel
theorem dX2_init_33 : decode cX2_init 33 = .ok (.invokespecial 17, 3) := by decide +kernel
theorem dX2_init_36 : decode cX2_init 36 = .ok (.aastore, 1) := by decide +kernel
theorem dX2_init_37 : decode cX2_init 37 = .ok (.iinc 1 1, 3) := by decide +kernel
theorem dX2_init_40 : decode cX2_init 40 = .ok (.goto (-25), 3) := by decide +kernel
theorem dX2_init_43 : decode cX2_init 43 = .ok (.return_, 1) := by decide +kernel
theorem dX2_record_0 : decode cX2_record 0 = .ok (.aload_n 0, 1) := by decide +kernel
theorem dX2_record_1 : decode cX2_record 1 = .ok (.getfield 18, 3) := by decide +kernel
theorem dX2_record_4 : decode cX2_record 4 = .ok (.aload_n 0, 1) := by decide +kernel
theorem dX2_record_5 : decode cX2_record 5 = .ok (.getfield 11, 3) := by decide +kernel
theorem dX2_record_8 : decode cX2_record 8 = .ok (.arraylength, 1) := by decide +kernel
theorem dX2_record_9 : decode cX2_record 9 = .ok (.if_icmp .lt 7, 3) := by decide +kernel
theorem dX2_record_12 : decode cX2_record 12 = .ok (.aload_n 0, 1) := by decide +kernel
theorem dX2_record_13 : decode cX2_record 13 = .ok (.invokevirtual 22, 3) := by decide +kernel
theorem dX2_record_16 : decode cX2_record 16 = .ok (.aload_n 0, 1) := by decide +kernel
theorem dX2_record_17 : decode cX2_record 17 = .ok (.getfield 18, 3) := by decide +kernel
theorem dX2_record_20 : decode cX2_record 20 = .ok (.ifCond .lt 38, 3) := by decide +kernel
theorem dX2_record_23 : decode cX2_record 23 = .ok (.aload_n 0, 1) := by decide +kernel
theorem dX2_record_24 : decode cX2_record 24 = .ok (.getfield 18, 3) := by decide +kernel
theorem dX2_record_27 : decode cX2_record 27 = .ok (.aload_n 0, 1) := by decide +kernel
theorem dX2_record_28 : decode cX2_record 28 = .ok (.getfield 11, 3) := by decide +kernel
theorem dX2_record_31 : decode cX2_record 31 = .ok (.arraylength, 1) := by decide +kernel
theorem dX2_record_32 : decode cX2_record 32 = .ok (.if_icmp .ge 26, 3) := by decide +kernel
theorem dX2_record_35 : decode cX2_record 35 = .ok (.aload_n 0, 1) := by decide +kernel
theorem dX2_record_36 : decode cX2_record 36 = .ok (.getfield 11, 3) := by decide +kernel
theorem dX2_record_39 : decode cX2_record 39 = .ok (.aload_n 0, 1) := by decide +kernel
theorem dX2_record_40 : decode cX2_record 40 = .ok (.getfield 18, 3) := by decide +kernel
theorem dX2_record_43 : decode cX2_record 43 = .ok (.aaload, 1) := by decide +kernel
theorem dX2_record_44 : decode cX2_record 44 = .ok (.aload_n 1, 1) := by decide +kernel
theorem dX2_record_45 : decode cX2_record 45 = .ok (.invokevirtual 25, 3) := by decide +kernel
theorem dX2_record_48 : decode cX2_record 48 = .ok (.aload_n 0, 1) := by decide +kernel
theorem dX2_record_49 : decode cX2_record 49 = .ok (.dup, 1) := by decide +kernel
theorem dX2_record_50 : decode cX2_record 50 = .ok (.getfield 18, 3) := by decide +kernel
theorem dX2_record_53 : decode cX2_record 53 = .ok (.iconst 1, 1) := by decide +kernel
theorem dX2_record_54 : decode cX2_record 54 = .ok (.iadd, 1) := by decide +kernel
theorem dX2_record_55 : decode cX2_record 55 = .ok (.putfield 18, 3) := by decide +kernel
theorem dX2_record_58 : decode cX2_record 58 = .ok (.return_, 1) := by decide +kernel
theorem dX2_dropOldest_0 : decode cX2_dropOldest 0 = .ok (.aload_n 0, 1) := by decide +kernel
theorem dX2_dropOldest_1 : decode cX2_dropOldest 1 = .ok (.getfield 11, 3) := by decide +kernel
theorem dX2_dropOldest_4 : decode cX2_dropOldest 4 = .ok (.iconst 0, 1) := by decide +kernel
theorem dX2_dropOldest_5 : decode cX2_dropOldest 5 = .ok (.aaload, 1) := by decide +kernel
theorem dX2_dropOldest_6 : decode cX2_dropOldest 6 = .ok (.astore_n 1, 1) := by decide +kernel
theorem dX2_dropOldest_7 : decode cX2_dropOldest 7 = .ok (.iconst 1, 1) := by decide +kernel
theorem dX2_dropOldest_8 : decode cX2_dropOldest 8 = .ok (.istore_n 2, 1) := by decide +kernel
theorem dX2_dropOldest_9 : decode cX2_dropOldest 9 = .ok (.iload_n 2, 1) := by decide +kernel
theorem dX2_dropOldest_10 : decode cX2_dropOldest 10 = .ok (.aload_n 0, 1) := by decide +kernel
theorem dX2_dropOldest_11 : decode cX2_dropOldest 11 = .ok (.getfield 11, 3) := by decide +kernel
theorem dX2_dropOldest_14 : decode cX2_dropOldest 14 = .ok (.arraylength, 1) := by decide +kernel
theorem dX2_dropOldest_15 : decode cX2_dropOldest 15 = .ok (.if_icmp .ge 23, 3) := by decide +kernel
theorem dX2_dropOldest_18 : decode cX2_dropOldest 18 = .ok (.aload_n 0, 1) := by decide +kernel
theorem dX2_dropOldest_19 : decode cX2_dropOldest 19 = .ok (.getfield 11, 3) := by decide +kernel
theorem dX2_dropOldest_22 : decode cX2_dropOldest 22 = .ok (.iload_n 2, 1) := by decide +kernel
theorem dX2_dropOldest_23 : decode cX2_dropOldest 23 = .ok (.iconst 1, 1) := by decide +kernel
theorem dX2_dropOldest_24 : decode cX2_dropOldest 24 = .ok (.isub, 1) := by decide +kernel
theorem dX2_dropOldest_25 : decode cX2_dropOldest 25 = .ok (.aload_n 0, 1) := by decide +kernel
theorem dX2_dropOldest_26 : decode cX2_dropOldest 26 = .ok (.getfield 11, 3) := by decide +kernel
theorem dX2_dropOldest_29 : decode cX2_dropOldest 29 = .ok (.iload_n 2, 1) := by decide +kernel
theorem dX2_dropOldest_30 : decode cX2_dropOldest 30 = .ok (.aaload, 1) := by decide +kernel
theorem dX2_dropOldest_31 : decode cX2_dropOldest 31 = .ok (.aastore, 1) := by decide +kernel
theorem dX2_dropOldest_32 : decode cX2_dropOldest 32 = .ok (.iinc 2 1, 3) := by decide +kernel
theorem dX2_dropOldest_35 : decode cX2_dropOldest 35 = .ok (.goto (-26), 3) := by decide +kernel
theorem dX2_dropOldest_38 : decode cX2_dropOldest 38 = .ok (.aload_n 0, 1) := by decide +kernel
theorem dX2_dropOldest_39 : decode cX2_dropOldest 39 = .ok (.getfield 11, 3) := by decide +kernel
theorem dX2_dropOldest_42 : decode cX2_dropOldest 42 = .ok (.aload_n 0, 1) := by decide +kernel
theorem dX2_dropOldest_43 : decode cX2_dropOldest 43 = .ok (.getfield 11, 3) := by decide +kernel
theorem dX2_dropOldest_46 : decode cX2_dropOldest 46 = .ok (.arraylength, 1) := by decide +kernel
theorem dX2_dropOldest_47 : decode cX2_dropOldest 47 = .ok (.iconst 1, 1) := by decide +kernel
theorem dX2_dropOldest_48 : decode cX2_dropOldest 48 = .ok (.isub, 1) := by decide +kernel
theorem dX2_dropOldest_49 : decode cX2_dropOldest 49 = .ok (.aload_n 1, 1) := by decide +kernel
theorem dX2_dropOldest_50 : decode cX2_dropOldest 50 = .ok (.aastore, 1) := by decide +kernel
theorem dX2_dropOldest_51 : decode cX2_dropOldest 51 = .ok (.aload_n 0, 1) := by decide +kernel
theorem dX2_dropOldest_52 : decode cX2_dropOldest 52 = .ok (.aload_n 0, 1) := by decide +kernel
theorem dX2_dropOldest_53 : decode cX2_dropOldest 53 = .ok (.getfield 11, 3) := by decide +kernel
theorem dX2_dropOldest_56 : decode cX2_dropOldest 56 = .ok (.arraylength, 1) := by decide +kernel
theorem dX2_dropOldest_57 : decode cX2_dropOldest 57 = .ok (.iconst 1, 1) := by decide +kernel
theorem dX2_dropOldest_58 : decode cX2_dropOldest 58 = .ok (.isub, 1) := by decide +kernel
theorem dX2_dropOldest_59 : decode cX2_dropOldest 59 = .ok (.putfield 18, 3) := by decide +kernel
theorem dX2_dropOldest_62 : decode cX2_dropOldest 62 = .ok (.return_, 1) := by decide +kernel
theorem dX2_restore_0 : decode cX2_restore 0 = .ok (.aload_n 0, 1) := by decide +kernel
theorem dX2_restore_1 : decode cX2_restore 1 = .ok (.getfield 18, 3) := by decide +kernel
theorem dX2_restore_4 : decode cX2_restore 4 = .ok (.ifCond .le 38, 3) := by decide +kernel
theorem dX2_restore_7 : decode cX2_restore 7 = .ok (.aload_n 0, 1) := by decide +kernel
theorem dX2_restore_8 : decode cX2_restore 8 = .ok (.getfield 18, 3) := by decide +kernel
theorem dX2_restore_11 : decode cX2_restore 11 = .ok (.aload_n 0, 1) := by decide +kernel
theorem dX2_restore_12 : decode cX2_restore 12 = .ok (.getfield 11, 3) := by decide +kernel
theorem dX2_restore_15 : decode cX2_restore 15 = .ok (.arraylength, 1) := by decide +kernel
theorem dX2_restore_16 : decode cX2_restore 16 = .ok (.if_icmp .gt 26, 3) := by decide +kernel
theorem dX2_restore_19 : decode cX2_restore 19 = .ok (.aload_n 0, 1) := by decide +kernel
theorem dX2_restore_20 : decode cX2_restore 20 = .ok (.dup, 1) := by decide +kernel
theorem dX2_restore_21 : decode cX2_restore 21 = .ok (.getfield 18, 3) := by decide +kernel
theorem dX2_restore_24 : decode cX2_restore 24 = .ok (.iconst 1, 1) := by decide +kernel
theorem dX2_restore_25 : decode cX2_restore 25 = .ok (.isub, 1) := by decide +kernel
theorem dX2_restore_26 : decode cX2_restore 26 = .ok (.putfield 18, 3) := by decide +kernel
theorem dX2_restore_29 : decode cX2_restore 29 = .ok (.aload_n 1, 1) := by decide +kernel
theorem dX2_restore_30 : decode cX2_restore 30 = .ok (.aload_n 0, 1) := by decide +kernel
theorem dX2_restore_31 : decode cX2_restore 31 = .ok (.getfield 11, 3) := by decide +kernel
theorem dX2_restore_34 : decode cX2_restore 34 = .ok (.aload_n 0, 1) := by decide +kernel
theorem dX2_restore_35 : decode cX2_restore 35 = .ok (.getfield 18, 3) := by decide +kernel
theorem dX2_restore_38 : decode cX2_restore 38 = .ok (.aaload, 1) := by decide +kernel
theorem dX2_restore_39 : decode cX2_restore 39 = .ok (.invokevirtual 25, 3) := by decide +kernel
theorem dX2_restore_42 : decode cX2_restore 42 = .ok (.return_, 1) := by decide +kernel
theorem dX3_init_0 : decode cX3_init 0 = .ok (.aload_n 0, 1) := by decide +kernel
theorem dX3_init_1 : decode cX3_init 1 = .ok (.invokespecial 3, 3) := by decide +kernel
theorem dX3_init_4 : decode cX3_init 4 = .ok (.return_, 1) := by decide +kernel
theorem dX3_copyFrom_0 : decode cX3_copyFrom 0 = .ok (.aload_n 0, 1) := by decide +kernel
theorem dX3_copyFrom_1 : decode cX3_copyFrom 1 = .ok (.aload_n 1, 1) := by decide +kernel
theorem dX3_copyFrom_2 : decode cX3_copyFrom 2 = .ok (.getfield 9, 3) := by decide +kernel
theorem dX3_copyFrom_5 : decode cX3_copyFrom 5 = .ok (.putfield 9, 3) := by decide +kernel
theorem dX3_copyFrom_8 : decode cX3_copyFrom 8 = .ok (.aload_n 0, 1) := by decide +kernel
theorem dX3_copyFrom_9 : decode cX3_copyFrom 9 = .ok (.aload_n 1, 1) := by decide +kernel
theorem dX3_copyFrom_10 : decode cX3_copyFrom 10 = .ok (.getfield 15, 3) := by decide +kernel
theorem dX3_copyFrom_13 : decode cX3_copyFrom 13 = .ok (.putfield 15, 3) := by decide +kernel
theorem dX3_copyFrom_16 : decode cX3_copyFrom 16 = .ok (.aload_n 0, 1) := by decide +kernel
theorem dX3_copyFrom_17 : decode cX3_copyFrom 17 = .ok (.aload_n 1, 1) := by decide +kernel
theorem dX3_copyFrom_18 : decode cX3_copyFrom 18 = .ok (.getfield 18, 3) := by decide +kernel
theorem dX3_copyFrom_21 : decode cX3_copyFrom 21 = .ok (.putfield 18, 3) := by decide +kernel
theorem dX3_copyFrom_24 : decode cX3_copyFrom 24 = .ok (.aload_n 0, 1) := by decide +kernel
theorem dX3_copyFrom_25 : decode cX3_copyFrom 25 = .ok (.aload_n 1, 1) := by decide +kernel
theorem dX3_copyFrom_26 : decode cX3_copyFrom 26 = .ok (.getfield 21, 3) := by decide +kernel
theorem dX3_copyFrom_29 : decode cX3_copyFrom 29 = .ok (.putfield 21, 3) := by decide +kernel
theorem dX3_copyFrom_32 : decode cX3_copyFrom 32 = .ok (.aload_n 0, 1) := by decide +kernel
theorem dX3_copyFrom_33 : decode cX3_copyFrom 33 = .ok (.aload_n 1, 1) := by decide +kernel
theorem dX3_copyFrom_34 : decode cX3_copyFrom 34 = .ok (.getfield 24, 3) := by decide +kernel
theorem dX3_copyFrom_37 : decode cX3_copyFrom 37 = .ok (.putfield 24, 3) := by decide +kernel
theorem dX3_copyFrom_40 : decode cX3_copyFrom 40 = .ok (.aload_n 0, 1) := by decide +kernel
theorem dX3_copyFrom_41 : decode cX3_copyFrom 41 = .ok (.aload_n 1, 1) := by decide +kernel
theorem dX3_copyFrom_42 : decode cX3_copyFrom 42 = .ok (.getfield 27, 3) := by decide +kernel
theorem dX3_copyFrom_45 : decode cX3_copyFrom 45 = .ok (.putfield 27, 3) := by decide +kernel
theorem dX3_copyFrom_48 : decode cX3_copyFrom 48 = .ok (.return_, 1) := by decide +kernel
theorem dX3_wordLength_0 : decode cX3_wordLength 0 = .ok (.aload_n 0, 1) := by decide +kernel
theorem dX3_wordLength_1 : decode cX3_wordLength 1 = .ok (.getfield 9, 3) := by decide +kernel
theorem dX3_wordLength_4 : decode cX3_wordLength 4 = .ok (.ldc 30, 2) := by decide +kernel
theorem dX3_wordLength_6 : decode cX3_wordLength 6 = .ok (.if_icmp .le 5, 3) := by decide +kernel
theorem dX3_wordLength_9 : decode cX3_wordLength 9 = .ok (.iconst 3, 1) := by decide +kernel
theorem dX3_wordLength_10 : decode cX3_wordLength 10 = .ok (.ireturn, 1) := by decide +kernel
theorem dX3_wordLength_11 : decode cX3_wordLength 11 = .ok (.aload_n 0, 1) := by decide +kernel
theorem dX3_wordLength_12 : decode cX3_wordLength 12 = .ok (.getfield 9, 3) := by decide +kernel
theorem dX3_wordLength_15 : decode cX3_wordLength 15 = .ok (.sipush 255, 3) := by decide +kernel
theorem dX3_wordLength_18 : decode cX3_wordLength 18 = .ok (.if_icmp .le 7, 3) := by decide +kernel
theorem dX3_wordLength_21 : decode cX3_wordLength 21 = .ok (.iconst 2, 1) := by decide +kernel
theorem dX3_wordLength_22 : decode cX3_wordLength 22 = .ok (.goto 15, 3) := by decide +kernel
theorem dX3_wordLength_25 : decode cX3_wordLength 25 = .ok (.aload_n 0, 1) := by decide +kernel
theorem dX3_wordLength_26 : decode cX3_wordLength 26 = .ok (.getfield 9, 3) := by decide +kernel
theorem dX3_wordLength_29 : decode cX3_wordLength 29 = .ok (.ifCond .le 7, 3) := by decide +kernel
theorem dX3_wordLength_32 : decode cX3_wordLength 32 = .ok (.iconst 1, 1) := by decide +kernel
theorem dX3_wordLength_33 : decode cX3_wordLength 33 = .ok (.goto 4, 3) := by decide +kernel
theorem dX3_wordLength_36 : decode cX3_wordLength 36 = .ok (.iconst 0, 1) := by decide +kernel
theorem dX3_wordLength_37 : decode cX3_wordLength 37 = .ok (.ireturn, 1) := by decide +kernel
theorem dX3_letter_0 : decode cX3_letter 0 = .ok (.iload_n 1, 1) := by decide +kernel
theorem dX3_letter_1 : decode cX3_letter 1 = .ok (.ifCond .lt 24, 3) := by decide +kernel
theorem dX3_letter_4 : decode cX3_letter 4 = .ok (.iload_n 1, 1) := by decide +kernel
theorem dX3_letter_5 : decode cX3_letter 5 = .ok (.iconst 3, 1) := by decide +kernel
theorem dX3_letter_6 : decode cX3_letter 6 = .ok (.if_icmp .ge 19, 3) := by decide +kernel
theorem dX3_letter_9 : decode cX3_letter 9 = .ok (.aload_n 0, 1) := by decide +kernel
theorem dX3_letter_10 : decode cX3_letter 10 = .ok (.getfield 9, 3) := by decide +kernel
theorem dX3_letter_13 : decode cX3_letter 13 = .ok (.bipush 8, 2) := by decide +kernel
theorem dX3_letter_15 : decode cX3_letter 15 = .ok (.iload_n 1, 1) := by decide +kernel
theorem dX3_letter_16 : decode cX3_letter 16 = .ok (.imul, 1) := by decide +kernel
theorem dX3_letter_17 : decode cX3_letter 17 = .ok (.ishr, 1) := by decide +kernel
theorem dX3_letter_18 : decode cX3_letter 18 = .ok (.sipush 255, 3) := by decide +kernel
theorem dX3_letter_21 : decode cX3_letter 21 = .ok (.iand, 1) := by decide +kernel
theorem dX3_letter_22 : decode cX3_letter 22 = .ok (.goto 4, 3) := by decide +kernel
theorem dX3_letter_25 : decode cX3_letter 25 = .ok (.iconst 0, 1) := by decide +kernel
theorem dX3_letter_26 : decode cX3_letter 26 = .ok (.istore_n 2, 1) := by decide +kernel
theorem dX3_letter_27 : decode cX3_letter 27 = .ok (.iload_n 2, 1) := by decide +kernel
theorem dX3_letter_28 : decode cX3_letter 28 = .ok (.ifCond .ne 8, 3) := by decide +kernel
theorem dX3_letter_31 : decode cX3_letter 31 = .ok (.bipush (-9), 2) := by decide +kernel
theorem dX3_letter_33 : decode cX3_letter 33 = .ok (.goto 4, 3) := by decide +kernel
theorem dX3_letter_36 : decode cX3_letter 36 = .ok (.iload_n 2, 1) := by decide +kernel
theorem dX3_letter_37 : decode cX3_letter 37 = .ok (.ireturn, 1) := by decide +kernel
theorem dX3_clashesWith_0 : decode cX3_clashesWith 0 = .ok (.bipush 8, 2) := by decide +kernel
theorem dX3_clashesWith_2 : decode cX3_clashesWith 2 = .ok (.aload_n 0, 1) := by decide +kernel
theorem dX3_clashesWith_3 : decode cX3_clashesWith 3 = .ok (.invokevirtual 31, 3) := by decide +kernel
theorem dX3_clashesWith_6 : decode cX3_clashesWith 6 = .ok (.aload_n 1, 1) := by decide +kernel
theorem dX3_clashesWith_7 : decode cX3_clashesWith 7 = .ok (.invokevirtual 31, 3) := by decide +kernel
theorem dX3_clashesWith_10 : decode cX3_clashesWith 10 = .ok (.invokestatic 35, 3) := by decide +kernel
theorem dX3_clashesWith_13 : decode cX3_clashesWith 13 = .ok (.imul, 1) := by decide +kernel
theorem dX3_clashesWith_14 : decode cX3_clashesWith 14 = .ok (.istore_n 2, 1) := by decide +kernel
theorem dX3_clashesWith_15 : decode cX3_clashesWith 15 = .ok (.aload_n 0, 1) := by decide +kernel
theorem dX3_clashesWith_16 : decode cX3_clashesWith 16 = .ok (.getfield 9, 3) := by decide +kernel
theorem dX3_clashesWith_19 : decode cX3_clashesWith 19 = .ok (.iload_n 2, 1) := by decide +kernel
theorem dX3_clashesWith_20 : decode cX3_clashesWith 20 = .ok (.invokestatic 41, 3) := by decide +kernel
theorem dX3_clashesWith_23 : decode cX3_clashesWith 23 = .ok (.aload_n 1, 1) := by decide +kernel
theorem dX3_clashesWith_24 : decode cX3_clashesWith 24 = .ok (.getfield 9, 3) := by decide +kernel
theorem dX3_clashesWith_27 : decode cX3_clashesWith 27 = .ok (.iload_n 2, 1) := by decide +kernel
theorem dX3_clashesWith_28 : decode cX3_clashesWith 28 = .ok (.invokestatic 41, 3) := by decide +kernel
theorem dX3_clashesWith_31 : decode cX3_clashesWith 31 = .ok (.if_icmp .ne 7, 3) := by decide +kernel
theorem dX3_clashesWith_34 : decode cX3_clashesWith 34 = .ok (.iconst 1, 1) := by decide +kernel
theorem dX3_clashesWith_35 : decode cX3_clashesWith 35 = .ok (.goto 4, 3) := by decide +kernel
theorem dX3_clashesWith_38 : decode cX3_clashesWith 38 = .ok (.iconst 0, 1) := by decide +kernel
theorem dX3_clashesWith_39 : decode cX3_clashesWith 39 = .ok (.ireturn, 1) := by decide +kernel
theorem dX3_accepts_0 : decode cX3_accepts 0 = .ok (.iload_n 1, 1) := by decide +kernel
theorem dX3_accepts_1 : decode cX3_accepts 1 = .ok (.tableswitch 95 0 3 #[31, 36, 54, 78], 31) := by decide +kernel
theorem dX3_accepts_32 : decode cX3_accepts 32 = .ok (.iload_n 2, 1) := by decide +kernel
theorem dX3_accepts_33 : decode cX3_accepts 33 = .ok (.invokestatic 44, 3) := by decide +kernel
theorem dX3_accepts_36 : decode cX3_accepts 36 = .ok (.ireturn, 1) := by decide +kernel
theorem dX3_accepts_37 : decode cX3_accepts 37 = .ok (.iload_n 2, 1) := by decide +kernel
theorem dX3_accepts_38 : decode cX3_accepts 38 = .ok (.ifCond .lt 15, 3) := by decide +kernel
theorem dX3_accepts_41 : decode cX3_accepts 41 = .ok (.iload_n 2, 1) := by decide +kernel
theorem dX3_accepts_42 : decode cX3_accepts 42 = .ok (.aload_n 0, 1) := by decide +kernel
theorem dX3_accepts_43 : decode cX3_accepts 43 = .ok (.getfield 21, 3) := by decide +kernel
theorem dX3_accepts_46 : decode cX3_accepts 46 = .ok (.if_icmp .gt 7, 3) := by decide +kernel
theorem dX3_accepts_49 : decode cX3_accepts 49 = .ok (.iconst 1, 1) := by decide +kernel
theorem dX3_accepts_50 : decode cX3_accepts 50 = .ok (.goto 4, 3) := by decide +kernel
theorem dX3_accepts_53 : decode cX3_accepts 53 = .ok (.iconst 0, 1) := by decide +kernel
theorem dX3_accepts_54 : decode cX3_accepts 54 = .ok (.ireturn, 1) := by decide +kernel
theorem dX3_accepts_55 : decode cX3_accepts 55 = .ok (.iload_n 2, 1) := by decide +kernel
theorem dX3_accepts_56 : decode cX3_accepts 56 = .ok (.iconst 1, 1) := by decide +kernel
theorem dX3_accepts_57 : decode cX3_accepts 57 = .ok (.if_icmp .lt 20, 3) := by decide +kernel
theorem dX3_accepts_60 : decode cX3_accepts 60 = .ok (.iload_n 2, 1) := by decide +kernel
theorem dX3_accepts_61 : decode cX3_accepts 61 = .ok (.iconst 3, 1) := by decide +kernel
theorem dX3_accepts_62 : decode cX3_accepts 62 = .ok (.if_icmp .gt 15, 3) := by decide +kernel
theorem dX3_accepts_65 : decode cX3_accepts 65 = .ok (.iload_n 2, 1) := by decide +kernel
theorem dX3_accepts_66 : decode cX3_accepts 66 = .ok (.aload_n 0, 1) := by decide +kernel
theorem dX3_accepts_67 : decode cX3_accepts 67 = .ok (.getfield 18, 3) := by decide +kernel
theorem dX3_accepts_70 : decode cX3_accepts 70 = .ok (.if_icmp .lt 7, 3) := by decide +kernel
theorem dX3_accepts_73 : decode cX3_accepts 73 = .ok (.iconst 1, 1) := by decide +kernel
theorem dX3_accepts_74 : decode cX3_accepts 74 = .ok (.goto 4, 3) := by decide +kernel
theorem dX3_accepts_77 : decode cX3_accepts 77 = .ok (.iconst 0, 1) := by decide +kernel
theorem dX3_accepts_78 : decode cX3_accepts 78 = .ok (.ireturn, 1) := by decide +kernel
theorem dX3_accepts_79 : decode cX3_accepts 79 = .ok (.iload_n 2, 1) := by decide +kernel
theorem dX3_accepts_80 : decode cX3_accepts 80 = .ok (.ifCond .lt 14, 3) := by decide +kernel
theorem dX3_accepts_83 : decode cX3_accepts 83 = .ok (.iload_n 2, 1) := by decide +kernel
theorem dX3_accepts_84 : decode cX3_accepts 84 = .ok (.sipush 999, 3) := by decide +kernel
theorem dX3_accepts_87 : decode cX3_accepts 87 = .ok (.if_icmp .gt 7, 3) := by decide +kernel
theorem dX3_accepts_90 : decode cX3_accepts 90 = .ok (.iconst 1, 1) := by decide +kernel
theorem dX3_accepts_91 : decode cX3_accepts 91 = .ok (.goto 4, 3) := by decide +kernel
theorem dX3_accepts_94 : decode cX3_accepts 94 = .ok (.iconst 0, 1) := by decide +kernel
theorem dX3_accepts_95 : decode cX3_accepts 95 = .ok (.ireturn, 1) := by decide +kernel
theorem dX3_accepts_96 : decode cX3_accepts 96 = .ok (.iconst 0, 1) := by decide +kernel
theorem dX3_accepts_97 : decode cX3_accepts 97 = .ok (.ireturn, 1) := by decide +kernel
theorem dX3_property_0 : decode cX3_property 0 = .ok (.iload_n 1, 1) := by decide +kernel
theorem dX3_property_1 : decode cX3_property 1 = .ok (.tableswitch 42 0 2 #[27, 32, 37], 27) := by decide +kernel
theorem dX3_property_28 : decode cX3_property 28 = .ok (.aload_n 0, 1) := by decide +kernel
theorem dX3_property_29 : decode cX3_property 29 = .ok (.getfield 15, 3) := by decide +kernel
theorem dX3_property_32 : decode cX3_property 32 = .ok (.ireturn, 1) := by decide +kernel
theorem dX3_property_33 : decode cX3_property 33 = .ok (.aload_n 0, 1) := by decide +kernel
theorem dX3_property_34 : decode cX3_property 34 = .ok (.getfield 18, 3) := by decide +kernel
theorem dX3_property_37 : decode cX3_property 37 = .ok (.ireturn, 1) := by decide +kernel
theorem dX3_property_38 : decode cX3_property 38 = .ok (.aload_n 0, 1) := by decide +kernel
theorem dX3_property_39 : decode cX3_property 39 = .ok (.getfield 21, 3) := by decide +kernel
theorem dX3_property_42 : decode cX3_property 42 = .ok (.ireturn, 1) := by decide +kernel
theorem dX3_property_43 : decode cX3_property 43 = .ok (.aload_n 0, 1) := by decide +kernel
theorem dX3_property_44 : decode cX3_property 44 = .ok (.getfield 24, 3) := by decide +kernel
theorem dX3_property_47 : decode cX3_property 47 = .ok (.ireturn, 1) := by decide +kernel
theorem dX3_exchange_0 : decode cX3_exchange 0 = .ok (.aload_n 0, 1) := by decide +kernel
theorem dX3_exchange_1 : decode cX3_exchange 1 = .ok (.iload_n 1, 1) := by decide +kernel
theorem dX3_exchange_2 : decode cX3_exchange 2 = .ok (.invokevirtual 48, 3) := by decide +kernel
theorem dX3_exchange_5 : decode cX3_exchange 5 = .ok (.istore_n 3, 1) := by decide +kernel
theorem dX3_exchange_6 : decode cX3_exchange 6 = .ok (.iload_n 1, 1) := by decide +kernel
theorem dX3_exchange_7 : decode cX3_exchange 7 = .ok (.tableswitch 49 0 2 #[25, 33, 41], 25) := by decide +kernel
theorem dX3_exchange_32 : decode cX3_exchange 32 = .ok (.aload_n 0, 1) := by decide +kernel
theorem dX3_exchange_33 : decode cX3_exchange 33 = .ok (.iload_n 2, 1) := by decide +kernel
theorem dX3_exchange_34 : decode cX3_exchange 34 = .ok (.putfield 15, 3) := by decide +kernel
theorem dX3_exchange_37 : decode cX3_exchange 37 = .ok (.goto 24, 3) := by decide +kernel
theorem dX3_exchange_40 : decode cX3_exchange 40 = .ok (.aload_n 0, 1) := by decide +kernel
theorem dX3_exchange_41 : decode cX3_exchange 41 = .ok (.iload_n 2, 1) := by decide +kernel
theorem dX3_exchange_42 : decode cX3_exchange 42 = .ok (.putfield 18, 3) := by decide +kernel
theorem dX3_exchange_45 : decode cX3_exchange 45 = .ok (.goto 16, 3) := by decide +kernel
theorem dX3_exchange_48 : decode cX3_exchange 48 = .ok (.aload_n 0, 1) := by decide +kernel
theorem dX3_exchange_49 : decode cX3_exchange 49 = .ok (.iload_n 2, 1) := by decide +kernel
theorem dX3_exchange_50 : decode cX3_exchange 50 = .ok (.putfield 21, 3) := by decide +kernel
theorem dX3_exchange_53 : decode cX3_exchange 53 = .ok (.goto 8, 3) := by decide +kernel
theorem dX3_exchange_56 : decode cX3_exchange 56 = .ok (.aload_n 0, 1) := by decide +kernel
theorem dX3_exchange_57 : decode cX3_exchange 57 = .ok (.iload_n 2, 1) := by decide +kernel
theorem dX3_exchange_58 : decode cX3_exchange 58 = .ok (.putfield 24, 3) := by decide +kernel
theorem dX3_exchange_61 : decode cX3_exchange 61 = .ok (.iload_n 3, 1) := by decide +kernel
theorem dX3_exchange_62 : decode cX3_exchange 62 = .ok (.ireturn, 1) := by decide +kernel
theorem dX4_init_0 : decode cX4_init 0 = .ok (.aload_n 0, 1) := by decide +kernel
theorem dX4_init_1 : decode cX4_init 1 = .ok (.invokespecial 3, 3) := by decide +kernel
theorem dX4_init_4 : decode cX4_init 4 = .ok (.aload_n 0, 1) := by decide +kernel
theorem dX4_init_5 : decode cX4_init 5 = .ok (.sipush 4096, 3) := by decide +kernel
theorem dX4_init_8 : decode cX4_init 8 = .ok (.newarray .long, 2) := by decide +kernel
theorem dX4_init_10 : decode cX4_init 10 = .ok (.putfield 9, 3) := by decide +kernel
theorem dX4_init_13 : decode cX4_init 13 = .ok (.aload_n 0, 1) := by decide +kernel
theorem dX4_init_14 : decode cX4_init 14 = .ok (.bipush (-2), 2) := by decide +kernel
theorem dX4_init_16 : decode cX4_init 16 = .ok (.putfield 15, 3) := by decide +kernel
theorem dX4_init_19 : decode cX4_init 19 = .ok (.return_, 1) := by decide +kernel
theorem dX4_forget_0 : decode cX4_forget 0 = .ok (.aload_n 0, 1) := by decide +kernel
theorem dX4_forget_1 : decode cX4_forget 1 = .ok (.bipush (-2), 2) := by decide +kernel
theorem dX4_forget_3 : decode cX4_forget 3 = .ok (.putfield 15, 3) := by decide +kernel
theorem dX4_forget_6 : decode cX4_forget 6 = .ok (.return_, 1) := by decide +kernel
theorem dX4_learn_0 : decode cX4_learn 0 = .ok (.aload_n 0, 1) := by decide +kernel
theorem dX4_learn_1 : decode cX4_learn 1 = .ok (.getfield 15, 3) := by decide +kernel
theorem dX4_learn_4 : decode cX4_learn 4 = .ok (.iload_n 2, 1) := by decide +kernel
theorem dX4_learn_5 : decode cX4_learn 5 = .ok (.if_icmp .ne 4, 3) := by decide +kernel
theorem dX4_learn_8 : decode cX4_learn 8 = .ok (.return_, 1) := by decide +kernel
theorem dX4_learn_9 : decode cX4_learn 9 = .ok (.aload_n 1, 1) := by decide +kernel
theorem dX4_learn_10 : decode cX4_learn 10 = .ok (.invokevirtual 19, 3) := by decide +kernel
theorem dX4_learn_13 : decode cX4_learn 13 = .ok (.aload_n 0, 1) := by decide +kernel
theorem dX4_learn_14 : decode cX4_learn 14 = .ok (.getfield 9, 3) := by decide +kernel
theorem dX4_learn_17 : decode cX4_learn 17 = .ok (.arraylength, 1) := by decide +kernel
theorem dX4_learn_18 : decode cX4_learn 18 = .ok (.invokestatic 25, 3) := by decide +kernel
theorem dX4_learn_21 : decode cX4_learn 21 = .ok (.iconst 1, 1) := by decide +kernel
theorem dX4_learn_22 : decode cX4_learn 22 = .ok (.isub, 1) := by decide +kernel
theorem dX4_learn_23 : decode cX4_learn 23 = .ok (.istore_n 3, 1) := by decide +kernel
theorem dX4_learn_24 : decode cX4_learn 24 = .ok (.iload_n 3, 1) := by decide +kernel
theorem dX4_learn_25 : decode cX4_learn 25 = .ok (.ifCond .lt 69, 3) := by decide +kernel
theorem dX4_learn_28 : decode cX4_learn 28 = .ok (.iload_n 2, 1) := by decide +kernel
theorem dX4_learn_29 : decode cX4_learn 29 = .ok (.iconst (-1), 1) := by decide +kernel
theorem dX4_learn_30 : decode cX4_learn 30 = .ok (.if_icmp .eq 12, 3) := by decide +kernel
theorem dX4_learn_33 : decode cX4_learn 33 = .ok (.aload_n 1, 1) := by decide +kernel
theorem dX4_learn_34 : decode cX4_learn 34 = .ok (.iload_n 3, 1) := by decide +kernel
theorem dX4_learn_35 : decode cX4_learn 35 = .ok (.invokevirtual 31, 3) := by decide +kernel
theorem dX4_learn_38 : decode cX4_learn 38 = .ok (.iload_n 2, 1) := by decide +kernel
theorem dX4_learn_39 : decode cX4_learn 39 = .ok (.if_icmp .ne 7, 3) := by decide +kernel
theorem dX4_learn_42 : decode cX4_learn 42 = .ok (.iconst 1, 1) := by decide +kernel
theorem dX4_learn_43 : decode cX4_learn 43 = .ok (.goto 4, 3) := by decide +kernel
theorem dX4_learn_46 : decode cX4_learn 46 = .ok (.iconst 0, 1) := by decide +kernel
theorem dX4_learn_47 : decode cX4_learn 47 = .ok (.istore 4, 2) := by decide +kernel
theorem dX4_learn_49 : decode cX4_learn 49 = .ok (.iload 4, 2) := by decide +kernel
theorem dX4_learn_51 : decode cX4_learn 51 = .ok (.ifCond .eq 15, 3) := by decide +kernel
theorem dX4_learn_54 : decode cX4_learn 54 = .ok (.aload_n 1, 1) := by decide +kernel
theorem dX4_learn_55 : decode cX4_learn 55 = .ok (.iload_n 3, 1) := by decide +kernel
theorem dX4_learn_56 : decode cX4_learn 56 = .ok (.invokevirtual 35, 3) := by decide +kernel
theorem dX4_learn_59 : decode cX4_learn 59 = .ok (.ifCond .eq 7, 3) := by decide +kernel
theorem dX4_learn_62 : decode cX4_learn 62 = .ok (.lconst 1, 1) := by decide +kernel
theorem dX4_learn_63 : decode cX4_learn 63 = .ok (.goto 4, 3) := by decide +kernel
theorem dX4_learn_66 : decode cX4_learn 66 = .ok (.lconst 0, 1) := by decide +kernel
theorem dX4_learn_67 : decode cX4_learn 67 = .ok (.lstore 5, 2) := by decide +kernel
theorem dX4_learn_69 : decode cX4_learn 69 = .ok (.aload_n 0, 1) := by decide +kernel
theorem dX4_learn_70 : decode cX4_learn 70 = .ok (.getfield 9, 3) := by decide +kernel
theorem dX4_learn_73 : decode cX4_learn 73 = .ok (.iload_n 3, 1) := by decide +kernel
theorem dX4_learn_74 : decode cX4_learn 74 = .ok (.lload 5, 2) := by decide +kernel
theorem dX4_learn_76 : decode cX4_learn 76 = .ok (.aload_n 0, 1) := by decide +kernel
theorem dX4_learn_77 : decode cX4_learn 77 = .ok (.iload_n 3, 1) := by decide +kernel
theorem dX4_learn_78 : decode cX4_learn 78 = .ok (.aload_n 1, 1) := by decide +kernel
theorem dX4_learn_79 : decode cX4_learn 79 = .ok (.getfield 39, 3) := by decide +kernel
theorem dX4_learn_82 : decode cX4_learn 82 = .ok (.aload_n 1, 1) := by decide +kernel
theorem dX4_learn_83 : decode cX4_learn 83 = .ok (.invokevirtual 42, 3) := by decide +kernel
theorem dX4_learn_86 : decode cX4_learn 86 = .ok (.ladd, 1) := by decide +kernel
theorem dX4_learn_87 : decode cX4_learn 87 = .ok (.lastore, 1) := by decide +kernel
theorem dX4_learn_88 : decode cX4_learn 88 = .ok (.iinc 3 (-1), 3) := by decide +kernel
theorem dX4_learn_91 : decode cX4_learn 91 = .ok (.goto (-67), 3) := by decide +kernel
theorem dX4_learn_94 : decode cX4_learn 94 = .ok (.aload_n 0, 1) := by decide +kernel
theorem dX4_learn_95 : decode cX4_learn 95 = .ok (.iload_n 2, 1) := by decide +kernel
theorem dX4_learn_96 : decode cX4_learn 96 = .ok (.putfield 15, 3) := by decide +kernel
theorem dX4_learn_99 : decode cX4_learn 99 = .ok (.return_, 1) := by decide +kernel
theorem dX4_countFrom_0 : decode cX4_countFrom 0 = .ok (.iload_n 1, 1) := by decide +kernel
theorem dX4_countFrom_1 : decode cX4_countFrom 1 = .ok (.ifCond .lt 21, 3) := by decide +kernel
theorem dX4_countFrom_4 : decode cX4_countFrom 4 = .ok (.iload_n 1, 1) := by decide +kernel
theorem dX4_countFrom_5 : decode cX4_countFrom 5 = .ok (.aload_n 0, 1) := by decide +kernel
theorem dX4_countFrom_6 : decode cX4_countFrom 6 = .ok (.getfield 9, 3) := by decide +kernel
theorem dX4_countFrom_9 : decode cX4_countFrom 9 = .ok (.arraylength, 1) := by decide +kernel
theorem dX4_countFrom_10 : decode cX4_countFrom 10 = .ok (.if_icmp .ge 12, 3) := by decide +kernel
theorem dX4_countFrom_13 : decode cX4_countFrom 13 = .ok (.aload_n 0, 1) := by decide +kernel
theorem dX4_countFrom_14 : decode cX4_countFrom 14 = .ok (.getfield 9, 3) := by decide +kernel
theorem dX4_countFrom_17 : decode cX4_countFrom 17 = .ok (.iload_n 1, 1) := by decide +kernel
theorem dX4_countFrom_18 : decode cX4_countFrom 18 = .ok (.laload, 1) := by decide +kernel
theorem dX4_countFrom_19 : decode cX4_countFrom 19 = .ok (.goto 4, 3) := by decide +kernel
theorem dX4_countFrom_22 : decode cX4_countFrom 22 = .ok (.lconst 0, 1) := by decide +kernel
theorem dX4_countFrom_23 : decode cX4_countFrom 23 = .ok (.lreturn, 1) := by decide +kernel
theorem dX4_countBehind_0 : decode cX4_countBehind 0 = .ok (.aload_n 3, 1) := by decide +kernel
theorem dX4_countBehind_1 : decode cX4_countBehind 1 = .ok (.iload_n 1, 1) := by decide +kernel
theorem dX4_countBehind_2 : decode cX4_countBehind 2 = .ok (.invokevirtual 46, 3) := by decide +kernel
theorem dX4_countBehind_5 : decode cX4_countBehind 5 = .ok (.istore 4, 2) := by decide +kernel
theorem dX4_countBehind_7 : decode cX4_countBehind 7 = .ok (.lconst 0, 1) := by decide +kernel
theorem dX4_countBehind_8 : decode cX4_countBehind 8 = .ok (.lstore 5, 2) := by decide +kernel
theorem dX4_countBehind_10 : decode cX4_countBehind 10 = .ok (.iconst 0, 1) := by decide +kernel
theorem dX4_countBehind_11 : decode cX4_countBehind 11 = .ok (.istore 7, 2) := by decide +kernel
theorem dX4_countBehind_13 : decode cX4_countBehind 13 = .ok (.iload 7, 2) := by decide +kernel
theorem dX4_countBehind_15 : decode cX4_countBehind 15 = .ok (.iload_n 2, 1) := by decide +kernel
theorem dX4_countBehind_16 : decode cX4_countBehind 16 = .ok (.if_icmp .ge 35, 3) := by decide +kernel
theorem dX4_countBehind_19 : decode cX4_countBehind 19 = .ok (.iload 4, 2) := by decide +kernel
theorem dX4_countBehind_21 : decode cX4_countBehind 21 = .ok (.iload 7, 2) := by decide +kernel
theorem dX4_countBehind_23 : decode cX4_countBehind 23 = .ok (.invokestatic 49, 3) := by decide +kernel
theorem dX4_countBehind_26 : decode cX4_countBehind 26 = .ok (.iconst 1, 1) := by decide +kernel
theorem dX4_countBehind_27 : decode cX4_countBehind 27 = .ok (.if_icmp .ne 18, 3) := by decide +kernel
theorem dX4_countBehind_30 : decode cX4_countBehind 30 = .ok (.lload 5, 2) := by decide +kernel
theorem dX4_countBehind_32 : decode cX4_countBehind 32 = .ok (.aload_n 0, 1) := by decide +kernel
theorem dX4_countBehind_33 : decode cX4_countBehind 33 = .ok (.iload_n 1, 1) := by decide +kernel
theorem dX4_countBehind_34 : decode cX4_countBehind 34 = .ok (.iload 7, 2) := by decide +kernel
theorem dX4_countBehind_36 : decode cX4_countBehind 36 = .ok (.invokestatic 52, 3) := by decide +kernel
theorem dX4_countBehind_39 : decode cX4_countBehind 39 = .ok (.invokevirtual 55, 3) := by decide +kernel
theorem dX4_countBehind_42 : decode cX4_countBehind 42 = .ok (.ladd, 1) := by decide +kernel
theorem dX4_countBehind_43 : decode cX4_countBehind 43 = .ok (.lstore 5, 2) := by decide +kernel
theorem dX4_countBehind_45 : decode cX4_countBehind 45 = .ok (.iinc 7 1, 3) := by decide +kernel
theorem dX4_countBehind_48 : decode cX4_countBehind 48 = .ok (.goto (-35), 3) := by decide +kernel
theorem dX4_countBehind_51 : decode cX4_countBehind 51 = .ok (.lload 5, 2) := by decide +kernel
theorem dX4_countBehind_53 : decode cX4_countBehind 53 = .ok (.lreturn, 1) := by decide +kernel
theorem dX4_memberOf_0 : decode cX4_memberOf 0 = .ok (.lload_n 2, 1) := by decide +kernel
theorem dX4_memberOf_1 : decode cX4_memberOf 1 = .ok (.aload_n 0, 1) := by decide +kernel
theorem dX4_memberOf_2 : decode cX4_memberOf 2 = .ok (.iconst 0, 1) := by decide +kernel
theorem dX4_memberOf_3 : decode cX4_memberOf 3 = .ok (.invokevirtual 55, 3) := by decide +kernel
theorem dX4_memberOf_6 : decode cX4_memberOf 6 = .ok (.lcmp, 1) := by decide +kernel
theorem dX4_memberOf_7 : decode cX4_memberOf 7 = .ok (.ifCond .lt 6, 3) := by decide +kernel
theorem dX4_memberOf_10 : decode cX4_memberOf 10 = .ok (.bipush (-9), 2) := by decide +kernel
theorem dX4_memberOf_12 : decode cX4_memberOf 12 = .ok (.ireturn, 1) := by decide +kernel
theorem dX4_memberOf_13 : decode cX4_memberOf 13 = .ok (.lload_n 2, 1) := by decide +kernel
theorem dX4_memberOf_14 : decode cX4_memberOf 14 = .ok (.lstore 5, 2) := by decide +kernel
theorem dX4_memberOf_16 : decode cX4_memberOf 16 = .ok (.iconst 0, 1) := by decide +kernel
theorem dX4_memberOf_17 : decode cX4_memberOf 17 = .ok (.istore 7, 2) := by decide +kernel
theorem dX4_memberOf_19 : decode cX4_memberOf 19 = .ok (.iconst 0, 1) := by decide +kernel
theorem dX4_memberOf_20 : decode cX4_memberOf 20 = .ok (.istore 8, 2) := by decide +kernel
theorem dX4_memberOf_22 : decode cX4_memberOf 22 = .ok (.iload 8, 2) := by decide +kernel
theorem dX4_memberOf_24 : decode cX4_memberOf 24 = .ok (.iload 4, 2) := by decide +kernel
theorem dX4_memberOf_26 : decode cX4_memberOf 26 = .ok (.if_icmp .gt 92, 3) := by decide +kernel
theorem dX4_memberOf_29 : decode cX4_memberOf 29 = .ok (.iload 8, 2) := by decide +kernel
theorem dX4_memberOf_31 : decode cX4_memberOf 31 = .ok (.bipush 18, 2) := by decide +kernel
theorem dX4_memberOf_33 : decode cX4_memberOf 33 = .ok (.if_icmp .ge 85, 3) := by decide +kernel
theorem dX4_memberOf_36 : decode cX4_memberOf 36 = .ok (.aload_n 1, 1) := by decide +kernel
theorem dX4_memberOf_37 : decode cX4_memberOf 37 = .ok (.iload 7, 2) := by decide +kernel
theorem dX4_memberOf_39 : decode cX4_memberOf 39 = .ok (.invokevirtual 35, 3) := by decide +kernel
theorem dX4_memberOf_42 : decode cX4_memberOf 42 = .ok (.ifCond .eq 9, 3) := by decide +kernel
theorem dX4_memberOf_45 : decode cX4_memberOf 45 = .ok (.lload 5, 2) := by decide +kernel
theorem dX4_memberOf_47 : decode cX4_memberOf 47 = .ok (.lconst 1, 1) := by decide +kernel
theorem dX4_memberOf_48 : decode cX4_memberOf 48 = .ok (.lsub, 1) := by decide +kernel
theorem dX4_memberOf_49 : decode cX4_memberOf 49 = .ok (.lstore 5, 2) := by decide +kernel
theorem dX4_memberOf_51 : decode cX4_memberOf 51 = .ok (.lload 5, 2) := by decide +kernel
theorem dX4_memberOf_53 : decode cX4_memberOf 53 = .ok (.lconst 0, 1) := by decide +kernel
theorem dX4_memberOf_54 : decode cX4_memberOf 54 = .ok (.lcmp, 1) := by decide +kernel
theorem dX4_memberOf_55 : decode cX4_memberOf 55 = .ok (.ifCond .ge 8, 3) := by decide +kernel
theorem dX4_memberOf_58 : decode cX4_memberOf 58 = .ok (.bipush (-9), 2) := by decide +kernel
theorem dX4_memberOf_60 : decode cX4_memberOf 60 = .ok (.goto 12, 3) := by decide +kernel
theorem dX4_memberOf_63 : decode cX4_memberOf 63 = .ok (.aload_n 0, 1) := by decide +kernel
theorem dX4_memberOf_64 : decode cX4_memberOf 64 = .ok (.iload 7, 2) := by decide +kernel
theorem dX4_memberOf_66 : decode cX4_memberOf 66 = .ok (.lload 5, 2) := by decide +kernel
theorem dX4_memberOf_68 : decode cX4_memberOf 68 = .ok (.aload_n 1, 1) := by decide +kernel
theorem dX4_memberOf_69 : decode cX4_memberOf 69 = .ok (.invokevirtual 59, 3) := by decide +kernel
theorem dX4_memberOf_72 : decode cX4_memberOf 72 = .ok (.istore 9, 2) := by decide +kernel
theorem dX4_memberOf_74 : decode cX4_memberOf 74 = .ok (.iload 9, 2) := by decide +kernel
theorem dX4_memberOf_76 : decode cX4_memberOf 76 = .ok (.ifCond .lt 10, 3) := by decide +kernel
theorem dX4_memberOf_79 : decode cX4_memberOf 79 = .ok (.iload 8, 2) := by decide +kernel
theorem dX4_memberOf_81 : decode cX4_memberOf 81 = .ok (.iload 4, 2) := by decide +kernel
theorem dX4_memberOf_83 : decode cX4_memberOf 83 = .ok (.if_icmp .ne 6, 3) := by decide +kernel
theorem dX4_memberOf_86 : decode cX4_memberOf 86 = .ok (.iload 9, 2) := by decide +kernel
theorem dX4_memberOf_88 : decode cX4_memberOf 88 = .ok (.ireturn, 1) := by decide +kernel
theorem dX4_memberOf_89 : decode cX4_memberOf 89 = .ok (.lload 5, 2) := by decide +kernel
theorem dX4_memberOf_91 : decode cX4_memberOf 91 = .ok (.aload_n 0, 1) := by decide +kernel
theorem dX4_memberOf_92 : decode cX4_memberOf 92 = .ok (.iload 7, 2) := by decide +kernel
theorem dX4_memberOf_94 : decode cX4_memberOf 94 = .ok (.iload 9, 2) := by decide +kernel
theorem dX4_memberOf_96 : decode cX4_memberOf 96 = .ok (.aload_n 1, 1) := by decide +kernel
theorem dX4_memberOf_97 : decode cX4_memberOf 97 = .ok (.invokevirtual 42, 3) := by decide +kernel
theorem dX4_memberOf_100 : decode cX4_memberOf 100 = .ok (.lsub, 1) := by decide +kernel
theorem dX4_memberOf_101 : decode cX4_memberOf 101 = .ok (.lstore 5, 2) := by decide +kernel
