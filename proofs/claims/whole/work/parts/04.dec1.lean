theorem dX6_wipe_22 : decode cX6_wipe 22 = .ok (.iload_n 1, 1) := by decide +kernel
theorem dX6_wipe_23 : decode cX6_wipe 23 = .ok (.ireturn, 1) := by decide +kernel
theorem dX6_declare_0 : decode cX6_declare 0 = .ok (.iload_n 1, 1) := by decide +kernel
theorem dX6_declare_1 : decode cX6_declare 1 = .ok (.invokestatic 69, 3) := by decide +kernel
theorem dX6_declare_4 : decode cX6_declare 4 = .ok (.ifCond .eq 26, 3) := by decide +kernel
theorem dX6_declare_7 : decode cX6_declare 7 = .ok (.iload_n 2, 1) := by decide +kernel
theorem dX6_declare_8 : decode cX6_declare 8 = .ok (.ifCond .lt 22, 3) := by decide +kernel
theorem dX6_declare_11 : decode cX6_declare 11 = .ok (.iload_n 3, 1) := by decide +kernel
theorem dX6_declare_12 : decode cX6_declare 12 = .ok (.iconst 1, 1) := by decide +kernel
theorem dX6_declare_13 : decode cX6_declare 13 = .ok (.if_icmp .lt 17, 3) := by decide +kernel
theorem dX6_declare_16 : decode cX6_declare 16 = .ok (.iload_n 3, 1) := by decide +kernel
theorem dX6_declare_17 : decode cX6_declare 17 = .ok (.iconst 3, 1) := by decide +kernel
theorem dX6_declare_18 : decode cX6_declare 18 = .ok (.if_icmp .gt 12, 3) := by decide +kernel
theorem dX6_declare_21 : decode cX6_declare 21 = .ok (.iload_n 2, 1) := by decide +kernel
theorem dX6_declare_22 : decode cX6_declare 22 = .ok (.iload_n 3, 1) := by decide +kernel
theorem dX6_declare_23 : decode cX6_declare 23 = .ok (.if_icmp .gt 7, 3) := by decide +kernel
theorem dX6_declare_26 : decode cX6_declare 26 = .ok (.iconst 1, 1) := by decide +kernel
theorem dX6_declare_27 : decode cX6_declare 27 = .ok (.goto 4, 3) := by decide +kernel
theorem dX6_declare_30 : decode cX6_declare 30 = .ok (.iconst 0, 1) := by decide +kernel
theorem dX6_declare_31 : decode cX6_declare 31 = .ok (.istore 4, 2) := by decide +kernel
theorem dX6_declare_33 : decode cX6_declare 33 = .ok (.iload 4, 2) := by decide +kernel
theorem dX6_declare_35 : decode cX6_declare 35 = .ok (.ifCond .ne 5, 3) := by decide +kernel
theorem dX6_declare_38 : decode cX6_declare 38 = .ok (.iconst (-1), 1) := by decide +kernel
theorem dX6_declare_39 : decode cX6_declare 39 = .ok (.ireturn, 1) := by decide +kernel
theorem dX6_declare_40 : decode cX6_declare 40 = .ok (.aload_n 0, 1) := by decide +kernel
theorem dX6_declare_41 : decode cX6_declare 41 = .ok (.getfield 10, 3) := by decide +kernel
theorem dX6_declare_44 : decode cX6_declare 44 = .ok (.invokevirtual 72, 3) := by decide +kernel
theorem dX6_declare_47 : decode cX6_declare 47 = .ok (.istore 5, 2) := by decide +kernel
theorem dX6_declare_49 : decode cX6_declare 49 = .ok (.iload 5, 2) := by decide +kernel
theorem dX6_declare_51 : decode cX6_declare 51 = .ok (.ifCond .eq 15, 3) := by decide +kernel
theorem dX6_declare_54 : decode cX6_declare 54 = .ok (.aload_n 0, 1) := by decide +kernel
theorem dX6_declare_55 : decode cX6_declare 55 = .ok (.getfield 22, 3) := by decide +kernel
theorem dX6_declare_58 : decode cX6_declare 58 = .ok (.iload 5, 2) := by decide +kernel
theorem dX6_declare_60 : decode cX6_declare 60 = .ok (.invokevirtual 76, 3) := by decide +kernel
theorem dX6_declare_63 : decode cX6_declare 63 = .ok (.ifCond .eq 6, 3) := by decide +kernel
theorem dX6_declare_66 : decode cX6_declare 66 = .ok (.bipush (-2), 2) := by decide +kernel
theorem dX6_declare_68 : decode cX6_declare 68 = .ok (.ireturn, 1) := by decide +kernel
theorem dX6_declare_69 : decode cX6_declare 69 = .ok (.aload_n 0, 1) := by decide +kernel
theorem dX6_declare_70 : decode cX6_declare 70 = .ok (.getfield 22, 3) := by decide +kernel
theorem dX6_declare_73 : decode cX6_declare 73 = .ok (.getfield 79, 3) := by decide +kernel
theorem dX6_declare_76 : decode cX6_declare 76 = .ok (.bipush 6, 2) := by decide +kernel
theorem dX6_declare_78 : decode cX6_declare 78 = .ok (.if_icmp .lt 6, 3) := by decide +kernel
theorem dX6_declare_81 : decode cX6_declare 81 = .ok (.bipush (-3), 2) := by decide +kernel
theorem dX6_declare_83 : decode cX6_declare 83 = .ok (.ireturn, 1) := by decide +kernel
theorem dX6_declare_84 : decode cX6_declare 84 = .ok (.aload_n 0, 1) := by decide +kernel
theorem dX6_declare_85 : decode cX6_declare 85 = .ok (.invokevirtual 82, 3) := by decide +kernel
theorem dX6_declare_88 : decode cX6_declare 88 = .ok (.aload_n 0, 1) := by decide +kernel
theorem dX6_declare_89 : decode cX6_declare 89 = .ok (.getfield 22, 3) := by decide +kernel
theorem dX6_declare_92 : decode cX6_declare 92 = .ok (.iload 5, 2) := by decide +kernel
theorem dX6_declare_94 : decode cX6_declare 94 = .ok (.iload_n 1, 1) := by decide +kernel
theorem dX6_declare_95 : decode cX6_declare 95 = .ok (.iload_n 2, 1) := by decide +kernel
theorem dX6_declare_96 : decode cX6_declare 96 = .ok (.iload_n 3, 1) := by decide +kernel
theorem dX6_declare_97 : decode cX6_declare 97 = .ok (.invokevirtual 85, 3) := by decide +kernel
theorem dX6_declare_100 : decode cX6_declare 100 = .ok (.ireturn, 1) := by decide +kernel
theorem dX6_remove_0 : decode cX6_remove 0 = .ok (.aload_n 0, 1) := by decide +kernel
theorem dX6_remove_1 : decode cX6_remove 1 = .ok (.getfield 22, 3) := by decide +kernel
theorem dX6_remove_4 : decode cX6_remove 4 = .ok (.iload_n 1, 1) := by decide +kernel
theorem dX6_remove_5 : decode cX6_remove 5 = .ok (.invokevirtual 89, 3) := by decide +kernel
theorem dX6_remove_8 : decode cX6_remove 8 = .ok (.ifCond .ne 5, 3) := by decide +kernel
theorem dX6_remove_11 : decode cX6_remove 11 = .ok (.iconst (-1), 1) := by decide +kernel
theorem dX6_remove_12 : decode cX6_remove 12 = .ok (.ireturn, 1) := by decide +kernel
theorem dX6_remove_13 : decode cX6_remove 13 = .ok (.aload_n 0, 1) := by decide +kernel
theorem dX6_remove_14 : decode cX6_remove 14 = .ok (.invokevirtual 82, 3) := by decide +kernel
theorem dX6_remove_17 : decode cX6_remove 17 = .ok (.aload_n 0, 1) := by decide +kernel
theorem dX6_remove_18 : decode cX6_remove 18 = .ok (.getfield 22, 3) := by decide +kernel
theorem dX6_remove_21 : decode cX6_remove 21 = .ok (.iload_n 1, 1) := by decide +kernel
theorem dX6_remove_22 : decode cX6_remove 22 = .ok (.invokevirtual 92, 3) := by decide +kernel
theorem dX6_remove_25 : decode cX6_remove 25 = .ok (.aload_n 0, 1) := by decide +kernel
theorem dX6_remove_26 : decode cX6_remove 26 = .ok (.getfield 22, 3) := by decide +kernel
theorem dX6_remove_29 : decode cX6_remove 29 = .ok (.getfield 79, 3) := by decide +kernel
theorem dX6_remove_32 : decode cX6_remove 32 = .ok (.ireturn, 1) := by decide +kernel
theorem dX6_set_0 : decode cX6_set 0 = .ok (.aload_n 0, 1) := by decide +kernel
theorem dX6_set_1 : decode cX6_set 1 = .ok (.getfield 22, 3) := by decide +kernel
theorem dX6_set_4 : decode cX6_set 4 = .ok (.iload_n 1, 1) := by decide +kernel
theorem dX6_set_5 : decode cX6_set 5 = .ok (.invokevirtual 89, 3) := by decide +kernel
theorem dX6_set_8 : decode cX6_set 8 = .ok (.ifCond .eq 19, 3) := by decide +kernel
theorem dX6_set_11 : decode cX6_set 11 = .ok (.aload_n 0, 1) := by decide +kernel
theorem dX6_set_12 : decode cX6_set 12 = .ok (.getfield 22, 3) := by decide +kernel
theorem dX6_set_15 : decode cX6_set 15 = .ok (.iload_n 1, 1) := by decide +kernel
theorem dX6_set_16 : decode cX6_set 16 = .ok (.invokevirtual 96, 3) := by decide +kernel
theorem dX6_set_19 : decode cX6_set 19 = .ok (.iload_n 2, 1) := by decide +kernel
theorem dX6_set_20 : decode cX6_set 20 = .ok (.iload_n 3, 1) := by decide +kernel
theorem dX6_set_21 : decode cX6_set 21 = .ok (.invokevirtual 100, 3) := by decide +kernel
theorem dX6_set_24 : decode cX6_set 24 = .ok (.ifCond .ne 5, 3) := by decide +kernel
theorem dX6_set_27 : decode cX6_set 27 = .ok (.iconst (-1), 1) := by decide +kernel
theorem dX6_set_28 : decode cX6_set 28 = .ok (.ireturn, 1) := by decide +kernel
theorem dX6_set_29 : decode cX6_set 29 = .ok (.aload_n 0, 1) := by decide +kernel
theorem dX6_set_30 : decode cX6_set 30 = .ok (.invokevirtual 82, 3) := by decide +kernel
theorem dX6_set_33 : decode cX6_set 33 = .ok (.aload_n 0, 1) := by decide +kernel
theorem dX6_set_34 : decode cX6_set 34 = .ok (.getfield 22, 3) := by decide +kernel
theorem dX6_set_37 : decode cX6_set 37 = .ok (.iload_n 1, 1) := by decide +kernel
theorem dX6_set_38 : decode cX6_set 38 = .ok (.invokevirtual 96, 3) := by decide +kernel
theorem dX6_set_41 : decode cX6_set 41 = .ok (.iload_n 2, 1) := by decide +kernel
theorem dX6_set_42 : decode cX6_set 42 = .ok (.iload_n 3, 1) := by decide +kernel
theorem dX6_set_43 : decode cX6_set 43 = .ok (.invokevirtual 106, 3) := by decide +kernel
theorem dX6_set_46 : decode cX6_set 46 = .ok (.ireturn, 1) := by decide +kernel
theorem dX6_move_0 : decode cX6_move 0 = .ok (.aload_n 0, 1) := by decide +kernel
theorem dX6_move_1 : decode cX6_move 1 = .ok (.getfield 22, 3) := by decide +kernel
theorem dX6_move_4 : decode cX6_move 4 = .ok (.iload_n 1, 1) := by decide +kernel
theorem dX6_move_5 : decode cX6_move 5 = .ok (.invokevirtual 89, 3) := by decide +kernel
theorem dX6_move_8 : decode cX6_move 8 = .ok (.ifCond .eq 14, 3) := by decide +kernel
theorem dX6_move_11 : decode cX6_move 11 = .ok (.aload_n 0, 1) := by decide +kernel
theorem dX6_move_12 : decode cX6_move 12 = .ok (.getfield 22, 3) := by decide +kernel
theorem dX6_move_15 : decode cX6_move 15 = .ok (.iload_n 2, 1) := by decide +kernel
theorem dX6_move_16 : decode cX6_move 16 = .ok (.invokevirtual 89, 3) := by decide +kernel
theorem dX6_move_19 : decode cX6_move 19 = .ok (.ifCond .ne 5, 3) := by decide +kernel
theorem dX6_move_22 : decode cX6_move 22 = .ok (.iconst (-1), 1) := by decide +kernel
theorem dX6_move_23 : decode cX6_move 23 = .ok (.ireturn, 1) := by decide +kernel
theorem dX6_move_24 : decode cX6_move 24 = .ok (.aload_n 0, 1) := by decide +kernel
theorem dX6_move_25 : decode cX6_move 25 = .ok (.invokevirtual 82, 3) := by decide +kernel
theorem dX6_move_28 : decode cX6_move 28 = .ok (.aload_n 0, 1) := by decide +kernel
theorem dX6_move_29 : decode cX6_move 29 = .ok (.getfield 22, 3) := by decide +kernel
theorem dX6_move_32 : decode cX6_move 32 = .ok (.iload_n 1, 1) := by decide +kernel
theorem dX6_move_33 : decode cX6_move 33 = .ok (.iload_n 2, 1) := by decide +kernel
theorem dX6_move_34 : decode cX6_move 34 = .ok (.invokevirtual 110, 3) := by decide +kernel
theorem dX6_move_37 : decode cX6_move 37 = .ok (.iload_n 2, 1) := by decide +kernel
theorem dX6_move_38 : decode cX6_move 38 = .ok (.ireturn, 1) := by decide +kernel
theorem dX6_setSeparator_0 : decode cX6_setSeparator 0 = .ok (.iload_n 1, 1) := by decide +kernel
theorem dX6_setSeparator_1 : decode cX6_setSeparator 1 = .ok (.ifCond .eq 17, 3) := by decide +kernel
theorem dX6_setSeparator_4 : decode cX6_setSeparator 4 = .ok (.iload_n 1, 1) := by decide +kernel
theorem dX6_setSeparator_5 : decode cX6_setSeparator 5 = .ok (.bipush 33, 2) := by decide +kernel
theorem dX6_setSeparator_7 : decode cX6_setSeparator 7 = .ok (.if_icmp .lt 9, 3) := by decide +kernel
theorem dX6_setSeparator_10 : decode cX6_setSeparator 10 = .ok (.iload_n 1, 1) := by decide +kernel
theorem dX6_setSeparator_11 : decode cX6_setSeparator 11 = .ok (.bipush 47, 2) := by decide +kernel
theorem dX6_setSeparator_13 : decode cX6_setSeparator 13 = .ok (.if_icmp .le 5, 3) := by decide +kernel
theorem dX6_setSeparator_16 : decode cX6_setSeparator 16 = .ok (.iconst (-1), 1) := by decide +kernel
theorem dX6_setSeparator_17 : decode cX6_setSeparator 17 = .ok (.ireturn, 1) := by decide +kernel
theorem dX6_setSeparator_18 : decode cX6_setSeparator 18 = .ok (.aload_n 0, 1) := by decide +kernel
theorem dX6_setSeparator_19 : decode cX6_setSeparator 19 = .ok (.invokevirtual 82, 3) := by decide +kernel
theorem dX6_setSeparator_22 : decode cX6_setSeparator 22 = .ok (.aload_n 0, 1) := by decide +kernel
theorem dX6_setSeparator_23 : decode cX6_setSeparator 23 = .ok (.getfield 22, 3) := by decide +kernel
theorem dX6_setSeparator_26 : decode cX6_setSeparator 26 = .ok (.getfield 114, 3) := by decide +kernel
theorem dX6_setSeparator_29 : decode cX6_setSeparator 29 = .ok (.istore_n 2, 1) := by decide +kernel
theorem dX6_setSeparator_30 : decode cX6_setSeparator 30 = .ok (.aload_n 0, 1) := by decide +kernel
theorem dX6_setSeparator_31 : decode cX6_setSeparator 31 = .ok (.getfield 22, 3) := by decide +kernel
theorem dX6_setSeparator_34 : decode cX6_setSeparator 34 = .ok (.iload_n 1, 1) := by decide +kernel
theorem dX6_setSeparator_35 : decode cX6_setSeparator 35 = .ok (.putfield 114, 3) := by decide +kernel
theorem dX6_setSeparator_38 : decode cX6_setSeparator 38 = .ok (.iload_n 2, 1) := by decide +kernel
theorem dX6_setSeparator_39 : decode cX6_setSeparator 39 = .ok (.ireturn, 1) := by decide +kernel
theorem dX6_rule_0 : decode cX6_rule 0 = .ok (.aload_n 0, 1) := by decide +kernel
theorem dX6_rule_1 : decode cX6_rule 1 = .ok (.getfield 22, 3) := by decide +kernel
theorem dX6_rule_4 : decode cX6_rule 4 = .ok (.iload_n 1, 1) := by decide +kernel
theorem dX6_rule_5 : decode cX6_rule 5 = .ok (.invokevirtual 89, 3) := by decide +kernel
theorem dX6_rule_8 : decode cX6_rule 8 = .ok (.ifCond .eq 28, 3) := by decide +kernel
theorem dX6_rule_11 : decode cX6_rule 11 = .ok (.aload_n 0, 1) := by decide +kernel
theorem dX6_rule_12 : decode cX6_rule 12 = .ok (.getfield 22, 3) := by decide +kernel
theorem dX6_rule_15 : decode cX6_rule 15 = .ok (.iload_n 2, 1) := by decide +kernel
theorem dX6_rule_16 : decode cX6_rule 16 = .ok (.invokevirtual 89, 3) := by decide +kernel
theorem dX6_rule_19 : decode cX6_rule 19 = .ok (.ifCond .eq 17, 3) := by decide +kernel
theorem dX6_rule_22 : decode cX6_rule 22 = .ok (.iload_n 1, 1) := by decide +kernel
theorem dX6_rule_23 : decode cX6_rule 23 = .ok (.iload_n 2, 1) := by decide +kernel
theorem dX6_rule_24 : decode cX6_rule 24 = .ok (.if_icmp .eq 12, 3) := by decide +kernel
theorem dX6_rule_27 : decode cX6_rule 27 = .ok (.iload_n 3, 1) := by decide +kernel
theorem dX6_rule_28 : decode cX6_rule 28 = .ok (.ifCond .lt 8, 3) := by decide +kernel
theorem dX6_rule_31 : decode cX6_rule 31 = .ok (.iload_n 3, 1) := by decide +kernel
theorem dX6_rule_32 : decode cX6_rule 32 = .ok (.iconst 1, 1) := by decide +kernel
theorem dX6_rule_33 : decode cX6_rule 33 = .ok (.if_icmp .le 5, 3) := by decide +kernel
theorem dX6_rule_36 : decode cX6_rule 36 = .ok (.iconst (-1), 1) := by decide +kernel
theorem dX6_rule_37 : decode cX6_rule 37 = .ok (.ireturn, 1) := by decide +kernel
theorem dX6_rule_38 : decode cX6_rule 38 = .ok (.aload_n 0, 1) := by decide +kernel
theorem dX6_rule_39 : decode cX6_rule 39 = .ok (.invokevirtual 82, 3) := by decide +kernel
theorem dX6_rule_42 : decode cX6_rule 42 = .ok (.aload_n 0, 1) := by decide +kernel
theorem dX6_rule_43 : decode cX6_rule 43 = .ok (.getfield 22, 3) := by decide +kernel
theorem dX6_rule_46 : decode cX6_rule 46 = .ok (.iload_n 1, 1) := by decide +kernel
theorem dX6_rule_47 : decode cX6_rule 47 = .ok (.invokevirtual 96, 3) := by decide +kernel
theorem dX6_rule_50 : decode cX6_rule 50 = .ok (.astore 4, 2) := by decide +kernel
theorem dX6_rule_52 : decode cX6_rule 52 = .ok (.aload 4, 2) := by decide +kernel
theorem dX6_rule_54 : decode cX6_rule 54 = .ok (.getfield 117, 3) := by decide +kernel
theorem dX6_rule_57 : decode cX6_rule 57 = .ok (.iload_n 2, 1) := by decide +kernel
theorem dX6_rule_58 : decode cX6_rule 58 = .ok (.invokestatic 120, 3) := by decide +kernel
theorem dX6_rule_61 : decode cX6_rule 61 = .ok (.istore 5, 2) := by decide +kernel
theorem dX6_rule_63 : decode cX6_rule 63 = .ok (.aload 4, 2) := by decide +kernel
theorem dX6_rule_65 : decode cX6_rule 65 = .ok (.aload 4, 2) := by decide +kernel
theorem dX6_rule_67 : decode cX6_rule 67 = .ok (.getfield 117, 3) := by decide +kernel
theorem dX6_rule_70 : decode cX6_rule 70 = .ok (.iload_n 2, 1) := by decide +kernel
theorem dX6_rule_71 : decode cX6_rule 71 = .ok (.iload_n 3, 1) := by decide +kernel
theorem dX6_rule_72 : decode cX6_rule 72 = .ok (.invokestatic 123, 3) := by decide +kernel
theorem dX6_rule_75 : decode cX6_rule 75 = .ok (.putfield 117, 3) := by decide +kernel
theorem dX6_rule_78 : decode cX6_rule 78 = .ok (.iload 5, 2) := by decide +kernel
theorem dX6_rule_80 : decode cX6_rule 80 = .ok (.ireturn, 1) := by decide +kernel
theorem dX6_undo_0 : decode cX6_undo 0 = .ok (.aload_n 0, 1) := by decide +kernel
theorem dX6_undo_1 : decode cX6_undo 1 = .ok (.getfield 29, 3) := by decide +kernel
theorem dX6_undo_4 : decode cX6_undo 4 = .ok (.getfield 127, 3) := by decide +kernel
theorem dX6_undo_7 : decode cX6_undo 7 = .ok (.ifCond .ne 6, 3) := by decide +kernel
theorem dX6_undo_10 : decode cX6_undo 10 = .ok (.bipush (-2), 2) := by decide +kernel
theorem dX6_undo_12 : decode cX6_undo 12 = .ok (.ireturn, 1) := by decide +kernel
theorem dX6_undo_13 : decode cX6_undo 13 = .ok (.aload_n 0, 1) := by decide +kernel
theorem dX6_undo_14 : decode cX6_undo 14 = .ok (.getfield 29, 3) := by decide +kernel
theorem dX6_undo_17 : decode cX6_undo 17 = .ok (.aload_n 0, 1) := by decide +kernel
theorem dX6_undo_18 : decode cX6_undo 18 = .ok (.getfield 22, 3) := by decide +kernel
theorem dX6_undo_21 : decode cX6_undo 21 = .ok (.invokevirtual 128, 3) := by decide +kernel
theorem dX6_undo_24 : decode cX6_undo 24 = .ok (.aload_n 0, 1) := by decide +kernel
theorem dX6_undo_25 : decode cX6_undo 25 = .ok (.invokevirtual 132, 3) := by decide +kernel
theorem dX6_undo_28 : decode cX6_undo 28 = .ok (.aload_n 0, 1) := by decide +kernel
theorem dX6_undo_29 : decode cX6_undo 29 = .ok (.getfield 29, 3) := by decide +kernel
theorem dX6_undo_32 : decode cX6_undo 32 = .ok (.getfield 127, 3) := by decide +kernel
theorem dX6_undo_35 : decode cX6_undo 35 = .ok (.ireturn, 1) := by decide +kernel
theorem dX6_beginChange_0 : decode cX6_beginChange 0 = .ok (.aload_n 0, 1) := by decide +kernel
theorem dX6_beginChange_1 : decode cX6_beginChange 1 = .ok (.getfield 29, 3) := by decide +kernel
theorem dX6_beginChange_4 : decode cX6_beginChange 4 = .ok (.aload_n 0, 1) := by decide +kernel
theorem dX6_beginChange_5 : decode cX6_beginChange 5 = .ok (.getfield 22, 3) := by decide +kernel
theorem dX6_beginChange_8 : decode cX6_beginChange 8 = .ok (.invokevirtual 135, 3) := by decide +kernel
theorem dX6_beginChange_11 : decode cX6_beginChange 11 = .ok (.aload_n 0, 1) := by decide +kernel
theorem dX6_beginChange_12 : decode cX6_beginChange 12 = .ok (.invokevirtual 132, 3) := by decide +kernel
theorem dX6_beginChange_15 : decode cX6_beginChange 15 = .ok (.return_, 1) := by decide +kernel
theorem dX6_forgetTables_0 : decode cX6_forgetTables 0 = .ok (.aload_n 0, 1) := by decide +kernel
theorem dX6_forgetTables_1 : decode cX6_forgetTables 1 = .ok (.getfield 44, 3) := by decide +kernel
theorem dX6_forgetTables_4 : decode cX6_forgetTables 4 = .ok (.invokevirtual 59, 3) := by decide +kernel
theorem dX6_forgetTables_7 : decode cX6_forgetTables 7 = .ok (.aload_n 0, 1) := by decide +kernel
theorem dX6_forgetTables_8 : decode cX6_forgetTables 8 = .ok (.getfield 51, 3) := by decide +kernel
theorem dX6_forgetTables_11 : decode cX6_forgetTables 11 = .ok (.invokevirtual 138, 3) := by decide +kernel
theorem dX6_forgetTables_14 : decode cX6_forgetTables 14 = .ok (.return_, 1) := by decide +kernel
theorem dX6_told_0 : decode cX6_told 0 = .ok (.iload_n 1, 1) := by decide +kernel
theorem dX6_told_1 : decode cX6_told 1 = .ok (.tableswitch 111 0 7 #[47, 55, 63, 71, 79, 87, 95, 103], 47) := by decide +kernel
theorem dX6_told_48 : decode cX6_told 48 = .ok (.aload_n 0, 1) := by decide +kernel
theorem dX6_told_49 : decode cX6_told 49 = .ok (.getfield 22, 3) := by decide +kernel
theorem dX6_told_52 : decode cX6_told 52 = .ok (.getfield 79, 3) := by decide +kernel
theorem dX6_told_55 : decode cX6_told 55 = .ok (.ireturn, 1) := by decide +kernel
theorem dX6_told_56 : decode cX6_told 56 = .ok (.aload_n 0, 1) := by decide +kernel
theorem dX6_told_57 : decode cX6_told 57 = .ok (.getfield 22, 3) := by decide +kernel
theorem dX6_told_60 : decode cX6_told 60 = .ok (.getfield 114, 3) := by decide +kernel
theorem dX6_told_63 : decode cX6_told 63 = .ok (.ireturn, 1) := by decide +kernel
theorem dX6_told_64 : decode cX6_told 64 = .ok (.aload_n 0, 1) := by decide +kernel
theorem dX6_told_65 : decode cX6_told 65 = .ok (.getfield 22, 3) := by decide +kernel
theorem dX6_told_68 : decode cX6_told 68 = .ok (.invokevirtual 139, 3) := by decide +kernel
theorem dX6_told_71 : decode cX6_told 71 = .ok (.ireturn, 1) := by decide +kernel
theorem dX6_told_72 : decode cX6_told 72 = .ok (.aload_n 0, 1) := by decide +kernel
theorem dX6_told_73 : decode cX6_told 73 = .ok (.getfield 22, 3) := by decide +kernel
theorem dX6_told_76 : decode cX6_told 76 = .ok (.invokevirtual 142, 3) := by decide +kernel
theorem dX6_told_79 : decode cX6_told 79 = .ok (.ireturn, 1) := by decide +kernel
theorem dX6_told_80 : decode cX6_told 80 = .ok (.aload_n 0, 1) := by decide +kernel
theorem dX6_told_81 : decode cX6_told 81 = .ok (.getfield 10, 3) := by decide +kernel
theorem dX6_told_84 : decode cX6_told 84 = .ok (.getfield 62, 3) := by decide +kernel
theorem dX6_told_87 : decode cX6_told 87 = .ok (.ireturn, 1) := by decide +kernel
theorem dX6_told_88 : decode cX6_told 88 = .ok (.aload_n 0, 1) := by decide +kernel
theorem dX6_told_89 : decode cX6_told 89 = .ok (.getfield 29, 3) := by decide +kernel
theorem dX6_told_92 : decode cX6_told 92 = .ok (.getfield 127, 3) := by decide +kernel
theorem dX6_told_95 : decode cX6_told 95 = .ok (.ireturn, 1) := by decide +kernel
theorem dX6_told_96 : decode cX6_told 96 = .ok (.aload_n 0, 1) := by decide +kernel
theorem dX6_told_97 : decode cX6_told 97 = .ok (.getfield 22, 3) := by decide +kernel
theorem dX6_told_100 : decode cX6_told 100 = .ok (.invokevirtual 145, 3) := by decide +kernel
theorem dX6_told_103 : decode cX6_told 103 = .ok (.ireturn, 1) := by decide +kernel
theorem dX6_told_104 : decode cX6_told 104 = .ok (.aload_n 0, 1) := by decide +kernel
theorem dX6_told_105 : decode cX6_told 105 = .ok (.getfield 22, 3) := by decide +kernel
theorem dX6_told_108 : decode cX6_told 108 = .ok (.invokevirtual 148, 3) := by decide +kernel
theorem dX6_told_111 : decode cX6_told 111 = .ok (.ireturn, 1) := by decide +kernel
theorem dX6_told_112 : decode cX6_told 112 = .ok (.iconst (-1), 1) := by decide +kernel
theorem dX6_told_113 : decode cX6_told 113 = .ok (.ireturn, 1) := by decide +kernel
theorem dX6_member_0 : decode cX6_member 0 = .ok (.aload_n 0, 1) := by decide +kernel
theorem dX6_member_1 : decode cX6_member 1 = .ok (.getfield 22, 3) := by decide +kernel
theorem dX6_member_4 : decode cX6_member 4 = .ok (.iload_n 1, 1) := by decide +kernel
theorem dX6_member_5 : decode cX6_member 5 = .ok (.invokevirtual 89, 3) := by decide +kernel
theorem dX6_member_8 : decode cX6_member 8 = .ok (.ifCond .eq 13, 3) := by decide +kernel
theorem dX6_member_11 : decode cX6_member 11 = .ok (.iload_n 2, 1) := by decide +kernel
theorem dX6_member_12 : decode cX6_member 12 = .ok (.ifCond .lt 9, 3) := by decide +kernel
theorem dX6_member_15 : decode cX6_member 15 = .ok (.iload_n 2, 1) := by decide +kernel
theorem dX6_member_16 : decode cX6_member 16 = .ok (.bipush 9, 2) := by decide +kernel
theorem dX6_member_18 : decode cX6_member 18 = .ok (.if_icmp .le 5, 3) := by decide +kernel
theorem dX6_member_21 : decode cX6_member 21 = .ok (.iconst (-1), 1) := by decide +kernel
theorem dX6_member_22 : decode cX6_member 22 = .ok (.ireturn, 1) := by decide +kernel
theorem dX6_member_23 : decode cX6_member 23 = .ok (.aload_n 0, 1) := by decide +kernel
theorem dX6_member_24 : decode cX6_member 24 = .ok (.getfield 22, 3) := by decide +kernel
theorem dX6_member_27 : decode cX6_member 27 = .ok (.iload_n 1, 1) := by decide +kernel
theorem dX6_member_28 : decode cX6_member 28 = .ok (.invokevirtual 96, 3) := by decide +kernel
theorem dX6_member_31 : decode cX6_member 31 = .ok (.astore_n 3, 1) := by decide +kernel
theorem dX6_member_32 : decode cX6_member 32 = .ok (.iload_n 2, 1) := by decide +kernel
theorem dX6_member_33 : decode cX6_member 33 = .ok (.tableswitch 66 4 9 #[39, 44, 44, 44, 52, 57], 39) := by decide +kernel
theorem dX6_member_72 : decode cX6_member 72 = .ok (.aload_n 3, 1) := by decide +kernel
theorem dX6_member_73 : decode cX6_member 73 = .ok (.invokevirtual 151, 3) := by decide +kernel
theorem dX6_member_76 : decode cX6_member 76 = .ok (.ireturn, 1) := by decide +kernel
theorem dX6_member_77 : decode cX6_member 77 = .ok (.aload_n 3, 1) := by decide +kernel
theorem dX6_member_78 : decode cX6_member 78 = .ok (.iload_n 2, 1) := by decide +kernel
theorem dX6_member_79 : decode cX6_member 79 = .ok (.iconst 5, 1) := by decide +kernel
theorem dX6_member_80 : decode cX6_member 80 = .ok (.isub, 1) := by decide +kernel
theorem dX6_member_81 : decode cX6_member 81 = .ok (.invokevirtual 154, 3) := by decide +kernel
theorem dX6_member_84 : decode cX6_member 84 = .ok (.ireturn, 1) := by decide +kernel
theorem dX6_member_85 : decode cX6_member 85 = .ok (.aload_n 3, 1) := by decide +kernel
theorem dX6_member_86 : decode cX6_member 86 = .ok (.getfield 117, 3) := by decide +kernel
theorem dX6_member_89 : decode cX6_member 89 = .ok (.ireturn, 1) := by decide +kernel
theorem dX6_member_90 : decode cX6_member 90 = .ok (.aload_n 0, 1) := by decide +kernel
theorem dX6_member_91 : decode cX6_member 91 = .ok (.getfield 22, 3) := by decide +kernel
theorem dX6_member_94 : decode cX6_member 94 = .ok (.iload_n 1, 1) := by decide +kernel
theorem dX6_member_95 : decode cX6_member 95 = .ok (.invokevirtual 158, 3) := by decide +kernel
theorem dX6_member_98 : decode cX6_member 98 = .ok (.ireturn, 1) := by decide +kernel
theorem dX6_member_99 : decode cX6_member 99 = .ok (.aload_n 3, 1) := by decide +kernel
theorem dX6_member_100 : decode cX6_member 100 = .ok (.iload_n 2, 1) := by decide +kernel
theorem dX6_member_101 : decode cX6_member 101 = .ok (.invokevirtual 161, 3) := by decide +kernel
theorem dX6_member_104 : decode cX6_member 104 = .ok (.ireturn, 1) := by decide +kernel
theorem dX6_fault_0 : decode cX6_fault 0 = .ok (.aload_n 0, 1) := by decide +kernel
theorem dX6_fault_1 : decode cX6_fault 1 = .ok (.getfield 44, 3) := by decide +kernel
theorem dX6_fault_4 : decode cX6_fault 4 = .ok (.aload_n 0, 1) := by decide +kernel
theorem dX6_fault_5 : decode cX6_fault 5 = .ok (.getfield 22, 3) := by decide +kernel
theorem dX6_fault_8 : decode cX6_fault 8 = .ok (.aload_n 0, 1) := by decide +kernel
theorem dX6_fault_9 : decode cX6_fault 9 = .ok (.getfield 10, 3) := by decide +kernel
theorem dX6_fault_12 : decode cX6_fault 12 = .ok (.invokevirtual 164, 3) := by decide +kernel
theorem dX6_fault_15 : decode cX6_fault 15 = .ok (.aload_n 0, 1) := by decide +kernel
theorem dX6_fault_16 : decode cX6_fault 16 = .ok (.getfield 44, 3) := by decide +kernel
theorem dX6_fault_19 : decode cX6_fault 19 = .ok (.invokevirtual 168, 3) := by decide +kernel
theorem dX6_fault_22 : decode cX6_fault 22 = .ok (.ifCond .eq 8, 3) := by decide +kernel
theorem dX6_fault_25 : decode cX6_fault 25 = .ok (.bipush (-9), 2) := by decide +kernel
theorem dX6_fault_27 : decode cX6_fault 27 = .ok (.goto 18, 3) := by decide +kernel
theorem dX6_fault_30 : decode cX6_fault 30 = .ok (.aload_n 0, 1) := by decide +kernel
theorem dX6_fault_31 : decode cX6_fault 31 = .ok (.getfield 44, 3) := by decide +kernel
theorem dX6_fault_34 : decode cX6_fault 34 = .ok (.aload_n 0, 1) := by decide +kernel
theorem dX6_fault_35 : decode cX6_fault 35 = .ok (.getfield 22, 3) := by decide +kernel
theorem dX6_fault_38 : decode cX6_fault 38 = .ok (.aload_n 0, 1) := by decide +kernel
theorem dX6_fault_39 : decode cX6_fault 39 = .ok (.getfield 10, 3) := by decide +kernel
theorem dX6_fault_42 : decode cX6_fault 42 = .ok (.invokevirtual 172, 3) := by decide +kernel
theorem dX6_fault_45 : decode cX6_fault 45 = .ok (.ireturn, 1) := by decide +kernel
theorem dX6_readings_0 : decode cX6_readings 0 = .ok (.aload_n 0, 1) := by decide +kernel
theorem dX6_readings_1 : decode cX6_readings 1 = .ok (.getfield 44, 3) := by decide +kernel
theorem dX6_readings_4 : decode cX6_readings 4 = .ok (.aload_n 0, 1) := by decide +kernel
theorem dX6_readings_5 : decode cX6_readings 5 = .ok (.getfield 22, 3) := by decide +kernel
theorem dX6_readings_8 : decode cX6_readings 8 = .ok (.aload_n 0, 1) := by decide +kernel
theorem dX6_readings_9 : decode cX6_readings 9 = .ok (.getfield 10, 3) := by decide +kernel
theorem dX6_readings_12 : decode cX6_readings 12 = .ok (.invokevirtual 164, 3) := by decide +kernel
theorem dX6_readings_15 : decode cX6_readings 15 = .ok (.aload_n 0, 1) := by decide +kernel
theorem dX6_readings_16 : decode cX6_readings 16 = .ok (.getfield 44, 3) := by decide +kernel
theorem dX6_readings_19 : decode cX6_readings 19 = .ok (.iconst 0, 1) := by decide +kernel
theorem dX6_readings_20 : decode cX6_readings 20 = .ok (.invokevirtual 176, 3) := by decide +kernel
theorem dX6_readings_23 : decode cX6_readings 23 = .ok (.ldc2_w 180, 3) := by decide +kernel
theorem dX6_readings_26 : decode cX6_readings 26 = .ok (.invokestatic 182, 3) := by decide +kernel
theorem dX6_readings_29 : decode cX6_readings 29 = .ok (.l2i, 1) := by decide +kernel
theorem dX6_readings_30 : decode cX6_readings 30 = .ok (.ireturn, 1) := by decide +kernel
theorem dX6_occurrence_0 : decode cX6_occurrence 0 = .ok (.iload_n 1, 1) := by decide +kernel
theorem dX6_occurrence_1 : decode cX6_occurrence 1 = .ok (.ifCond .lt 12, 3) := by decide +kernel
theorem dX6_occurrence_4 : decode cX6_occurrence 4 = .ok (.iload_n 2, 1) := by decide +kernel
theorem dX6_occurrence_5 : decode cX6_occurrence 5 = .ok (.ifCond .lt 8, 3) := by decide +kernel
theorem dX6_occurrence_8 : decode cX6_occurrence 8 = .ok (.iload_n 2, 1) := by decide +kernel
theorem dX6_occurrence_9 : decode cX6_occurrence 9 = .ok (.iconst 2, 1) := by decide +kernel
theorem dX6_occurrence_10 : decode cX6_occurrence 10 = .ok (.if_icmp .le 5, 3) := by decide +kernel
theorem dX6_occurrence_13 : decode cX6_occurrence 13 = .ok (.iconst (-1), 1) := by decide +kernel
theorem dX6_occurrence_14 : decode cX6_occurrence 14 = .ok (.ireturn, 1) := by decide +kernel
theorem dX6_occurrence_15 : decode cX6_occurrence 15 = .ok (.aload_n 0, 1) := by decide +kernel
theorem dX6_occurrence_16 : decode cX6_occurrence 16 = .ok (.getfield 44, 3) := by decide +kernel
theorem dX6_occurrence_19 : decode cX6_occurrence 19 = .ok (.aload_n 0, 1) := by decide +kernel
theorem dX6_occurrence_20 : decode cX6_occurrence 20 = .ok (.getfield 22, 3) := by decide +kernel
theorem dX6_occurrence_23 : decode cX6_occurrence 23 = .ok (.aload_n 0, 1) := by decide +kernel
theorem dX6_occurrence_24 : decode cX6_occurrence 24 = .ok (.getfield 10, 3) := by decide +kernel
theorem dX6_occurrence_27 : decode cX6_occurrence 27 = .ok (.invokevirtual 164, 3) := by decide +kernel
theorem dX6_occurrence_30 : decode cX6_occurrence 30 = .ok (.aload_n 0, 1) := by decide +kernel
theorem dX6_occurrence_31 : decode cX6_occurrence 31 = .ok (.getfield 44, 3) := by decide +kernel
theorem dX6_occurrence_34 : decode cX6_occurrence 34 = .ok (.invokevirtual 168, 3) := by decide +kernel
theorem dX6_occurrence_37 : decode cX6_occurrence 37 = .ok (.ifCond .ne 6, 3) := by decide +kernel
theorem dX6_occurrence_40 : decode cX6_occurrence 40 = .ok (.bipush (-2), 2) := by decide +kernel
theorem dX6_occurrence_42 : decode cX6_occurrence 42 = .ok (.ireturn, 1) := by decide +kernel
theorem dX6_occurrence_43 : decode cX6_occurrence 43 = .ok (.iload_n 2, 1) := by decide +kernel
theorem dX6_occurrence_44 : decode cX6_occurrence 44 = .ok (.lookupswitch 46 #[(0, 28), (1, 37)], 28) := by decide +kernel
theorem dX6_occurrence_72 : decode cX6_occurrence 72 = .ok (.aload_n 0, 1) := by decide +kernel
theorem dX6_occurrence_73 : decode cX6_occurrence 73 = .ok (.getfield 44, 3) := by decide +kernel
theorem dX6_occurrence_76 : decode cX6_occurrence 76 = .ok (.iload_n 1, 1) := by decide +kernel
theorem dX6_occurrence_77 : decode cX6_occurrence 77 = .ok (.invokevirtual 188, 3) := by decide +kernel
theorem dX6_occurrence_80 : decode cX6_occurrence 80 = .ok (.ireturn, 1) := by decide +kernel
theorem dX6_occurrence_81 : decode cX6_occurrence 81 = .ok (.aload_n 0, 1) := by decide +kernel
theorem dX6_occurrence_82 : decode cX6_occurrence 82 = .ok (.getfield 44, 3) := by decide +kernel
theorem dX6_occurrence_85 : decode cX6_occurrence 85 = .ok (.iload_n 1, 1) := by decide +kernel
theorem dX6_occurrence_86 : decode cX6_occurrence 86 = .ok (.invokevirtual 191, 3) := by decide +kernel
theorem dX6_occurrence_89 : decode cX6_occurrence 89 = .ok (.ireturn, 1) := by decide +kernel
theorem dX6_occurrence_90 : decode cX6_occurrence 90 = .ok (.aload_n 0, 1) := by decide +kernel
theorem dX6_occurrence_91 : decode cX6_occurrence 91 = .ok (.getfield 44, 3) := by decide +kernel
theorem dX6_occurrence_94 : decode cX6_occurrence 94 = .ok (.iload_n 1, 1) := by decide +kernel
theorem dX6_occurrence_95 : decode cX6_occurrence 95 = .ok (.invokevirtual 194, 3) := by decide +kernel
theorem dX6_occurrence_98 : decode cX6_occurrence 98 = .ok (.ireturn, 1) := by decide +kernel
theorem dX6_value_0 : decode cX6_value 0 = .ok (.aload_n 0, 1) := by decide +kernel
theorem dX6_value_1 : decode cX6_value 1 = .ok (.getfield 22, 3) := by decide +kernel
theorem dX6_value_4 : decode cX6_value 4 = .ok (.iload_n 1, 1) := by decide +kernel
theorem dX6_value_5 : decode cX6_value 5 = .ok (.invokevirtual 89, 3) := by decide +kernel
theorem dX6_value_8 : decode cX6_value 8 = .ok (.ifCond .eq 7, 3) := by decide +kernel
theorem dX6_value_11 : decode cX6_value 11 = .ok (.iload_n 2, 1) := by decide +kernel
theorem dX6_value_12 : decode cX6_value 12 = .ok (.ifCond .ge 5, 3) := by decide +kernel
theorem dX6_value_15 : decode cX6_value 15 = .ok (.iconst (-1), 1) := by decide +kernel
theorem dX6_value_16 : decode cX6_value 16 = .ok (.ireturn, 1) := by decide +kernel
theorem dX6_value_17 : decode cX6_value 17 = .ok (.aload_n 0, 1) := by decide +kernel
theorem dX6_value_18 : decode cX6_value 18 = .ok (.getfield 44, 3) := by decide +kernel
theorem dX6_value_21 : decode cX6_value 21 = .ok (.aload_n 0, 1) := by decide +kernel
theorem dX6_value_22 : decode cX6_value 22 = .ok (.getfield 22, 3) := by decide +kernel
theorem dX6_value_25 : decode cX6_value 25 = .ok (.aload_n 0, 1) := by decide +kernel
theorem dX6_value_26 : decode cX6_value 26 = .ok (.getfield 10, 3) := by decide +kernel
theorem dX6_value_29 : decode cX6_value 29 = .ok (.invokevirtual 164, 3) := by decide +kernel
theorem dX6_value_32 : decode cX6_value 32 = .ok (.aload_n 0, 1) := by decide +kernel
theorem dX6_value_33 : decode cX6_value 33 = .ok (.getfield 44, 3) := by decide +kernel
theorem dX6_value_36 : decode cX6_value 36 = .ok (.invokevirtual 168, 3) := by decide +kernel
theorem dX6_value_39 : decode cX6_value 39 = .ok (.ifCond .ne 6, 3) := by decide +kernel
theorem dX6_value_42 : decode cX6_value 42 = .ok (.bipush (-2), 2) := by decide +kernel
theorem dX6_value_44 : decode cX6_value 44 = .ok (.ireturn, 1) := by decide +kernel
theorem dX6_value_45 : decode cX6_value 45 = .ok (.iconst 0, 1) := by decide +kernel
theorem dX6_value_46 : decode cX6_value 46 = .ok (.istore_n 3, 1) := by decide +kernel
theorem dX6_value_47 : decode cX6_value 47 = .ok (.iconst 0, 1) := by decide +kernel
theorem dX6_value_48 : decode cX6_value 48 = .ok (.istore 4, 2) := by decide +kernel
theorem dX6_value_50 : decode cX6_value 50 = .ok (.iload 4, 2) := by decide +kernel
theorem dX6_value_52 : decode cX6_value 52 = .ok (.aload_n 0, 1) := by decide +kernel
theorem dX6_value_53 : decode cX6_value 53 = .ok (.getfield 44, 3) := by decide +kernel
theorem dX6_value_56 : decode cX6_value 56 = .ok (.getfield 197, 3) := by decide +kernel
theorem dX6_value_59 : decode cX6_value 59 = .ok (.if_icmp .ge 40, 3) := by decide +kernel
theorem dX6_value_62 : decode cX6_value 62 = .ok (.aload_n 0, 1) := by decide +kernel
theorem dX6_value_63 : decode cX6_value 63 = .ok (.getfield 44, 3) := by decide +kernel
theorem dX6_value_66 : decode cX6_value 66 = .ok (.iload 4, 2) := by decide +kernel
theorem dX6_value_68 : decode cX6_value 68 = .ok (.invokevirtual 188, 3) := by decide +kernel
theorem dX6_value_71 : decode cX6_value 71 = .ok (.iload_n 1, 1) := by decide +kernel
theorem dX6_value_72 : decode cX6_value 72 = .ok (.if_icmp .ne 21, 3) := by decide +kernel
theorem dX6_value_75 : decode cX6_value 75 = .ok (.iload_n 3, 1) := by decide +kernel
theorem dX6_value_76 : decode cX6_value 76 = .ok (.iload_n 2, 1) := by decide +kernel
theorem dX6_value_77 : decode cX6_value 77 = .ok (.if_icmp .ne 13, 3) := by decide +kernel
theorem dX6_value_80 : decode cX6_value 80 = .ok (.aload_n 0, 1) := by decide +kernel
theorem dX6_value_81 : decode cX6_value 81 = .ok (.getfield 44, 3) := by decide +kernel
theorem dX6_value_84 : decode cX6_value 84 = .ok (.iload 4, 2) := by decide +kernel
theorem dX6_value_86 : decode cX6_value 86 = .ok (.invokevirtual 194, 3) := by decide +kernel
theorem dX6_value_89 : decode cX6_value 89 = .ok (.ireturn, 1) := by decide +kernel
theorem dX6_value_90 : decode cX6_value 90 = .ok (.iinc 3 1, 3) := by decide +kernel
theorem dX6_value_93 : decode cX6_value 93 = .ok (.iinc 4 1, 3) := by decide +kernel
theorem dX6_value_96 : decode cX6_value 96 = .ok (.goto (-46), 3) := by decide +kernel
theorem dX6_value_99 : decode cX6_value 99 = .ok (.iload_n 3, 1) := by decide +kernel
theorem dX6_value_100 : decode cX6_value 100 = .ok (.ifCond .ne 21, 3) := by decide +kernel
theorem dX6_value_103 : decode cX6_value 103 = .ok (.iload_n 2, 1) := by decide +kernel
theorem dX6_value_104 : decode cX6_value 104 = .ok (.ifCond .ne 17, 3) := by decide +kernel
theorem dX6_value_107 : decode cX6_value 107 = .ok (.aload_n 0, 1) := by decide +kernel
theorem dX6_value_108 : decode cX6_value 108 = .ok (.getfield 22, 3) := by decide +kernel
theorem dX6_value_111 : decode cX6_value 111 = .ok (.iload_n 1, 1) := by decide +kernel
theorem dX6_value_112 : decode cX6_value 112 = .ok (.invokevirtual 96, 3) := by decide +kernel
theorem dX6_value_115 : decode cX6_value 115 = .ok (.getfield 198, 3) := by decide +kernel
theorem dX6_value_118 : decode cX6_value 118 = .ok (.goto 5, 3) := by decide +kernel
theorem dX6_value_121 : decode cX6_value 121 = .ok (.bipush (-9), 2) := by decide +kernel
theorem dX6_value_123 : decode cX6_value 123 = .ok (.ireturn, 1) := by decide +kernel
theorem dX6_next_0 : decode cX6_next 0 = .ok (.aload_n 0, 1) := by decide +kernel
theorem dX6_next_1 : decode cX6_next 1 = .ok (.getfield 44, 3) := by decide +kernel
theorem dX6_next_4 : decode cX6_next 4 = .ok (.aload_n 0, 1) := by decide +kernel
theorem dX6_next_5 : decode cX6_next 5 = .ok (.getfield 22, 3) := by decide +kernel
theorem dX6_next_8 : decode cX6_next 8 = .ok (.aload_n 0, 1) := by decide +kernel
theorem dX6_next_9 : decode cX6_next 9 = .ok (.getfield 10, 3) := by decide +kernel
theorem dX6_next_12 : decode cX6_next 12 = .ok (.invokevirtual 164, 3) := by decide +kernel
theorem dX6_next_15 : decode cX6_next 15 = .ok (.aload_n 0, 1) := by decide +kernel
theorem dX6_next_16 : decode cX6_next 16 = .ok (.getfield 44, 3) := by decide +kernel
theorem dX6_next_19 : decode cX6_next 19 = .ok (.aload_n 0, 1) := by decide +kernel
theorem dX6_next_20 : decode cX6_next 20 = .ok (.getfield 22, 3) := by decide +kernel
theorem dX6_next_23 : decode cX6_next 23 = .ok (.aload_n 0, 1) := by decide +kernel
theorem dX6_next_24 : decode cX6_next 24 = .ok (.getfield 10, 3) := by decide +kernel
theorem dX6_next_27 : decode cX6_next 27 = .ok (.invokevirtual 201, 3) := by decide +kernel
theorem dX6_next_30 : decode cX6_next 30 = .ok (.ireturn, 1) := by decide +kernel
theorem dX6_normal_0 : decode cX6_normal 0 = .ok (.iload_n 1, 1) := by decide +kernel
theorem dX6_normal_1 : decode cX6_normal 1 = .ok (.ifCond .ge 5, 3) := by decide +kernel
theorem dX6_normal_4 : decode cX6_normal 4 = .ok (.iconst (-1), 1) := by decide +kernel
theorem dX6_normal_5 : decode cX6_normal 5 = .ok (.ireturn, 1) := by decide +kernel
theorem dX6_normal_6 : decode cX6_normal 6 = .ok (.aload_n 0, 1) := by decide +kernel
theorem dX6_normal_7 : decode cX6_normal 7 = .ok (.getfield 44, 3) := by decide +kernel
theorem dX6_normal_10 : decode cX6_normal 10 = .ok (.aload_n 0, 1) := by decide +kernel
theorem dX6_normal_11 : decode cX6_normal 11 = .ok (.getfield 22, 3) := by decide +kernel
theorem dX6_normal_14 : decode cX6_normal 14 = .ok (.aload_n 0, 1) := by decide +kernel
theorem dX6_normal_15 : decode cX6_normal 15 = .ok (.getfield 10, 3) := by decide +kernel
theorem dX6_normal_18 : decode cX6_normal 18 = .ok (.invokevirtual 164, 3) := by decide +kernel
theorem dX6_normal_21 : decode cX6_normal 21 = .ok (.aload_n 0, 1) := by decide +kernel
theorem dX6_normal_22 : decode cX6_normal 22 = .ok (.getfield 44, 3) := by decide +kernel
theorem dX6_normal_25 : decode cX6_normal 25 = .ok (.invokevirtual 168, 3) := by decide +kernel
theorem dX6_normal_28 : decode cX6_normal 28 = .ok (.ifCond .ne 6, 3) := by decide +kernel
theorem dX6_normal_31 : decode cX6_normal 31 = .ok (.bipush (-2), 2) := by decide +kernel
theorem dX6_normal_33 : decode cX6_normal 33 = .ok (.ireturn, 1) := by decide +kernel
theorem dX6_normal_34 : decode cX6_normal 34 = .ok (.aload_n 0, 1) := by decide +kernel
theorem dX6_normal_35 : decode cX6_normal 35 = .ok (.invokevirtual 204, 3) := by decide +kernel
theorem dX6_normal_38 : decode cX6_normal 38 = .ok (.aload_n 0, 1) := by decide +kernel
theorem dX6_normal_39 : decode cX6_normal 39 = .ok (.getfield 16, 3) := by decide +kernel
theorem dX6_normal_42 : decode cX6_normal 42 = .ok (.iload_n 1, 1) := by decide +kernel
theorem dX6_normal_43 : decode cX6_normal 43 = .ok (.invokevirtual 207, 3) := by decide +kernel
theorem dX6_normal_46 : decode cX6_normal 46 = .ok (.ireturn, 1) := by decide +kernel
theorem dX6_formNormal_0 : decode cX6_formNormal 0 = .ok (.aload_n 0, 1) := by decide +kernel
theorem dX6_formNormal_1 : decode cX6_formNormal 1 = .ok (.getfield 16, 3) := by decide +kernel
theorem dX6_formNormal_4 : decode cX6_formNormal 4 = .ok (.invokevirtual 66, 3) := by decide +kernel
theorem dX6_formNormal_7 : decode cX6_formNormal 7 = .ok (.iconst 0, 1) := by decide +kernel
theorem dX6_formNormal_8 : decode cX6_formNormal 8 = .ok (.istore_n 1, 1) := by decide +kernel
theorem dX6_formNormal_9 : decode cX6_formNormal 9 = .ok (.iload_n 1, 1) := by decide +kernel
theorem dX6_formNormal_10 : decode cX6_formNormal 10 = .ok (.aload_n 0, 1) := by decide +kernel
theorem dX6_formNormal_11 : decode cX6_formNormal 11 = .ok (.getfield 22, 3) := by decide +kernel
theorem dX6_formNormal_14 : decode cX6_formNormal 14 = .ok (.getfield 79, 3) := by decide +kernel
theorem dX6_formNormal_17 : decode cX6_formNormal 17 = .ok (.if_icmp .ge 98, 3) := by decide +kernel
theorem dX6_formNormal_20 : decode cX6_formNormal 20 = .ok (.iconst 0, 1) := by decide +kernel
theorem dX6_formNormal_21 : decode cX6_formNormal 21 = .ok (.istore_n 2, 1) := by decide +kernel
theorem dX6_formNormal_22 : decode cX6_formNormal 22 = .ok (.iload_n 2, 1) := by decide +kernel
theorem dX6_formNormal_23 : decode cX6_formNormal 23 = .ok (.aload_n 0, 1) := by decide +kernel
theorem dX6_formNormal_24 : decode cX6_formNormal 24 = .ok (.getfield 44, 3) := by decide +kernel
theorem dX6_formNormal_27 : decode cX6_formNormal 27 = .ok (.getfield 197, 3) := by decide +kernel
theorem dX6_formNormal_30 : decode cX6_formNormal 30 = .ok (.if_icmp .ge 79, 3) := by decide +kernel
theorem dX6_formNormal_33 : decode cX6_formNormal 33 = .ok (.aload_n 0, 1) := by decide +kernel
theorem dX6_formNormal_34 : decode cX6_formNormal 34 = .ok (.getfield 44, 3) := by decide +kernel
theorem dX6_formNormal_37 : decode cX6_formNormal 37 = .ok (.iload_n 2, 1) := by decide +kernel
theorem dX6_formNormal_38 : decode cX6_formNormal 38 = .ok (.invokevirtual 188, 3) := by decide +kernel
theorem dX6_formNormal_41 : decode cX6_formNormal 41 = .ok (.iload_n 1, 1) := by decide +kernel
theorem dX6_formNormal_42 : decode cX6_formNormal 42 = .ok (.if_icmp .ne 61, 3) := by decide +kernel
theorem dX6_formNormal_45 : decode cX6_formNormal 45 = .ok (.aload_n 0, 1) := by decide +kernel
theorem dX6_formNormal_46 : decode cX6_formNormal 46 = .ok (.getfield 16, 3) := by decide +kernel
theorem dX6_formNormal_49 : decode cX6_formNormal 49 = .ok (.getfield 62, 3) := by decide +kernel
theorem dX6_formNormal_52 : decode cX6_formNormal 52 = .ok (.ifCond .le 28, 3) := by decide +kernel
theorem dX6_formNormal_55 : decode cX6_formNormal 55 = .ok (.aload_n 0, 1) := by decide +kernel
theorem dX6_formNormal_56 : decode cX6_formNormal 56 = .ok (.getfield 22, 3) := by decide +kernel
theorem dX6_formNormal_59 : decode cX6_formNormal 59 = .ok (.getfield 114, 3) := by decide +kernel
theorem dX6_formNormal_62 : decode cX6_formNormal 62 = .ok (.ifCond .eq 18, 3) := by decide +kernel
theorem dX6_formNormal_65 : decode cX6_formNormal 65 = .ok (.aload_n 0, 1) := by decide +kernel
theorem dX6_formNormal_66 : decode cX6_formNormal 66 = .ok (.getfield 16, 3) := by decide +kernel
theorem dX6_formNormal_69 : decode cX6_formNormal 69 = .ok (.aload_n 0, 1) := by decide +kernel
theorem dX6_formNormal_70 : decode cX6_formNormal 70 = .ok (.getfield 22, 3) := by decide +kernel
theorem dX6_formNormal_73 : decode cX6_formNormal 73 = .ok (.getfield 114, 3) := by decide +kernel
theorem dX6_formNormal_76 : decode cX6_formNormal 76 = .ok (.invokevirtual 55, 3) := by decide +kernel
theorem dX6_formNormal_79 : decode cX6_formNormal 79 = .ok (.pop, 1) := by decide +kernel
theorem dX6_formNormal_80 : decode cX6_formNormal 80 = .ok (.aload_n 0, 1) := by decide +kernel
theorem dX6_formNormal_81 : decode cX6_formNormal 81 = .ok (.getfield 16, 3) := by decide +kernel
theorem dX6_formNormal_84 : decode cX6_formNormal 84 = .ok (.aload_n 0, 1) := by decide +kernel
theorem dX6_formNormal_85 : decode cX6_formNormal 85 = .ok (.getfield 22, 3) := by decide +kernel
theorem dX6_formNormal_88 : decode cX6_formNormal 88 = .ok (.iload_n 1, 1) := by decide +kernel
theorem dX6_formNormal_89 : decode cX6_formNormal 89 = .ok (.invokevirtual 96, 3) := by decide +kernel
theorem dX6_formNormal_92 : decode cX6_formNormal 92 = .ok (.aload_n 0, 1) := by decide +kernel
theorem dX6_formNormal_93 : decode cX6_formNormal 93 = .ok (.getfield 44, 3) := by decide +kernel
theorem dX6_formNormal_96 : decode cX6_formNormal 96 = .ok (.iload_n 2, 1) := by decide +kernel
theorem dX6_formNormal_97 : decode cX6_formNormal 97 = .ok (.invokevirtual 194, 3) := by decide +kernel
theorem dX6_formNormal_100 : decode cX6_formNormal 100 = .ok (.invokevirtual 209, 3) := by decide +kernel
theorem dX6_formNormal_103 : decode cX6_formNormal 103 = .ok (.iinc 2 1, 3) := by decide +kernel
theorem dX6_formNormal_106 : decode cX6_formNormal 106 = .ok (.goto (-84), 3) := by decide +kernel
theorem dX6_formNormal_109 : decode cX6_formNormal 109 = .ok (.iinc 1 1, 3) := by decide +kernel
theorem dX6_formNormal_112 : decode cX6_formNormal 112 = .ok (.goto (-103), 3) := by decide +kernel
theorem dX6_formNormal_115 : decode cX6_formNormal 115 = .ok (.return_, 1) := by decide +kernel
theorem dX6_orders_0 : decode cX6_orders 0 = .ok (.iload_n 1, 1) := by decide +kernel
theorem dX6_orders_1 : decode cX6_orders 1 = .ok (.iconst (-1), 1) := by decide +kernel
theorem dX6_orders_2 : decode cX6_orders 2 = .ok (.if_icmp .lt 9, 3) := by decide +kernel
theorem dX6_orders_5 : decode cX6_orders 5 = .ok (.iload_n 1, 1) := by decide +kernel
theorem dX6_orders_6 : decode cX6_orders 6 = .ok (.bipush 18, 2) := by decide +kernel
theorem dX6_orders_8 : decode cX6_orders 8 = .ok (.if_icmp .le 7, 3) := by decide +kernel
theorem dX6_orders_11 : decode cX6_orders 11 = .ok (.ldc2_w 213, 3) := by decide +kernel
theorem dX6_orders_14 : decode cX6_orders 14 = .ok (.lreturn, 1) := by decide +kernel
theorem dX6_orders_15 : decode cX6_orders 15 = .ok (.aload_n 0, 1) := by decide +kernel
theorem dX6_orders_16 : decode cX6_orders 16 = .ok (.getfield 51, 3) := by decide +kernel
theorem dX6_orders_19 : decode cX6_orders 19 = .ok (.aload_n 0, 1) := by decide +kernel
theorem dX6_orders_20 : decode cX6_orders 20 = .ok (.getfield 22, 3) := by decide +kernel
theorem dX6_orders_23 : decode cX6_orders 23 = .ok (.iload_n 1, 1) := by decide +kernel
theorem dX6_orders_24 : decode cX6_orders 24 = .ok (.invokevirtual 215, 3) := by decide +kernel
theorem dX6_orders_27 : decode cX6_orders 27 = .ok (.aload_n 0, 1) := by decide +kernel
theorem dX6_orders_28 : decode cX6_orders 28 = .ok (.getfield 51, 3) := by decide +kernel
theorem dX6_orders_31 : decode cX6_orders 31 = .ok (.iconst 0, 1) := by decide +kernel
theorem dX6_orders_32 : decode cX6_orders 32 = .ok (.invokevirtual 218, 3) := by decide +kernel
theorem dX6_orders_35 : decode cX6_orders 35 = .ok (.lreturn, 1) := by decide +kernel
theorem dX6_order_0 : decode cX6_order 0 = .ok (.lload_n 1, 1) := by decide +kernel
theorem dX6_order_1 : decode cX6_order 1 = .ok (.lconst 0, 1) := by decide +kernel
theorem dX6_order_2 : decode cX6_order 2 = .ok (.lcmp, 1) := by decide +kernel
theorem dX6_order_3 : decode cX6_order 3 = .ok (.ifCond .lt 7, 3) := by decide +kernel
theorem dX6_order_6 : decode cX6_order 6 = .ok (.iload_n 3, 1) := by decide +kernel
theorem dX6_order_7 : decode cX6_order 7 = .ok (.ifCond .ge 5, 3) := by decide +kernel
theorem dX6_order_10 : decode cX6_order 10 = .ok (.iconst (-1), 1) := by decide +kernel
theorem dX6_order_11 : decode cX6_order 11 = .ok (.ireturn, 1) := by decide +kernel
theorem dX6_order_12 : decode cX6_order 12 = .ok (.aload_n 0, 1) := by decide +kernel
theorem dX6_order_13 : decode cX6_order 13 = .ok (.getfield 51, 3) := by decide +kernel
theorem dX6_order_16 : decode cX6_order 16 = .ok (.aload_n 0, 1) := by decide +kernel
theorem dX6_order_17 : decode cX6_order 17 = .ok (.getfield 22, 3) := by decide +kernel
theorem dX6_order_20 : decode cX6_order 20 = .ok (.iconst (-1), 1) := by decide +kernel
theorem dX6_order_21 : decode cX6_order 21 = .ok (.invokevirtual 215, 3) := by decide +kernel
theorem dX6_order_24 : decode cX6_order 24 = .ok (.aload_n 0, 1) := by decide +kernel
theorem dX6_order_25 : decode cX6_order 25 = .ok (.getfield 51, 3) := by decide +kernel
theorem dX6_order_28 : decode cX6_order 28 = .ok (.aload_n 0, 1) := by decide +kernel
theorem dX6_order_29 : decode cX6_order 29 = .ok (.getfield 22, 3) := by decide +kernel
theorem dX6_order_32 : decode cX6_order 32 = .ok (.lload_n 1, 1) := by decide +kernel
theorem dX6_order_33 : decode cX6_order 33 = .ok (.iload_n 3, 1) := by decide +kernel
theorem dX6_order_34 : decode cX6_order 34 = .ok (.invokevirtual 221, 3) := by decide +kernel
theorem dX6_order_37 : decode cX6_order 37 = .ok (.ireturn, 1) := by decide +kernel
theorem dX6_rank_0 : decode cX6_rank 0 = .ok (.aload_n 0, 1) := by decide +kernel
theorem dX6_rank_1 : decode cX6_rank 1 = .ok (.getfield 44, 3) := by decide +kernel
theorem dX6_rank_4 : decode cX6_rank 4 = .ok (.aload_n 0, 1) := by decide +kernel
theorem dX6_rank_5 : decode cX6_rank 5 = .ok (.getfield 22, 3) := by decide +kernel
theorem dX6_rank_8 : decode cX6_rank 8 = .ok (.aload_n 0, 1) := by decide +kernel
theorem dX6_rank_9 : decode cX6_rank 9 = .ok (.getfield 10, 3) := by decide +kernel
theorem dX6_rank_12 : decode cX6_rank 12 = .ok (.invokevirtual 164, 3) := by decide +kernel
theorem dX6_rank_15 : decode cX6_rank 15 = .ok (.aload_n 0, 1) := by decide +kernel
theorem dX6_rank_16 : decode cX6_rank 16 = .ok (.getfield 44, 3) := by decide +kernel
theorem dX6_rank_19 : decode cX6_rank 19 = .ok (.invokevirtual 168, 3) := by decide +kernel
theorem dX6_rank_22 : decode cX6_rank 22 = .ok (.ifCond .ne 7, 3) := by decide +kernel
theorem dX6_rank_25 : decode cX6_rank 25 = .ok (.ldc2_w 225, 3) := by decide +kernel
theorem dX6_rank_28 : decode cX6_rank 28 = .ok (.lreturn, 1) := by decide +kernel
theorem dX6_rank_29 : decode cX6_rank 29 = .ok (.aload_n 0, 1) := by decide +kernel
theorem dX6_rank_30 : decode cX6_rank 30 = .ok (.getfield 51, 3) := by decide +kernel
theorem dX6_rank_33 : decode cX6_rank 33 = .ok (.aload_n 0, 1) := by decide +kernel
theorem dX6_rank_34 : decode cX6_rank 34 = .ok (.getfield 22, 3) := by decide +kernel
theorem dX6_rank_37 : decode cX6_rank 37 = .ok (.iconst (-1), 1) := by decide +kernel
theorem dX6_rank_38 : decode cX6_rank 38 = .ok (.invokevirtual 215, 3) := by decide +kernel
theorem dX6_rank_41 : decode cX6_rank 41 = .ok (.aload_n 0, 1) := by decide +kernel
theorem dX6_rank_42 : decode cX6_rank 42 = .ok (.getfield 51, 3) := by decide +kernel
theorem dX6_rank_45 : decode cX6_rank 45 = .ok (.aload_n 0, 1) := by decide +kernel
theorem dX6_rank_46 : decode cX6_rank 46 = .ok (.getfield 22, 3) := by decide +kernel
theorem dX6_rank_49 : decode cX6_rank 49 = .ok (.aload_n 0, 1) := by decide +kernel
theorem dX6_rank_50 : decode cX6_rank 50 = .ok (.getfield 44, 3) := by decide +kernel
theorem dX6_rank_53 : decode cX6_rank 53 = .ok (.invokevirtual 227, 3) := by decide +kernel
theorem dX6_rank_56 : decode cX6_rank 56 = .ok (.lreturn, 1) := by decide +kernel
theorem dX6_keep_0 : decode cX6_keep 0 = .ok (.aload_n 0, 1) := by decide +kernel
theorem dX6_keep_1 : decode cX6_keep 1 = .ok (.iload_n 1, 1) := by decide +kernel
theorem dX6_keep_2 : decode cX6_keep 2 = .ok (.invokevirtual 231, 3) := by decide +kernel
theorem dX6_keep_5 : decode cX6_keep 5 = .ok (.ifCond .ne 5, 3) := by decide +kernel
theorem dX6_keep_8 : decode cX6_keep 8 = .ok (.iconst (-1), 1) := by decide +kernel
theorem dX6_keep_9 : decode cX6_keep 9 = .ok (.ireturn, 1) := by decide +kernel
theorem dX6_keep_10 : decode cX6_keep 10 = .ok (.aload_n 0, 1) := by decide +kernel
theorem dX6_keep_11 : decode cX6_keep 11 = .ok (.getfield 33, 3) := by decide +kernel
theorem dX6_keep_14 : decode cX6_keep 14 = .ok (.iload_n 1, 1) := by decide +kernel
theorem dX6_keep_15 : decode cX6_keep 15 = .ok (.aaload, 1) := by decide +kernel
theorem dX6_keep_16 : decode cX6_keep 16 = .ok (.aload_n 0, 1) := by decide +kernel
theorem dX6_keep_17 : decode cX6_keep 17 = .ok (.getfield 22, 3) := by decide +kernel
theorem dX6_keep_20 : decode cX6_keep 20 = .ok (.invokevirtual 234, 3) := by decide +kernel
theorem dX6_keep_23 : decode cX6_keep 23 = .ok (.aload_n 0, 1) := by decide +kernel
theorem dX6_keep_24 : decode cX6_keep 24 = .ok (.getfield 37, 3) := by decide +kernel
theorem dX6_keep_27 : decode cX6_keep 27 = .ok (.iload_n 1, 1) := by decide +kernel
theorem dX6_keep_28 : decode cX6_keep 28 = .ok (.iconst 1, 1) := by decide +kernel
theorem dX6_keep_29 : decode cX6_keep 29 = .ok (.bastore, 1) := by decide +kernel
theorem dX6_keep_30 : decode cX6_keep 30 = .ok (.aload_n 0, 1) := by decide +kernel
theorem dX6_keep_31 : decode cX6_keep 31 = .ok (.getfield 22, 3) := by decide +kernel
theorem dX6_keep_34 : decode cX6_keep 34 = .ok (.getfield 79, 3) := by decide +kernel
theorem dX6_keep_37 : decode cX6_keep 37 = .ok (.ireturn, 1) := by decide +kernel
theorem dX6_back_0 : decode cX6_back 0 = .ok (.aload_n 0, 1) := by decide +kernel
theorem dX6_back_1 : decode cX6_back 1 = .ok (.iload_n 1, 1) := by decide +kernel
theorem dX6_back_2 : decode cX6_back 2 = .ok (.invokevirtual 231, 3) := by decide +kernel
theorem dX6_back_5 : decode cX6_back 5 = .ok (.ifCond .ne 5, 3) := by decide +kernel
theorem dX6_back_8 : decode cX6_back 8 = .ok (.iconst (-1), 1) := by decide +kernel
theorem dX6_back_9 : decode cX6_back 9 = .ok (.ireturn, 1) := by decide +kernel
theorem dX6_back_10 : decode cX6_back 10 = .ok (.aload_n 0, 1) := by decide +kernel
theorem dX6_back_11 : decode cX6_back 11 = .ok (.getfield 37, 3) := by decide +kernel
theorem dX6_back_14 : decode cX6_back 14 = .ok (.iload_n 1, 1) := by decide +kernel
theorem dX6_back_15 : decode cX6_back 15 = .ok (.baload, 1) := by decide +kernel
theorem dX6_back_16 : decode cX6_back 16 = .ok (.ifCond .ne 6, 3) := by decide +kernel
theorem dX6_back_19 : decode cX6_back 19 = .ok (.bipush (-2), 2) := by decide +kernel
theorem dX6_back_21 : decode cX6_back 21 = .ok (.ireturn, 1) := by decide +kernel
theorem dX6_back_22 : decode cX6_back 22 = .ok (.aload_n 0, 1) := by decide +kernel
theorem dX6_back_23 : decode cX6_back 23 = .ok (.invokevirtual 82, 3) := by decide +kernel
theorem dX6_back_26 : decode cX6_back 26 = .ok (.aload_n 0, 1) := by decide +kernel
theorem dX6_back_27 : decode cX6_back 27 = .ok (.getfield 22, 3) := by decide +kernel
theorem dX6_back_30 : decode cX6_back 30 = .ok (.aload_n 0, 1) := by decide +kernel
theorem dX6_back_31 : decode cX6_back 31 = .ok (.getfield 33, 3) := by decide +kernel
theorem dX6_back_34 : decode cX6_back 34 = .ok (.iload_n 1, 1) := by decide +kernel
theorem dX6_back_35 : decode cX6_back 35 = .ok (.aaload, 1) := by decide +kernel
theorem dX6_back_36 : decode cX6_back 36 = .ok (.invokevirtual 234, 3) := by decide +kernel
theorem dX6_back_39 : decode cX6_back 39 = .ok (.aload_n 0, 1) := by decide +kernel
theorem dX6_back_40 : decode cX6_back 40 = .ok (.getfield 22, 3) := by decide +kernel
theorem dX6_back_43 : decode cX6_back 43 = .ok (.getfield 79, 3) := by decide +kernel
theorem dX6_back_46 : decode cX6_back 46 = .ok (.ireturn, 1) := by decide +kernel
theorem dX6_isImage_0 : decode cX6_isImage 0 = .ok (.iload_n 1, 1) := by decide +kernel
theorem dX6_isImage_1 : decode cX6_isImage 1 = .ok (.ifCond .lt 25, 3) := by decide +kernel
theorem dX6_isImage_4 : decode cX6_isImage 4 = .ok (.iload_n 1, 1) := by decide +kernel
theorem dX6_isImage_5 : decode cX6_isImage 5 = .ok (.aload_n 0, 1) := by decide +kernel
theorem dX6_isImage_6 : decode cX6_isImage 6 = .ok (.getfield 33, 3) := by decide +kernel
theorem dX6_isImage_9 : decode cX6_isImage 9 = .ok (.arraylength, 1) := by decide +kernel
theorem dX6_isImage_10 : decode cX6_isImage 10 = .ok (.if_icmp .ge 16, 3) := by decide +kernel
theorem dX6_isImage_13 : decode cX6_isImage 13 = .ok (.iload_n 1, 1) := by decide +kernel
theorem dX6_isImage_14 : decode cX6_isImage 14 = .ok (.aload_n 0, 1) := by decide +kernel
theorem dX6_isImage_15 : decode cX6_isImage 15 = .ok (.getfield 37, 3) := by decide +kernel
theorem dX6_isImage_18 : decode cX6_isImage 18 = .ok (.arraylength, 1) := by decide +kernel
theorem dX6_isImage_19 : decode cX6_isImage 19 = .ok (.if_icmp .ge 7, 3) := by decide +kernel
theorem dX6_isImage_22 : decode cX6_isImage 22 = .ok (.iconst 1, 1) := by decide +kernel
theorem dX6_isImage_23 : decode cX6_isImage 23 = .ok (.goto 4, 3) := by decide +kernel
theorem dX6_isImage_26 : decode cX6_isImage 26 = .ok (.iconst 0, 1) := by decide +kernel
theorem dX6_isImage_27 : decode cX6_isImage 27 = .ok (.ireturn, 1) := by decide +kernel
theorem dX6_isKind_0 : decode cX6_isKind 0 = .ok (.iload_n 0, 1) := by decide +kernel
theorem dX6_isKind_1 : decode cX6_isKind 1 = .ok (.ifCond .eq 13, 3) := by decide +kernel
theorem dX6_isKind_4 : decode cX6_isKind 4 = .ok (.iload_n 0, 1) := by decide +kernel
theorem dX6_isKind_5 : decode cX6_isKind 5 = .ok (.iconst 1, 1) := by decide +kernel
theorem dX6_isKind_6 : decode cX6_isKind 6 = .ok (.if_icmp .eq 8, 3) := by decide +kernel
theorem dX6_isKind_9 : decode cX6_isKind 9 = .ok (.iload_n 0, 1) := by decide +kernel
theorem dX6_isKind_10 : decode cX6_isKind 10 = .ok (.iconst 2, 1) := by decide +kernel
theorem dX6_isKind_11 : decode cX6_isKind 11 = .ok (.if_icmp .ne 7, 3) := by decide +kernel
theorem dX6_isKind_14 : decode cX6_isKind 14 = .ok (.iconst 1, 1) := by decide +kernel
theorem dX6_isKind_15 : decode cX6_isKind 15 = .ok (.goto 4, 3) := by decide +kernel
theorem dX6_isKind_18 : decode cX6_isKind 18 = .ok (.iconst 0, 1) := by decide +kernel
theorem dX6_isKind_19 : decode cX6_isKind 19 = .ok (.ireturn, 1) := by decide +kernel
theorem dX6_isDigit_0 : decode cX6_isDigit 0 = .ok (.iload_n 0, 1) := by decide +kernel
theorem dX6_isDigit_1 : decode cX6_isDigit 1 = .ok (.bipush 48, 2) := by decide +kernel
theorem dX6_isDigit_3 : decode cX6_isDigit 3 = .ok (.if_icmp .lt 13, 3) := by decide +kernel
theorem dX6_isDigit_6 : decode cX6_isDigit 6 = .ok (.iload_n 0, 1) := by decide +kernel
theorem dX6_isDigit_7 : decode cX6_isDigit 7 = .ok (.bipush 57, 2) := by decide +kernel
theorem dX6_isDigit_9 : decode cX6_isDigit 9 = .ok (.if_icmp .gt 7, 3) := by decide +kernel
theorem dX6_isDigit_12 : decode cX6_isDigit 12 = .ok (.iconst 1, 1) := by decide +kernel
theorem dX6_isDigit_13 : decode cX6_isDigit 13 = .ok (.goto 4, 3) := by decide +kernel
theorem dX6_isDigit_16 : decode cX6_isDigit 16 = .ok (.iconst 0, 1) := by decide +kernel
theorem dX6_isDigit_17 : decode cX6_isDigit 17 = .ok (.ireturn, 1) := by decide +kernel
theorem dX6_isSmallLetter_0 : decode cX6_isSmallLetter 0 = .ok (.iload_n 0, 1) := by decide +kernel
theorem dX6_isSmallLetter_1 : decode cX6_isSmallLetter 1 = .ok (.bipush 97, 2) := by decide +kernel
theorem dX6_isSmallLetter_3 : decode cX6_isSmallLetter 3 = .ok (.if_icmp .lt 13, 3) := by decide +kernel
theorem dX6_isSmallLetter_6 : decode cX6_isSmallLetter 6 = .ok (.iload_n 0, 1) := by decide +kernel
theorem dX6_isSmallLetter_7 : decode cX6_isSmallLetter 7 = .ok (.bipush 122, 2) := by decide +kernel
theorem dX6_isSmallLetter_9 : decode cX6_isSmallLetter 9 = .ok (.if_icmp .gt 7, 3) := by decide +kernel
theorem dX6_isSmallLetter_12 : decode cX6_isSmallLetter 12 = .ok (.iconst 1, 1) := by decide +kernel
theorem dX6_isSmallLetter_13 : decode cX6_isSmallLetter 13 = .ok (.goto 4, 3) := by decide +kernel
theorem dX6_isSmallLetter_16 : decode cX6_isSmallLetter 16 = .ok (.iconst 0, 1) := by decide +kernel
theorem dX6_isSmallLetter_17 : decode cX6_isSmallLetter 17 = .ok (.ireturn, 1) := by decide +kernel
theorem dX6_isCapital_0 : decode cX6_isCapital 0 = .ok (.iload_n 0, 1) := by decide +kernel
theorem dX6_isCapital_1 : decode cX6_isCapital 1 = .ok (.bipush 65, 2) := by decide +kernel
theorem dX6_isCapital_3 : decode cX6_isCapital 3 = .ok (.if_icmp .lt 13, 3) := by decide +kernel
theorem dX6_isCapital_6 : decode cX6_isCapital 6 = .ok (.iload_n 0, 1) := by decide +kernel
theorem dX6_isCapital_7 : decode cX6_isCapital 7 = .ok (.bipush 90, 2) := by decide +kernel
theorem dX6_isCapital_9 : decode cX6_isCapital 9 = .ok (.if_icmp .gt 7, 3) := by decide +kernel
theorem dX6_isCapital_12 : decode cX6_isCapital 12 = .ok (.iconst 1, 1) := by decide +kernel
theorem dX6_isCapital_13 : decode cX6_isCapital 13 = .ok (.goto 4, 3) := by decide +kernel
theorem dX6_isCapital_16 : decode cX6_isCapital 16 = .ok (.iconst 0, 1) := by decide +kernel
theorem dX6_isCapital_17 : decode cX6_isCapital 17 = .ok (.ireturn, 1) := by decide +kernel
theorem dX6_bitOf_0 : decode cX6_bitOf 0 = .ok (.iload_n 0, 1) := by decide +kernel
theorem dX6_bitOf_1 : decode cX6_bitOf 1 = .ok (.iload_n 1, 1) := by decide +kernel
theorem dX6_bitOf_2 : decode cX6_bitOf 2 = .ok (.ishr, 1) := by decide +kernel
theorem dX6_bitOf_3 : decode cX6_bitOf 3 = .ok (.iconst 1, 1) := by decide +kernel
theorem dX6_bitOf_4 : decode cX6_bitOf 4 = .ok (.iand, 1) := by decide +kernel
theorem dX6_bitOf_5 : decode cX6_bitOf 5 = .ok (.ireturn, 1) := by decide +kernel
theorem dX6_withBit_0 : decode cX6_withBit 0 = .ok (.iload_n 0, 1) := by decide +kernel
theorem dX6_withBit_1 : decode cX6_withBit 1 = .ok (.iconst 1, 1) := by decide +kernel
theorem dX6_withBit_2 : decode cX6_withBit 2 = .ok (.iload_n 1, 1) := by decide +kernel
theorem dX6_withBit_3 : decode cX6_withBit 3 = .ok (.ishl, 1) := by decide +kernel
theorem dX6_withBit_4 : decode cX6_withBit 4 = .ok (.iconst (-1), 1) := by decide +kernel
theorem dX6_withBit_5 : decode cX6_withBit 5 = .ok (.ixor, 1) := by decide +kernel
theorem dX6_withBit_6 : decode cX6_withBit 6 = .ok (.iand, 1) := by decide +kernel
theorem dX6_withBit_7 : decode cX6_withBit 7 = .ok (.iload_n 2, 1) := by decide +kernel
theorem dX6_withBit_8 : decode cX6_withBit 8 = .ok (.iload_n 1, 1) := by decide +kernel
theorem dX6_withBit_9 : decode cX6_withBit 9 = .ok (.ishl, 1) := by decide +kernel
theorem dX6_withBit_10 : decode cX6_withBit 10 = .ok (.ior, 1) := by decide +kernel
theorem dX6_withBit_11 : decode cX6_withBit 11 = .ok (.ireturn, 1) := by decide +kernel
theorem dX6_bitsBelow_0 : decode cX6_bitsBelow 0 = .ok (.iload_n 0, 1) := by decide +kernel
theorem dX6_bitsBelow_1 : decode cX6_bitsBelow 1 = .ok (.iconst 1, 1) := by decide +kernel
theorem dX6_bitsBelow_2 : decode cX6_bitsBelow 2 = .ok (.iload_n 1, 1) := by decide +kernel
theorem dX6_bitsBelow_3 : decode cX6_bitsBelow 3 = .ok (.ishl, 1) := by decide +kernel
theorem dX6_bitsBelow_4 : decode cX6_bitsBelow 4 = .ok (.iconst 1, 1) := by decide +kernel
theorem dX6_bitsBelow_5 : decode cX6_bitsBelow 5 = .ok (.isub, 1) := by decide +kernel
theorem dX6_bitsBelow_6 : decode cX6_bitsBelow 6 = .ok (.iand, 1) := by decide +kernel
theorem dX6_bitsBelow_7 : decode cX6_bitsBelow 7 = .ok (.ireturn, 1) := by decide +kernel
theorem dX6_withBitMoved_0 : decode cX6_withBitMoved 0 = .ok (.iload_n 0, 1) := by decide +kernel
theorem dX6_withBitMoved_1 : decode cX6_withBitMoved 1 = .ok (.iload_n 1, 1) := by decide +kernel
theorem dX6_withBitMoved_2 : decode cX6_withBitMoved 2 = .ok (.invokestatic 237, 3) := by decide +kernel
theorem dX6_withBitMoved_5 : decode cX6_withBitMoved 5 = .ok (.iload_n 0, 1) := by decide +kernel
theorem dX6_withBitMoved_6 : decode cX6_withBitMoved 6 = .ok (.iload_n 1, 1) := by decide +kernel
theorem dX6_withBitMoved_7 : decode cX6_withBitMoved 7 = .ok (.iconst 1, 1) := by decide +kernel
theorem dX6_withBitMoved_8 : decode cX6_withBitMoved 8 = .ok (.iadd, 1) := by decide +kernel
theorem dX6_withBitMoved_9 : decode cX6_withBitMoved 9 = .ok (.ishr, 1) := by decide +kernel
theorem dX6_withBitMoved_10 : decode cX6_withBitMoved 10 = .ok (.iload_n 1, 1) := by decide +kernel
theorem dX6_withBitMoved_11 : decode cX6_withBitMoved 11 = .ok (.ishl, 1) := by decide +kernel
theorem dX6_withBitMoved_12 : decode cX6_withBitMoved 12 = .ok (.ior, 1) := by decide +kernel
theorem dX6_withBitMoved_13 : decode cX6_withBitMoved 13 = .ok (.istore_n 3, 1) := by decide +kernel
theorem dX6_withBitMoved_14 : decode cX6_withBitMoved 14 = .ok (.iload_n 3, 1) := by decide +kernel
theorem dX6_withBitMoved_15 : decode cX6_withBitMoved 15 = .ok (.iload_n 2, 1) := by decide +kernel
theorem dX6_withBitMoved_16 : decode cX6_withBitMoved 16 = .ok (.invokestatic 237, 3) := by decide +kernel
theorem dX6_withBitMoved_19 : decode cX6_withBitMoved 19 = .ok (.iload_n 0, 1) := by decide +kernel
theorem dX6_withBitMoved_20 : decode cX6_withBitMoved 20 = .ok (.iload_n 1, 1) := by decide +kernel
theorem dX6_withBitMoved_21 : decode cX6_withBitMoved 21 = .ok (.invokestatic 120, 3) := by decide +kernel
theorem dX6_withBitMoved_24 : decode cX6_withBitMoved 24 = .ok (.iload_n 2, 1) := by decide +kernel
theorem dX6_withBitMoved_25 : decode cX6_withBitMoved 25 = .ok (.ishl, 1) := by decide +kernel
theorem dX6_withBitMoved_26 : decode cX6_withBitMoved 26 = .ok (.ior, 1) := by decide +kernel
theorem dX6_withBitMoved_27 : decode cX6_withBitMoved 27 = .ok (.iload_n 3, 1) := by decide +kernel
theorem dX6_withBitMoved_28 : decode cX6_withBitMoved 28 = .ok (.iload_n 2, 1) := by decide +kernel
theorem dX6_withBitMoved_29 : decode cX6_withBitMoved 29 = .ok (.ishr, 1) := by decide +kernel
theorem dX6_withBitMoved_30 : decode cX6_withBitMoved 30 = .ok (.iload_n 2, 1) := by decide +kernel
theorem dX6_withBitMoved_31 : decode cX6_withBitMoved 31 = .ok (.iconst 1, 1) := by decide +kernel
theorem dX6_withBitMoved_32 : decode cX6_withBitMoved 32 = .ok (.iadd, 1) := by decide +kernel
theorem dX6_withBitMoved_33 : decode cX6_withBitMoved 33 = .ok (.ishl, 1) := by decide +kernel
theorem dX6_withBitMoved_34 : decode cX6_withBitMoved 34 = .ok (.ior, 1) := by decide +kernel
theorem dX6_withBitMoved_35 : decode cX6_withBitMoved 35 = .ok (.ireturn, 1) := by decide +kernel
theorem dX6_timesIn_0 : decode cX6_timesIn 0 = .ok (.iload_n 0, 1) := by decide +kernel
theorem dX6_timesIn_1 : decode cX6_timesIn 1 = .ok (.iconst 2, 1) := by decide +kernel
theorem dX6_timesIn_2 : decode cX6_timesIn 2 = .ok (.iload_n 1, 1) := by decide +kernel
theorem dX6_timesIn_3 : decode cX6_timesIn 3 = .ok (.imul, 1) := by decide +kernel
theorem dX6_timesIn_4 : decode cX6_timesIn 4 = .ok (.ishr, 1) := by decide +kernel
theorem dX6_timesIn_5 : decode cX6_timesIn 5 = .ok (.iconst 3, 1) := by decide +kernel
theorem dX6_timesIn_6 : decode cX6_timesIn 6 = .ok (.iand, 1) := by decide +kernel
theorem dX6_timesIn_7 : decode cX6_timesIn 7 = .ok (.ireturn, 1) := by decide +kernel
theorem dX6_withOneMore_0 : decode cX6_withOneMore 0 = .ok (.iload_n 0, 1) := by decide +kernel
theorem dX6_withOneMore_1 : decode cX6_withOneMore 1 = .ok (.iconst 1, 1) := by decide +kernel
theorem dX6_withOneMore_2 : decode cX6_withOneMore 2 = .ok (.iconst 2, 1) := by decide +kernel
theorem dX6_withOneMore_3 : decode cX6_withOneMore 3 = .ok (.iload_n 1, 1) := by decide +kernel
theorem dX6_withOneMore_4 : decode cX6_withOneMore 4 = .ok (.imul, 1) := by decide +kernel
theorem dX6_withOneMore_5 : decode cX6_withOneMore 5 = .ok (.ishl, 1) := by decide +kernel
theorem dX6_withOneMore_6 : decode cX6_withOneMore 6 = .ok (.iadd, 1) := by decide +kernel
theorem dX6_withOneMore_7 : decode cX6_withOneMore 7 = .ok (.ireturn, 1) := by decide +kernel
theorem dX7_init_0 : decode cX7_init 0 = .ok (.aload_n 0, 1) := by decide +kernel
theorem dX7_init_1 : decode cX7_init 1 = .ok (.invokespecial 1, 3) := by decide +kernel
theorem dX7_init_4 : decode cX7_init 4 = .ok (.aload_n 0, 1) := by decide +kernel
theorem dX7_init_5 : decode cX7_init 5 = .ok (.bipush 50, 2) := by decide +kernel
theorem dX7_init_7 : decode cX7_init 7 = .ok (.newarray .int, 2) := by decide +kernel
theorem dX7_init_9 : decode cX7_init 9 = .ok (.putfield 7, 3) := by decide +kernel
theorem dX7_init_12 : decode cX7_init 12 = .ok (.aload_n 0, 1) := by decide +kernel
theorem dX7_init_13 : decode cX7_init 13 = .ok (.sipush 400, 3) := by decide +kernel
theorem dX7_init_16 : decode cX7_init 16 = .ok (.newarray .int, 2) := by decide +kernel
theorem dX7_init_18 : decode cX7_init 18 = .ok (.putfield 13, 3) := by decide +kernel
theorem dX7_init_21 : decode cX7_init 21 = .ok (.aload_n 0, 1) := by decide +kernel
theorem dX7_init_22 : decode cX7_init 22 = .ok (.bipush 100, 2) := by decide +kernel
theorem dX7_init_24 : decode cX7_init 24 = .ok (.newarray .int, 2) := by decide +kernel
theorem dX7_init_26 : decode cX7_init 26 = .ok (.putfield 16, 3) := by decide +kernel
theorem dX7_init_29 : decode cX7_init 29 = .ok (.aload_n 0, 1) := by decide +kernel
theorem dX7_init_30 : decode cX7_init 30 = .ok (.bipush 60, 2) := by decide +kernel
theorem dX7_init_32 : decode cX7_init 32 = .ok (.newarray .int, 2) := by decide +kernel
theorem dX7_init_34 : decode cX7_init 34 = .ok (.putfield 19, 3) := by decide +kernel
theorem dX7_init_37 : decode cX7_init 37 = .ok (.aload_n 0, 1) := by decide +kernel
theorem dX7_init_38 : decode cX7_init 38 = .ok (.bipush 6, 2) := by decide +kernel
theorem dX7_init_40 : decode cX7_init 40 = .ok (.newarray .int, 2) := by decide +kernel
theorem dX7_init_42 : decode cX7_init 42 = .ok (.putfield 22, 3) := by decide +kernel
theorem dX7_init_45 : decode cX7_init 45 = .ok (.aload_n 0, 1) := by decide +kernel
theorem dX7_init_46 : decode cX7_init 46 = .ok (.ldc 25, 2) := by decide +kernel
theorem dX7_init_48 : decode cX7_init 48 = .ok (.newarray .boolean, 2) := by decide +kernel
theorem dX7_init_50 : decode cX7_init 50 = .ok (.putfield 26, 3) := by decide +kernel
theorem dX7_init_53 : decode cX7_init 53 = .ok (.aload_n 0, 1) := by decide +kernel
theorem dX7_init_54 : decode cX7_init 54 = .ok (.ldc 25, 2) := by decide +kernel
theorem dX7_init_56 : decode cX7_init 56 = .ok (.newarray .int, 2) := by decide +kernel
theorem dX7_init_58 : decode cX7_init 58 = .ok (.putfield 30, 3) := by decide +kernel
theorem dX7_init_61 : decode cX7_init 61 = .ok (.aload_n 0, 1) := by decide +kernel
theorem dX7_init_62 : decode cX7_init 62 = .ok (.bipush 20, 2) := by decide +kernel
theorem dX7_init_64 : decode cX7_init 64 = .ok (.newarray .int, 2) := by decide +kernel
theorem dX7_init_66 : decode cX7_init 66 = .ok (.putfield 33, 3) := by decide +kernel
theorem dX7_init_69 : decode cX7_init 69 = .ok (.aload_n 0, 1) := by decide +kernel
theorem dX7_init_70 : decode cX7_init 70 = .ok (.bipush 20, 2) := by decide +kernel
theorem dX7_init_72 : decode cX7_init 72 = .ok (.newarray .int, 2) := by decide +kernel
theorem dX7_init_74 : decode cX7_init 74 = .ok (.putfield 36, 3) := by decide +kernel
theorem dX7_init_77 : decode cX7_init 77 = .ok (.aload_n 0, 1) := by decide +kernel
theorem dX7_init_78 : decode cX7_init 78 = .ok (.bipush 20, 2) := by decide +kernel
theorem dX7_init_80 : decode cX7_init 80 = .ok (.newarray .int, 2) := by decide +kernel
theorem dX7_init_82 : decode cX7_init 82 = .ok (.putfield 39, 3) := by decide +kernel
theorem dX7_init_85 : decode cX7_init 85 = .ok (.aload_n 0, 1) := by decide +kernel
theorem dX7_init_86 : decode cX7_init 86 = .ok (.sipush 200, 3) := by decide +kernel
theorem dX7_init_89 : decode cX7_init 89 = .ok (.newarray .int, 2) := by decide +kernel
theorem dX7_init_91 : decode cX7_init 91 = .ok (.putfield 42, 3) := by decide +kernel
theorem dX7_init_94 : decode cX7_init 94 = .ok (.aload_n 0, 1) := by decide +kernel
theorem dX7_init_95 : decode cX7_init 95 = .ok (.sipush 4096, 3) := by decide +kernel
theorem dX7_init_98 : decode cX7_init 98 = .ok (.newarray .long, 2) := by decide +kernel
theorem dX7_init_100 : decode cX7_init 100 = .ok (.putfield 45, 3) := by decide +kernel
theorem dX7_init_103 : decode cX7_init 103 = .ok (.aload_n 0, 1) := by decide +kernel
theorem dX7_init_104 : decode cX7_init 104 = .ok (.sipush 4096, 3) := by decide +kernel
theorem dX7_init_107 : decode cX7_init 107 = .ok (.newarray .long, 2) := by decide +kernel
theorem dX7_init_109 : decode cX7_init 109 = .ok (.putfield 49, 3) := by decide +kernel
theorem dX7_init_112 : decode cX7_init 112 = .ok (.aload_n 0, 1) := by decide +kernel
theorem dX7_init_113 : decode cX7_init 113 = .ok (.getfield 7, 3) := by decide +kernel
theorem dX7_init_116 : decode cX7_init 116 = .ok (.iconst 0, 1) := by decide +kernel
theorem dX7_init_117 : decode cX7_init 117 = .ok (.iconst 0, 1) := by decide +kernel
theorem dX7_init_118 : decode cX7_init 118 = .ok (.iastore, 1) := by decide +kernel
theorem dX7_init_119 : decode cX7_init 119 = .ok (.return_, 1) := by decide +kernel
theorem dX7_isIn_0 : decode cX7_isIn 0 = .ok (.iload_n 0, 1) := by decide +kernel
theorem dX7_isIn_1 : decode cX7_isIn 1 = .ok (.iload_n 1, 1) := by decide +kernel
theorem dX7_isIn_2 : decode cX7_isIn 2 = .ok (.if_icmp .lt 12, 3) := by decide +kernel
theorem dX7_isIn_5 : decode cX7_isIn 5 = .ok (.iload_n 0, 1) := by decide +kernel
theorem dX7_isIn_6 : decode cX7_isIn 6 = .ok (.iload_n 2, 1) := by decide +kernel
theorem dX7_isIn_7 : decode cX7_isIn 7 = .ok (.if_icmp .gt 7, 3) := by decide +kernel
theorem dX7_isIn_10 : decode cX7_isIn 10 = .ok (.iconst 1, 1) := by decide +kernel
theorem dX7_isIn_11 : decode cX7_isIn 11 = .ok (.goto 4, 3) := by decide +kernel
theorem dX7_isIn_14 : decode cX7_isIn 14 = .ok (.iconst 0, 1) := by decide +kernel
theorem dX7_isIn_15 : decode cX7_isIn 15 = .ok (.ireturn, 1) := by decide +kernel
theorem dX7_has_0 : decode cX7_has 0 = .ok (.iload_n 0, 1) := by decide +kernel
theorem dX7_has_1 : decode cX7_has 1 = .ok (.iload_n 1, 1) := by decide +kernel
theorem dX7_has_2 : decode cX7_has 2 = .ok (.ishr, 1) := by decide +kernel
theorem dX7_has_3 : decode cX7_has 3 = .ok (.iconst 1, 1) := by decide +kernel
theorem dX7_has_4 : decode cX7_has 4 = .ok (.iand, 1) := by decide +kernel
theorem dX7_has_5 : decode cX7_has 5 = .ok (.iconst 1, 1) := by decide +kernel
theorem dX7_has_6 : decode cX7_has 6 = .ok (.if_icmp .ne 7, 3) := by decide +kernel
theorem dX7_has_9 : decode cX7_has 9 = .ok (.iconst 1, 1) := by decide +kernel
theorem dX7_has_10 : decode cX7_has 10 = .ok (.goto 4, 3) := by decide +kernel
theorem dX7_has_13 : decode cX7_has 13 = .ok (.iconst 0, 1) := by decide +kernel
theorem dX7_has_14 : decode cX7_has 14 = .ok (.ireturn, 1) := by decide +kernel
theorem dX7_remember_0 : decode cX7_remember 0 = .ok (.aload_n 0, 1) := by decide +kernel
theorem dX7_remember_1 : decode cX7_remember 1 = .ok (.getfield 52, 3) := by decide +kernel
theorem dX7_remember_4 : decode cX7_remember 4 = .ok (.bipush 8, 2) := by decide +kernel
theorem dX7_remember_6 : decode cX7_remember 6 = .ok (.if_icmp .ne 43, 3) := by decide +kernel
theorem dX7_remember_9 : decode cX7_remember 9 = .ok (.iconst 0, 1) := by decide +kernel
theorem dX7_remember_10 : decode cX7_remember 10 = .ok (.istore_n 1, 1) := by decide +kernel
theorem dX7_remember_11 : decode cX7_remember 11 = .ok (.iload_n 1, 1) := by decide +kernel
theorem dX7_remember_12 : decode cX7_remember 12 = .ok (.sipush 350, 3) := by decide +kernel
theorem dX7_remember_15 : decode cX7_remember 15 = .ok (.if_icmp .ge 24, 3) := by decide +kernel
theorem dX7_remember_18 : decode cX7_remember 18 = .ok (.aload_n 0, 1) := by decide +kernel
theorem dX7_remember_19 : decode cX7_remember 19 = .ok (.getfield 13, 3) := by decide +kernel
theorem dX7_remember_22 : decode cX7_remember 22 = .ok (.iload_n 1, 1) := by decide +kernel
theorem dX7_remember_23 : decode cX7_remember 23 = .ok (.aload_n 0, 1) := by decide +kernel
theorem dX7_remember_24 : decode cX7_remember 24 = .ok (.getfield 13, 3) := by decide +kernel
theorem dX7_remember_27 : decode cX7_remember 27 = .ok (.iload_n 1, 1) := by decide +kernel
theorem dX7_remember_28 : decode cX7_remember 28 = .ok (.bipush 50, 2) := by decide +kernel
theorem dX7_remember_30 : decode cX7_remember 30 = .ok (.iadd, 1) := by decide +kernel
theorem dX7_remember_31 : decode cX7_remember 31 = .ok (.iaload, 1) := by decide +kernel
theorem dX7_remember_32 : decode cX7_remember 32 = .ok (.iastore, 1) := by decide +kernel
theorem dX7_remember_33 : decode cX7_remember 33 = .ok (.iinc 1 1, 3) := by decide +kernel
theorem dX7_remember_36 : decode cX7_remember 36 = .ok (.goto (-25), 3) := by decide +kernel
theorem dX7_remember_39 : decode cX7_remember 39 = .ok (.aload_n 0, 1) := by decide +kernel
theorem dX7_remember_40 : decode cX7_remember 40 = .ok (.dup, 1) := by decide +kernel
theorem dX7_remember_41 : decode cX7_remember 41 = .ok (.getfield 52, 3) := by decide +kernel
theorem dX7_remember_44 : decode cX7_remember 44 = .ok (.iconst 1, 1) := by decide +kernel
theorem dX7_remember_45 : decode cX7_remember 45 = .ok (.isub, 1) := by decide +kernel
theorem dX7_remember_46 : decode cX7_remember 46 = .ok (.putfield 52, 3) := by decide +kernel
theorem dX7_remember_49 : decode cX7_remember 49 = .ok (.iconst 0, 1) := by decide +kernel
theorem dX7_remember_50 : decode cX7_remember 50 = .ok (.istore_n 1, 1) := by decide +kernel
theorem dX7_remember_51 : decode cX7_remember 51 = .ok (.iload_n 1, 1) := by decide +kernel
theorem dX7_remember_52 : decode cX7_remember 52 = .ok (.bipush 50, 2) := by decide +kernel
theorem dX7_remember_54 : decode cX7_remember 54 = .ok (.if_icmp .ge 29, 3) := by decide +kernel
theorem dX7_remember_57 : decode cX7_remember 57 = .ok (.aload_n 0, 1) := by decide +kernel
theorem dX7_remember_58 : decode cX7_remember 58 = .ok (.getfield 13, 3) := by decide +kernel
theorem dX7_remember_61 : decode cX7_remember 61 = .ok (.bipush 50, 2) := by decide +kernel
theorem dX7_remember_63 : decode cX7_remember 63 = .ok (.aload_n 0, 1) := by decide +kernel
theorem dX7_remember_64 : decode cX7_remember 64 = .ok (.getfield 52, 3) := by decide +kernel
theorem dX7_remember_67 : decode cX7_remember 67 = .ok (.imul, 1) := by decide +kernel
theorem dX7_remember_68 : decode cX7_remember 68 = .ok (.iload_n 1, 1) := by decide +kernel
theorem dX7_remember_69 : decode cX7_remember 69 = .ok (.iadd, 1) := by decide +kernel
theorem dX7_remember_70 : decode cX7_remember 70 = .ok (.aload_n 0, 1) := by decide +kernel
theorem dX7_remember_71 : decode cX7_remember 71 = .ok (.getfield 7, 3) := by decide +kernel
theorem dX7_remember_74 : decode cX7_remember 74 = .ok (.iload_n 1, 1) := by decide +kernel
theorem dX7_remember_75 : decode cX7_remember 75 = .ok (.iaload, 1) := by decide +kernel
theorem dX7_remember_76 : decode cX7_remember 76 = .ok (.iastore, 1) := by decide +kernel
theorem dX7_remember_77 : decode cX7_remember 77 = .ok (.iinc 1 1, 3) := by decide +kernel
theorem dX7_remember_80 : decode cX7_remember 80 = .ok (.goto (-29), 3) := by decide +kernel
theorem dX7_remember_83 : decode cX7_remember 83 = .ok (.aload_n 0, 1) := by decide +kernel
theorem dX7_remember_84 : decode cX7_remember 84 = .ok (.dup, 1) := by decide +kernel
theorem dX7_remember_85 : decode cX7_remember 85 = .ok (.getfield 52, 3) := by decide +kernel
theorem dX7_remember_88 : decode cX7_remember 88 = .ok (.iconst 1, 1) := by decide +kernel
theorem dX7_remember_89 : decode cX7_remember 89 = .ok (.iadd, 1) := by decide +kernel
theorem dX7_remember_90 : decode cX7_remember 90 = .ok (.putfield 52, 3) := by decide +kernel
theorem dX7_remember_93 : decode cX7_remember 93 = .ok (.aload_n 0, 1) := by decide +kernel
theorem dX7_remember_94 : decode cX7_remember 94 = .ok (.iconst 0, 1) := by decide +kernel
theorem dX7_remember_95 : decode cX7_remember 95 = .ok (.putfield 56, 3) := by decide +kernel
theorem dX7_remember_98 : decode cX7_remember 98 = .ok (.return_, 1) := by decide +kernel
theorem dX7_isMember_0 : decode cX7_isMember 0 = .ok (.iload_n 1, 1) := by decide +kernel
theorem dX7_isMember_1 : decode cX7_isMember 1 = .ok (.iconst 0, 1) := by decide +kernel
theorem dX7_isMember_2 : decode cX7_isMember 2 = .ok (.aload_n 0, 1) := by decide +kernel
theorem dX7_isMember_3 : decode cX7_isMember 3 = .ok (.getfield 7, 3) := by decide +kernel
theorem dX7_isMember_6 : decode cX7_isMember 6 = .ok (.iconst 0, 1) := by decide +kernel
theorem dX7_isMember_7 : decode cX7_isMember 7 = .ok (.iaload, 1) := by decide +kernel
theorem dX7_isMember_8 : decode cX7_isMember 8 = .ok (.iconst 1, 1) := by decide +kernel
theorem dX7_isMember_9 : decode cX7_isMember 9 = .ok (.isub, 1) := by decide +kernel
theorem dX7_isMember_10 : decode cX7_isMember 10 = .ok (.invokestatic 60, 3) := by decide +kernel
theorem dX7_isMember_13 : decode cX7_isMember 13 = .ok (.ireturn, 1) := by decide +kernel
theorem dX7_write_0 : decode cX7_write 0 = .ok (.iload_n 1, 1) := by decide +kernel
theorem dX7_write_1 : decode cX7_write 1 = .ok (.bipush 32, 2) := by decide +kernel
theorem dX7_write_3 : decode cX7_write 3 = .ok (.bipush 126, 2) := by decide +kernel
theorem dX7_write_5 : decode cX7_write 5 = .ok (.invokestatic 60, 3) := by decide +kernel
theorem dX7_write_8 : decode cX7_write 8 = .ok (.ifCond .ne 5, 3) := by decide +kernel
theorem dX7_write_11 : decode cX7_write 11 = .ok (.iconst (-1), 1) := by decide +kernel
theorem dX7_write_12 : decode cX7_write 12 = .ok (.ireturn, 1) := by decide +kernel
theorem dX7_write_13 : decode cX7_write 13 = .ok (.aload_n 0, 1) := by decide +kernel
theorem dX7_write_14 : decode cX7_write 14 = .ok (.getfield 64, 3) := by decide +kernel
theorem dX7_write_17 : decode cX7_write 17 = .ok (.bipush 60, 2) := by decide +kernel
theorem dX7_write_19 : decode cX7_write 19 = .ok (.if_icmp .ne 6, 3) := by decide +kernel
theorem dX7_write_22 : decode cX7_write 22 = .ok (.bipush (-3), 2) := by decide +kernel
theorem dX7_write_24 : decode cX7_write 24 = .ok (.ireturn, 1) := by decide +kernel
theorem dX7_write_25 : decode cX7_write 25 = .ok (.aload_n 0, 1) := by decide +kernel
theorem dX7_write_26 : decode cX7_write 26 = .ok (.getfield 19, 3) := by decide +kernel
theorem dX7_write_29 : decode cX7_write 29 = .ok (.aload_n 0, 1) := by decide +kernel
theorem dX7_write_30 : decode cX7_write 30 = .ok (.getfield 64, 3) := by decide +kernel
theorem dX7_write_33 : decode cX7_write 33 = .ok (.iload_n 1, 1) := by decide +kernel
theorem dX7_write_34 : decode cX7_write 34 = .ok (.iastore, 1) := by decide +kernel
theorem dX7_write_35 : decode cX7_write 35 = .ok (.aload_n 0, 1) := by decide +kernel
theorem dX7_write_36 : decode cX7_write 36 = .ok (.dup, 1) := by decide +kernel
theorem dX7_write_37 : decode cX7_write 37 = .ok (.getfield 64, 3) := by decide +kernel
theorem dX7_write_40 : decode cX7_write 40 = .ok (.iconst 1, 1) := by decide +kernel
theorem dX7_write_41 : decode cX7_write 41 = .ok (.iadd, 1) := by decide +kernel
theorem dX7_write_42 : decode cX7_write 42 = .ok (.putfield 64, 3) := by decide +kernel
theorem dX7_write_45 : decode cX7_write 45 = .ok (.aload_n 0, 1) := by decide +kernel
theorem dX7_write_46 : decode cX7_write 46 = .ok (.iconst 0, 1) := by decide +kernel
theorem dX7_write_47 : decode cX7_write 47 = .ok (.putfield 56, 3) := by decide +kernel
theorem dX7_write_50 : decode cX7_write 50 = .ok (.aload_n 0, 1) := by decide +kernel
theorem dX7_write_51 : decode cX7_write 51 = .ok (.getfield 64, 3) := by decide +kernel
theorem dX7_write_54 : decode cX7_write 54 = .ok (.ireturn, 1) := by decide +kernel
theorem dX7_wipe_0 : decode cX7_wipe 0 = .ok (.aload_n 0, 1) := by decide +kernel
theorem dX7_wipe_1 : decode cX7_wipe 1 = .ok (.getfield 64, 3) := by decide +kernel
theorem dX7_wipe_4 : decode cX7_wipe 4 = .ok (.istore_n 1, 1) := by decide +kernel
theorem dX7_wipe_5 : decode cX7_wipe 5 = .ok (.aload_n 0, 1) := by decide +kernel
theorem dX7_wipe_6 : decode cX7_wipe 6 = .ok (.iconst 0, 1) := by decide +kernel
theorem dX7_wipe_7 : decode cX7_wipe 7 = .ok (.putfield 64, 3) := by decide +kernel
theorem dX7_wipe_10 : decode cX7_wipe 10 = .ok (.aload_n 0, 1) := by decide +kernel
theorem dX7_wipe_11 : decode cX7_wipe 11 = .ok (.iconst 0, 1) := by decide +kernel
theorem dX7_wipe_12 : decode cX7_wipe 12 = .ok (.putfield 56, 3) := by decide +kernel
theorem dX7_wipe_15 : decode cX7_wipe 15 = .ok (.iload_n 1, 1) := by decide +kernel
theorem dX7_wipe_16 : decode cX7_wipe 16 = .ok (.ireturn, 1) := by decide +kernel
theorem dX7_letter_0 : decode cX7_letter 0 = .ok (.aload_n 0, 1) := by decide +kernel
theorem dX7_letter_1 : decode cX7_letter 1 = .ok (.getfield 7, 3) := by decide +kernel
theorem dX7_letter_4 : decode cX7_letter 4 = .ok (.iconst 2, 1) := by decide +kernel
theorem dX7_letter_5 : decode cX7_letter 5 = .ok (.iconst 3, 1) := by decide +kernel
theorem dX7_letter_6 : decode cX7_letter 6 = .ok (.iload_n 1, 1) := by decide +kernel
theorem dX7_letter_7 : decode cX7_letter 7 = .ok (.imul, 1) := by decide +kernel
theorem dX7_letter_8 : decode cX7_letter 8 = .ok (.iadd, 1) := by decide +kernel
theorem dX7_letter_9 : decode cX7_letter 9 = .ok (.iload_n 2, 1) := by decide +kernel
theorem dX7_letter_10 : decode cX7_letter 10 = .ok (.iadd, 1) := by decide +kernel
theorem dX7_letter_11 : decode cX7_letter 11 = .ok (.iaload, 1) := by decide +kernel
theorem dX7_letter_12 : decode cX7_letter 12 = .ok (.ireturn, 1) := by decide +kernel
theorem dX7_wordLength_0 : decode cX7_wordLength 0 = .ok (.iconst 0, 1) := by decide +kernel
theorem dX7_wordLength_1 : decode cX7_wordLength 1 = .ok (.istore_n 2, 1) := by decide +kernel
theorem dX7_wordLength_2 : decode cX7_wordLength 2 = .ok (.iload_n 2, 1) := by decide +kernel
theorem dX7_wordLength_3 : decode cX7_wordLength 3 = .ok (.iconst 3, 1) := by decide +kernel
theorem dX7_wordLength_4 : decode cX7_wordLength 4 = .ok (.if_icmp .ge 18, 3) := by decide +kernel
theorem dX7_wordLength_7 : decode cX7_wordLength 7 = .ok (.aload_n 0, 1) := by decide +kernel
theorem dX7_wordLength_8 : decode cX7_wordLength 8 = .ok (.iload_n 1, 1) := by decide +kernel
theorem dX7_wordLength_9 : decode cX7_wordLength 9 = .ok (.iload_n 2, 1) := by decide +kernel
theorem dX7_wordLength_10 : decode cX7_wordLength 10 = .ok (.invokevirtual 67, 3) := by decide +kernel
theorem dX7_wordLength_13 : decode cX7_wordLength 13 = .ok (.ifCond .eq 9, 3) := by decide +kernel
theorem dX7_wordLength_16 : decode cX7_wordLength 16 = .ok (.iinc 2 1, 3) := by decide +kernel
theorem dX7_wordLength_19 : decode cX7_wordLength 19 = .ok (.goto (-17), 3) := by decide +kernel
theorem dX7_wordLength_22 : decode cX7_wordLength 22 = .ok (.iload_n 2, 1) := by decide +kernel
theorem dX7_wordLength_23 : decode cX7_wordLength 23 = .ok (.ireturn, 1) := by decide +kernel
theorem dX7_isWord_0 : decode cX7_isWord 0 = .ok (.aload_n 0, 1) := by decide +kernel
theorem dX7_isWord_1 : decode cX7_isWord 1 = .ok (.getfield 64, 3) := by decide +kernel
theorem dX7_isWord_4 : decode cX7_isWord 4 = .ok (.iconst 1, 1) := by decide +kernel
theorem dX7_isWord_5 : decode cX7_isWord 5 = .ok (.iconst 3, 1) := by decide +kernel
theorem dX7_isWord_6 : decode cX7_isWord 6 = .ok (.invokestatic 60, 3) := by decide +kernel
theorem dX7_isWord_9 : decode cX7_isWord 9 = .ok (.istore_n 1, 1) := by decide +kernel
theorem dX7_isWord_10 : decode cX7_isWord 10 = .ok (.iconst 0, 1) := by decide +kernel
theorem dX7_isWord_11 : decode cX7_isWord 11 = .ok (.istore_n 2, 1) := by decide +kernel
theorem dX7_isWord_12 : decode cX7_isWord 12 = .ok (.iload_n 2, 1) := by decide +kernel
theorem dX7_isWord_13 : decode cX7_isWord 13 = .ok (.aload_n 0, 1) := by decide +kernel
theorem dX7_isWord_14 : decode cX7_isWord 14 = .ok (.getfield 64, 3) := by decide +kernel
theorem dX7_isWord_17 : decode cX7_isWord 17 = .ok (.if_icmp .ge 27, 3) := by decide +kernel
theorem dX7_isWord_20 : decode cX7_isWord 20 = .ok (.iload_n 1, 1) := by decide +kernel
theorem dX7_isWord_21 : decode cX7_isWord 21 = .ok (.ifCond .eq 23, 3) := by decide +kernel
theorem dX7_isWord_24 : decode cX7_isWord 24 = .ok (.aload_n 0, 1) := by decide +kernel
theorem dX7_isWord_25 : decode cX7_isWord 25 = .ok (.getfield 19, 3) := by decide +kernel
theorem dX7_isWord_28 : decode cX7_isWord 28 = .ok (.iload_n 2, 1) := by decide +kernel
theorem dX7_isWord_29 : decode cX7_isWord 29 = .ok (.iaload, 1) := by decide +kernel
theorem dX7_isWord_30 : decode cX7_isWord 30 = .ok (.bipush 97, 2) := by decide +kernel
theorem dX7_isWord_32 : decode cX7_isWord 32 = .ok (.bipush 122, 2) := by decide +kernel
theorem dX7_isWord_34 : decode cX7_isWord 34 = .ok (.invokestatic 60, 3) := by decide +kernel
theorem dX7_isWord_37 : decode cX7_isWord 37 = .ok (.istore_n 1, 1) := by decide +kernel
theorem dX7_isWord_38 : decode cX7_isWord 38 = .ok (.iinc 2 1, 3) := by decide +kernel
theorem dX7_isWord_41 : decode cX7_isWord 41 = .ok (.goto (-29), 3) := by decide +kernel
theorem dX7_isWord_44 : decode cX7_isWord 44 = .ok (.iload_n 1, 1) := by decide +kernel
theorem dX7_isWord_45 : decode cX7_isWord 45 = .ok (.ireturn, 1) := by decide +kernel
theorem dX7_isWordOf_0 : decode cX7_isWordOf 0 = .ok (.aload_n 0, 1) := by decide +kernel
theorem dX7_isWordOf_1 : decode cX7_isWordOf 1 = .ok (.iload_n 1, 1) := by decide +kernel
theorem dX7_isWordOf_2 : decode cX7_isWordOf 2 = .ok (.invokevirtual 71, 3) := by decide +kernel
theorem dX7_isWordOf_5 : decode cX7_isWordOf 5 = .ok (.aload_n 0, 1) := by decide +kernel
theorem dX7_isWordOf_6 : decode cX7_isWordOf 6 = .ok (.getfield 64, 3) := by decide +kernel
theorem dX7_isWordOf_9 : decode cX7_isWordOf 9 = .ok (.if_icmp .ne 7, 3) := by decide +kernel
theorem dX7_isWordOf_12 : decode cX7_isWordOf 12 = .ok (.iconst 1, 1) := by decide +kernel
theorem dX7_isWordOf_13 : decode cX7_isWordOf 13 = .ok (.goto 4, 3) := by decide +kernel
theorem dX7_isWordOf_16 : decode cX7_isWordOf 16 = .ok (.iconst 0, 1) := by decide +kernel
theorem dX7_isWordOf_17 : decode cX7_isWordOf 17 = .ok (.istore_n 2, 1) := by decide +kernel
theorem dX7_isWordOf_18 : decode cX7_isWordOf 18 = .ok (.iconst 0, 1) := by decide +kernel
theorem dX7_isWordOf_19 : decode cX7_isWordOf 19 = .ok (.istore_n 3, 1) := by decide +kernel
theorem dX7_isWordOf_20 : decode cX7_isWordOf 20 = .ok (.iload_n 3, 1) := by decide +kernel
theorem dX7_isWordOf_21 : decode cX7_isWordOf 21 = .ok (.aload_n 0, 1) := by decide +kernel
theorem dX7_isWordOf_22 : decode cX7_isWordOf 22 = .ok (.getfield 64, 3) := by decide +kernel
theorem dX7_isWordOf_25 : decode cX7_isWordOf 25 = .ok (.if_icmp .ge 34, 3) := by decide +kernel
theorem dX7_isWordOf_28 : decode cX7_isWordOf 28 = .ok (.iload_n 2, 1) := by decide +kernel
theorem dX7_isWordOf_29 : decode cX7_isWordOf 29 = .ok (.ifCond .eq 30, 3) := by decide +kernel
theorem dX7_isWordOf_32 : decode cX7_isWordOf 32 = .ok (.aload_n 0, 1) := by decide +kernel
theorem dX7_isWordOf_33 : decode cX7_isWordOf 33 = .ok (.getfield 19, 3) := by decide +kernel
theorem dX7_isWordOf_36 : decode cX7_isWordOf 36 = .ok (.iload_n 3, 1) := by decide +kernel
theorem dX7_isWordOf_37 : decode cX7_isWordOf 37 = .ok (.iaload, 1) := by decide +kernel
theorem dX7_isWordOf_38 : decode cX7_isWordOf 38 = .ok (.aload_n 0, 1) := by decide +kernel
theorem dX7_isWordOf_39 : decode cX7_isWordOf 39 = .ok (.iload_n 1, 1) := by decide +kernel
theorem dX7_isWordOf_40 : decode cX7_isWordOf 40 = .ok (.iload_n 3, 1) := by decide +kernel
theorem dX7_isWordOf_41 : decode cX7_isWordOf 41 = .ok (.invokevirtual 67, 3) := by decide +kernel
theorem dX7_isWordOf_44 : decode cX7_isWordOf 44 = .ok (.if_icmp .ne 7, 3) := by decide +kernel
theorem dX7_isWordOf_47 : decode cX7_isWordOf 47 = .ok (.iconst 1, 1) := by decide +kernel
theorem dX7_isWordOf_48 : decode cX7_isWordOf 48 = .ok (.goto 4, 3) := by decide +kernel
theorem dX7_isWordOf_51 : decode cX7_isWordOf 51 = .ok (.iconst 0, 1) := by decide +kernel
theorem dX7_isWordOf_52 : decode cX7_isWordOf 52 = .ok (.istore_n 2, 1) := by decide +kernel
theorem dX7_isWordOf_53 : decode cX7_isWordOf 53 = .ok (.iinc 3 1, 3) := by decide +kernel
theorem dX7_isWordOf_56 : decode cX7_isWordOf 56 = .ok (.goto (-36), 3) := by decide +kernel
theorem dX7_isWordOf_59 : decode cX7_isWordOf 59 = .ok (.iload_n 2, 1) := by decide +kernel
theorem dX7_isWordOf_60 : decode cX7_isWordOf 60 = .ok (.ireturn, 1) := by decide +kernel
theorem dX7_isNewWord_0 : decode cX7_isNewWord 0 = .ok (.aload_n 0, 1) := by decide +kernel
theorem dX7_isNewWord_1 : decode cX7_isNewWord 1 = .ok (.invokevirtual 75, 3) := by decide +kernel
theorem dX7_isNewWord_4 : decode cX7_isNewWord 4 = .ok (.istore_n 1, 1) := by decide +kernel
theorem dX7_isNewWord_5 : decode cX7_isNewWord 5 = .ok (.iconst 0, 1) := by decide +kernel
theorem dX7_isNewWord_6 : decode cX7_isNewWord 6 = .ok (.istore_n 2, 1) := by decide +kernel
theorem dX7_isNewWord_7 : decode cX7_isNewWord 7 = .ok (.iload_n 2, 1) := by decide +kernel
theorem dX7_isNewWord_8 : decode cX7_isNewWord 8 = .ok (.aload_n 0, 1) := by decide +kernel
theorem dX7_isNewWord_9 : decode cX7_isNewWord 9 = .ok (.getfield 7, 3) := by decide +kernel
theorem dX7_isNewWord_12 : decode cX7_isNewWord 12 = .ok (.iconst 0, 1) := by decide +kernel
theorem dX7_isNewWord_13 : decode cX7_isNewWord 13 = .ok (.iaload, 1) := by decide +kernel
theorem dX7_isNewWord_14 : decode cX7_isNewWord 14 = .ok (.if_icmp .ge 27, 3) := by decide +kernel
theorem dX7_isNewWord_17 : decode cX7_isNewWord 17 = .ok (.iload_n 1, 1) := by decide +kernel
theorem dX7_isNewWord_18 : decode cX7_isNewWord 18 = .ok (.ifCond .eq 23, 3) := by decide +kernel
theorem dX7_isNewWord_21 : decode cX7_isNewWord 21 = .ok (.aload_n 0, 1) := by decide +kernel
theorem dX7_isNewWord_22 : decode cX7_isNewWord 22 = .ok (.iload_n 2, 1) := by decide +kernel
theorem dX7_isNewWord_23 : decode cX7_isNewWord 23 = .ok (.invokevirtual 79, 3) := by decide +kernel
theorem dX7_isNewWord_26 : decode cX7_isNewWord 26 = .ok (.ifCond .ne 7, 3) := by decide +kernel
theorem dX7_isNewWord_29 : decode cX7_isNewWord 29 = .ok (.iconst 1, 1) := by decide +kernel
theorem dX7_isNewWord_30 : decode cX7_isNewWord 30 = .ok (.goto 4, 3) := by decide +kernel
theorem dX7_isNewWord_33 : decode cX7_isNewWord 33 = .ok (.iconst 0, 1) := by decide +kernel
theorem dX7_isNewWord_34 : decode cX7_isNewWord 34 = .ok (.istore_n 1, 1) := by decide +kernel
theorem dX7_isNewWord_35 : decode cX7_isNewWord 35 = .ok (.iinc 2 1, 3) := by decide +kernel
theorem dX7_isNewWord_38 : decode cX7_isNewWord 38 = .ok (.goto (-31), 3) := by decide +kernel
theorem dX7_isNewWord_41 : decode cX7_isNewWord 41 = .ok (.iload_n 1, 1) := by decide +kernel
theorem dX7_isNewWord_42 : decode cX7_isNewWord 42 = .ok (.ireturn, 1) := by decide +kernel
theorem dX7_declare_0 : decode cX7_declare 0 = .ok (.iload_n 1, 1) := by decide +kernel
theorem dX7_declare_1 : decode cX7_declare 1 = .ok (.iconst 0, 1) := by decide +kernel
theorem dX7_declare_2 : decode cX7_declare 2 = .ok (.iconst 2, 1) := by decide +kernel
theorem dX7_declare_3 : decode cX7_declare 3 = .ok (.invokestatic 60, 3) := by decide +kernel
theorem dX7_declare_6 : decode cX7_declare 6 = .ok (.ifCond .eq 26, 3) := by decide +kernel
theorem dX7_declare_9 : decode cX7_declare 9 = .ok (.iload_n 2, 1) := by decide +kernel
theorem dX7_declare_10 : decode cX7_declare 10 = .ok (.iconst 0, 1) := by decide +kernel
theorem dX7_declare_11 : decode cX7_declare 11 = .ok (.iconst 3, 1) := by decide +kernel
theorem dX7_declare_12 : decode cX7_declare 12 = .ok (.invokestatic 60, 3) := by decide +kernel
theorem dX7_declare_15 : decode cX7_declare 15 = .ok (.ifCond .eq 17, 3) := by decide +kernel
theorem dX7_declare_18 : decode cX7_declare 18 = .ok (.iload_n 3, 1) := by decide +kernel
theorem dX7_declare_19 : decode cX7_declare 19 = .ok (.iconst 1, 1) := by decide +kernel
theorem dX7_declare_20 : decode cX7_declare 20 = .ok (.iconst 3, 1) := by decide +kernel
theorem dX7_declare_21 : decode cX7_declare 21 = .ok (.invokestatic 60, 3) := by decide +kernel
theorem dX7_declare_24 : decode cX7_declare 24 = .ok (.ifCond .eq 8, 3) := by decide +kernel
theorem dX7_declare_27 : decode cX7_declare 27 = .ok (.iload_n 3, 1) := by decide +kernel
theorem dX7_declare_28 : decode cX7_declare 28 = .ok (.iload_n 2, 1) := by decide +kernel
theorem dX7_declare_29 : decode cX7_declare 29 = .ok (.if_icmp .ge 5, 3) := by decide +kernel
theorem dX7_declare_32 : decode cX7_declare 32 = .ok (.iconst (-1), 1) := by decide +kernel
theorem dX7_declare_33 : decode cX7_declare 33 = .ok (.ireturn, 1) := by decide +kernel
theorem dX7_declare_34 : decode cX7_declare 34 = .ok (.aload_n 0, 1) := by decide +kernel
theorem dX7_declare_35 : decode cX7_declare 35 = .ok (.invokevirtual 83, 3) := by decide +kernel
theorem dX7_declare_38 : decode cX7_declare 38 = .ok (.ifCond .ne 6, 3) := by decide +kernel
theorem dX7_declare_41 : decode cX7_declare 41 = .ok (.bipush (-2), 2) := by decide +kernel
theorem dX7_declare_43 : decode cX7_declare 43 = .ok (.ireturn, 1) := by decide +kernel
theorem dX7_declare_44 : decode cX7_declare 44 = .ok (.aload_n 0, 1) := by decide +kernel
theorem dX7_declare_45 : decode cX7_declare 45 = .ok (.getfield 7, 3) := by decide +kernel
theorem dX7_declare_48 : decode cX7_declare 48 = .ok (.iconst 0, 1) := by decide +kernel
theorem dX7_declare_49 : decode cX7_declare 49 = .ok (.iaload, 1) := by decide +kernel
theorem dX7_declare_50 : decode cX7_declare 50 = .ok (.bipush 6, 2) := by decide +kernel
theorem dX7_declare_52 : decode cX7_declare 52 = .ok (.if_icmp .ne 6, 3) := by decide +kernel
theorem dX7_declare_55 : decode cX7_declare 55 = .ok (.bipush (-3), 2) := by decide +kernel
theorem dX7_declare_57 : decode cX7_declare 57 = .ok (.ireturn, 1) := by decide +kernel
theorem dX7_declare_58 : decode cX7_declare 58 = .ok (.aload_n 0, 1) := by decide +kernel
theorem dX7_declare_59 : decode cX7_declare 59 = .ok (.invokevirtual 86, 3) := by decide +kernel
theorem dX7_declare_62 : decode cX7_declare 62 = .ok (.aload_n 0, 1) := by decide +kernel
theorem dX7_declare_63 : decode cX7_declare 63 = .ok (.getfield 7, 3) := by decide +kernel
theorem dX7_declare_66 : decode cX7_declare 66 = .ok (.iconst 0, 1) := by decide +kernel
theorem dX7_declare_67 : decode cX7_declare 67 = .ok (.iaload, 1) := by decide +kernel
theorem dX7_declare_68 : decode cX7_declare 68 = .ok (.istore 4, 2) := by decide +kernel
theorem dX7_declare_70 : decode cX7_declare 70 = .ok (.iconst 0, 1) := by decide +kernel
theorem dX7_declare_71 : decode cX7_declare 71 = .ok (.istore 5, 2) := by decide +kernel
theorem dX7_declare_73 : decode cX7_declare 73 = .ok (.iload 5, 2) := by decide +kernel
theorem dX7_declare_75 : decode cX7_declare 75 = .ok (.iconst 3, 1) := by decide +kernel
theorem dX7_declare_76 : decode cX7_declare 76 = .ok (.if_icmp .ge 43, 3) := by decide +kernel
theorem dX7_declare_79 : decode cX7_declare 79 = .ok (.aload_n 0, 1) := by decide +kernel
theorem dX7_declare_80 : decode cX7_declare 80 = .ok (.getfield 7, 3) := by decide +kernel
theorem dX7_declare_83 : decode cX7_declare 83 = .ok (.iconst 2, 1) := by decide +kernel
theorem dX7_declare_84 : decode cX7_declare 84 = .ok (.iconst 3, 1) := by decide +kernel
theorem dX7_declare_85 : decode cX7_declare 85 = .ok (.iload 4, 2) := by decide +kernel
theorem dX7_declare_87 : decode cX7_declare 87 = .ok (.imul, 1) := by decide +kernel
theorem dX7_declare_88 : decode cX7_declare 88 = .ok (.iadd, 1) := by decide +kernel
theorem dX7_declare_89 : decode cX7_declare 89 = .ok (.iload 5, 2) := by decide +kernel
theorem dX7_declare_91 : decode cX7_declare 91 = .ok (.iadd, 1) := by decide +kernel
theorem dX7_declare_92 : decode cX7_declare 92 = .ok (.iload 5, 2) := by decide +kernel
theorem dX7_declare_94 : decode cX7_declare 94 = .ok (.aload_n 0, 1) := by decide +kernel
theorem dX7_declare_95 : decode cX7_declare 95 = .ok (.getfield 64, 3) := by decide +kernel
theorem dX7_declare_98 : decode cX7_declare 98 = .ok (.if_icmp .ge 13, 3) := by decide +kernel
theorem dX7_declare_101 : decode cX7_declare 101 = .ok (.aload_n 0, 1) := by decide +kernel
theorem dX7_declare_102 : decode cX7_declare 102 = .ok (.getfield 19, 3) := by decide +kernel
theorem dX7_declare_105 : decode cX7_declare 105 = .ok (.iload 5, 2) := by decide +kernel
theorem dX7_declare_107 : decode cX7_declare 107 = .ok (.iaload, 1) := by decide +kernel
theorem dX7_declare_108 : decode cX7_declare 108 = .ok (.goto 4, 3) := by decide +kernel
theorem dX7_declare_111 : decode cX7_declare 111 = .ok (.iconst 0, 1) := by decide +kernel
theorem dX7_declare_112 : decode cX7_declare 112 = .ok (.iastore, 1) := by decide +kernel
theorem dX7_declare_113 : decode cX7_declare 113 = .ok (.iinc 5 1, 3) := by decide +kernel
theorem dX7_declare_116 : decode cX7_declare 116 = .ok (.goto (-43), 3) := by decide +kernel
theorem dX7_declare_119 : decode cX7_declare 119 = .ok (.aload_n 0, 1) := by decide +kernel
theorem dX7_declare_120 : decode cX7_declare 120 = .ok (.getfield 7, 3) := by decide +kernel
theorem dX7_declare_123 : decode cX7_declare 123 = .ok (.bipush 20, 2) := by decide +kernel
theorem dX7_declare_125 : decode cX7_declare 125 = .ok (.iload 4, 2) := by decide +kernel
theorem dX7_declare_127 : decode cX7_declare 127 = .ok (.iadd, 1) := by decide +kernel
theorem dX7_declare_128 : decode cX7_declare 128 = .ok (.iload_n 1, 1) := by decide +kernel
theorem dX7_declare_129 : decode cX7_declare 129 = .ok (.iastore, 1) := by decide +kernel
theorem dX7_declare_130 : decode cX7_declare 130 = .ok (.aload_n 0, 1) := by decide +kernel
theorem dX7_declare_131 : decode cX7_declare 131 = .ok (.getfield 7, 3) := by decide +kernel
theorem dX7_declare_134 : decode cX7_declare 134 = .ok (.bipush 26, 2) := by decide +kernel
theorem dX7_declare_136 : decode cX7_declare 136 = .ok (.iload 4, 2) := by decide +kernel
theorem dX7_declare_138 : decode cX7_declare 138 = .ok (.iadd, 1) := by decide +kernel
theorem dX7_declare_139 : decode cX7_declare 139 = .ok (.iload_n 2, 1) := by decide +kernel
theorem dX7_declare_140 : decode cX7_declare 140 = .ok (.iastore, 1) := by decide +kernel
theorem dX7_declare_141 : decode cX7_declare 141 = .ok (.aload_n 0, 1) := by decide +kernel
theorem dX7_declare_142 : decode cX7_declare 142 = .ok (.getfield 7, 3) := by decide +kernel
theorem dX7_declare_145 : decode cX7_declare 145 = .ok (.bipush 32, 2) := by decide +kernel
theorem dX7_declare_147 : decode cX7_declare 147 = .ok (.iload 4, 2) := by decide +kernel
theorem dX7_declare_149 : decode cX7_declare 149 = .ok (.iadd, 1) := by decide +kernel
theorem dX7_declare_150 : decode cX7_declare 150 = .ok (.iload_n 3, 1) := by decide +kernel
theorem dX7_declare_151 : decode cX7_declare 151 = .ok (.iastore, 1) := by decide +kernel
theorem dX7_declare_152 : decode cX7_declare 152 = .ok (.aload_n 0, 1) := by decide +kernel
theorem dX7_declare_153 : decode cX7_declare 153 = .ok (.getfield 7, 3) := by decide +kernel
theorem dX7_declare_156 : decode cX7_declare 156 = .ok (.bipush 38, 2) := by decide +kernel
theorem dX7_declare_158 : decode cX7_declare 158 = .ok (.iload 4, 2) := by decide +kernel
theorem dX7_declare_160 : decode cX7_declare 160 = .ok (.iadd, 1) := by decide +kernel
theorem dX7_declare_161 : decode cX7_declare 161 = .ok (.iconst 0, 1) := by decide +kernel
theorem dX7_declare_162 : decode cX7_declare 162 = .ok (.iastore, 1) := by decide +kernel
theorem dX7_declare_163 : decode cX7_declare 163 = .ok (.aload_n 0, 1) := by decide +kernel
theorem dX7_declare_164 : decode cX7_declare 164 = .ok (.getfield 7, 3) := by decide +kernel
theorem dX7_declare_167 : decode cX7_declare 167 = .ok (.bipush 44, 2) := by decide +kernel
theorem dX7_declare_169 : decode cX7_declare 169 = .ok (.iload 4, 2) := by decide +kernel
theorem dX7_declare_171 : decode cX7_declare 171 = .ok (.iadd, 1) := by decide +kernel
theorem dX7_declare_172 : decode cX7_declare 172 = .ok (.iconst 0, 1) := by decide +kernel
theorem dX7_declare_173 : decode cX7_declare 173 = .ok (.iastore, 1) := by decide +kernel
theorem dX7_declare_174 : decode cX7_declare 174 = .ok (.aload_n 0, 1) := by decide +kernel
theorem dX7_declare_175 : decode cX7_declare 175 = .ok (.getfield 7, 3) := by decide +kernel
theorem dX7_declare_178 : decode cX7_declare 178 = .ok (.iconst 0, 1) := by decide +kernel
theorem dX7_declare_179 : decode cX7_declare 179 = .ok (.dup2, 1) := by decide +kernel
theorem dX7_declare_180 : decode cX7_declare 180 = .ok (.iaload, 1) := by decide +kernel
theorem dX7_declare_181 : decode cX7_declare 181 = .ok (.iconst 1, 1) := by decide +kernel
theorem dX7_declare_182 : decode cX7_declare 182 = .ok (.iadd, 1) := by decide +kernel
theorem dX7_declare_183 : decode cX7_declare 183 = .ok (.iastore, 1) := by decide +kernel
theorem dX7_declare_184 : decode cX7_declare 184 = .ok (.iload 4, 2) := by decide +kernel
theorem dX7_declare_186 : decode cX7_declare 186 = .ok (.ireturn, 1) := by decide +kernel
theorem dX7_old_0 : decode cX7_old 0 = .ok (.aload_n 0, 1) := by decide +kernel
theorem dX7_old_1 : decode cX7_old 1 = .ok (.getfield 13, 3) := by decide +kernel
theorem dX7_old_4 : decode cX7_old 4 = .ok (.bipush 50, 2) := by decide +kernel
theorem dX7_old_6 : decode cX7_old 6 = .ok (.aload_n 0, 1) := by decide +kernel
theorem dX7_old_7 : decode cX7_old 7 = .ok (.getfield 52, 3) := by decide +kernel
theorem dX7_old_10 : decode cX7_old 10 = .ok (.iconst 1, 1) := by decide +kernel
theorem dX7_old_11 : decode cX7_old 11 = .ok (.isub, 1) := by decide +kernel
theorem dX7_old_12 : decode cX7_old 12 = .ok (.imul, 1) := by decide +kernel
theorem dX7_old_13 : decode cX7_old 13 = .ok (.iload_n 1, 1) := by decide +kernel
theorem dX7_old_14 : decode cX7_old 14 = .ok (.iadd, 1) := by decide +kernel
theorem dX7_old_15 : decode cX7_old 15 = .ok (.iaload, 1) := by decide +kernel
theorem dX7_old_16 : decode cX7_old 16 = .ok (.ireturn, 1) := by decide +kernel
theorem dX7_renamed_0 : decode cX7_renamed 0 = .ok (.iconst 0, 1) := by decide +kernel
theorem dX7_renamed_1 : decode cX7_renamed 1 = .ok (.istore_n 3, 1) := by decide +kernel
theorem dX7_renamed_2 : decode cX7_renamed 2 = .ok (.iconst 0, 1) := by decide +kernel
theorem dX7_renamed_3 : decode cX7_renamed 3 = .ok (.istore 4, 2) := by decide +kernel
theorem dX7_renamed_5 : decode cX7_renamed 5 = .ok (.iload 4, 2) := by decide +kernel
theorem dX7_renamed_7 : decode cX7_renamed 7 = .ok (.iload_n 2, 1) := by decide +kernel
theorem dX7_renamed_8 : decode cX7_renamed 8 = .ok (.if_icmp .ge 34, 3) := by decide +kernel
theorem dX7_renamed_11 : decode cX7_renamed 11 = .ok (.iload_n 3, 1) := by decide +kernel
theorem dX7_renamed_12 : decode cX7_renamed 12 = .ok (.iload_n 1, 1) := by decide +kernel
theorem dX7_renamed_13 : decode cX7_renamed 13 = .ok (.aload_n 0, 1) := by decide +kernel
theorem dX7_renamed_14 : decode cX7_renamed 14 = .ok (.getfield 22, 3) := by decide +kernel
theorem dX7_renamed_17 : decode cX7_renamed 17 = .ok (.iload 4, 2) := by decide +kernel
theorem dX7_renamed_19 : decode cX7_renamed 19 = .ok (.iaload, 1) := by decide +kernel
theorem dX7_renamed_20 : decode cX7_renamed 20 = .ok (.invokestatic 89, 3) := by decide +kernel
theorem dX7_renamed_23 : decode cX7_renamed 23 = .ok (.ifCond .eq 10, 3) := by decide +kernel
theorem dX7_renamed_26 : decode cX7_renamed 26 = .ok (.iconst 1, 1) := by decide +kernel
theorem dX7_renamed_27 : decode cX7_renamed 27 = .ok (.iload 4, 2) := by decide +kernel
theorem dX7_renamed_29 : decode cX7_renamed 29 = .ok (.ishl, 1) := by decide +kernel
theorem dX7_renamed_30 : decode cX7_renamed 30 = .ok (.goto 4, 3) := by decide +kernel
theorem dX7_renamed_33 : decode cX7_renamed 33 = .ok (.iconst 0, 1) := by decide +kernel
theorem dX7_renamed_34 : decode cX7_renamed 34 = .ok (.ior, 1) := by decide +kernel
theorem dX7_renamed_35 : decode cX7_renamed 35 = .ok (.istore_n 3, 1) := by decide +kernel
theorem dX7_renamed_36 : decode cX7_renamed 36 = .ok (.iinc 4 1, 3) := by decide +kernel
theorem dX7_renamed_39 : decode cX7_renamed 39 = .ok (.goto (-34), 3) := by decide +kernel
theorem dX7_renamed_42 : decode cX7_renamed 42 = .ok (.iload_n 3, 1) := by decide +kernel
theorem dX7_renamed_43 : decode cX7_renamed 43 = .ok (.ireturn, 1) := by decide +kernel
theorem dX7_arrange_0 : decode cX7_arrange 0 = .ok (.iconst 0, 1) := by decide +kernel
theorem dX7_arrange_1 : decode cX7_arrange 1 = .ok (.istore_n 2, 1) := by decide +kernel
theorem dX7_arrange_2 : decode cX7_arrange 2 = .ok (.iload_n 2, 1) := by decide +kernel
theorem dX7_arrange_3 : decode cX7_arrange 3 = .ok (.iload_n 1, 1) := by decide +kernel
theorem dX7_arrange_4 : decode cX7_arrange 4 = .ok (.if_icmp .ge 146, 3) := by decide +kernel
theorem dX7_arrange_7 : decode cX7_arrange 7 = .ok (.aload_n 0, 1) := by decide +kernel
theorem dX7_arrange_8 : decode cX7_arrange 8 = .ok (.getfield 22, 3) := by decide +kernel
theorem dX7_arrange_11 : decode cX7_arrange 11 = .ok (.iload_n 2, 1) := by decide +kernel
theorem dX7_arrange_12 : decode cX7_arrange 12 = .ok (.iaload, 1) := by decide +kernel
theorem dX7_arrange_13 : decode cX7_arrange 13 = .ok (.istore_n 3, 1) := by decide +kernel
theorem dX7_arrange_14 : decode cX7_arrange 14 = .ok (.iconst 0, 1) := by decide +kernel
theorem dX7_arrange_15 : decode cX7_arrange 15 = .ok (.istore 4, 2) := by decide +kernel
theorem dX7_arrange_17 : decode cX7_arrange 17 = .ok (.iload 4, 2) := by decide +kernel
theorem dX7_arrange_19 : decode cX7_arrange 19 = .ok (.iconst 3, 1) := by decide +kernel
theorem dX7_arrange_20 : decode cX7_arrange 20 = .ok (.if_icmp .ge 34, 3) := by decide +kernel
theorem dX7_arrange_23 : decode cX7_arrange 23 = .ok (.aload_n 0, 1) := by decide +kernel
theorem dX7_arrange_24 : decode cX7_arrange 24 = .ok (.getfield 7, 3) := by decide +kernel
theorem dX7_arrange_27 : decode cX7_arrange 27 = .ok (.iconst 2, 1) := by decide +kernel
theorem dX7_arrange_28 : decode cX7_arrange 28 = .ok (.iconst 3, 1) := by decide +kernel
theorem dX7_arrange_29 : decode cX7_arrange 29 = .ok (.iload_n 2, 1) := by decide +kernel
theorem dX7_arrange_30 : decode cX7_arrange 30 = .ok (.imul, 1) := by decide +kernel
theorem dX7_arrange_31 : decode cX7_arrange 31 = .ok (.iadd, 1) := by decide +kernel
theorem dX7_arrange_32 : decode cX7_arrange 32 = .ok (.iload 4, 2) := by decide +kernel
theorem dX7_arrange_34 : decode cX7_arrange 34 = .ok (.iadd, 1) := by decide +kernel
theorem dX7_arrange_35 : decode cX7_arrange 35 = .ok (.aload_n 0, 1) := by decide +kernel
theorem dX7_arrange_36 : decode cX7_arrange 36 = .ok (.iconst 2, 1) := by decide +kernel
theorem dX7_arrange_37 : decode cX7_arrange 37 = .ok (.iconst 3, 1) := by decide +kernel
theorem dX7_arrange_38 : decode cX7_arrange 38 = .ok (.iload_n 3, 1) := by decide +kernel
theorem dX7_arrange_39 : decode cX7_arrange 39 = .ok (.imul, 1) := by decide +kernel
theorem dX7_arrange_40 : decode cX7_arrange 40 = .ok (.iadd, 1) := by decide +kernel
theorem dX7_arrange_41 : decode cX7_arrange 41 = .ok (.iload 4, 2) := by decide +kernel
theorem dX7_arrange_43 : decode cX7_arrange 43 = .ok (.iadd, 1) := by decide +kernel
theorem dX7_arrange_44 : decode cX7_arrange 44 = .ok (.invokevirtual 93, 3) := by decide +kernel
theorem dX7_arrange_47 : decode cX7_arrange 47 = .ok (.iastore, 1) := by decide +kernel
theorem dX7_arrange_48 : decode cX7_arrange 48 = .ok (.iinc 4 1, 3) := by decide +kernel
theorem dX7_arrange_51 : decode cX7_arrange 51 = .ok (.goto (-34), 3) := by decide +kernel
theorem dX7_arrange_54 : decode cX7_arrange 54 = .ok (.aload_n 0, 1) := by decide +kernel
theorem dX7_arrange_55 : decode cX7_arrange 55 = .ok (.getfield 7, 3) := by decide +kernel
theorem dX7_arrange_58 : decode cX7_arrange 58 = .ok (.bipush 20, 2) := by decide +kernel
theorem dX7_arrange_60 : decode cX7_arrange 60 = .ok (.iload_n 2, 1) := by decide +kernel
theorem dX7_arrange_61 : decode cX7_arrange 61 = .ok (.iadd, 1) := by decide +kernel
theorem dX7_arrange_62 : decode cX7_arrange 62 = .ok (.aload_n 0, 1) := by decide +kernel
theorem dX7_arrange_63 : decode cX7_arrange 63 = .ok (.bipush 20, 2) := by decide +kernel
theorem dX7_arrange_65 : decode cX7_arrange 65 = .ok (.iload_n 3, 1) := by decide +kernel
theorem dX7_arrange_66 : decode cX7_arrange 66 = .ok (.iadd, 1) := by decide +kernel
theorem dX7_arrange_67 : decode cX7_arrange 67 = .ok (.invokevirtual 93, 3) := by decide +kernel
theorem dX7_arrange_70 : decode cX7_arrange 70 = .ok (.iastore, 1) := by decide +kernel
theorem dX7_arrange_71 : decode cX7_arrange 71 = .ok (.aload_n 0, 1) := by decide +kernel
theorem dX7_arrange_72 : decode cX7_arrange 72 = .ok (.getfield 7, 3) := by decide +kernel
theorem dX7_arrange_75 : decode cX7_arrange 75 = .ok (.bipush 26, 2) := by decide +kernel
theorem dX7_arrange_77 : decode cX7_arrange 77 = .ok (.iload_n 2, 1) := by decide +kernel
theorem dX7_arrange_78 : decode cX7_arrange 78 = .ok (.iadd, 1) := by decide +kernel
theorem dX7_arrange_79 : decode cX7_arrange 79 = .ok (.aload_n 0, 1) := by decide +kernel
theorem dX7_arrange_80 : decode cX7_arrange 80 = .ok (.bipush 26, 2) := by decide +kernel
theorem dX7_arrange_82 : decode cX7_arrange 82 = .ok (.iload_n 3, 1) := by decide +kernel
theorem dX7_arrange_83 : decode cX7_arrange 83 = .ok (.iadd, 1) := by decide +kernel
theorem dX7_arrange_84 : decode cX7_arrange 84 = .ok (.invokevirtual 93, 3) := by decide +kernel
theorem dX7_arrange_87 : decode cX7_arrange 87 = .ok (.iastore, 1) := by decide +kernel
theorem dX7_arrange_88 : decode cX7_arrange 88 = .ok (.aload_n 0, 1) := by decide +kernel
theorem dX7_arrange_89 : decode cX7_arrange 89 = .ok (.getfield 7, 3) := by decide +kernel
theorem dX7_arrange_92 : decode cX7_arrange 92 = .ok (.bipush 32, 2) := by decide +kernel
theorem dX7_arrange_94 : decode cX7_arrange 94 = .ok (.iload_n 2, 1) := by decide +kernel
theorem dX7_arrange_95 : decode cX7_arrange 95 = .ok (.iadd, 1) := by decide +kernel
theorem dX7_arrange_96 : decode cX7_arrange 96 = .ok (.aload_n 0, 1) := by decide +kernel
theorem dX7_arrange_97 : decode cX7_arrange 97 = .ok (.bipush 32, 2) := by decide +kernel
theorem dX7_arrange_99 : decode cX7_arrange 99 = .ok (.iload_n 3, 1) := by decide +kernel
theorem dX7_arrange_100 : decode cX7_arrange 100 = .ok (.iadd, 1) := by decide +kernel
theorem dX7_arrange_101 : decode cX7_arrange 101 = .ok (.invokevirtual 93, 3) := by decide +kernel
theorem dX7_arrange_104 : decode cX7_arrange 104 = .ok (.iastore, 1) := by decide +kernel
theorem dX7_arrange_105 : decode cX7_arrange 105 = .ok (.aload_n 0, 1) := by decide +kernel
theorem dX7_arrange_106 : decode cX7_arrange 106 = .ok (.getfield 7, 3) := by decide +kernel
theorem dX7_arrange_109 : decode cX7_arrange 109 = .ok (.bipush 38, 2) := by decide +kernel
theorem dX7_arrange_111 : decode cX7_arrange 111 = .ok (.iload_n 2, 1) := by decide +kernel
theorem dX7_arrange_112 : decode cX7_arrange 112 = .ok (.iadd, 1) := by decide +kernel
theorem dX7_arrange_113 : decode cX7_arrange 113 = .ok (.aload_n 0, 1) := by decide +kernel
theorem dX7_arrange_114 : decode cX7_arrange 114 = .ok (.bipush 38, 2) := by decide +kernel
theorem dX7_arrange_116 : decode cX7_arrange 116 = .ok (.iload_n 3, 1) := by decide +kernel
theorem dX7_arrange_117 : decode cX7_arrange 117 = .ok (.iadd, 1) := by decide +kernel
theorem dX7_arrange_118 : decode cX7_arrange 118 = .ok (.invokevirtual 93, 3) := by decide +kernel
theorem dX7_arrange_121 : decode cX7_arrange 121 = .ok (.iastore, 1) := by decide +kernel
theorem dX7_arrange_122 : decode cX7_arrange 122 = .ok (.aload_n 0, 1) := by decide +kernel
theorem dX7_arrange_123 : decode cX7_arrange 123 = .ok (.getfield 7, 3) := by decide +kernel
theorem dX7_arrange_126 : decode cX7_arrange 126 = .ok (.bipush 44, 2) := by decide +kernel
theorem dX7_arrange_128 : decode cX7_arrange 128 = .ok (.iload_n 2, 1) := by decide +kernel
theorem dX7_arrange_129 : decode cX7_arrange 129 = .ok (.iadd, 1) := by decide +kernel
theorem dX7_arrange_130 : decode cX7_arrange 130 = .ok (.aload_n 0, 1) := by decide +kernel
theorem dX7_arrange_131 : decode cX7_arrange 131 = .ok (.aload_n 0, 1) := by decide +kernel
theorem dX7_arrange_132 : decode cX7_arrange 132 = .ok (.bipush 44, 2) := by decide +kernel
theorem dX7_arrange_134 : decode cX7_arrange 134 = .ok (.iload_n 3, 1) := by decide +kernel
theorem dX7_arrange_135 : decode cX7_arrange 135 = .ok (.iadd, 1) := by decide +kernel
theorem dX7_arrange_136 : decode cX7_arrange 136 = .ok (.invokevirtual 93, 3) := by decide +kernel
theorem dX7_arrange_139 : decode cX7_arrange 139 = .ok (.iload_n 1, 1) := by decide +kernel
theorem dX7_arrange_140 : decode cX7_arrange 140 = .ok (.invokevirtual 96, 3) := by decide +kernel
theorem dX7_arrange_143 : decode cX7_arrange 143 = .ok (.iastore, 1) := by decide +kernel
theorem dX7_arrange_144 : decode cX7_arrange 144 = .ok (.iinc 2 1, 3) := by decide +kernel
theorem dX7_arrange_147 : decode cX7_arrange 147 = .ok (.goto (-145), 3) := by decide +kernel
theorem dX7_arrange_150 : decode cX7_arrange 150 = .ok (.aload_n 0, 1) := by decide +kernel
theorem dX7_arrange_151 : decode cX7_arrange 151 = .ok (.getfield 7, 3) := by decide +kernel
theorem dX7_arrange_154 : decode cX7_arrange 154 = .ok (.iconst 0, 1) := by decide +kernel
theorem dX7_arrange_155 : decode cX7_arrange 155 = .ok (.iload_n 1, 1) := by decide +kernel
theorem dX7_arrange_156 : decode cX7_arrange 156 = .ok (.iastore, 1) := by decide +kernel
theorem dX7_arrange_157 : decode cX7_arrange 157 = .ok (.return_, 1) := by decide +kernel
theorem dX7_remove_0 : decode cX7_remove 0 = .ok (.aload_n 0, 1) := by decide +kernel
theorem dX7_remove_1 : decode cX7_remove 1 = .ok (.iload_n 1, 1) := by decide +kernel
theorem dX7_remove_2 : decode cX7_remove 2 = .ok (.invokevirtual 99, 3) := by decide +kernel
theorem dX7_remove_5 : decode cX7_remove 5 = .ok (.ifCond .ne 5, 3) := by decide +kernel
theorem dX7_remove_8 : decode cX7_remove 8 = .ok (.iconst (-1), 1) := by decide +kernel
theorem dX7_remove_9 : decode cX7_remove 9 = .ok (.ireturn, 1) := by decide +kernel
theorem dX7_remove_10 : decode cX7_remove 10 = .ok (.aload_n 0, 1) := by decide +kernel
theorem dX7_remove_11 : decode cX7_remove 11 = .ok (.invokevirtual 86, 3) := by decide +kernel
theorem dX7_remove_14 : decode cX7_remove 14 = .ok (.aload_n 0, 1) := by decide +kernel
theorem dX7_remove_15 : decode cX7_remove 15 = .ok (.getfield 7, 3) := by decide +kernel
theorem dX7_remove_18 : decode cX7_remove 18 = .ok (.iconst 0, 1) := by decide +kernel
theorem dX7_remove_19 : decode cX7_remove 19 = .ok (.iaload, 1) := by decide +kernel
theorem dX7_remove_20 : decode cX7_remove 20 = .ok (.iconst 1, 1) := by decide +kernel
theorem dX7_remove_21 : decode cX7_remove 21 = .ok (.isub, 1) := by decide +kernel
theorem dX7_remove_22 : decode cX7_remove 22 = .ok (.istore_n 2, 1) := by decide +kernel
theorem dX7_remove_23 : decode cX7_remove 23 = .ok (.iconst 0, 1) := by decide +kernel
theorem dX7_remove_24 : decode cX7_remove 24 = .ok (.istore_n 3, 1) := by decide +kernel
theorem dX7_remove_25 : decode cX7_remove 25 = .ok (.iload_n 3, 1) := by decide +kernel
theorem dX7_remove_26 : decode cX7_remove 26 = .ok (.iload_n 2, 1) := by decide +kernel
theorem dX7_remove_27 : decode cX7_remove 27 = .ok (.if_icmp .ge 27, 3) := by decide +kernel
theorem dX7_remove_30 : decode cX7_remove 30 = .ok (.aload_n 0, 1) := by decide +kernel
theorem dX7_remove_31 : decode cX7_remove 31 = .ok (.getfield 22, 3) := by decide +kernel
theorem dX7_remove_34 : decode cX7_remove 34 = .ok (.iload_n 3, 1) := by decide +kernel
theorem dX7_remove_35 : decode cX7_remove 35 = .ok (.iload_n 3, 1) := by decide +kernel
theorem dX7_remove_36 : decode cX7_remove 36 = .ok (.iload_n 1, 1) := by decide +kernel
theorem dX7_remove_37 : decode cX7_remove 37 = .ok (.if_icmp .ge 7, 3) := by decide +kernel
theorem dX7_remove_40 : decode cX7_remove 40 = .ok (.iload_n 3, 1) := by decide +kernel
theorem dX7_remove_41 : decode cX7_remove 41 = .ok (.goto 6, 3) := by decide +kernel
theorem dX7_remove_44 : decode cX7_remove 44 = .ok (.iload_n 3, 1) := by decide +kernel
theorem dX7_remove_45 : decode cX7_remove 45 = .ok (.iconst 1, 1) := by decide +kernel
theorem dX7_remove_46 : decode cX7_remove 46 = .ok (.iadd, 1) := by decide +kernel
theorem dX7_remove_47 : decode cX7_remove 47 = .ok (.iastore, 1) := by decide +kernel
theorem dX7_remove_48 : decode cX7_remove 48 = .ok (.iinc 3 1, 3) := by decide +kernel
theorem dX7_remove_51 : decode cX7_remove 51 = .ok (.goto (-26), 3) := by decide +kernel
theorem dX7_remove_54 : decode cX7_remove 54 = .ok (.aload_n 0, 1) := by decide +kernel
theorem dX7_remove_55 : decode cX7_remove 55 = .ok (.iload_n 2, 1) := by decide +kernel
theorem dX7_remove_56 : decode cX7_remove 56 = .ok (.invokevirtual 102, 3) := by decide +kernel
theorem dX7_remove_59 : decode cX7_remove 59 = .ok (.iload_n 2, 1) := by decide +kernel
theorem dX7_remove_60 : decode cX7_remove 60 = .ok (.ireturn, 1) := by decide +kernel
theorem dX7_set_0 : decode cX7_set 0 = .ok (.aload_n 0, 1) := by decide +kernel
theorem dX7_set_1 : decode cX7_set 1 = .ok (.iload_n 1, 1) := by decide +kernel
theorem dX7_set_2 : decode cX7_set 2 = .ok (.invokevirtual 99, 3) := by decide +kernel
theorem dX7_set_5 : decode cX7_set 5 = .ok (.ifCond .eq 12, 3) := by decide +kernel
theorem dX7_set_8 : decode cX7_set 8 = .ok (.iload_n 2, 1) := by decide +kernel
theorem dX7_set_9 : decode cX7_set 9 = .ok (.iconst 0, 1) := by decide +kernel
theorem dX7_set_10 : decode cX7_set 10 = .ok (.iconst 3, 1) := by decide +kernel
theorem dX7_set_11 : decode cX7_set 11 = .ok (.invokestatic 60, 3) := by decide +kernel
theorem dX7_set_14 : decode cX7_set 14 = .ok (.ifCond .ne 5, 3) := by decide +kernel
theorem dX7_set_17 : decode cX7_set 17 = .ok (.iconst (-1), 1) := by decide +kernel
theorem dX7_set_18 : decode cX7_set 18 = .ok (.ireturn, 1) := by decide +kernel
theorem dX7_set_19 : decode cX7_set 19 = .ok (.iload_n 2, 1) := by decide +kernel
theorem dX7_set_20 : decode cX7_set 20 = .ok (.ifCond .ne 12, 3) := by decide +kernel
theorem dX7_set_23 : decode cX7_set 23 = .ok (.iload_n 3, 1) := by decide +kernel
theorem dX7_set_24 : decode cX7_set 24 = .ok (.iconst 0, 1) := by decide +kernel
theorem dX7_set_25 : decode cX7_set 25 = .ok (.iconst 2, 1) := by decide +kernel
theorem dX7_set_26 : decode cX7_set 26 = .ok (.invokestatic 60, 3) := by decide +kernel
theorem dX7_set_29 : decode cX7_set 29 = .ok (.goto 68, 3) := by decide +kernel
theorem dX7_set_32 : decode cX7_set 32 = .ok (.iload_n 2, 1) := by decide +kernel
theorem dX7_set_33 : decode cX7_set 33 = .ok (.iconst 1, 1) := by decide +kernel
theorem dX7_set_34 : decode cX7_set 34 = .ok (.if_icmp .ne 20, 3) := by decide +kernel
theorem dX7_set_37 : decode cX7_set 37 = .ok (.iload_n 3, 1) := by decide +kernel
theorem dX7_set_38 : decode cX7_set 38 = .ok (.iconst 0, 1) := by decide +kernel
theorem dX7_set_39 : decode cX7_set 39 = .ok (.aload_n 0, 1) := by decide +kernel
theorem dX7_set_40 : decode cX7_set 40 = .ok (.getfield 7, 3) := by decide +kernel
theorem dX7_set_43 : decode cX7_set 43 = .ok (.bipush 32, 2) := by decide +kernel
theorem dX7_set_45 : decode cX7_set 45 = .ok (.iload_n 1, 1) := by decide +kernel
theorem dX7_set_46 : decode cX7_set 46 = .ok (.iadd, 1) := by decide +kernel
theorem dX7_set_47 : decode cX7_set 47 = .ok (.iaload, 1) := by decide +kernel
theorem dX7_set_48 : decode cX7_set 48 = .ok (.invokestatic 60, 3) := by decide +kernel
theorem dX7_set_51 : decode cX7_set 51 = .ok (.goto 46, 3) := by decide +kernel
theorem dX7_set_54 : decode cX7_set 54 = .ok (.iload_n 2, 1) := by decide +kernel
theorem dX7_set_55 : decode cX7_set 55 = .ok (.iconst 2, 1) := by decide +kernel
theorem dX7_set_56 : decode cX7_set 56 = .ok (.if_icmp .ne 33, 3) := by decide +kernel
theorem dX7_set_59 : decode cX7_set 59 = .ok (.iload_n 3, 1) := by decide +kernel
theorem dX7_set_60 : decode cX7_set 60 = .ok (.iconst 1, 1) := by decide +kernel
theorem dX7_set_61 : decode cX7_set 61 = .ok (.iconst 3, 1) := by decide +kernel
theorem dX7_set_62 : decode cX7_set 62 = .ok (.invokestatic 60, 3) := by decide +kernel
theorem dX7_set_65 : decode cX7_set 65 = .ok (.ifCond .eq 20, 3) := by decide +kernel
theorem dX7_set_68 : decode cX7_set 68 = .ok (.iload_n 3, 1) := by decide +kernel
theorem dX7_set_69 : decode cX7_set 69 = .ok (.aload_n 0, 1) := by decide +kernel
theorem dX7_set_70 : decode cX7_set 70 = .ok (.getfield 7, 3) := by decide +kernel
theorem dX7_set_73 : decode cX7_set 73 = .ok (.bipush 26, 2) := by decide +kernel
theorem dX7_set_75 : decode cX7_set 75 = .ok (.iload_n 1, 1) := by decide +kernel
theorem dX7_set_76 : decode cX7_set 76 = .ok (.iadd, 1) := by decide +kernel
theorem dX7_set_77 : decode cX7_set 77 = .ok (.iaload, 1) := by decide +kernel
theorem dX7_set_78 : decode cX7_set 78 = .ok (.if_icmp .lt 7, 3) := by decide +kernel
theorem dX7_set_81 : decode cX7_set 81 = .ok (.iconst 1, 1) := by decide +kernel
theorem dX7_set_82 : decode cX7_set 82 = .ok (.goto 15, 3) := by decide +kernel
theorem dX7_set_85 : decode cX7_set 85 = .ok (.iconst 0, 1) := by decide +kernel
theorem dX7_set_86 : decode cX7_set 86 = .ok (.goto 11, 3) := by decide +kernel
theorem dX7_set_89 : decode cX7_set 89 = .ok (.iload_n 3, 1) := by decide +kernel
theorem dX7_set_90 : decode cX7_set 90 = .ok (.iconst 0, 1) := by decide +kernel
theorem dX7_set_91 : decode cX7_set 91 = .ok (.sipush 999, 3) := by decide +kernel
theorem dX7_set_94 : decode cX7_set 94 = .ok (.invokestatic 60, 3) := by decide +kernel
theorem dX7_set_97 : decode cX7_set 97 = .ok (.istore 4, 2) := by decide +kernel
theorem dX7_set_99 : decode cX7_set 99 = .ok (.iload 4, 2) := by decide +kernel
theorem dX7_set_101 : decode cX7_set 101 = .ok (.ifCond .ne 5, 3) := by decide +kernel
theorem dX7_set_104 : decode cX7_set 104 = .ok (.iconst (-1), 1) := by decide +kernel
theorem dX7_set_105 : decode cX7_set 105 = .ok (.ireturn, 1) := by decide +kernel
theorem dX7_set_106 : decode cX7_set 106 = .ok (.aload_n 0, 1) := by decide +kernel
theorem dX7_set_107 : decode cX7_set 107 = .ok (.invokevirtual 86, 3) := by decide +kernel
theorem dX7_set_110 : decode cX7_set 110 = .ok (.bipush 20, 2) := by decide +kernel
theorem dX7_set_112 : decode cX7_set 112 = .ok (.bipush 6, 2) := by decide +kernel
theorem dX7_set_114 : decode cX7_set 114 = .ok (.iload_n 2, 1) := by decide +kernel
theorem dX7_set_115 : decode cX7_set 115 = .ok (.imul, 1) := by decide +kernel
theorem dX7_set_116 : decode cX7_set 116 = .ok (.iadd, 1) := by decide +kernel
theorem dX7_set_117 : decode cX7_set 117 = .ok (.iload_n 1, 1) := by decide +kernel
theorem dX7_set_118 : decode cX7_set 118 = .ok (.iadd, 1) := by decide +kernel
theorem dX7_set_119 : decode cX7_set 119 = .ok (.istore 5, 2) := by decide +kernel
theorem dX7_set_121 : decode cX7_set 121 = .ok (.aload_n 0, 1) := by decide +kernel
theorem dX7_set_122 : decode cX7_set 122 = .ok (.getfield 7, 3) := by decide +kernel
theorem dX7_set_125 : decode cX7_set 125 = .ok (.iload 5, 2) := by decide +kernel
theorem dX7_set_127 : decode cX7_set 127 = .ok (.iaload, 1) := by decide +kernel
theorem dX7_set_128 : decode cX7_set 128 = .ok (.istore 6, 2) := by decide +kernel
theorem dX7_set_130 : decode cX7_set 130 = .ok (.aload_n 0, 1) := by decide +kernel
theorem dX7_set_131 : decode cX7_set 131 = .ok (.getfield 7, 3) := by decide +kernel
theorem dX7_set_134 : decode cX7_set 134 = .ok (.iload 5, 2) := by decide +kernel
theorem dX7_set_136 : decode cX7_set 136 = .ok (.iload_n 3, 1) := by decide +kernel
theorem dX7_set_137 : decode cX7_set 137 = .ok (.iastore, 1) := by decide +kernel
theorem dX7_set_138 : decode cX7_set 138 = .ok (.iload 6, 2) := by decide +kernel
theorem dX7_set_140 : decode cX7_set 140 = .ok (.ireturn, 1) := by decide +kernel
theorem dX7_move_0 : decode cX7_move 0 = .ok (.aload_n 0, 1) := by decide +kernel
theorem dX7_move_1 : decode cX7_move 1 = .ok (.iload_n 1, 1) := by decide +kernel
theorem dX7_move_2 : decode cX7_move 2 = .ok (.invokevirtual 99, 3) := by decide +kernel
theorem dX7_move_5 : decode cX7_move 5 = .ok (.ifCond .eq 11, 3) := by decide +kernel
theorem dX7_move_8 : decode cX7_move 8 = .ok (.aload_n 0, 1) := by decide +kernel
theorem dX7_move_9 : decode cX7_move 9 = .ok (.iload_n 2, 1) := by decide +kernel
theorem dX7_move_10 : decode cX7_move 10 = .ok (.invokevirtual 99, 3) := by decide +kernel
theorem dX7_move_13 : decode cX7_move 13 = .ok (.ifCond .ne 5, 3) := by decide +kernel
theorem dX7_move_16 : decode cX7_move 16 = .ok (.iconst (-1), 1) := by decide +kernel
theorem dX7_move_17 : decode cX7_move 17 = .ok (.ireturn, 1) := by decide +kernel
theorem dX7_move_18 : decode cX7_move 18 = .ok (.aload_n 0, 1) := by decide +kernel
theorem dX7_move_19 : decode cX7_move 19 = .ok (.invokevirtual 86, 3) := by decide +kernel
theorem dX7_move_22 : decode cX7_move 22 = .ok (.iconst 0, 1) := by decide +kernel
theorem dX7_move_23 : decode cX7_move 23 = .ok (.istore_n 3, 1) := by decide +kernel
theorem dX7_move_24 : decode cX7_move 24 = .ok (.iconst 0, 1) := by decide +kernel
theorem dX7_move_25 : decode cX7_move 25 = .ok (.istore 4, 2) := by decide +kernel
theorem dX7_move_27 : decode cX7_move 27 = .ok (.iload 4, 2) := by decide +kernel
theorem dX7_move_29 : decode cX7_move 29 = .ok (.aload_n 0, 1) := by decide +kernel
theorem dX7_move_30 : decode cX7_move 30 = .ok (.getfield 7, 3) := by decide +kernel
theorem dX7_move_33 : decode cX7_move 33 = .ok (.iconst 0, 1) := by decide +kernel
theorem dX7_move_34 : decode cX7_move 34 = .ok (.iaload, 1) := by decide +kernel
theorem dX7_move_35 : decode cX7_move 35 = .ok (.if_icmp .ge 49, 3) := by decide +kernel
theorem dX7_move_38 : decode cX7_move 38 = .ok (.iload_n 3, 1) := by decide +kernel
theorem dX7_move_39 : decode cX7_move 39 = .ok (.iload_n 1, 1) := by decide +kernel
theorem dX7_move_40 : decode cX7_move 40 = .ok (.if_icmp .ne 6, 3) := by decide +kernel
theorem dX7_move_43 : decode cX7_move 43 = .ok (.iinc 3 1, 3) := by decide +kernel
theorem dX7_move_46 : decode cX7_move 46 = .ok (.aload_n 0, 1) := by decide +kernel
theorem dX7_move_47 : decode cX7_move 47 = .ok (.getfield 22, 3) := by decide +kernel
theorem dX7_move_50 : decode cX7_move 50 = .ok (.iload 4, 2) := by decide +kernel
theorem dX7_move_52 : decode cX7_move 52 = .ok (.iload 4, 2) := by decide +kernel
theorem dX7_move_54 : decode cX7_move 54 = .ok (.iload_n 2, 1) := by decide +kernel
theorem dX7_move_55 : decode cX7_move 55 = .ok (.if_icmp .ne 7, 3) := by decide +kernel
theorem dX7_move_58 : decode cX7_move 58 = .ok (.iload_n 1, 1) := by decide +kernel
theorem dX7_move_59 : decode cX7_move 59 = .ok (.goto 4, 3) := by decide +kernel
theorem dX7_move_62 : decode cX7_move 62 = .ok (.iload_n 3, 1) := by decide +kernel
theorem dX7_move_63 : decode cX7_move 63 = .ok (.iastore, 1) := by decide +kernel
theorem dX7_move_64 : decode cX7_move 64 = .ok (.iload_n 3, 1) := by decide +kernel
theorem dX7_move_65 : decode cX7_move 65 = .ok (.iload 4, 2) := by decide +kernel
theorem dX7_move_67 : decode cX7_move 67 = .ok (.iload_n 2, 1) := by decide +kernel
theorem dX7_move_68 : decode cX7_move 68 = .ok (.if_icmp .ne 7, 3) := by decide +kernel
theorem dX7_move_71 : decode cX7_move 71 = .ok (.iconst 0, 1) := by decide +kernel
theorem dX7_move_72 : decode cX7_move 72 = .ok (.goto 4, 3) := by decide +kernel
theorem dX7_move_75 : decode cX7_move 75 = .ok (.iconst 1, 1) := by decide +kernel
theorem dX7_move_76 : decode cX7_move 76 = .ok (.iadd, 1) := by decide +kernel
theorem dX7_move_77 : decode cX7_move 77 = .ok (.istore_n 3, 1) := by decide +kernel
theorem dX7_move_78 : decode cX7_move 78 = .ok (.iinc 4 1, 3) := by decide +kernel
theorem dX7_move_81 : decode cX7_move 81 = .ok (.goto (-54), 3) := by decide +kernel
theorem dX7_move_84 : decode cX7_move 84 = .ok (.aload_n 0, 1) := by decide +kernel
theorem dX7_move_85 : decode cX7_move 85 = .ok (.aload_n 0, 1) := by decide +kernel
theorem dX7_move_86 : decode cX7_move 86 = .ok (.getfield 7, 3) := by decide +kernel
theorem dX7_move_89 : decode cX7_move 89 = .ok (.iconst 0, 1) := by decide +kernel
theorem dX7_move_90 : decode cX7_move 90 = .ok (.iaload, 1) := by decide +kernel
theorem dX7_move_91 : decode cX7_move 91 = .ok (.invokevirtual 102, 3) := by decide +kernel
theorem dX7_move_94 : decode cX7_move 94 = .ok (.iload_n 2, 1) := by decide +kernel
theorem dX7_move_95 : decode cX7_move 95 = .ok (.ireturn, 1) := by decide +kernel
theorem dX7_setSeparator_0 : decode cX7_setSeparator 0 = .ok (.iload_n 1, 1) := by decide +kernel
theorem dX7_setSeparator_1 : decode cX7_setSeparator 1 = .ok (.ifCond .eq 16, 3) := by decide +kernel
theorem dX7_setSeparator_4 : decode cX7_setSeparator 4 = .ok (.iload_n 1, 1) := by decide +kernel
theorem dX7_setSeparator_5 : decode cX7_setSeparator 5 = .ok (.bipush 33, 2) := by decide +kernel
theorem dX7_setSeparator_7 : decode cX7_setSeparator 7 = .ok (.bipush 47, 2) := by decide +kernel
theorem dX7_setSeparator_9 : decode cX7_setSeparator 9 = .ok (.invokestatic 60, 3) := by decide +kernel
theorem dX7_setSeparator_12 : decode cX7_setSeparator 12 = .ok (.ifCond .ne 5, 3) := by decide +kernel
theorem dX7_setSeparator_15 : decode cX7_setSeparator 15 = .ok (.iconst (-1), 1) := by decide +kernel
theorem dX7_setSeparator_16 : decode cX7_setSeparator 16 = .ok (.ireturn, 1) := by decide +kernel
theorem dX7_setSeparator_17 : decode cX7_setSeparator 17 = .ok (.aload_n 0, 1) := by decide +kernel
theorem dX7_setSeparator_18 : decode cX7_setSeparator 18 = .ok (.invokevirtual 86, 3) := by decide +kernel
theorem dX7_setSeparator_21 : decode cX7_setSeparator 21 = .ok (.aload_n 0, 1) := by decide +kernel
theorem dX7_setSeparator_22 : decode cX7_setSeparator 22 = .ok (.getfield 7, 3) := by decide +kernel
theorem dX7_setSeparator_25 : decode cX7_setSeparator 25 = .ok (.iconst 1, 1) := by decide +kernel
theorem dX7_setSeparator_26 : decode cX7_setSeparator 26 = .ok (.iaload, 1) := by decide +kernel
theorem dX7_setSeparator_27 : decode cX7_setSeparator 27 = .ok (.istore_n 2, 1) := by decide +kernel
theorem dX7_setSeparator_28 : decode cX7_setSeparator 28 = .ok (.aload_n 0, 1) := by decide +kernel
theorem dX7_setSeparator_29 : decode cX7_setSeparator 29 = .ok (.getfield 7, 3) := by decide +kernel
theorem dX7_setSeparator_32 : decode cX7_setSeparator 32 = .ok (.iconst 1, 1) := by decide +kernel
theorem dX7_setSeparator_33 : decode cX7_setSeparator 33 = .ok (.iload_n 1, 1) := by decide +kernel
theorem dX7_setSeparator_34 : decode cX7_setSeparator 34 = .ok (.iastore, 1) := by decide +kernel
theorem dX7_setSeparator_35 : decode cX7_setSeparator 35 = .ok (.iload_n 2, 1) := by decide +kernel
theorem dX7_setSeparator_36 : decode cX7_setSeparator 36 = .ok (.ireturn, 1) := by decide +kernel
theorem dX7_rule_0 : decode cX7_rule 0 = .ok (.aload_n 0, 1) := by decide +kernel
theorem dX7_rule_1 : decode cX7_rule 1 = .ok (.iload_n 1, 1) := by decide +kernel
theorem dX7_rule_2 : decode cX7_rule 2 = .ok (.invokevirtual 99, 3) := by decide +kernel
theorem dX7_rule_5 : decode cX7_rule 5 = .ok (.ifCond .eq 25, 3) := by decide +kernel
theorem dX7_rule_8 : decode cX7_rule 8 = .ok (.aload_n 0, 1) := by decide +kernel
theorem dX7_rule_9 : decode cX7_rule 9 = .ok (.iload_n 2, 1) := by decide +kernel
theorem dX7_rule_10 : decode cX7_rule 10 = .ok (.invokevirtual 99, 3) := by decide +kernel
theorem dX7_rule_13 : decode cX7_rule 13 = .ok (.ifCond .eq 17, 3) := by decide +kernel
theorem dX7_rule_16 : decode cX7_rule 16 = .ok (.iload_n 1, 1) := by decide +kernel
theorem dX7_rule_17 : decode cX7_rule 17 = .ok (.iload_n 2, 1) := by decide +kernel
theorem dX7_rule_18 : decode cX7_rule 18 = .ok (.if_icmp .eq 12, 3) := by decide +kernel
theorem dX7_rule_21 : decode cX7_rule 21 = .ok (.iload_n 3, 1) := by decide +kernel
theorem dX7_rule_22 : decode cX7_rule 22 = .ok (.iconst 0, 1) := by decide +kernel
theorem dX7_rule_23 : decode cX7_rule 23 = .ok (.iconst 1, 1) := by decide +kernel
theorem dX7_rule_24 : decode cX7_rule 24 = .ok (.invokestatic 60, 3) := by decide +kernel
theorem dX7_rule_27 : decode cX7_rule 27 = .ok (.ifCond .ne 5, 3) := by decide +kernel
theorem dX7_rule_30 : decode cX7_rule 30 = .ok (.iconst (-1), 1) := by decide +kernel
theorem dX7_rule_31 : decode cX7_rule 31 = .ok (.ireturn, 1) := by decide +kernel
theorem dX7_rule_32 : decode cX7_rule 32 = .ok (.aload_n 0, 1) := by decide +kernel
theorem dX7_rule_33 : decode cX7_rule 33 = .ok (.invokevirtual 86, 3) := by decide +kernel
theorem dX7_rule_36 : decode cX7_rule 36 = .ok (.aload_n 0, 1) := by decide +kernel
theorem dX7_rule_37 : decode cX7_rule 37 = .ok (.getfield 7, 3) := by decide +kernel
theorem dX7_rule_40 : decode cX7_rule 40 = .ok (.bipush 44, 2) := by decide +kernel
theorem dX7_rule_42 : decode cX7_rule 42 = .ok (.iload_n 1, 1) := by decide +kernel
theorem dX7_rule_43 : decode cX7_rule 43 = .ok (.iadd, 1) := by decide +kernel
theorem dX7_rule_44 : decode cX7_rule 44 = .ok (.iaload, 1) := by decide +kernel
theorem dX7_rule_45 : decode cX7_rule 45 = .ok (.iload_n 2, 1) := by decide +kernel
theorem dX7_rule_46 : decode cX7_rule 46 = .ok (.invokestatic 89, 3) := by decide +kernel
theorem dX7_rule_49 : decode cX7_rule 49 = .ok (.ifCond .eq 7, 3) := by decide +kernel
theorem dX7_rule_52 : decode cX7_rule 52 = .ok (.iconst 1, 1) := by decide +kernel
theorem dX7_rule_53 : decode cX7_rule 53 = .ok (.goto 4, 3) := by decide +kernel
theorem dX7_rule_56 : decode cX7_rule 56 = .ok (.iconst 0, 1) := by decide +kernel
theorem dX7_rule_57 : decode cX7_rule 57 = .ok (.istore 4, 2) := by decide +kernel
theorem dX7_rule_59 : decode cX7_rule 59 = .ok (.aload_n 0, 1) := by decide +kernel
theorem dX7_rule_60 : decode cX7_rule 60 = .ok (.getfield 7, 3) := by decide +kernel
theorem dX7_rule_63 : decode cX7_rule 63 = .ok (.bipush 44, 2) := by decide +kernel
theorem dX7_rule_65 : decode cX7_rule 65 = .ok (.iload_n 1, 1) := by decide +kernel
theorem dX7_rule_66 : decode cX7_rule 66 = .ok (.iadd, 1) := by decide +kernel
theorem dX7_rule_67 : decode cX7_rule 67 = .ok (.iload_n 3, 1) := by decide +kernel
theorem dX7_rule_68 : decode cX7_rule 68 = .ok (.iconst 1, 1) := by decide +kernel
theorem dX7_rule_69 : decode cX7_rule 69 = .ok (.if_icmp .ne 19, 3) := by decide +kernel
theorem dX7_rule_72 : decode cX7_rule 72 = .ok (.aload_n 0, 1) := by decide +kernel
theorem dX7_rule_73 : decode cX7_rule 73 = .ok (.getfield 7, 3) := by decide +kernel
theorem dX7_rule_76 : decode cX7_rule 76 = .ok (.bipush 44, 2) := by decide +kernel
theorem dX7_rule_78 : decode cX7_rule 78 = .ok (.iload_n 1, 1) := by decide +kernel
theorem dX7_rule_79 : decode cX7_rule 79 = .ok (.iadd, 1) := by decide +kernel
theorem dX7_rule_80 : decode cX7_rule 80 = .ok (.iaload, 1) := by decide +kernel
theorem dX7_rule_81 : decode cX7_rule 81 = .ok (.iconst 1, 1) := by decide +kernel
theorem dX7_rule_82 : decode cX7_rule 82 = .ok (.iload_n 2, 1) := by decide +kernel
theorem dX7_rule_83 : decode cX7_rule 83 = .ok (.ishl, 1) := by decide +kernel
theorem dX7_rule_84 : decode cX7_rule 84 = .ok (.ior, 1) := by decide +kernel
theorem dX7_rule_85 : decode cX7_rule 85 = .ok (.goto 18, 3) := by decide +kernel
theorem dX7_rule_88 : decode cX7_rule 88 = .ok (.aload_n 0, 1) := by decide +kernel
theorem dX7_rule_89 : decode cX7_rule 89 = .ok (.getfield 7, 3) := by decide +kernel
theorem dX7_rule_92 : decode cX7_rule 92 = .ok (.bipush 44, 2) := by decide +kernel
theorem dX7_rule_94 : decode cX7_rule 94 = .ok (.iload_n 1, 1) := by decide +kernel
theorem dX7_rule_95 : decode cX7_rule 95 = .ok (.iadd, 1) := by decide +kernel
theorem dX7_rule_96 : decode cX7_rule 96 = .ok (.iaload, 1) := by decide +kernel
theorem dX7_rule_97 : decode cX7_rule 97 = .ok (.iconst 1, 1) := by decide +kernel
theorem dX7_rule_98 : decode cX7_rule 98 = .ok (.iload_n 2, 1) := by decide +kernel
theorem dX7_rule_99 : decode cX7_rule 99 = .ok (.ishl, 1) := by decide +kernel
theorem dX7_rule_100 : decode cX7_rule 100 = .ok (.iconst (-1), 1) := by decide +kernel
theorem dX7_rule_101 : decode cX7_rule 101 = .ok (.ixor, 1) := by decide +kernel
theorem dX7_rule_102 : decode cX7_rule 102 = .ok (.iand, 1) := by decide +kernel
theorem dX7_rule_103 : decode cX7_rule 103 = .ok (.iastore, 1) := by decide +kernel
theorem dX7_rule_104 : decode cX7_rule 104 = .ok (.iload 4, 2) := by decide +kernel
theorem dX7_rule_106 : decode cX7_rule 106 = .ok (.ireturn, 1) := by decide +kernel
theorem dX7_undo_0 : decode cX7_undo 0 = .ok (.aload_n 0, 1) := by decide +kernel
theorem dX7_undo_1 : decode cX7_undo 1 = .ok (.getfield 52, 3) := by decide +kernel
theorem dX7_undo_4 : decode cX7_undo 4 = .ok (.ifCond .ne 6, 3) := by decide +kernel
theorem dX7_undo_7 : decode cX7_undo 7 = .ok (.bipush (-2), 2) := by decide +kernel
theorem dX7_undo_9 : decode cX7_undo 9 = .ok (.ireturn, 1) := by decide +kernel
theorem dX7_undo_10 : decode cX7_undo 10 = .ok (.aload_n 0, 1) := by decide +kernel
theorem dX7_undo_11 : decode cX7_undo 11 = .ok (.dup, 1) := by decide +kernel
theorem dX7_undo_12 : decode cX7_undo 12 = .ok (.getfield 52, 3) := by decide +kernel
theorem dX7_undo_15 : decode cX7_undo 15 = .ok (.iconst 1, 1) := by decide +kernel
theorem dX7_undo_16 : decode cX7_undo 16 = .ok (.isub, 1) := by decide +kernel
theorem dX7_undo_17 : decode cX7_undo 17 = .ok (.putfield 52, 3) := by decide +kernel
theorem dX7_undo_20 : decode cX7_undo 20 = .ok (.iconst 0, 1) := by decide +kernel
theorem dX7_undo_21 : decode cX7_undo 21 = .ok (.istore_n 1, 1) := by decide +kernel
theorem dX7_undo_22 : decode cX7_undo 22 = .ok (.iload_n 1, 1) := by decide +kernel
theorem dX7_undo_23 : decode cX7_undo 23 = .ok (.bipush 50, 2) := by decide +kernel
theorem dX7_undo_25 : decode cX7_undo 25 = .ok (.if_icmp .ge 29, 3) := by decide +kernel
theorem dX7_undo_28 : decode cX7_undo 28 = .ok (.aload_n 0, 1) := by decide +kernel
theorem dX7_undo_29 : decode cX7_undo 29 = .ok (.getfield 7, 3) := by decide +kernel
theorem dX7_undo_32 : decode cX7_undo 32 = .ok (.iload_n 1, 1) := by decide +kernel
theorem dX7_undo_33 : decode cX7_undo 33 = .ok (.aload_n 0, 1) := by decide +kernel
theorem dX7_undo_34 : decode cX7_undo 34 = .ok (.getfield 13, 3) := by decide +kernel
theorem dX7_undo_37 : decode cX7_undo 37 = .ok (.bipush 50, 2) := by decide +kernel
theorem dX7_undo_39 : decode cX7_undo 39 = .ok (.aload_n 0, 1) := by decide +kernel
theorem dX7_undo_40 : decode cX7_undo 40 = .ok (.getfield 52, 3) := by decide +kernel
theorem dX7_undo_43 : decode cX7_undo 43 = .ok (.imul, 1) := by decide +kernel
theorem dX7_undo_44 : decode cX7_undo 44 = .ok (.iload_n 1, 1) := by decide +kernel
theorem dX7_undo_45 : decode cX7_undo 45 = .ok (.iadd, 1) := by decide +kernel
theorem dX7_undo_46 : decode cX7_undo 46 = .ok (.iaload, 1) := by decide +kernel
theorem dX7_undo_47 : decode cX7_undo 47 = .ok (.iastore, 1) := by decide +kernel
theorem dX7_undo_48 : decode cX7_undo 48 = .ok (.iinc 1 1, 3) := by decide +kernel
theorem dX7_undo_51 : decode cX7_undo 51 = .ok (.goto (-29), 3) := by decide +kernel
theorem dX7_undo_54 : decode cX7_undo 54 = .ok (.aload_n 0, 1) := by decide +kernel
theorem dX7_undo_55 : decode cX7_undo 55 = .ok (.iconst 0, 1) := by decide +kernel
theorem dX7_undo_56 : decode cX7_undo 56 = .ok (.putfield 56, 3) := by decide +kernel
theorem dX7_undo_59 : decode cX7_undo 59 = .ok (.aload_n 0, 1) := by decide +kernel
theorem dX7_undo_60 : decode cX7_undo 60 = .ok (.getfield 52, 3) := by decide +kernel
theorem dX7_undo_63 : decode cX7_undo 63 = .ok (.ireturn, 1) := by decide +kernel
theorem dX7_begins_0 : decode cX7_begins 0 = .ok (.iload_n 1, 1) := by decide +kernel
theorem dX7_begins_1 : decode cX7_begins 1 = .ok (.iload_n 2, 1) := by decide +kernel
theorem dX7_begins_2 : decode cX7_begins 2 = .ok (.if_icmp .eq 20, 3) := by decide +kernel
theorem dX7_begins_5 : decode cX7_begins 5 = .ok (.aload_n 0, 1) := by decide +kernel
theorem dX7_begins_6 : decode cX7_begins 6 = .ok (.iload_n 1, 1) := by decide +kernel
theorem dX7_begins_7 : decode cX7_begins 7 = .ok (.invokevirtual 71, 3) := by decide +kernel
theorem dX7_begins_10 : decode cX7_begins 10 = .ok (.aload_n 0, 1) := by decide +kernel
theorem dX7_begins_11 : decode cX7_begins 11 = .ok (.iload_n 2, 1) := by decide +kernel
theorem dX7_begins_12 : decode cX7_begins 12 = .ok (.invokevirtual 71, 3) := by decide +kernel
theorem dX7_begins_15 : decode cX7_begins 15 = .ok (.if_icmp .gt 7, 3) := by decide +kernel
theorem dX7_begins_18 : decode cX7_begins 18 = .ok (.iconst 1, 1) := by decide +kernel
theorem dX7_begins_19 : decode cX7_begins 19 = .ok (.goto 4, 3) := by decide +kernel
theorem dX7_begins_22 : decode cX7_begins 22 = .ok (.iconst 0, 1) := by decide +kernel
theorem dX7_begins_23 : decode cX7_begins 23 = .ok (.istore_n 3, 1) := by decide +kernel
theorem dX7_begins_24 : decode cX7_begins 24 = .ok (.iconst 0, 1) := by decide +kernel
theorem dX7_begins_25 : decode cX7_begins 25 = .ok (.istore 4, 2) := by decide +kernel
theorem dX7_begins_27 : decode cX7_begins 27 = .ok (.iload 4, 2) := by decide +kernel
theorem dX7_begins_29 : decode cX7_begins 29 = .ok (.aload_n 0, 1) := by decide +kernel
theorem dX7_begins_30 : decode cX7_begins 30 = .ok (.iload_n 1, 1) := by decide +kernel
theorem dX7_begins_31 : decode cX7_begins 31 = .ok (.invokevirtual 71, 3) := by decide +kernel
theorem dX7_begins_34 : decode cX7_begins 34 = .ok (.if_icmp .ge 36, 3) := by decide +kernel
theorem dX7_begins_37 : decode cX7_begins 37 = .ok (.iload_n 3, 1) := by decide +kernel
theorem dX7_begins_38 : decode cX7_begins 38 = .ok (.ifCond .eq 32, 3) := by decide +kernel
theorem dX7_begins_41 : decode cX7_begins 41 = .ok (.aload_n 0, 1) := by decide +kernel
theorem dX7_begins_42 : decode cX7_begins 42 = .ok (.iload_n 1, 1) := by decide +kernel
theorem dX7_begins_43 : decode cX7_begins 43 = .ok (.iload 4, 2) := by decide +kernel
theorem dX7_begins_45 : decode cX7_begins 45 = .ok (.invokevirtual 67, 3) := by decide +kernel
theorem dX7_begins_48 : decode cX7_begins 48 = .ok (.aload_n 0, 1) := by decide +kernel
theorem dX7_begins_49 : decode cX7_begins 49 = .ok (.iload_n 2, 1) := by decide +kernel
theorem dX7_begins_50 : decode cX7_begins 50 = .ok (.iload 4, 2) := by decide +kernel
theorem dX7_begins_52 : decode cX7_begins 52 = .ok (.invokevirtual 67, 3) := by decide +kernel
theorem dX7_begins_55 : decode cX7_begins 55 = .ok (.if_icmp .ne 7, 3) := by decide +kernel
theorem dX7_begins_58 : decode cX7_begins 58 = .ok (.iconst 1, 1) := by decide +kernel
theorem dX7_begins_59 : decode cX7_begins 59 = .ok (.goto 4, 3) := by decide +kernel
theorem dX7_begins_62 : decode cX7_begins 62 = .ok (.iconst 0, 1) := by decide +kernel
theorem dX7_begins_63 : decode cX7_begins 63 = .ok (.istore_n 3, 1) := by decide +kernel
theorem dX7_begins_64 : decode cX7_begins 64 = .ok (.iinc 4 1, 3) := by decide +kernel
theorem dX7_begins_67 : decode cX7_begins 67 = .ok (.goto (-40), 3) := by decide +kernel
theorem dX7_begins_70 : decode cX7_begins 70 = .ok (.iload_n 3, 1) := by decide +kernel
theorem dX7_begins_71 : decode cX7_begins 71 = .ok (.ireturn, 1) := by decide +kernel
theorem dX7_clashing_0 : decode cX7_clashing 0 = .ok (.iconst 0, 1) := by decide +kernel
theorem dX7_clashing_1 : decode cX7_clashing 1 = .ok (.istore_n 2, 1) := by decide +kernel
theorem dX7_clashing_2 : decode cX7_clashing 2 = .ok (.iconst 0, 1) := by decide +kernel
theorem dX7_clashing_3 : decode cX7_clashing 3 = .ok (.istore_n 3, 1) := by decide +kernel
theorem dX7_clashing_4 : decode cX7_clashing 4 = .ok (.iload_n 3, 1) := by decide +kernel
theorem dX7_clashing_5 : decode cX7_clashing 5 = .ok (.aload_n 0, 1) := by decide +kernel
theorem dX7_clashing_6 : decode cX7_clashing 6 = .ok (.getfield 7, 3) := by decide +kernel
theorem dX7_clashing_9 : decode cX7_clashing 9 = .ok (.iconst 0, 1) := by decide +kernel
theorem dX7_clashing_10 : decode cX7_clashing 10 = .ok (.iaload, 1) := by decide +kernel
theorem dX7_clashing_11 : decode cX7_clashing 11 = .ok (.if_icmp .ge 37, 3) := by decide +kernel
theorem dX7_clashing_14 : decode cX7_clashing 14 = .ok (.iload_n 2, 1) := by decide +kernel
theorem dX7_clashing_15 : decode cX7_clashing 15 = .ok (.aload_n 0, 1) := by decide +kernel
theorem dX7_clashing_16 : decode cX7_clashing 16 = .ok (.iload_n 1, 1) := by decide +kernel
theorem dX7_clashing_17 : decode cX7_clashing 17 = .ok (.iload_n 3, 1) := by decide +kernel
theorem dX7_clashing_18 : decode cX7_clashing 18 = .ok (.invokevirtual 106, 3) := by decide +kernel
theorem dX7_clashing_21 : decode cX7_clashing 21 = .ok (.ifCond .ne 12, 3) := by decide +kernel
theorem dX7_clashing_24 : decode cX7_clashing 24 = .ok (.aload_n 0, 1) := by decide +kernel
theorem dX7_clashing_25 : decode cX7_clashing 25 = .ok (.iload_n 3, 1) := by decide +kernel
theorem dX7_clashing_26 : decode cX7_clashing 26 = .ok (.iload_n 1, 1) := by decide +kernel
theorem dX7_clashing_27 : decode cX7_clashing 27 = .ok (.invokevirtual 106, 3) := by decide +kernel
theorem dX7_clashing_30 : decode cX7_clashing 30 = .ok (.ifCond .eq 9, 3) := by decide +kernel
theorem dX7_clashing_33 : decode cX7_clashing 33 = .ok (.iconst 1, 1) := by decide +kernel
theorem dX7_clashing_34 : decode cX7_clashing 34 = .ok (.iload_n 3, 1) := by decide +kernel
theorem dX7_clashing_35 : decode cX7_clashing 35 = .ok (.ishl, 1) := by decide +kernel
theorem dX7_clashing_36 : decode cX7_clashing 36 = .ok (.goto 4, 3) := by decide +kernel
theorem dX7_clashing_39 : decode cX7_clashing 39 = .ok (.iconst 0, 1) := by decide +kernel
theorem dX7_clashing_40 : decode cX7_clashing 40 = .ok (.ior, 1) := by decide +kernel
theorem dX7_clashing_41 : decode cX7_clashing 41 = .ok (.istore_n 2, 1) := by decide +kernel
theorem dX7_clashing_42 : decode cX7_clashing 42 = .ok (.iinc 3 1, 3) := by decide +kernel
theorem dX7_clashing_45 : decode cX7_clashing 45 = .ok (.goto (-41), 3) := by decide +kernel
theorem dX7_clashing_48 : decode cX7_clashing 48 = .ok (.iload_n 2, 1) := by decide +kernel
theorem dX7_clashing_49 : decode cX7_clashing 49 = .ok (.ireturn, 1) := by decide +kernel
theorem dX7_size_0 : decode cX7_size 0 = .ok (.iconst 0, 1) := by decide +kernel
theorem dX7_size_1 : decode cX7_size 1 = .ok (.istore_n 1, 1) := by decide +kernel
theorem dX7_size_2 : decode cX7_size 2 = .ok (.iconst 0, 1) := by decide +kernel
theorem dX7_size_3 : decode cX7_size 3 = .ok (.istore_n 2, 1) := by decide +kernel
theorem dX7_size_4 : decode cX7_size 4 = .ok (.iload_n 2, 1) := by decide +kernel
theorem dX7_size_5 : decode cX7_size 5 = .ok (.bipush 6, 2) := by decide +kernel
theorem dX7_size_7 : decode cX7_size 7 = .ok (.if_icmp .ge 17, 3) := by decide +kernel
theorem dX7_size_10 : decode cX7_size 10 = .ok (.iload_n 1, 1) := by decide +kernel
theorem dX7_size_11 : decode cX7_size 11 = .ok (.iload_n 0, 1) := by decide +kernel
theorem dX7_size_12 : decode cX7_size 12 = .ok (.iload_n 2, 1) := by decide +kernel
theorem dX7_size_13 : decode cX7_size 13 = .ok (.ishr, 1) := by decide +kernel
theorem dX7_size_14 : decode cX7_size 14 = .ok (.iconst 1, 1) := by decide +kernel
theorem dX7_size_15 : decode cX7_size 15 = .ok (.iand, 1) := by decide +kernel
theorem dX7_size_16 : decode cX7_size 16 = .ok (.iadd, 1) := by decide +kernel
theorem dX7_size_17 : decode cX7_size 17 = .ok (.istore_n 1, 1) := by decide +kernel
theorem dX7_size_18 : decode cX7_size 18 = .ok (.iinc 2 1, 3) := by decide +kernel
theorem dX7_size_21 : decode cX7_size 21 = .ok (.goto (-17), 3) := by decide +kernel
theorem dX7_size_24 : decode cX7_size 24 = .ok (.iload_n 1, 1) := by decide +kernel
theorem dX7_size_25 : decode cX7_size 25 = .ok (.ireturn, 1) := by decide +kernel
theorem dX7_rules_0 : decode cX7_rules 0 = .ok (.iconst 0, 1) := by decide +kernel
theorem dX7_rules_1 : decode cX7_rules 1 = .ok (.istore_n 1, 1) := by decide +kernel
theorem dX7_rules_2 : decode cX7_rules 2 = .ok (.iconst 0, 1) := by decide +kernel
theorem dX7_rules_3 : decode cX7_rules 3 = .ok (.istore_n 2, 1) := by decide +kernel
theorem dX7_rules_4 : decode cX7_rules 4 = .ok (.iload_n 2, 1) := by decide +kernel
theorem dX7_rules_5 : decode cX7_rules 5 = .ok (.aload_n 0, 1) := by decide +kernel
theorem dX7_rules_6 : decode cX7_rules 6 = .ok (.getfield 7, 3) := by decide +kernel
theorem dX7_rules_9 : decode cX7_rules 9 = .ok (.iconst 0, 1) := by decide +kernel
theorem dX7_rules_10 : decode cX7_rules 10 = .ok (.iaload, 1) := by decide +kernel
theorem dX7_rules_11 : decode cX7_rules 11 = .ok (.if_icmp .ge 24, 3) := by decide +kernel
theorem dX7_rules_14 : decode cX7_rules 14 = .ok (.iload_n 1, 1) := by decide +kernel
theorem dX7_rules_15 : decode cX7_rules 15 = .ok (.aload_n 0, 1) := by decide +kernel
theorem dX7_rules_16 : decode cX7_rules 16 = .ok (.getfield 7, 3) := by decide +kernel
theorem dX7_rules_19 : decode cX7_rules 19 = .ok (.bipush 44, 2) := by decide +kernel
theorem dX7_rules_21 : decode cX7_rules 21 = .ok (.iload_n 2, 1) := by decide +kernel
theorem dX7_rules_22 : decode cX7_rules 22 = .ok (.iadd, 1) := by decide +kernel
theorem dX7_rules_23 : decode cX7_rules 23 = .ok (.iaload, 1) := by decide +kernel
theorem dX7_rules_24 : decode cX7_rules 24 = .ok (.invokestatic 109, 3) := by decide +kernel
theorem dX7_rules_27 : decode cX7_rules 27 = .ok (.iadd, 1) := by decide +kernel
theorem dX7_rules_28 : decode cX7_rules 28 = .ok (.istore_n 1, 1) := by decide +kernel
theorem dX7_rules_29 : decode cX7_rules 29 = .ok (.iinc 2 1, 3) := by decide +kernel
theorem dX7_rules_32 : decode cX7_rules 32 = .ok (.goto (-28), 3) := by decide +kernel
theorem dX7_rules_35 : decode cX7_rules 35 = .ok (.iload_n 1, 1) := by decide +kernel
theorem dX7_rules_36 : decode cX7_rules 36 = .ok (.ireturn, 1) := by decide +kernel
theorem dX7_clashes_0 : decode cX7_clashes 0 = .ok (.iconst 0, 1) := by decide +kernel
theorem dX7_clashes_1 : decode cX7_clashes 1 = .ok (.istore_n 1, 1) := by decide +kernel
theorem dX7_clashes_2 : decode cX7_clashes 2 = .ok (.iconst 0, 1) := by decide +kernel
theorem dX7_clashes_3 : decode cX7_clashes 3 = .ok (.istore_n 2, 1) := by decide +kernel
theorem dX7_clashes_4 : decode cX7_clashes 4 = .ok (.iload_n 2, 1) := by decide +kernel
theorem dX7_clashes_5 : decode cX7_clashes 5 = .ok (.aload_n 0, 1) := by decide +kernel
theorem dX7_clashes_6 : decode cX7_clashes 6 = .ok (.getfield 7, 3) := by decide +kernel
theorem dX7_clashes_9 : decode cX7_clashes 9 = .ok (.iconst 0, 1) := by decide +kernel
theorem dX7_clashes_10 : decode cX7_clashes 10 = .ok (.iaload, 1) := by decide +kernel
theorem dX7_clashes_11 : decode cX7_clashes 11 = .ok (.if_icmp .ge 20, 3) := by decide +kernel
theorem dX7_clashes_14 : decode cX7_clashes 14 = .ok (.iload_n 1, 1) := by decide +kernel
theorem dX7_clashes_15 : decode cX7_clashes 15 = .ok (.aload_n 0, 1) := by decide +kernel
theorem dX7_clashes_16 : decode cX7_clashes 16 = .ok (.iload_n 2, 1) := by decide +kernel
theorem dX7_clashes_17 : decode cX7_clashes 17 = .ok (.invokevirtual 112, 3) := by decide +kernel
theorem dX7_clashes_20 : decode cX7_clashes 20 = .ok (.invokestatic 109, 3) := by decide +kernel
theorem dX7_clashes_23 : decode cX7_clashes 23 = .ok (.iadd, 1) := by decide +kernel
theorem dX7_clashes_24 : decode cX7_clashes 24 = .ok (.istore_n 1, 1) := by decide +kernel
theorem dX7_clashes_25 : decode cX7_clashes 25 = .ok (.iinc 2 1, 3) := by decide +kernel
theorem dX7_clashes_28 : decode cX7_clashes 28 = .ok (.goto (-24), 3) := by decide +kernel
theorem dX7_clashes_31 : decode cX7_clashes 31 = .ok (.iload_n 1, 1) := by decide +kernel
theorem dX7_clashes_32 : decode cX7_clashes 32 = .ok (.iconst 2, 1) := by decide +kernel
theorem dX7_clashes_33 : decode cX7_clashes 33 = .ok (.idiv, 1) := by decide +kernel
theorem dX7_clashes_34 : decode cX7_clashes 34 = .ok (.ireturn, 1) := by decide +kernel
theorem dX7_sumOf_0 : decode cX7_sumOf 0 = .ok (.iconst 0, 1) := by decide +kernel
theorem dX7_sumOf_1 : decode cX7_sumOf 1 = .ok (.istore_n 2, 1) := by decide +kernel
theorem dX7_sumOf_2 : decode cX7_sumOf 2 = .ok (.iconst 0, 1) := by decide +kernel
theorem dX7_sumOf_3 : decode cX7_sumOf 3 = .ok (.istore_n 3, 1) := by decide +kernel
theorem dX7_sumOf_4 : decode cX7_sumOf 4 = .ok (.iload_n 3, 1) := by decide +kernel
theorem dX7_sumOf_5 : decode cX7_sumOf 5 = .ok (.aload_n 0, 1) := by decide +kernel
theorem dX7_sumOf_6 : decode cX7_sumOf 6 = .ok (.getfield 7, 3) := by decide +kernel
theorem dX7_sumOf_9 : decode cX7_sumOf 9 = .ok (.iconst 0, 1) := by decide +kernel
theorem dX7_sumOf_10 : decode cX7_sumOf 10 = .ok (.iaload, 1) := by decide +kernel
theorem dX7_sumOf_11 : decode cX7_sumOf 11 = .ok (.if_icmp .ge 20, 3) := by decide +kernel
theorem dX7_sumOf_14 : decode cX7_sumOf 14 = .ok (.iload_n 2, 1) := by decide +kernel
theorem dX7_sumOf_15 : decode cX7_sumOf 15 = .ok (.aload_n 0, 1) := by decide +kernel
theorem dX7_sumOf_16 : decode cX7_sumOf 16 = .ok (.getfield 7, 3) := by decide +kernel
theorem dX7_sumOf_19 : decode cX7_sumOf 19 = .ok (.iload_n 1, 1) := by decide +kernel
theorem dX7_sumOf_20 : decode cX7_sumOf 20 = .ok (.iload_n 3, 1) := by decide +kernel
theorem dX7_sumOf_21 : decode cX7_sumOf 21 = .ok (.iadd, 1) := by decide +kernel
theorem dX7_sumOf_22 : decode cX7_sumOf 22 = .ok (.iaload, 1) := by decide +kernel
theorem dX7_sumOf_23 : decode cX7_sumOf 23 = .ok (.iadd, 1) := by decide +kernel
theorem dX7_sumOf_24 : decode cX7_sumOf 24 = .ok (.istore_n 2, 1) := by decide +kernel
theorem dX7_sumOf_25 : decode cX7_sumOf 25 = .ok (.iinc 3 1, 3) := by decide +kernel
theorem dX7_sumOf_28 : decode cX7_sumOf 28 = .ok (.goto (-24), 3) := by decide +kernel
theorem dX7_sumOf_31 : decode cX7_sumOf 31 = .ok (.iload_n 2, 1) := by decide +kernel
theorem dX7_sumOf_32 : decode cX7_sumOf 32 = .ok (.ireturn, 1) := by decide +kernel
theorem dX7_told_0 : decode cX7_told 0 = .ok (.iload_n 1, 1) := by decide +kernel
theorem dX7_told_1 : decode cX7_told 1 = .ok (.tableswitch 95 0 7 #[47, 54, 61, 66, 71, 76, 81, 88], 47) := by decide +kernel
theorem dX7_told_48 : decode cX7_told 48 = .ok (.aload_n 0, 1) := by decide +kernel
theorem dX7_told_49 : decode cX7_told 49 = .ok (.getfield 7, 3) := by decide +kernel
theorem dX7_told_52 : decode cX7_told 52 = .ok (.iconst 0, 1) := by decide +kernel
theorem dX7_told_53 : decode cX7_told 53 = .ok (.iaload, 1) := by decide +kernel
theorem dX7_told_54 : decode cX7_told 54 = .ok (.ireturn, 1) := by decide +kernel
theorem dX7_told_55 : decode cX7_told 55 = .ok (.aload_n 0, 1) := by decide +kernel
theorem dX7_told_56 : decode cX7_told 56 = .ok (.getfield 7, 3) := by decide +kernel
theorem dX7_told_59 : decode cX7_told 59 = .ok (.iconst 1, 1) := by decide +kernel
theorem dX7_told_60 : decode cX7_told 60 = .ok (.iaload, 1) := by decide +kernel
theorem dX7_told_61 : decode cX7_told 61 = .ok (.ireturn, 1) := by decide +kernel
theorem dX7_told_62 : decode cX7_told 62 = .ok (.aload_n 0, 1) := by decide +kernel
theorem dX7_told_63 : decode cX7_told 63 = .ok (.invokevirtual 115, 3) := by decide +kernel
theorem dX7_told_66 : decode cX7_told 66 = .ok (.ireturn, 1) := by decide +kernel
theorem dX7_told_67 : decode cX7_told 67 = .ok (.aload_n 0, 1) := by decide +kernel
theorem dX7_told_68 : decode cX7_told 68 = .ok (.invokevirtual 119, 3) := by decide +kernel
theorem dX7_told_71 : decode cX7_told 71 = .ok (.ireturn, 1) := by decide +kernel
theorem dX7_told_72 : decode cX7_told 72 = .ok (.aload_n 0, 1) := by decide +kernel
theorem dX7_told_73 : decode cX7_told 73 = .ok (.getfield 64, 3) := by decide +kernel
theorem dX7_told_76 : decode cX7_told 76 = .ok (.ireturn, 1) := by decide +kernel
theorem dX7_told_77 : decode cX7_told 77 = .ok (.aload_n 0, 1) := by decide +kernel
theorem dX7_told_78 : decode cX7_told 78 = .ok (.getfield 52, 3) := by decide +kernel
theorem dX7_told_81 : decode cX7_told 81 = .ok (.ireturn, 1) := by decide +kernel
theorem dX7_told_82 : decode cX7_told 82 = .ok (.aload_n 0, 1) := by decide +kernel
theorem dX7_told_83 : decode cX7_told 83 = .ok (.bipush 26, 2) := by decide +kernel
theorem dX7_told_85 : decode cX7_told 85 = .ok (.invokevirtual 122, 3) := by decide +kernel
theorem dX7_told_88 : decode cX7_told 88 = .ok (.ireturn, 1) := by decide +kernel
theorem dX7_told_89 : decode cX7_told 89 = .ok (.aload_n 0, 1) := by decide +kernel
theorem dX7_told_90 : decode cX7_told 90 = .ok (.bipush 32, 2) := by decide +kernel
theorem dX7_told_92 : decode cX7_told 92 = .ok (.invokevirtual 122, 3) := by decide +kernel
theorem dX7_told_95 : decode cX7_told 95 = .ok (.ireturn, 1) := by decide +kernel
theorem dX7_told_96 : decode cX7_told 96 = .ok (.iconst (-1), 1) := by decide +kernel
theorem dX7_told_97 : decode cX7_told 97 = .ok (.ireturn, 1) := by decide +kernel
theorem dX7_member_0 : decode cX7_member 0 = .ok (.aload_n 0, 1) := by decide +kernel
theorem dX7_member_1 : decode cX7_member 1 = .ok (.iload_n 1, 1) := by decide +kernel
theorem dX7_member_2 : decode cX7_member 2 = .ok (.invokevirtual 99, 3) := by decide +kernel
theorem dX7_member_5 : decode cX7_member 5 = .ok (.ifCond .eq 13, 3) := by decide +kernel
theorem dX7_member_8 : decode cX7_member 8 = .ok (.iload_n 2, 1) := by decide +kernel
theorem dX7_member_9 : decode cX7_member 9 = .ok (.iconst 0, 1) := by decide +kernel
theorem dX7_member_10 : decode cX7_member 10 = .ok (.bipush 9, 2) := by decide +kernel
theorem dX7_member_12 : decode cX7_member 12 = .ok (.invokestatic 60, 3) := by decide +kernel
theorem dX7_member_15 : decode cX7_member 15 = .ok (.ifCond .ne 5, 3) := by decide +kernel
theorem dX7_member_18 : decode cX7_member 18 = .ok (.iconst (-1), 1) := by decide +kernel
theorem dX7_member_19 : decode cX7_member 19 = .ok (.ireturn, 1) := by decide +kernel
theorem dX7_member_20 : decode cX7_member 20 = .ok (.iload_n 2, 1) := by decide +kernel
theorem dX7_member_21 : decode cX7_member 21 = .ok (.iconst 4, 1) := by decide +kernel
theorem dX7_member_22 : decode cX7_member 22 = .ok (.if_icmp .ge 18, 3) := by decide +kernel
theorem dX7_member_25 : decode cX7_member 25 = .ok (.aload_n 0, 1) := by decide +kernel
theorem dX7_member_26 : decode cX7_member 26 = .ok (.getfield 7, 3) := by decide +kernel
theorem dX7_member_29 : decode cX7_member 29 = .ok (.bipush 20, 2) := by decide +kernel
theorem dX7_member_31 : decode cX7_member 31 = .ok (.bipush 6, 2) := by decide +kernel
theorem dX7_member_33 : decode cX7_member 33 = .ok (.iload_n 2, 1) := by decide +kernel
theorem dX7_member_34 : decode cX7_member 34 = .ok (.imul, 1) := by decide +kernel
theorem dX7_member_35 : decode cX7_member 35 = .ok (.iadd, 1) := by decide +kernel
theorem dX7_member_36 : decode cX7_member 36 = .ok (.iload_n 1, 1) := by decide +kernel
theorem dX7_member_37 : decode cX7_member 37 = .ok (.iadd, 1) := by decide +kernel
theorem dX7_member_38 : decode cX7_member 38 = .ok (.iaload, 1) := by decide +kernel
theorem dX7_member_39 : decode cX7_member 39 = .ok (.ireturn, 1) := by decide +kernel
theorem dX7_member_40 : decode cX7_member 40 = .ok (.iload_n 2, 1) := by decide +kernel
theorem dX7_member_41 : decode cX7_member 41 = .ok (.iconst 4, 1) := by decide +kernel
theorem dX7_member_42 : decode cX7_member 42 = .ok (.if_icmp .ne 9, 3) := by decide +kernel
theorem dX7_member_45 : decode cX7_member 45 = .ok (.aload_n 0, 1) := by decide +kernel
theorem dX7_member_46 : decode cX7_member 46 = .ok (.iload_n 1, 1) := by decide +kernel
theorem dX7_member_47 : decode cX7_member 47 = .ok (.invokevirtual 71, 3) := by decide +kernel
theorem dX7_member_50 : decode cX7_member 50 = .ok (.ireturn, 1) := by decide +kernel
theorem dX7_member_51 : decode cX7_member 51 = .ok (.iload_n 2, 1) := by decide +kernel
theorem dX7_member_52 : decode cX7_member 52 = .ok (.bipush 8, 2) := by decide +kernel
theorem dX7_member_54 : decode cX7_member 54 = .ok (.if_icmp .ge 28, 3) := by decide +kernel
theorem dX7_member_57 : decode cX7_member 57 = .ok (.aload_n 0, 1) := by decide +kernel
theorem dX7_member_58 : decode cX7_member 58 = .ok (.iload_n 1, 1) := by decide +kernel
theorem dX7_member_59 : decode cX7_member 59 = .ok (.iload_n 2, 1) := by decide +kernel
theorem dX7_member_60 : decode cX7_member 60 = .ok (.iconst 5, 1) := by decide +kernel
theorem dX7_member_61 : decode cX7_member 61 = .ok (.isub, 1) := by decide +kernel
theorem dX7_member_62 : decode cX7_member 62 = .ok (.invokevirtual 67, 3) := by decide +kernel
theorem dX7_member_65 : decode cX7_member 65 = .ok (.ifCond .ne 8, 3) := by decide +kernel
theorem dX7_member_68 : decode cX7_member 68 = .ok (.bipush (-9), 2) := by decide +kernel
theorem dX7_member_70 : decode cX7_member 70 = .ok (.goto 11, 3) := by decide +kernel
theorem dX7_member_73 : decode cX7_member 73 = .ok (.aload_n 0, 1) := by decide +kernel
theorem dX7_member_74 : decode cX7_member 74 = .ok (.iload_n 1, 1) := by decide +kernel
theorem dX7_member_75 : decode cX7_member 75 = .ok (.iload_n 2, 1) := by decide +kernel
theorem dX7_member_76 : decode cX7_member 76 = .ok (.iconst 5, 1) := by decide +kernel
theorem dX7_member_77 : decode cX7_member 77 = .ok (.isub, 1) := by decide +kernel
theorem dX7_member_78 : decode cX7_member 78 = .ok (.invokevirtual 67, 3) := by decide +kernel
theorem dX7_member_81 : decode cX7_member 81 = .ok (.ireturn, 1) := by decide +kernel
theorem dX7_member_82 : decode cX7_member 82 = .ok (.iload_n 2, 1) := by decide +kernel
theorem dX7_member_83 : decode cX7_member 83 = .ok (.bipush 8, 2) := by decide +kernel
theorem dX7_member_85 : decode cX7_member 85 = .ok (.if_icmp .ne 15, 3) := by decide +kernel
theorem dX7_member_88 : decode cX7_member 88 = .ok (.aload_n 0, 1) := by decide +kernel
theorem dX7_member_89 : decode cX7_member 89 = .ok (.getfield 7, 3) := by decide +kernel
theorem dX7_member_92 : decode cX7_member 92 = .ok (.bipush 44, 2) := by decide +kernel
theorem dX7_member_94 : decode cX7_member 94 = .ok (.iload_n 1, 1) := by decide +kernel
theorem dX7_member_95 : decode cX7_member 95 = .ok (.iadd, 1) := by decide +kernel
theorem dX7_member_96 : decode cX7_member 96 = .ok (.iaload, 1) := by decide +kernel
theorem dX7_member_97 : decode cX7_member 97 = .ok (.goto 8, 3) := by decide +kernel
theorem dX7_member_100 : decode cX7_member 100 = .ok (.aload_n 0, 1) := by decide +kernel
theorem dX7_member_101 : decode cX7_member 101 = .ok (.iload_n 1, 1) := by decide +kernel
theorem dX7_member_102 : decode cX7_member 102 = .ok (.invokevirtual 112, 3) := by decide +kernel
theorem dX7_member_105 : decode cX7_member 105 = .ok (.ireturn, 1) := by decide +kernel
theorem dX7_countIn_0 : decode cX7_countIn 0 = .ok (.iload_n 0, 1) := by decide +kernel
theorem dX7_countIn_1 : decode cX7_countIn 1 = .ok (.iconst 2, 1) := by decide +kernel
theorem dX7_countIn_2 : decode cX7_countIn 2 = .ok (.iload_n 1, 1) := by decide +kernel
theorem dX7_countIn_3 : decode cX7_countIn 3 = .ok (.imul, 1) := by decide +kernel
theorem dX7_countIn_4 : decode cX7_countIn 4 = .ok (.ishr, 1) := by decide +kernel
theorem dX7_countIn_5 : decode cX7_countIn 5 = .ok (.iconst 3, 1) := by decide +kernel
theorem dX7_countIn_6 : decode cX7_countIn 6 = .ok (.iand, 1) := by decide +kernel
theorem dX7_countIn_7 : decode cX7_countIn 7 = .ok (.ireturn, 1) := by decide +kernel
theorem dX7_with_0 : decode cX7_with 0 = .ok (.iload_n 0, 1) := by decide +kernel
theorem dX7_with_1 : decode cX7_with 1 = .ok (.iconst 1, 1) := by decide +kernel
theorem dX7_with_2 : decode cX7_with 2 = .ok (.iconst 2, 1) := by decide +kernel
theorem dX7_with_3 : decode cX7_with 3 = .ok (.iload_n 1, 1) := by decide +kernel
theorem dX7_with_4 : decode cX7_with 4 = .ok (.imul, 1) := by decide +kernel
theorem dX7_with_5 : decode cX7_with 5 = .ok (.ishl, 1) := by decide +kernel
theorem dX7_with_6 : decode cX7_with 6 = .ok (.iadd, 1) := by decide +kernel
theorem dX7_with_7 : decode cX7_with 7 = .ok (.ireturn, 1) := by decide +kernel
theorem dX7_may_0 : decode cX7_may 0 = .ok (.iload_n 1, 1) := by decide +kernel
theorem dX7_may_1 : decode cX7_may 1 = .ok (.iload_n 2, 1) := by decide +kernel
theorem dX7_may_2 : decode cX7_may 2 = .ok (.invokestatic 125, 3) := by decide +kernel
theorem dX7_may_5 : decode cX7_may 5 = .ok (.aload_n 0, 1) := by decide +kernel
theorem dX7_may_6 : decode cX7_may 6 = .ok (.getfield 7, 3) := by decide +kernel
theorem dX7_may_9 : decode cX7_may 9 = .ok (.bipush 32, 2) := by decide +kernel
theorem dX7_may_11 : decode cX7_may 11 = .ok (.iload_n 2, 1) := by decide +kernel
theorem dX7_may_12 : decode cX7_may 12 = .ok (.iadd, 1) := by decide +kernel
theorem dX7_may_13 : decode cX7_may 13 = .ok (.iaload, 1) := by decide +kernel
theorem dX7_may_14 : decode cX7_may 14 = .ok (.if_icmp .lt 5, 3) := by decide +kernel
theorem dX7_may_17 : decode cX7_may 17 = .ok (.iconst 0, 1) := by decide +kernel
theorem dX7_may_18 : decode cX7_may 18 = .ok (.ireturn, 1) := by decide +kernel
theorem dX7_may_19 : decode cX7_may 19 = .ok (.iconst 0, 1) := by decide +kernel
theorem dX7_may_20 : decode cX7_may 20 = .ok (.istore_n 3, 1) := by decide +kernel
theorem dX7_may_21 : decode cX7_may 21 = .ok (.iload_n 3, 1) := by decide +kernel
theorem dX7_may_22 : decode cX7_may 22 = .ok (.aload_n 0, 1) := by decide +kernel
theorem dX7_may_23 : decode cX7_may 23 = .ok (.getfield 7, 3) := by decide +kernel
theorem dX7_may_26 : decode cX7_may 26 = .ok (.iconst 0, 1) := by decide +kernel
theorem dX7_may_27 : decode cX7_may 27 = .ok (.iaload, 1) := by decide +kernel
theorem dX7_may_28 : decode cX7_may 28 = .ok (.if_icmp .ge 35, 3) := by decide +kernel
theorem dX7_may_31 : decode cX7_may 31 = .ok (.aload_n 0, 1) := by decide +kernel
theorem dX7_may_32 : decode cX7_may 32 = .ok (.getfield 7, 3) := by decide +kernel
theorem dX7_may_35 : decode cX7_may 35 = .ok (.bipush 44, 2) := by decide +kernel
theorem dX7_may_37 : decode cX7_may 37 = .ok (.iload_n 2, 1) := by decide +kernel
theorem dX7_may_38 : decode cX7_may 38 = .ok (.iadd, 1) := by decide +kernel
