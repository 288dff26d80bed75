theorem dX5_marked_28 : decode cX5_marked 28 = .ok (.iload_n 2, 1) := by decide +kernel
theorem dX5_marked_29 : decode cX5_marked 29 = .ok (.ireturn, 1) := by decide +kernel
theorem dX5_turn_0 : decode cX5_turn 0 = .ok (.iload_n 1, 1) := by decide +kernel
theorem dX5_turn_1 : decode cX5_turn 1 = .ok (.ifCond .lt 16, 3) := by decide +kernel
theorem dX5_turn_4 : decode cX5_turn 4 = .ok (.iload_n 1, 1) := by decide +kernel
theorem dX5_turn_5 : decode cX5_turn 5 = .ok (.bipush 6, 2) := by decide +kernel
theorem dX5_turn_7 : decode cX5_turn 7 = .ok (.if_icmp .ge 10, 3) := by decide +kernel
theorem dX5_turn_10 : decode cX5_turn 10 = .ok (.iload_n 2, 1) := by decide +kernel
theorem dX5_turn_11 : decode cX5_turn 11 = .ok (.invokestatic 85, 3) := by decide +kernel
theorem dX5_turn_14 : decode cX5_turn 14 = .ok (.ifCond .ne 5, 3) := by decide +kernel
theorem dX5_turn_17 : decode cX5_turn 17 = .ok (.iconst (-1), 1) := by decide +kernel
theorem dX5_turn_18 : decode cX5_turn 18 = .ok (.ireturn, 1) := by decide +kernel
theorem dX5_turn_19 : decode cX5_turn 19 = .ok (.aload_n 0, 1) := by decide +kernel
theorem dX5_turn_20 : decode cX5_turn 20 = .ok (.iload_n 1, 1) := by decide +kernel
theorem dX5_turn_21 : decode cX5_turn 21 = .ok (.iload_n 2, 1) := by decide +kernel
theorem dX5_turn_22 : decode cX5_turn 22 = .ok (.invokevirtual 88, 3) := by decide +kernel
theorem dX5_turn_25 : decode cX5_turn 25 = .ok (.istore 4, 2) := by decide +kernel
theorem dX5_turn_27 : decode cX5_turn 27 = .ok (.iload 4, 2) := by decide +kernel
theorem dX5_turn_29 : decode cX5_turn 29 = .ok (.ifCond .ne 7, 3) := by decide +kernel
theorem dX5_turn_32 : decode cX5_turn 32 = .ok (.iload_n 3, 1) := by decide +kernel
theorem dX5_turn_33 : decode cX5_turn 33 = .ok (.goto 4, 3) := by decide +kernel
theorem dX5_turn_36 : decode cX5_turn 36 = .ok (.iconst 0, 1) := by decide +kernel
theorem dX5_turn_37 : decode cX5_turn 37 = .ok (.istore 5, 2) := by decide +kernel
theorem dX5_turn_39 : decode cX5_turn 39 = .ok (.iload 5, 2) := by decide +kernel
theorem dX5_turn_41 : decode cX5_turn 41 = .ok (.ifCond .eq 20, 3) := by decide +kernel
theorem dX5_turn_44 : decode cX5_turn 44 = .ok (.aload_n 0, 1) := by decide +kernel
theorem dX5_turn_45 : decode cX5_turn 45 = .ok (.iload_n 1, 1) := by decide +kernel
theorem dX5_turn_46 : decode cX5_turn 46 = .ok (.iload 5, 2) := by decide +kernel
theorem dX5_turn_48 : decode cX5_turn 48 = .ok (.invokevirtual 78, 3) := by decide +kernel
theorem dX5_turn_51 : decode cX5_turn 51 = .ok (.getfield 82, 3) := by decide +kernel
theorem dX5_turn_54 : decode cX5_turn 54 = .ok (.bipush 20, 2) := by decide +kernel
theorem dX5_turn_56 : decode cX5_turn 56 = .ok (.if_icmp .lt 5, 3) := by decide +kernel
theorem dX5_turn_59 : decode cX5_turn 59 = .ok (.iconst (-1), 1) := by decide +kernel
theorem dX5_turn_60 : decode cX5_turn 60 = .ok (.ireturn, 1) := by decide +kernel
theorem dX5_turn_61 : decode cX5_turn 61 = .ok (.aload_n 0, 1) := by decide +kernel
theorem dX5_turn_62 : decode cX5_turn 62 = .ok (.iload_n 1, 1) := by decide +kernel
theorem dX5_turn_63 : decode cX5_turn 63 = .ok (.iload_n 2, 1) := by decide +kernel
theorem dX5_turn_64 : decode cX5_turn 64 = .ok (.iload 5, 2) := by decide +kernel
theorem dX5_turn_66 : decode cX5_turn 66 = .ok (.invokevirtual 92, 3) := by decide +kernel
theorem dX5_turn_69 : decode cX5_turn 69 = .ok (.iload_n 1, 1) := by decide +kernel
theorem dX5_turn_70 : decode cX5_turn 70 = .ok (.sipush 14610, 3) := by decide +kernel
theorem dX5_turn_73 : decode cX5_turn 73 = .ok (.imul, 1) := by decide +kernel
theorem dX5_turn_74 : decode cX5_turn 74 = .ok (.iload_n 2, 1) := by decide +kernel
theorem dX5_turn_75 : decode cX5_turn 75 = .ok (.iadd, 1) := by decide +kernel
theorem dX5_turn_76 : decode cX5_turn 76 = .ok (.iconst 3, 1) := by decide +kernel
theorem dX5_turn_77 : decode cX5_turn 77 = .ok (.imul, 1) := by decide +kernel
theorem dX5_turn_78 : decode cX5_turn 78 = .ok (.iload 4, 2) := by decide +kernel
theorem dX5_turn_80 : decode cX5_turn 80 = .ok (.iadd, 1) := by decide +kernel
theorem dX5_turn_81 : decode cX5_turn 81 = .ok (.ireturn, 1) := by decide +kernel
theorem dX5_turnBack_0 : decode cX5_turnBack 0 = .ok (.aload_n 1, 1) := by decide +kernel
theorem dX5_turnBack_1 : decode cX5_turnBack 1 = .ok (.getfield 82, 3) := by decide +kernel
theorem dX5_turnBack_4 : decode cX5_turnBack 4 = .ok (.iconst 1, 1) := by decide +kernel
theorem dX5_turnBack_5 : decode cX5_turnBack 5 = .ok (.isub, 1) := by decide +kernel
theorem dX5_turnBack_6 : decode cX5_turnBack 6 = .ok (.istore_n 2, 1) := by decide +kernel
theorem dX5_turnBack_7 : decode cX5_turnBack 7 = .ok (.iload_n 2, 1) := by decide +kernel
theorem dX5_turnBack_8 : decode cX5_turnBack 8 = .ok (.ifCond .lt 39, 3) := by decide +kernel
theorem dX5_turnBack_11 : decode cX5_turnBack 11 = .ok (.aload_n 1, 1) := by decide +kernel
theorem dX5_turnBack_12 : decode cX5_turnBack 12 = .ok (.iload_n 2, 1) := by decide +kernel
theorem dX5_turnBack_13 : decode cX5_turnBack 13 = .ok (.invokevirtual 96, 3) := by decide +kernel
theorem dX5_turnBack_16 : decode cX5_turnBack 16 = .ok (.istore_n 3, 1) := by decide +kernel
theorem dX5_turnBack_17 : decode cX5_turnBack 17 = .ok (.iload_n 3, 1) := by decide +kernel
theorem dX5_turnBack_18 : decode cX5_turnBack 18 = .ok (.iconst 3, 1) := by decide +kernel
theorem dX5_turnBack_19 : decode cX5_turnBack 19 = .ok (.idiv, 1) := by decide +kernel
theorem dX5_turnBack_20 : decode cX5_turnBack 20 = .ok (.istore 4, 2) := by decide +kernel
theorem dX5_turnBack_22 : decode cX5_turnBack 22 = .ok (.aload_n 0, 1) := by decide +kernel
theorem dX5_turnBack_23 : decode cX5_turnBack 23 = .ok (.iload 4, 2) := by decide +kernel
theorem dX5_turnBack_25 : decode cX5_turnBack 25 = .ok (.sipush 14610, 3) := by decide +kernel
theorem dX5_turnBack_28 : decode cX5_turnBack 28 = .ok (.idiv, 1) := by decide +kernel
theorem dX5_turnBack_29 : decode cX5_turnBack 29 = .ok (.iload 4, 2) := by decide +kernel
theorem dX5_turnBack_31 : decode cX5_turnBack 31 = .ok (.sipush 14610, 3) := by decide +kernel
theorem dX5_turnBack_34 : decode cX5_turnBack 34 = .ok (.irem, 1) := by decide +kernel
theorem dX5_turnBack_35 : decode cX5_turnBack 35 = .ok (.iload_n 3, 1) := by decide +kernel
theorem dX5_turnBack_36 : decode cX5_turnBack 36 = .ok (.iconst 3, 1) := by decide +kernel
theorem dX5_turnBack_37 : decode cX5_turnBack 37 = .ok (.irem, 1) := by decide +kernel
theorem dX5_turnBack_38 : decode cX5_turnBack 38 = .ok (.invokevirtual 92, 3) := by decide +kernel
theorem dX5_turnBack_41 : decode cX5_turnBack 41 = .ok (.iinc 2 (-1), 3) := by decide +kernel
theorem dX5_turnBack_44 : decode cX5_turnBack 44 = .ok (.goto (-37), 3) := by decide +kernel
theorem dX5_turnBack_47 : decode cX5_turnBack 47 = .ok (.return_, 1) := by decide +kernel
theorem dX5_markOf_0 : decode cX5_markOf 0 = .ok (.aload_n 0, 1) := by decide +kernel
theorem dX5_markOf_1 : decode cX5_markOf 1 = .ok (.iload_n 1, 1) := by decide +kernel
theorem dX5_markOf_2 : decode cX5_markOf 2 = .ok (.iconst 1, 1) := by decide +kernel
theorem dX5_markOf_3 : decode cX5_markOf 3 = .ok (.invokevirtual 78, 3) := by decide +kernel
theorem dX5_markOf_6 : decode cX5_markOf 6 = .ok (.iload_n 2, 1) := by decide +kernel
theorem dX5_markOf_7 : decode cX5_markOf 7 = .ok (.invokevirtual 100, 3) := by decide +kernel
theorem dX5_markOf_10 : decode cX5_markOf 10 = .ok (.iconst (-1), 1) := by decide +kernel
theorem dX5_markOf_11 : decode cX5_markOf 11 = .ok (.if_icmp .eq 5, 3) := by decide +kernel
theorem dX5_markOf_14 : decode cX5_markOf 14 = .ok (.iconst 1, 1) := by decide +kernel
theorem dX5_markOf_15 : decode cX5_markOf 15 = .ok (.ireturn, 1) := by decide +kernel
theorem dX5_markOf_16 : decode cX5_markOf 16 = .ok (.aload_n 0, 1) := by decide +kernel
theorem dX5_markOf_17 : decode cX5_markOf 17 = .ok (.iload_n 1, 1) := by decide +kernel
theorem dX5_markOf_18 : decode cX5_markOf 18 = .ok (.iconst 2, 1) := by decide +kernel
theorem dX5_markOf_19 : decode cX5_markOf 19 = .ok (.invokevirtual 78, 3) := by decide +kernel
theorem dX5_markOf_22 : decode cX5_markOf 22 = .ok (.iload_n 2, 1) := by decide +kernel
theorem dX5_markOf_23 : decode cX5_markOf 23 = .ok (.invokevirtual 100, 3) := by decide +kernel
theorem dX5_markOf_26 : decode cX5_markOf 26 = .ok (.iconst (-1), 1) := by decide +kernel
theorem dX5_markOf_27 : decode cX5_markOf 27 = .ok (.if_icmp .eq 7, 3) := by decide +kernel
theorem dX5_markOf_30 : decode cX5_markOf 30 = .ok (.iconst 2, 1) := by decide +kernel
theorem dX5_markOf_31 : decode cX5_markOf 31 = .ok (.goto 4, 3) := by decide +kernel
theorem dX5_markOf_34 : decode cX5_markOf 34 = .ok (.iconst 0, 1) := by decide +kernel
theorem dX5_markOf_35 : decode cX5_markOf 35 = .ok (.ireturn, 1) := by decide +kernel
theorem dX5_mark_0 : decode cX5_mark 0 = .ok (.aload_n 0, 1) := by decide +kernel
theorem dX5_mark_1 : decode cX5_mark 1 = .ok (.iload_n 1, 1) := by decide +kernel
theorem dX5_mark_2 : decode cX5_mark 2 = .ok (.iconst 1, 1) := by decide +kernel
theorem dX5_mark_3 : decode cX5_mark 3 = .ok (.invokevirtual 78, 3) := by decide +kernel
theorem dX5_mark_6 : decode cX5_mark 6 = .ok (.iload_n 2, 1) := by decide +kernel
theorem dX5_mark_7 : decode cX5_mark 7 = .ok (.invokevirtual 103, 3) := by decide +kernel
theorem dX5_mark_10 : decode cX5_mark 10 = .ok (.aload_n 0, 1) := by decide +kernel
theorem dX5_mark_11 : decode cX5_mark 11 = .ok (.iload_n 1, 1) := by decide +kernel
theorem dX5_mark_12 : decode cX5_mark 12 = .ok (.iconst 2, 1) := by decide +kernel
theorem dX5_mark_13 : decode cX5_mark 13 = .ok (.invokevirtual 78, 3) := by decide +kernel
theorem dX5_mark_16 : decode cX5_mark 16 = .ok (.iload_n 2, 1) := by decide +kernel
theorem dX5_mark_17 : decode cX5_mark 17 = .ok (.invokevirtual 103, 3) := by decide +kernel
theorem dX5_mark_20 : decode cX5_mark 20 = .ok (.iload_n 3, 1) := by decide +kernel
theorem dX5_mark_21 : decode cX5_mark 21 = .ok (.ifCond .eq 13, 3) := by decide +kernel
theorem dX5_mark_24 : decode cX5_mark 24 = .ok (.aload_n 0, 1) := by decide +kernel
theorem dX5_mark_25 : decode cX5_mark 25 = .ok (.iload_n 1, 1) := by decide +kernel
theorem dX5_mark_26 : decode cX5_mark 26 = .ok (.iload_n 3, 1) := by decide +kernel
theorem dX5_mark_27 : decode cX5_mark 27 = .ok (.invokevirtual 78, 3) := by decide +kernel
theorem dX5_mark_30 : decode cX5_mark 30 = .ok (.iload_n 2, 1) := by decide +kernel
theorem dX5_mark_31 : decode cX5_mark 31 = .ok (.invokevirtual 106, 3) := by decide +kernel
theorem dX5_mark_34 : decode cX5_mark 34 = .ok (.aload_n 0, 1) := by decide +kernel
theorem dX5_mark_35 : decode cX5_mark 35 = .ok (.aload_n 0, 1) := by decide +kernel
theorem dX5_mark_36 : decode cX5_mark 36 = .ok (.getfield 53, 3) := by decide +kernel
theorem dX5_mark_39 : decode cX5_mark 39 = .ok (.iload_n 1, 1) := by decide +kernel
theorem dX5_mark_40 : decode cX5_mark 40 = .ok (.invokestatic 109, 3) := by decide +kernel
theorem dX5_mark_43 : decode cX5_mark 43 = .ok (.putfield 53, 3) := by decide +kernel
theorem dX5_mark_46 : decode cX5_mark 46 = .ok (.return_, 1) := by decide +kernel
theorem dX5_rowOf_0 : decode cX5_rowOf 0 = .ok (.iconst 0, 1) := by decide +kernel
theorem dX5_rowOf_1 : decode cX5_rowOf 1 = .ok (.iload_n 1, 1) := by decide +kernel
theorem dX5_rowOf_2 : decode cX5_rowOf 2 = .ok (.iconst 5, 1) := by decide +kernel
theorem dX5_rowOf_3 : decode cX5_rowOf 3 = .ok (.invokestatic 109, 3) := by decide +kernel
theorem dX5_rowOf_6 : decode cX5_rowOf 6 = .ok (.invokestatic 114, 3) := by decide +kernel
theorem dX5_rowOf_9 : decode cX5_rowOf 9 = .ok (.istore_n 3, 1) := by decide +kernel
theorem dX5_rowOf_10 : decode cX5_rowOf 10 = .ok (.iload_n 2, 1) := by decide +kernel
theorem dX5_rowOf_11 : decode cX5_rowOf 11 = .ok (.iconst 1, 1) := by decide +kernel
theorem dX5_rowOf_12 : decode cX5_rowOf 12 = .ok (.if_icmp .ne 12, 3) := by decide +kernel
theorem dX5_rowOf_15 : decode cX5_rowOf 15 = .ok (.aload_n 0, 1) := by decide +kernel
theorem dX5_rowOf_16 : decode cX5_rowOf 16 = .ok (.getfield 22, 3) := by decide +kernel
theorem dX5_rowOf_19 : decode cX5_rowOf 19 = .ok (.iload_n 3, 1) := by decide +kernel
theorem dX5_rowOf_20 : decode cX5_rowOf 20 = .ok (.aaload, 1) := by decide +kernel
theorem dX5_rowOf_21 : decode cX5_rowOf 21 = .ok (.goto 9, 3) := by decide +kernel
theorem dX5_rowOf_24 : decode cX5_rowOf 24 = .ok (.aload_n 0, 1) := by decide +kernel
theorem dX5_rowOf_25 : decode cX5_rowOf 25 = .ok (.getfield 26, 3) := by decide +kernel
theorem dX5_rowOf_28 : decode cX5_rowOf 28 = .ok (.iload_n 3, 1) := by decide +kernel
theorem dX5_rowOf_29 : decode cX5_rowOf 29 = .ok (.aaload, 1) := by decide +kernel
theorem dX5_rowOf_30 : decode cX5_rowOf 30 = .ok (.areturn, 1) := by decide +kernel
theorem dX5_putTogether_0 : decode cX5_putTogether 0 = .ok (.aload_n 0, 1) := by decide +kernel
theorem dX5_putTogether_1 : decode cX5_putTogether 1 = .ok (.iconst 0, 1) := by decide +kernel
theorem dX5_putTogether_2 : decode cX5_putTogether 2 = .ok (.putfield 117, 3) := by decide +kernel
theorem dX5_putTogether_5 : decode cX5_putTogether 5 = .ok (.aload_n 0, 1) := by decide +kernel
theorem dX5_putTogether_6 : decode cX5_putTogether 6 = .ok (.getfield 37, 3) := by decide +kernel
theorem dX5_putTogether_9 : decode cX5_putTogether 9 = .ok (.iload_n 1, 1) := by decide +kernel
theorem dX5_putTogether_10 : decode cX5_putTogether 10 = .ok (.invokevirtual 120, 3) := by decide +kernel
theorem dX5_putTogether_13 : decode cX5_putTogether 13 = .ok (.istore_n 2, 1) := by decide +kernel
theorem dX5_putTogether_14 : decode cX5_putTogether 14 = .ok (.iload_n 2, 1) := by decide +kernel
theorem dX5_putTogether_15 : decode cX5_putTogether 15 = .ok (.aload_n 0, 1) := by decide +kernel
theorem dX5_putTogether_16 : decode cX5_putTogether 16 = .ok (.getfield 37, 3) := by decide +kernel
theorem dX5_putTogether_19 : decode cX5_putTogether 19 = .ok (.iload_n 1, 1) := by decide +kernel
theorem dX5_putTogether_20 : decode cX5_putTogether 20 = .ok (.invokevirtual 123, 3) := by decide +kernel
theorem dX5_putTogether_23 : decode cX5_putTogether 23 = .ok (.if_icmp .ge 29, 3) := by decide +kernel
theorem dX5_putTogether_26 : decode cX5_putTogether 26 = .ok (.aload_n 0, 1) := by decide +kernel
theorem dX5_putTogether_27 : decode cX5_putTogether 27 = .ok (.aload_n 0, 1) := by decide +kernel
theorem dX5_putTogether_28 : decode cX5_putTogether 28 = .ok (.getfield 37, 3) := by decide +kernel
theorem dX5_putTogether_31 : decode cX5_putTogether 31 = .ok (.iload_n 2, 1) := by decide +kernel
theorem dX5_putTogether_32 : decode cX5_putTogether 32 = .ok (.invokevirtual 126, 3) := by decide +kernel
theorem dX5_putTogether_35 : decode cX5_putTogether 35 = .ok (.aload_n 0, 1) := by decide +kernel
theorem dX5_putTogether_36 : decode cX5_putTogether 36 = .ok (.getfield 37, 3) := by decide +kernel
theorem dX5_putTogether_39 : decode cX5_putTogether 39 = .ok (.iload_n 2, 1) := by decide +kernel
theorem dX5_putTogether_40 : decode cX5_putTogether 40 = .ok (.invokevirtual 129, 3) := by decide +kernel
theorem dX5_putTogether_43 : decode cX5_putTogether 43 = .ok (.invokevirtual 132, 3) := by decide +kernel
theorem dX5_putTogether_46 : decode cX5_putTogether 46 = .ok (.iinc 2 1, 3) := by decide +kernel
theorem dX5_putTogether_49 : decode cX5_putTogether 49 = .ok (.goto (-35), 3) := by decide +kernel
theorem dX5_putTogether_52 : decode cX5_putTogether 52 = .ok (.iload_n 1, 1) := by decide +kernel
theorem dX5_putTogether_53 : decode cX5_putTogether 53 = .ok (.ifCond .lt 9, 3) := by decide +kernel
theorem dX5_putTogether_56 : decode cX5_putTogether 56 = .ok (.iload_n 1, 1) := by decide +kernel
theorem dX5_putTogether_57 : decode cX5_putTogether 57 = .ok (.bipush 6, 2) := by decide +kernel
theorem dX5_putTogether_59 : decode cX5_putTogether 59 = .ok (.if_icmp .lt 4, 3) := by decide +kernel
theorem dX5_putTogether_62 : decode cX5_putTogether 62 = .ok (.return_, 1) := by decide +kernel
theorem dX5_putTogether_63 : decode cX5_putTogether 63 = .ok (.aload_n 0, 1) := by decide +kernel
theorem dX5_putTogether_64 : decode cX5_putTogether 64 = .ok (.getfield 11, 3) := by decide +kernel
theorem dX5_putTogether_67 : decode cX5_putTogether 67 = .ok (.bipush 6, 2) := by decide +kernel
theorem dX5_putTogether_69 : decode cX5_putTogether 69 = .ok (.iload_n 1, 1) := by decide +kernel
theorem dX5_putTogether_70 : decode cX5_putTogether 70 = .ok (.iadd, 1) := by decide +kernel
theorem dX5_putTogether_71 : decode cX5_putTogether 71 = .ok (.aaload, 1) := by decide +kernel
theorem dX5_putTogether_72 : decode cX5_putTogether 72 = .ok (.astore_n 2, 1) := by decide +kernel
theorem dX5_putTogether_73 : decode cX5_putTogether 73 = .ok (.aload_n 2, 1) := by decide +kernel
theorem dX5_putTogether_74 : decode cX5_putTogether 74 = .ok (.aload_n 0, 1) := by decide +kernel
theorem dX5_putTogether_75 : decode cX5_putTogether 75 = .ok (.getfield 17, 3) := by decide +kernel
theorem dX5_putTogether_78 : decode cX5_putTogether 78 = .ok (.iconst 0, 1) := by decide +kernel
theorem dX5_putTogether_79 : decode cX5_putTogether 79 = .ok (.aaload, 1) := by decide +kernel
theorem dX5_putTogether_80 : decode cX5_putTogether 80 = .ok (.invokevirtual 136, 3) := by decide +kernel
theorem dX5_putTogether_83 : decode cX5_putTogether 83 = .ok (.iconst 0, 1) := by decide +kernel
theorem dX5_putTogether_84 : decode cX5_putTogether 84 = .ok (.istore_n 3, 1) := by decide +kernel
theorem dX5_putTogether_85 : decode cX5_putTogether 85 = .ok (.iload_n 3, 1) := by decide +kernel
theorem dX5_putTogether_86 : decode cX5_putTogether 86 = .ok (.aload_n 0, 1) := by decide +kernel
theorem dX5_putTogether_87 : decode cX5_putTogether 87 = .ok (.getfield 22, 3) := by decide +kernel
theorem dX5_putTogether_90 : decode cX5_putTogether 90 = .ok (.iload_n 1, 1) := by decide +kernel
theorem dX5_putTogether_91 : decode cX5_putTogether 91 = .ok (.aaload, 1) := by decide +kernel
theorem dX5_putTogether_92 : decode cX5_putTogether 92 = .ok (.getfield 82, 3) := by decide +kernel
theorem dX5_putTogether_95 : decode cX5_putTogether 95 = .ok (.if_icmp .ge 23, 3) := by decide +kernel
theorem dX5_putTogether_98 : decode cX5_putTogether 98 = .ok (.aload_n 2, 1) := by decide +kernel
theorem dX5_putTogether_99 : decode cX5_putTogether 99 = .ok (.aload_n 0, 1) := by decide +kernel
theorem dX5_putTogether_100 : decode cX5_putTogether 100 = .ok (.getfield 22, 3) := by decide +kernel
theorem dX5_putTogether_103 : decode cX5_putTogether 103 = .ok (.iload_n 1, 1) := by decide +kernel
theorem dX5_putTogether_104 : decode cX5_putTogether 104 = .ok (.aaload, 1) := by decide +kernel
theorem dX5_putTogether_105 : decode cX5_putTogether 105 = .ok (.iload_n 3, 1) := by decide +kernel
theorem dX5_putTogether_106 : decode cX5_putTogether 106 = .ok (.invokevirtual 96, 3) := by decide +kernel
theorem dX5_putTogether_109 : decode cX5_putTogether 109 = .ok (.invokevirtual 140, 3) := by decide +kernel
theorem dX5_putTogether_112 : decode cX5_putTogether 112 = .ok (.iinc 3 1, 3) := by decide +kernel
theorem dX5_putTogether_115 : decode cX5_putTogether 115 = .ok (.goto (-30), 3) := by decide +kernel
theorem dX5_putTogether_118 : decode cX5_putTogether 118 = .ok (.iconst 0, 1) := by decide +kernel
theorem dX5_putTogether_119 : decode cX5_putTogether 119 = .ok (.istore_n 3, 1) := by decide +kernel
theorem dX5_putTogether_120 : decode cX5_putTogether 120 = .ok (.iload_n 3, 1) := by decide +kernel
theorem dX5_putTogether_121 : decode cX5_putTogether 121 = .ok (.aload_n 0, 1) := by decide +kernel
theorem dX5_putTogether_122 : decode cX5_putTogether 122 = .ok (.getfield 26, 3) := by decide +kernel
theorem dX5_putTogether_125 : decode cX5_putTogether 125 = .ok (.iload_n 1, 1) := by decide +kernel
theorem dX5_putTogether_126 : decode cX5_putTogether 126 = .ok (.aaload, 1) := by decide +kernel
theorem dX5_putTogether_127 : decode cX5_putTogether 127 = .ok (.getfield 82, 3) := by decide +kernel
theorem dX5_putTogether_130 : decode cX5_putTogether 130 = .ok (.if_icmp .ge 23, 3) := by decide +kernel
theorem dX5_putTogether_133 : decode cX5_putTogether 133 = .ok (.aload_n 2, 1) := by decide +kernel
theorem dX5_putTogether_134 : decode cX5_putTogether 134 = .ok (.aload_n 0, 1) := by decide +kernel
theorem dX5_putTogether_135 : decode cX5_putTogether 135 = .ok (.getfield 26, 3) := by decide +kernel
theorem dX5_putTogether_138 : decode cX5_putTogether 138 = .ok (.iload_n 1, 1) := by decide +kernel
theorem dX5_putTogether_139 : decode cX5_putTogether 139 = .ok (.aaload, 1) := by decide +kernel
theorem dX5_putTogether_140 : decode cX5_putTogether 140 = .ok (.iload_n 3, 1) := by decide +kernel
theorem dX5_putTogether_141 : decode cX5_putTogether 141 = .ok (.invokevirtual 96, 3) := by decide +kernel
theorem dX5_putTogether_144 : decode cX5_putTogether 144 = .ok (.invokevirtual 143, 3) := by decide +kernel
theorem dX5_putTogether_147 : decode cX5_putTogether 147 = .ok (.iinc 3 1, 3) := by decide +kernel
theorem dX5_putTogether_150 : decode cX5_putTogether 150 = .ok (.goto (-30), 3) := by decide +kernel
theorem dX5_putTogether_153 : decode cX5_putTogether 153 = .ok (.return_, 1) := by decide +kernel
theorem dX5_perform_0 : decode cX5_perform 0 = .ok (.aload_n 0, 1) := by decide +kernel
theorem dX5_perform_1 : decode cX5_perform 1 = .ok (.getfield 11, 3) := by decide +kernel
theorem dX5_perform_4 : decode cX5_perform 4 = .ok (.iconst 0, 1) := by decide +kernel
theorem dX5_perform_5 : decode cX5_perform 5 = .ok (.iload_n 2, 1) := by decide +kernel
theorem dX5_perform_6 : decode cX5_perform 6 = .ok (.aload_n 0, 1) := by decide +kernel
theorem dX5_perform_7 : decode cX5_perform 7 = .ok (.getfield 11, 3) := by decide +kernel
theorem dX5_perform_10 : decode cX5_perform 10 = .ok (.arraylength, 1) := by decide +kernel
theorem dX5_perform_11 : decode cX5_perform 11 = .ok (.iconst 1, 1) := by decide +kernel
theorem dX5_perform_12 : decode cX5_perform 12 = .ok (.isub, 1) := by decide +kernel
theorem dX5_perform_13 : decode cX5_perform 13 = .ok (.invokestatic 109, 3) := by decide +kernel
theorem dX5_perform_16 : decode cX5_perform 16 = .ok (.invokestatic 114, 3) := by decide +kernel
theorem dX5_perform_19 : decode cX5_perform 19 = .ok (.aaload, 1) := by decide +kernel
theorem dX5_perform_20 : decode cX5_perform 20 = .ok (.astore_n 3, 1) := by decide +kernel
theorem dX5_perform_21 : decode cX5_perform 21 = .ok (.iload_n 1, 1) := by decide +kernel
theorem dX5_perform_22 : decode cX5_perform 22 = .ok (.ifCond .eq 8, 3) := by decide +kernel
theorem dX5_perform_25 : decode cX5_perform 25 = .ok (.iload_n 1, 1) := by decide +kernel
theorem dX5_perform_26 : decode cX5_perform 26 = .ok (.iconst 1, 1) := by decide +kernel
theorem dX5_perform_27 : decode cX5_perform 27 = .ok (.if_icmp .ne 17, 3) := by decide +kernel
theorem dX5_perform_30 : decode cX5_perform 30 = .ok (.aload_n 0, 1) := by decide +kernel
theorem dX5_perform_31 : decode cX5_perform 31 = .ok (.iload_n 1, 1) := by decide +kernel
theorem dX5_perform_32 : decode cX5_perform 32 = .ok (.ifCond .ne 7, 3) := by decide +kernel
theorem dX5_perform_35 : decode cX5_perform 35 = .ok (.aload_n 3, 1) := by decide +kernel
theorem dX5_perform_36 : decode cX5_perform 36 = .ok (.goto 4, 3) := by decide +kernel
theorem dX5_perform_39 : decode cX5_perform 39 = .ok (.aconst_null, 1) := by decide +kernel
theorem dX5_perform_40 : decode cX5_perform 40 = .ok (.invokevirtual 146, 3) := by decide +kernel
theorem dX5_perform_43 : decode cX5_perform 43 = .ok (.return_, 1) := by decide +kernel
theorem dX5_perform_44 : decode cX5_perform 44 = .ok (.aload_n 0, 1) := by decide +kernel
theorem dX5_perform_45 : decode cX5_perform 45 = .ok (.getfield 17, 3) := by decide +kernel
theorem dX5_perform_48 : decode cX5_perform 48 = .ok (.iconst 0, 1) := by decide +kernel
theorem dX5_perform_49 : decode cX5_perform 49 = .ok (.aload_n 0, 1) := by decide +kernel
theorem dX5_perform_50 : decode cX5_perform 50 = .ok (.getfield 117, 3) := by decide +kernel
theorem dX5_perform_53 : decode cX5_perform 53 = .ok (.iconst 1, 1) := by decide +kernel
theorem dX5_perform_54 : decode cX5_perform 54 = .ok (.isub, 1) := by decide +kernel
theorem dX5_perform_55 : decode cX5_perform 55 = .ok (.invokestatic 114, 3) := by decide +kernel
theorem dX5_perform_58 : decode cX5_perform 58 = .ok (.aaload, 1) := by decide +kernel
theorem dX5_perform_59 : decode cX5_perform 59 = .ok (.astore 4, 2) := by decide +kernel
theorem dX5_perform_61 : decode cX5_perform 61 = .ok (.iload_n 1, 1) := by decide +kernel
theorem dX5_perform_62 : decode cX5_perform 62 = .ok (.tableswitch 78 2 8 #[42, 78, 78, 78, 51, 60, 69], 42) := by decide +kernel
theorem dX5_perform_104 : decode cX5_perform 104 = .ok (.aload 4, 2) := by decide +kernel
theorem dX5_perform_106 : decode cX5_perform 106 = .ok (.iload_n 2, 1) := by decide +kernel
theorem dX5_perform_107 : decode cX5_perform 107 = .ok (.invokevirtual 140, 3) := by decide +kernel
theorem dX5_perform_110 : decode cX5_perform 110 = .ok (.goto 37, 3) := by decide +kernel
theorem dX5_perform_113 : decode cX5_perform 113 = .ok (.aload 4, 2) := by decide +kernel
theorem dX5_perform_115 : decode cX5_perform 115 = .ok (.iload_n 2, 1) := by decide +kernel
theorem dX5_perform_116 : decode cX5_perform 116 = .ok (.invokevirtual 149, 3) := by decide +kernel
theorem dX5_perform_119 : decode cX5_perform 119 = .ok (.goto 28, 3) := by decide +kernel
theorem dX5_perform_122 : decode cX5_perform 122 = .ok (.aload 4, 2) := by decide +kernel
theorem dX5_perform_124 : decode cX5_perform 124 = .ok (.iload_n 2, 1) := by decide +kernel
theorem dX5_perform_125 : decode cX5_perform 125 = .ok (.invokevirtual 152, 3) := by decide +kernel
theorem dX5_perform_128 : decode cX5_perform 128 = .ok (.goto 19, 3) := by decide +kernel
theorem dX5_perform_131 : decode cX5_perform 131 = .ok (.aload 4, 2) := by decide +kernel
theorem dX5_perform_133 : decode cX5_perform 133 = .ok (.aload_n 3, 1) := by decide +kernel
theorem dX5_perform_134 : decode cX5_perform 134 = .ok (.invokevirtual 155, 3) := by decide +kernel
theorem dX5_perform_137 : decode cX5_perform 137 = .ok (.goto 10, 3) := by decide +kernel
theorem dX5_perform_140 : decode cX5_perform 140 = .ok (.aload_n 0, 1) := by decide +kernel
theorem dX5_perform_141 : decode cX5_perform 141 = .ok (.iload_n 1, 1) := by decide +kernel
theorem dX5_perform_142 : decode cX5_perform 142 = .ok (.aload 4, 2) := by decide +kernel
theorem dX5_perform_144 : decode cX5_perform 144 = .ok (.invokevirtual 158, 3) := by decide +kernel
theorem dX5_perform_147 : decode cX5_perform 147 = .ok (.return_, 1) := by decide +kernel
theorem dX5_lay_0 : decode cX5_lay 0 = .ok (.aload_n 0, 1) := by decide +kernel
theorem dX5_lay_1 : decode cX5_lay 1 = .ok (.getfield 117, 3) := by decide +kernel
theorem dX5_lay_4 : decode cX5_lay 4 = .ok (.aload_n 0, 1) := by decide +kernel
theorem dX5_lay_5 : decode cX5_lay 5 = .ok (.getfield 17, 3) := by decide +kernel
theorem dX5_lay_8 : decode cX5_lay 8 = .ok (.arraylength, 1) := by decide +kernel
theorem dX5_lay_9 : decode cX5_lay 9 = .ok (.if_icmp .lt 4, 3) := by decide +kernel
theorem dX5_lay_12 : decode cX5_lay 12 = .ok (.return_, 1) := by decide +kernel
theorem dX5_lay_13 : decode cX5_lay 13 = .ok (.aload_n 1, 1) := by decide +kernel
theorem dX5_lay_14 : decode cX5_lay 14 = .ok (.ifnonnull 18, 3) := by decide +kernel
theorem dX5_lay_17 : decode cX5_lay 17 = .ok (.aload_n 0, 1) := by decide +kernel
theorem dX5_lay_18 : decode cX5_lay 18 = .ok (.getfield 17, 3) := by decide +kernel
theorem dX5_lay_21 : decode cX5_lay 21 = .ok (.aload_n 0, 1) := by decide +kernel
theorem dX5_lay_22 : decode cX5_lay 22 = .ok (.getfield 117, 3) := by decide +kernel
theorem dX5_lay_25 : decode cX5_lay 25 = .ok (.aaload, 1) := by decide +kernel
theorem dX5_lay_26 : decode cX5_lay 26 = .ok (.invokevirtual 162, 3) := by decide +kernel
theorem dX5_lay_29 : decode cX5_lay 29 = .ok (.goto 16, 3) := by decide +kernel
theorem dX5_lay_32 : decode cX5_lay 32 = .ok (.aload_n 0, 1) := by decide +kernel
theorem dX5_lay_33 : decode cX5_lay 33 = .ok (.getfield 17, 3) := by decide +kernel
theorem dX5_lay_36 : decode cX5_lay 36 = .ok (.aload_n 0, 1) := by decide +kernel
theorem dX5_lay_37 : decode cX5_lay 37 = .ok (.getfield 117, 3) := by decide +kernel
theorem dX5_lay_40 : decode cX5_lay 40 = .ok (.aaload, 1) := by decide +kernel
theorem dX5_lay_41 : decode cX5_lay 41 = .ok (.aload_n 1, 1) := by decide +kernel
theorem dX5_lay_42 : decode cX5_lay 42 = .ok (.invokevirtual 136, 3) := by decide +kernel
theorem dX5_lay_45 : decode cX5_lay 45 = .ok (.aload_n 0, 1) := by decide +kernel
theorem dX5_lay_46 : decode cX5_lay 46 = .ok (.dup, 1) := by decide +kernel
theorem dX5_lay_47 : decode cX5_lay 47 = .ok (.getfield 117, 3) := by decide +kernel
theorem dX5_lay_50 : decode cX5_lay 50 = .ok (.iconst 1, 1) := by decide +kernel
theorem dX5_lay_51 : decode cX5_lay 51 = .ok (.iadd, 1) := by decide +kernel
theorem dX5_lay_52 : decode cX5_lay 52 = .ok (.putfield 117, 3) := by decide +kernel
theorem dX5_lay_55 : decode cX5_lay 55 = .ok (.return_, 1) := by decide +kernel
theorem dX5_join_0 : decode cX5_join 0 = .ok (.aload_n 0, 1) := by decide +kernel
theorem dX5_join_1 : decode cX5_join 1 = .ok (.getfield 117, 3) := by decide +kernel
theorem dX5_join_4 : decode cX5_join 4 = .ok (.iconst 2, 1) := by decide +kernel
theorem dX5_join_5 : decode cX5_join 5 = .ok (.if_icmp .ge 4, 3) := by decide +kernel
theorem dX5_join_8 : decode cX5_join 8 = .ok (.return_, 1) := by decide +kernel
theorem dX5_join_9 : decode cX5_join 9 = .ok (.aload_n 0, 1) := by decide +kernel
theorem dX5_join_10 : decode cX5_join 10 = .ok (.dup, 1) := by decide +kernel
theorem dX5_join_11 : decode cX5_join 11 = .ok (.getfield 117, 3) := by decide +kernel
theorem dX5_join_14 : decode cX5_join 14 = .ok (.iconst 1, 1) := by decide +kernel
theorem dX5_join_15 : decode cX5_join 15 = .ok (.isub, 1) := by decide +kernel
theorem dX5_join_16 : decode cX5_join 16 = .ok (.putfield 117, 3) := by decide +kernel
theorem dX5_join_19 : decode cX5_join 19 = .ok (.aload_n 0, 1) := by decide +kernel
theorem dX5_join_20 : decode cX5_join 20 = .ok (.getfield 17, 3) := by decide +kernel
theorem dX5_join_23 : decode cX5_join 23 = .ok (.aload_n 0, 1) := by decide +kernel
theorem dX5_join_24 : decode cX5_join 24 = .ok (.getfield 117, 3) := by decide +kernel
theorem dX5_join_27 : decode cX5_join 27 = .ok (.iconst 1, 1) := by decide +kernel
theorem dX5_join_28 : decode cX5_join 28 = .ok (.isub, 1) := by decide +kernel
theorem dX5_join_29 : decode cX5_join 29 = .ok (.aaload, 1) := by decide +kernel
theorem dX5_join_30 : decode cX5_join 30 = .ok (.astore_n 3, 1) := by decide +kernel
theorem dX5_join_31 : decode cX5_join 31 = .ok (.iload_n 1, 1) := by decide +kernel
theorem dX5_join_32 : decode cX5_join 32 = .ok (.iconst 3, 1) := by decide +kernel
theorem dX5_join_33 : decode cX5_join 33 = .ok (.if_icmp .ne 11, 3) := by decide +kernel
theorem dX5_join_36 : decode cX5_join 36 = .ok (.aload_n 3, 1) := by decide +kernel
theorem dX5_join_37 : decode cX5_join 37 = .ok (.aload_n 2, 1) := by decide +kernel
theorem dX5_join_38 : decode cX5_join 38 = .ok (.invokevirtual 163, 3) := by decide +kernel
theorem dX5_join_41 : decode cX5_join 41 = .ok (.goto 21, 3) := by decide +kernel
theorem dX5_join_44 : decode cX5_join 44 = .ok (.iload_n 1, 1) := by decide +kernel
theorem dX5_join_45 : decode cX5_join 45 = .ok (.iconst 4, 1) := by decide +kernel
theorem dX5_join_46 : decode cX5_join 46 = .ok (.if_icmp .ne 11, 3) := by decide +kernel
theorem dX5_join_49 : decode cX5_join 49 = .ok (.aload_n 3, 1) := by decide +kernel
theorem dX5_join_50 : decode cX5_join 50 = .ok (.aload_n 2, 1) := by decide +kernel
theorem dX5_join_51 : decode cX5_join 51 = .ok (.invokevirtual 166, 3) := by decide +kernel
theorem dX5_join_54 : decode cX5_join 54 = .ok (.goto 8, 3) := by decide +kernel
theorem dX5_join_57 : decode cX5_join 57 = .ok (.aload_n 3, 1) := by decide +kernel
theorem dX5_join_58 : decode cX5_join 58 = .ok (.aload_n 2, 1) := by decide +kernel
theorem dX5_join_59 : decode cX5_join 59 = .ok (.invokevirtual 169, 3) := by decide +kernel
theorem dX5_join_62 : decode cX5_join 62 = .ok (.return_, 1) := by decide +kernel
theorem dX6_init_0 : decode cX6_init 0 = .ok (.aload_n 0, 1) := by decide +kernel
theorem dX6_init_1 : decode cX6_init 1 = .ok (.invokespecial 3, 3) := by decide +kernel
theorem dX6_init_4 : decode cX6_init 4 = .ok (.aload_n 0, 1) := by decide +kernel
theorem dX6_init_5 : decode cX6_init 5 = .ok (.iconst (-1), 1) := by decide +kernel
theorem dX6_init_6 : decode cX6_init 6 = .ok (.putfield 9, 3) := by decide +kernel
theorem dX6_init_9 : decode cX6_init 9 = .ok (.aload_n 0, 1) := by decide +kernel
theorem dX6_init_10 : decode cX6_init 10 = .ok (.iconst 0, 1) := by decide +kernel
theorem dX6_init_11 : decode cX6_init 11 = .ok (.newarray .byte, 2) := by decide +kernel
theorem dX6_init_13 : decode cX6_init 13 = .ok (.putfield 15, 3) := by decide +kernel
theorem dX6_init_16 : decode cX6_init 16 = .ok (.aload_n 0, 1) := by decide +kernel
theorem dX6_init_17 : decode cX6_init 17 = .ok (.new 19, 3) := by decide +kernel
theorem dX6_init_20 : decode cX6_init 20 = .ok (.dup, 1) := by decide +kernel
theorem dX6_init_21 : decode cX6_init 21 = .ok (.bipush 8, 2) := by decide +kernel
theorem dX6_init_23 : decode cX6_init 23 = .ok (.invokespecial 21, 3) := by decide +kernel
theorem dX6_init_26 : decode cX6_init 26 = .ok (.putfield 24, 3) := by decide +kernel
theorem dX6_init_29 : decode cX6_init 29 = .ok (.return_, 1) := by decide +kernel
theorem dX6_read_0 : decode cX6_read 0 = .ok (.aload_n 0, 1) := by decide +kernel
theorem dX6_read_1 : decode cX6_read 1 = .ok (.aload_n 1, 1) := by decide +kernel
theorem dX6_read_2 : decode cX6_read 2 = .ok (.getfield 28, 3) := by decide +kernel
theorem dX6_read_5 : decode cX6_read 5 = .ok (.putfield 15, 3) := by decide +kernel
theorem dX6_read_8 : decode cX6_read 8 = .ok (.aload_n 0, 1) := by decide +kernel
theorem dX6_read_9 : decode cX6_read 9 = .ok (.aload_n 1, 1) := by decide +kernel
theorem dX6_read_10 : decode cX6_read 10 = .ok (.getfield 33, 3) := by decide +kernel
theorem dX6_read_13 : decode cX6_read 13 = .ok (.aload_n 0, 1) := by decide +kernel
theorem dX6_read_14 : decode cX6_read 14 = .ok (.getfield 15, 3) := by decide +kernel
theorem dX6_read_17 : decode cX6_read 17 = .ok (.arraylength, 1) := by decide +kernel
theorem dX6_read_18 : decode cX6_read 18 = .ok (.invokestatic 36, 3) := by decide +kernel
theorem dX6_read_21 : decode cX6_read 21 = .ok (.putfield 42, 3) := by decide +kernel
theorem dX6_read_24 : decode cX6_read 24 = .ok (.aload_n 0, 1) := by decide +kernel
theorem dX6_read_25 : decode cX6_read 25 = .ok (.aload_n 2, 1) := by decide +kernel
theorem dX6_read_26 : decode cX6_read 26 = .ok (.putfield 45, 3) := by decide +kernel
theorem dX6_read_29 : decode cX6_read 29 = .ok (.aload_n 0, 1) := by decide +kernel
theorem dX6_read_30 : decode cX6_read 30 = .ok (.getfield 45, 3) := by decide +kernel
theorem dX6_read_33 : decode cX6_read 33 = .ok (.invokevirtual 49, 3) := by decide +kernel
theorem dX6_read_36 : decode cX6_read 36 = .ok (.aload_n 0, 1) := by decide +kernel
theorem dX6_read_37 : decode cX6_read 37 = .ok (.iconst 0, 1) := by decide +kernel
theorem dX6_read_38 : decode cX6_read 38 = .ok (.putfield 54, 3) := by decide +kernel
theorem dX6_read_41 : decode cX6_read 41 = .ok (.aload_n 0, 1) := by decide +kernel
theorem dX6_read_42 : decode cX6_read 42 = .ok (.iconst (-1), 1) := by decide +kernel
theorem dX6_read_43 : decode cX6_read 43 = .ok (.putfield 9, 3) := by decide +kernel
theorem dX6_read_46 : decode cX6_read 46 = .ok (.aload_n 0, 1) := by decide +kernel
theorem dX6_read_47 : decode cX6_read 47 = .ok (.iconst 3, 1) := by decide +kernel
theorem dX6_read_48 : decode cX6_read 48 = .ok (.putfield 57, 3) := by decide +kernel
theorem dX6_read_51 : decode cX6_read 51 = .ok (.aload_n 0, 1) := by decide +kernel
theorem dX6_read_52 : decode cX6_read 52 = .ok (.iconst 0, 1) := by decide +kernel
theorem dX6_read_53 : decode cX6_read 53 = .ok (.putfield 60, 3) := by decide +kernel
theorem dX6_read_56 : decode cX6_read 56 = .ok (.aload_n 0, 1) := by decide +kernel
theorem dX6_read_57 : decode cX6_read 57 = .ok (.invokevirtual 63, 3) := by decide +kernel
theorem dX6_read_60 : decode cX6_read 60 = .ok (.iconst 0, 1) := by decide +kernel
theorem dX6_read_61 : decode cX6_read 61 = .ok (.istore_n 3, 1) := by decide +kernel
theorem dX6_read_62 : decode cX6_read 62 = .ok (.iload_n 3, 1) := by decide +kernel
theorem dX6_read_63 : decode cX6_read 63 = .ok (.sipush 1600, 3) := by decide +kernel
theorem dX6_read_66 : decode cX6_read 66 = .ok (.if_icmp .ge 79, 3) := by decide +kernel
theorem dX6_read_69 : decode cX6_read 69 = .ok (.iload_n 3, 1) := by decide +kernel
theorem dX6_read_70 : decode cX6_read 70 = .ok (.ifCond .eq 10, 3) := by decide +kernel
theorem dX6_read_73 : decode cX6_read 73 = .ok (.aload_n 0, 1) := by decide +kernel
theorem dX6_read_74 : decode cX6_read 74 = .ok (.getfield 57, 3) := by decide +kernel
theorem dX6_read_77 : decode cX6_read 77 = .ok (.ifCond .eq 68, 3) := by decide +kernel
theorem dX6_read_80 : decode cX6_read 80 = .ok (.aload_n 0, 1) := by decide +kernel
theorem dX6_read_81 : decode cX6_read 81 = .ok (.ldc 66, 2) := by decide +kernel
theorem dX6_read_83 : decode cX6_read 83 = .ok (.invokevirtual 68, 3) := by decide +kernel
theorem dX6_read_86 : decode cX6_read 86 = .ok (.ifCond .eq 10, 3) := by decide +kernel
theorem dX6_read_89 : decode cX6_read 89 = .ok (.aload_n 0, 1) := by decide +kernel
theorem dX6_read_90 : decode cX6_read 90 = .ok (.invokevirtual 72, 3) := by decide +kernel
theorem dX6_read_93 : decode cX6_read 93 = .ok (.goto 28, 3) := by decide +kernel
theorem dX6_read_96 : decode cX6_read 96 = .ok (.aload_n 0, 1) := by decide +kernel
theorem dX6_read_97 : decode cX6_read 97 = .ok (.ldc 75, 2) := by decide +kernel
theorem dX6_read_99 : decode cX6_read 99 = .ok (.invokevirtual 68, 3) := by decide +kernel
theorem dX6_read_102 : decode cX6_read 102 = .ok (.ifCond .eq 10, 3) := by decide +kernel
theorem dX6_read_105 : decode cX6_read 105 = .ok (.aload_n 0, 1) := by decide +kernel
theorem dX6_read_106 : decode cX6_read 106 = .ok (.invokevirtual 77, 3) := by decide +kernel
theorem dX6_read_109 : decode cX6_read 109 = .ok (.goto 12, 3) := by decide +kernel
theorem dX6_read_112 : decode cX6_read 112 = .ok (.aload_n 0, 1) := by decide +kernel
theorem dX6_read_113 : decode cX6_read 113 = .ok (.iconst 1, 1) := by decide +kernel
theorem dX6_read_114 : decode cX6_read 114 = .ok (.aload_n 0, 1) := by decide +kernel
theorem dX6_read_115 : decode cX6_read 115 = .ok (.getfield 80, 3) := by decide +kernel
theorem dX6_read_118 : decode cX6_read 118 = .ok (.invokevirtual 83, 3) := by decide +kernel
theorem dX6_read_121 : decode cX6_read 121 = .ok (.aload_n 0, 1) := by decide +kernel
theorem dX6_read_122 : decode cX6_read 122 = .ok (.aload_n 0, 1) := by decide +kernel
theorem dX6_read_123 : decode cX6_read 123 = .ok (.bipush 59, 2) := by decide +kernel
theorem dX6_read_125 : decode cX6_read 125 = .ok (.invokevirtual 87, 3) := by decide +kernel
theorem dX6_read_128 : decode cX6_read 128 = .ok (.invokevirtual 91, 3) := by decide +kernel
theorem dX6_read_131 : decode cX6_read 131 = .ok (.aload_n 0, 1) := by decide +kernel
theorem dX6_read_132 : decode cX6_read 132 = .ok (.getfield 54, 3) := by decide +kernel
theorem dX6_read_135 : decode cX6_read 135 = .ok (.ifCond .eq 4, 3) := by decide +kernel
theorem dX6_read_138 : decode cX6_read 138 = .ok (.return_, 1) := by decide +kernel
theorem dX6_read_139 : decode cX6_read 139 = .ok (.iinc 3 1, 3) := by decide +kernel
theorem dX6_read_142 : decode cX6_read 142 = .ok (.goto (-80), 3) := by decide +kernel
theorem dX6_read_145 : decode cX6_read 145 = .ok (.return_, 1) := by decide +kernel
theorem dX6_ruleText_0 : decode cX6_ruleText 0 = .ok (.aload_n 0, 1) := by decide +kernel
theorem dX6_ruleText_1 : decode cX6_ruleText 1 = .ok (.getfield 45, 3) := by decide +kernel
theorem dX6_ruleText_4 : decode cX6_ruleText 4 = .ok (.getfield 95, 3) := by decide +kernel
theorem dX6_ruleText_7 : decode cX6_ruleText 7 = .ok (.bipush 6, 2) := by decide +kernel
theorem dX6_ruleText_9 : decode cX6_ruleText 9 = .ok (.if_icmp .lt 13, 3) := by decide +kernel
theorem dX6_ruleText_12 : decode cX6_ruleText 12 = .ok (.aload_n 0, 1) := by decide +kernel
theorem dX6_ruleText_13 : decode cX6_ruleText 13 = .ok (.iconst 5, 1) := by decide +kernel
theorem dX6_ruleText_14 : decode cX6_ruleText 14 = .ok (.aload_n 0, 1) := by decide +kernel
theorem dX6_ruleText_15 : decode cX6_ruleText 15 = .ok (.getfield 80, 3) := by decide +kernel
theorem dX6_ruleText_18 : decode cX6_ruleText 18 = .ok (.invokevirtual 83, 3) := by decide +kernel
theorem dX6_ruleText_21 : decode cX6_ruleText 21 = .ok (.return_, 1) := by decide +kernel
theorem dX6_ruleText_22 : decode cX6_ruleText 22 = .ok (.aload_n 0, 1) := by decide +kernel
theorem dX6_ruleText_23 : decode cX6_ruleText 23 = .ok (.invokevirtual 63, 3) := by decide +kernel
theorem dX6_ruleText_26 : decode cX6_ruleText 26 = .ok (.aload_n 0, 1) := by decide +kernel
theorem dX6_ruleText_27 : decode cX6_ruleText 27 = .ok (.invokevirtual 98, 3) := by decide +kernel
theorem dX6_ruleText_30 : decode cX6_ruleText 30 = .ok (.istore_n 1, 1) := by decide +kernel
theorem dX6_ruleText_31 : decode cX6_ruleText 31 = .ok (.aload_n 0, 1) := by decide +kernel
theorem dX6_ruleText_32 : decode cX6_ruleText 32 = .ok (.getfield 45, 3) := by decide +kernel
theorem dX6_ruleText_35 : decode cX6_ruleText 35 = .ok (.invokevirtual 102, 3) := by decide +kernel
theorem dX6_ruleText_38 : decode cX6_ruleText 38 = .ok (.astore_n 2, 1) := by decide +kernel
theorem dX6_ruleText_39 : decode cX6_ruleText 39 = .ok (.aload_n 2, 1) := by decide +kernel
theorem dX6_ruleText_40 : decode cX6_ruleText 40 = .ok (.invokevirtual 106, 3) := by decide +kernel
theorem dX6_ruleText_43 : decode cX6_ruleText 43 = .ok (.aload_n 0, 1) := by decide +kernel
theorem dX6_ruleText_44 : decode cX6_ruleText 44 = .ok (.aload_n 0, 1) := by decide +kernel
theorem dX6_ruleText_45 : decode cX6_ruleText 45 = .ok (.ldc 111, 2) := by decide +kernel
theorem dX6_ruleText_47 : decode cX6_ruleText 47 = .ok (.invokevirtual 68, 3) := by decide +kernel
theorem dX6_ruleText_50 : decode cX6_ruleText 50 = .ok (.invokevirtual 91, 3) := by decide +kernel
theorem dX6_ruleText_53 : decode cX6_ruleText 53 = .ok (.aload_n 2, 1) := by decide +kernel
theorem dX6_ruleText_54 : decode cX6_ruleText 54 = .ok (.aload_n 0, 1) := by decide +kernel
theorem dX6_ruleText_55 : decode cX6_ruleText 55 = .ok (.iconst 1, 1) := by decide +kernel
theorem dX6_ruleText_56 : decode cX6_ruleText 56 = .ok (.bipush 99, 2) := by decide +kernel
theorem dX6_ruleText_58 : decode cX6_ruleText 58 = .ok (.invokevirtual 113, 3) := by decide +kernel
theorem dX6_ruleText_61 : decode cX6_ruleText 61 = .ok (.putfield 116, 3) := by decide +kernel
theorem dX6_ruleText_64 : decode cX6_ruleText 64 = .ok (.aload_n 2, 1) := by decide +kernel
theorem dX6_ruleText_65 : decode cX6_ruleText 65 = .ok (.aload_n 0, 1) := by decide +kernel
theorem dX6_ruleText_66 : decode cX6_ruleText 66 = .ok (.ldc 119, 2) := by decide +kernel
theorem dX6_ruleText_68 : decode cX6_ruleText 68 = .ok (.invokevirtual 121, 3) := by decide +kernel
theorem dX6_ruleText_71 : decode cX6_ruleText 71 = .ok (.putfield 125, 3) := by decide +kernel
theorem dX6_ruleText_74 : decode cX6_ruleText 74 = .ok (.aload_n 0, 1) := by decide +kernel
theorem dX6_ruleText_75 : decode cX6_ruleText 75 = .ok (.aload_n 2, 1) := by decide +kernel
theorem dX6_ruleText_76 : decode cX6_ruleText 76 = .ok (.getfield 125, 3) := by decide +kernel
theorem dX6_ruleText_79 : decode cX6_ruleText 79 = .ok (.iconst (-1), 1) := by decide +kernel
theorem dX6_ruleText_80 : decode cX6_ruleText 80 = .ok (.if_icmp .eq 7, 3) := by decide +kernel
theorem dX6_ruleText_83 : decode cX6_ruleText 83 = .ok (.iconst 1, 1) := by decide +kernel
theorem dX6_ruleText_84 : decode cX6_ruleText 84 = .ok (.goto 4, 3) := by decide +kernel
theorem dX6_ruleText_87 : decode cX6_ruleText 87 = .ok (.iconst 0, 1) := by decide +kernel
theorem dX6_ruleText_88 : decode cX6_ruleText 88 = .ok (.invokevirtual 91, 3) := by decide +kernel
theorem dX6_ruleText_91 : decode cX6_ruleText 91 = .ok (.aload_n 0, 1) := by decide +kernel
theorem dX6_ruleText_92 : decode cX6_ruleText 92 = .ok (.aload_n 0, 1) := by decide +kernel
theorem dX6_ruleText_93 : decode cX6_ruleText 93 = .ok (.ldc 128, 2) := by decide +kernel
theorem dX6_ruleText_95 : decode cX6_ruleText 95 = .ok (.invokevirtual 68, 3) := by decide +kernel
theorem dX6_ruleText_98 : decode cX6_ruleText 98 = .ok (.invokevirtual 91, 3) := by decide +kernel
theorem dX6_ruleText_101 : decode cX6_ruleText 101 = .ok (.aload_n 2, 1) := by decide +kernel
theorem dX6_ruleText_102 : decode cX6_ruleText 102 = .ok (.aload_n 0, 1) := by decide +kernel
theorem dX6_ruleText_103 : decode cX6_ruleText 103 = .ok (.invokevirtual 130, 3) := by decide +kernel
theorem dX6_ruleText_106 : decode cX6_ruleText 106 = .ok (.invokevirtual 133, 3) := by decide +kernel
theorem dX6_ruleText_109 : decode cX6_ruleText 109 = .ok (.iconst 0, 1) := by decide +kernel
theorem dX6_ruleText_110 : decode cX6_ruleText 110 = .ok (.istore_n 3, 1) := by decide +kernel
theorem dX6_ruleText_111 : decode cX6_ruleText 111 = .ok (.aload_n 0, 1) := by decide +kernel
theorem dX6_ruleText_112 : decode cX6_ruleText 112 = .ok (.ldc 136, 2) := by decide +kernel
theorem dX6_ruleText_114 : decode cX6_ruleText 114 = .ok (.invokevirtual 121, 3) := by decide +kernel
theorem dX6_ruleText_117 : decode cX6_ruleText 117 = .ok (.istore 4, 2) := by decide +kernel
theorem dX6_ruleText_119 : decode cX6_ruleText 119 = .ok (.iconst 0, 1) := by decide +kernel
theorem dX6_ruleText_120 : decode cX6_ruleText 120 = .ok (.istore 5, 2) := by decide +kernel
theorem dX6_ruleText_122 : decode cX6_ruleText 122 = .ok (.iload 5, 2) := by decide +kernel
theorem dX6_ruleText_124 : decode cX6_ruleText 124 = .ok (.sipush 1600, 3) := by decide +kernel
theorem dX6_ruleText_127 : decode cX6_ruleText 127 = .ok (.if_icmp .ge 59, 3) := by decide +kernel
theorem dX6_ruleText_130 : decode cX6_ruleText 130 = .ok (.iload 4, 2) := by decide +kernel
theorem dX6_ruleText_132 : decode cX6_ruleText 132 = .ok (.iconst (-1), 1) := by decide +kernel
theorem dX6_ruleText_133 : decode cX6_ruleText 133 = .ok (.if_icmp .eq 53, 3) := by decide +kernel
theorem dX6_ruleText_136 : decode cX6_ruleText 136 = .ok (.iload_n 3, 1) := by decide +kernel
theorem dX6_ruleText_137 : decode cX6_ruleText 137 = .ok (.iload 4, 2) := by decide +kernel
theorem dX6_ruleText_139 : decode cX6_ruleText 139 = .ok (.ishr, 1) := by decide +kernel
theorem dX6_ruleText_140 : decode cX6_ruleText 140 = .ok (.iconst 1, 1) := by decide +kernel
theorem dX6_ruleText_141 : decode cX6_ruleText 141 = .ok (.iand, 1) := by decide +kernel
theorem dX6_ruleText_142 : decode cX6_ruleText 142 = .ok (.ifCond .eq 12, 3) := by decide +kernel
theorem dX6_ruleText_145 : decode cX6_ruleText 145 = .ok (.aload_n 0, 1) := by decide +kernel
theorem dX6_ruleText_146 : decode cX6_ruleText 146 = .ok (.iconst 4, 1) := by decide +kernel
theorem dX6_ruleText_147 : decode cX6_ruleText 147 = .ok (.aload_n 0, 1) := by decide +kernel
theorem dX6_ruleText_148 : decode cX6_ruleText 148 = .ok (.getfield 80, 3) := by decide +kernel
theorem dX6_ruleText_151 : decode cX6_ruleText 151 = .ok (.invokevirtual 83, 3) := by decide +kernel
theorem dX6_ruleText_154 : decode cX6_ruleText 154 = .ok (.iload_n 3, 1) := by decide +kernel
theorem dX6_ruleText_155 : decode cX6_ruleText 155 = .ok (.iconst 1, 1) := by decide +kernel
theorem dX6_ruleText_156 : decode cX6_ruleText 156 = .ok (.iload 4, 2) := by decide +kernel
theorem dX6_ruleText_158 : decode cX6_ruleText 158 = .ok (.ishl, 1) := by decide +kernel
theorem dX6_ruleText_159 : decode cX6_ruleText 159 = .ok (.ior, 1) := by decide +kernel
theorem dX6_ruleText_160 : decode cX6_ruleText 160 = .ok (.istore_n 3, 1) := by decide +kernel
theorem dX6_ruleText_161 : decode cX6_ruleText 161 = .ok (.aload_n 0, 1) := by decide +kernel
theorem dX6_ruleText_162 : decode cX6_ruleText 162 = .ok (.invokevirtual 63, 3) := by decide +kernel
theorem dX6_ruleText_165 : decode cX6_ruleText 165 = .ok (.aload_n 0, 1) := by decide +kernel
theorem dX6_ruleText_166 : decode cX6_ruleText 166 = .ok (.iload 4, 2) := by decide +kernel
theorem dX6_ruleText_168 : decode cX6_ruleText 168 = .ok (.aload_n 2, 1) := by decide +kernel
theorem dX6_ruleText_169 : decode cX6_ruleText 169 = .ok (.invokevirtual 138, 3) := by decide +kernel
theorem dX6_ruleText_172 : decode cX6_ruleText 172 = .ok (.aload_n 0, 1) := by decide +kernel
theorem dX6_ruleText_173 : decode cX6_ruleText 173 = .ok (.ldc 136, 2) := by decide +kernel
theorem dX6_ruleText_175 : decode cX6_ruleText 175 = .ok (.invokevirtual 121, 3) := by decide +kernel
theorem dX6_ruleText_178 : decode cX6_ruleText 178 = .ok (.istore 4, 2) := by decide +kernel
theorem dX6_ruleText_180 : decode cX6_ruleText 180 = .ok (.iinc 5 1, 3) := by decide +kernel
theorem dX6_ruleText_183 : decode cX6_ruleText 183 = .ok (.goto (-61), 3) := by decide +kernel
theorem dX6_ruleText_186 : decode cX6_ruleText 186 = .ok (.aload_n 0, 1) := by decide +kernel
theorem dX6_ruleText_187 : decode cX6_ruleText 187 = .ok (.getfield 45, 3) := by decide +kernel
theorem dX6_ruleText_190 : decode cX6_ruleText 190 = .ok (.iload_n 1, 1) := by decide +kernel
theorem dX6_ruleText_191 : decode cX6_ruleText 191 = .ok (.invokevirtual 142, 3) := by decide +kernel
theorem dX6_ruleText_194 : decode cX6_ruleText 194 = .ok (.return_, 1) := by decide +kernel
theorem dX6_partText_0 : decode cX6_partText 0 = .ok (.iload_n 1, 1) := by decide +kernel
theorem dX6_partText_1 : decode cX6_partText 1 = .ok (.lookupswitch 49 #[(4, 27), (5, 36)], 27) := by decide +kernel
theorem dX6_partText_28 : decode cX6_partText 28 = .ok (.aload_n 2, 1) := by decide +kernel
theorem dX6_partText_29 : decode cX6_partText 29 = .ok (.aload_n 0, 1) := by decide +kernel
theorem dX6_partText_30 : decode cX6_partText 30 = .ok (.invokevirtual 130, 3) := by decide +kernel
theorem dX6_partText_33 : decode cX6_partText 33 = .ok (.putfield 145, 3) := by decide +kernel
theorem dX6_partText_36 : decode cX6_partText 36 = .ok (.return_, 1) := by decide +kernel
theorem dX6_partText_37 : decode cX6_partText 37 = .ok (.aload_n 2, 1) := by decide +kernel
theorem dX6_partText_38 : decode cX6_partText 38 = .ok (.aload_n 0, 1) := by decide +kernel
theorem dX6_partText_39 : decode cX6_partText 39 = .ok (.iconst 1, 1) := by decide +kernel
theorem dX6_partText_40 : decode cX6_partText 40 = .ok (.sipush 999, 3) := by decide +kernel
theorem dX6_partText_43 : decode cX6_partText 43 = .ok (.invokevirtual 113, 3) := by decide +kernel
theorem dX6_partText_46 : decode cX6_partText 46 = .ok (.putfield 148, 3) := by decide +kernel
theorem dX6_partText_49 : decode cX6_partText 49 = .ok (.return_, 1) := by decide +kernel
theorem dX6_partText_50 : decode cX6_partText 50 = .ok (.aload_n 0, 1) := by decide +kernel
theorem dX6_partText_51 : decode cX6_partText 51 = .ok (.iload_n 1, 1) := by decide +kernel
theorem dX6_partText_52 : decode cX6_partText 52 = .ok (.aload_n 2, 1) := by decide +kernel
theorem dX6_partText_53 : decode cX6_partText 53 = .ok (.getfield 125, 3) := by decide +kernel
theorem dX6_partText_56 : decode cX6_partText 56 = .ok (.invokevirtual 151, 3) := by decide +kernel
theorem dX6_partText_59 : decode cX6_partText 59 = .ok (.iload_n 1, 1) := by decide +kernel
theorem dX6_partText_60 : decode cX6_partText 60 = .ok (.tableswitch 55 0 2 #[28, 37, 46], 28) := by decide +kernel
theorem dX6_partText_88 : decode cX6_partText 88 = .ok (.aload_n 2, 1) := by decide +kernel
theorem dX6_partText_89 : decode cX6_partText 89 = .ok (.aload_n 0, 1) := by decide +kernel
theorem dX6_partText_90 : decode cX6_partText 90 = .ok (.getfield 24, 3) := by decide +kernel
theorem dX6_partText_93 : decode cX6_partText 93 = .ok (.invokevirtual 154, 3) := by decide +kernel
theorem dX6_partText_96 : decode cX6_partText 96 = .ok (.return_, 1) := by decide +kernel
theorem dX6_partText_97 : decode cX6_partText 97 = .ok (.aload_n 2, 1) := by decide +kernel
theorem dX6_partText_98 : decode cX6_partText 98 = .ok (.aload_n 0, 1) := by decide +kernel
theorem dX6_partText_99 : decode cX6_partText 99 = .ok (.getfield 24, 3) := by decide +kernel
theorem dX6_partText_102 : decode cX6_partText 102 = .ok (.invokevirtual 158, 3) := by decide +kernel
theorem dX6_partText_105 : decode cX6_partText 105 = .ok (.return_, 1) := by decide +kernel
theorem dX6_partText_106 : decode cX6_partText 106 = .ok (.aload_n 2, 1) := by decide +kernel
theorem dX6_partText_107 : decode cX6_partText 107 = .ok (.aload_n 0, 1) := by decide +kernel
theorem dX6_partText_108 : decode cX6_partText 108 = .ok (.getfield 24, 3) := by decide +kernel
theorem dX6_partText_111 : decode cX6_partText 111 = .ok (.invokevirtual 161, 3) := by decide +kernel
theorem dX6_partText_114 : decode cX6_partText 114 = .ok (.return_, 1) := by decide +kernel
theorem dX6_partText_115 : decode cX6_partText 115 = .ok (.aload_n 2, 1) := by decide +kernel
theorem dX6_partText_116 : decode cX6_partText 116 = .ok (.getfield 164, 3) := by decide +kernel
theorem dX6_partText_119 : decode cX6_partText 119 = .ok (.aload_n 0, 1) := by decide +kernel
theorem dX6_partText_120 : decode cX6_partText 120 = .ok (.getfield 24, 3) := by decide +kernel
theorem dX6_partText_123 : decode cX6_partText 123 = .ok (.invokevirtual 167, 3) := by decide +kernel
theorem dX6_partText_126 : decode cX6_partText 126 = .ok (.return_, 1) := by decide +kernel
theorem dX6_rowText_0 : decode cX6_rowText 0 = .ok (.aload_n 0, 1) := by decide +kernel
theorem dX6_rowText_1 : decode cX6_rowText 1 = .ok (.getfield 24, 3) := by decide +kernel
theorem dX6_rowText_4 : decode cX6_rowText 4 = .ok (.invokevirtual 170, 3) := by decide +kernel
theorem dX6_rowText_7 : decode cX6_rowText 7 = .ok (.iconst 0, 1) := by decide +kernel
theorem dX6_rowText_8 : decode cX6_rowText 8 = .ok (.istore_n 3, 1) := by decide +kernel
theorem dX6_rowText_9 : decode cX6_rowText 9 = .ok (.iload_n 3, 1) := by decide +kernel
theorem dX6_rowText_10 : decode cX6_rowText 10 = .ok (.bipush 8, 2) := by decide +kernel
theorem dX6_rowText_12 : decode cX6_rowText 12 = .ok (.if_icmp .ge 60, 3) := by decide +kernel
theorem dX6_rowText_15 : decode cX6_rowText 15 = .ok (.aload_n 0, 1) := by decide +kernel
theorem dX6_rowText_16 : decode cX6_rowText 16 = .ok (.getfield 80, 3) := by decide +kernel
theorem dX6_rowText_19 : decode cX6_rowText 19 = .ok (.istore 4, 2) := by decide +kernel
theorem dX6_rowText_21 : decode cX6_rowText 21 = .ok (.aload_n 0, 1) := by decide +kernel
theorem dX6_rowText_22 : decode cX6_rowText 22 = .ok (.iload_n 1, 1) := by decide +kernel
theorem dX6_rowText_23 : decode cX6_rowText 23 = .ok (.iload_n 2, 1) := by decide +kernel
theorem dX6_rowText_24 : decode cX6_rowText 24 = .ok (.invokevirtual 171, 3) := by decide +kernel
theorem dX6_rowText_27 : decode cX6_rowText 27 = .ok (.istore 5, 2) := by decide +kernel
theorem dX6_rowText_29 : decode cX6_rowText 29 = .ok (.aload_n 0, 1) := by decide +kernel
theorem dX6_rowText_30 : decode cX6_rowText 30 = .ok (.getfield 24, 3) := by decide +kernel
theorem dX6_rowText_33 : decode cX6_rowText 33 = .ok (.iload 5, 2) := by decide +kernel
theorem dX6_rowText_35 : decode cX6_rowText 35 = .ok (.invokevirtual 174, 3) := by decide +kernel
theorem dX6_rowText_38 : decode cX6_rowText 38 = .ok (.iconst (-1), 1) := by decide +kernel
theorem dX6_rowText_39 : decode cX6_rowText 39 = .ok (.if_icmp .eq 10, 3) := by decide +kernel
theorem dX6_rowText_42 : decode cX6_rowText 42 = .ok (.aload_n 0, 1) := by decide +kernel
theorem dX6_rowText_43 : decode cX6_rowText 43 = .ok (.iconst 4, 1) := by decide +kernel
theorem dX6_rowText_44 : decode cX6_rowText 44 = .ok (.iload 4, 2) := by decide +kernel
theorem dX6_rowText_46 : decode cX6_rowText 46 = .ok (.invokevirtual 83, 3) := by decide +kernel
theorem dX6_rowText_49 : decode cX6_rowText 49 = .ok (.aload_n 0, 1) := by decide +kernel
theorem dX6_rowText_50 : decode cX6_rowText 50 = .ok (.getfield 24, 3) := by decide +kernel
theorem dX6_rowText_53 : decode cX6_rowText 53 = .ok (.iload 5, 2) := by decide +kernel
theorem dX6_rowText_55 : decode cX6_rowText 55 = .ok (.invokevirtual 178, 3) := by decide +kernel
theorem dX6_rowText_58 : decode cX6_rowText 58 = .ok (.aload_n 0, 1) := by decide +kernel
theorem dX6_rowText_59 : decode cX6_rowText 59 = .ok (.invokevirtual 181, 3) := by decide +kernel
theorem dX6_rowText_62 : decode cX6_rowText 62 = .ok (.ifCond .ne 4, 3) := by decide +kernel
theorem dX6_rowText_65 : decode cX6_rowText 65 = .ok (.return_, 1) := by decide +kernel
theorem dX6_rowText_66 : decode cX6_rowText 66 = .ok (.iinc 3 1, 3) := by decide +kernel
theorem dX6_rowText_69 : decode cX6_rowText 69 = .ok (.goto (-60), 3) := by decide +kernel
theorem dX6_rowText_72 : decode cX6_rowText 72 = .ok (.return_, 1) := by decide +kernel
theorem dX6_nextInRow_0 : decode cX6_nextInRow 0 = .ok (.aload_n 0, 1) := by decide +kernel
theorem dX6_nextInRow_1 : decode cX6_nextInRow 1 = .ok (.bipush 44, 2) := by decide +kernel
theorem dX6_nextInRow_3 : decode cX6_nextInRow 3 = .ok (.invokevirtual 87, 3) := by decide +kernel
theorem dX6_nextInRow_6 : decode cX6_nextInRow 6 = .ok (.ifCond .ne 5, 3) := by decide +kernel
theorem dX6_nextInRow_9 : decode cX6_nextInRow 9 = .ok (.iconst 0, 1) := by decide +kernel
theorem dX6_nextInRow_10 : decode cX6_nextInRow 10 = .ok (.ireturn, 1) := by decide +kernel
theorem dX6_nextInRow_11 : decode cX6_nextInRow 11 = .ok (.aload_n 0, 1) := by decide +kernel
theorem dX6_nextInRow_12 : decode cX6_nextInRow 12 = .ok (.invokevirtual 63, 3) := by decide +kernel
theorem dX6_nextInRow_15 : decode cX6_nextInRow 15 = .ok (.aload_n 0, 1) := by decide +kernel
theorem dX6_nextInRow_16 : decode cX6_nextInRow 16 = .ok (.getfield 24, 3) := by decide +kernel
theorem dX6_nextInRow_19 : decode cX6_nextInRow 19 = .ok (.getfield 185, 3) := by decide +kernel
theorem dX6_nextInRow_22 : decode cX6_nextInRow 22 = .ok (.bipush 8, 2) := by decide +kernel
theorem dX6_nextInRow_24 : decode cX6_nextInRow 24 = .ok (.if_icmp .lt 25, 3) := by decide +kernel
theorem dX6_nextInRow_27 : decode cX6_nextInRow 27 = .ok (.aload_n 0, 1) := by decide +kernel
theorem dX6_nextInRow_28 : decode cX6_nextInRow 28 = .ok (.aload_n 0, 1) := by decide +kernel
theorem dX6_nextInRow_29 : decode cX6_nextInRow 29 = .ok (.getfield 57, 3) := by decide +kernel
theorem dX6_nextInRow_32 : decode cX6_nextInRow 32 = .ok (.ifCond .ne 7, 3) := by decide +kernel
theorem dX6_nextInRow_35 : decode cX6_nextInRow 35 = .ok (.iconst 1, 1) := by decide +kernel
theorem dX6_nextInRow_36 : decode cX6_nextInRow 36 = .ok (.goto 4, 3) := by decide +kernel
theorem dX6_nextInRow_39 : decode cX6_nextInRow 39 = .ok (.iconst 5, 1) := by decide +kernel
theorem dX6_nextInRow_40 : decode cX6_nextInRow 40 = .ok (.aload_n 0, 1) := by decide +kernel
theorem dX6_nextInRow_41 : decode cX6_nextInRow 41 = .ok (.getfield 80, 3) := by decide +kernel
theorem dX6_nextInRow_44 : decode cX6_nextInRow 44 = .ok (.invokevirtual 83, 3) := by decide +kernel
theorem dX6_nextInRow_47 : decode cX6_nextInRow 47 = .ok (.iconst 0, 1) := by decide +kernel
theorem dX6_nextInRow_48 : decode cX6_nextInRow 48 = .ok (.ireturn, 1) := by decide +kernel
theorem dX6_nextInRow_49 : decode cX6_nextInRow 49 = .ok (.iconst 1, 1) := by decide +kernel
theorem dX6_nextInRow_50 : decode cX6_nextInRow 50 = .ok (.ireturn, 1) := by decide +kernel
theorem dX6_member_0 : decode cX6_member 0 = .ok (.iload_n 1, 1) := by decide +kernel
theorem dX6_member_1 : decode cX6_member 1 = .ok (.ifCond .ne 11, 3) := by decide +kernel
theorem dX6_member_4 : decode cX6_member 4 = .ok (.aload_n 0, 1) := by decide +kernel
theorem dX6_member_5 : decode cX6_member 5 = .ok (.iconst 1, 1) := by decide +kernel
theorem dX6_member_6 : decode cX6_member 6 = .ok (.bipush 12, 2) := by decide +kernel
theorem dX6_member_8 : decode cX6_member 8 = .ok (.invokevirtual 113, 3) := by decide +kernel
theorem dX6_member_11 : decode cX6_member 11 = .ok (.ireturn, 1) := by decide +kernel
theorem dX6_member_12 : decode cX6_member 12 = .ok (.aload_n 0, 1) := by decide +kernel
theorem dX6_member_13 : decode cX6_member 13 = .ok (.bipush 45, 2) := by decide +kernel
theorem dX6_member_15 : decode cX6_member 15 = .ok (.invokevirtual 87, 3) := by decide +kernel
theorem dX6_member_18 : decode cX6_member 18 = .ok (.istore_n 3, 1) := by decide +kernel
theorem dX6_member_19 : decode cX6_member 19 = .ok (.iload_n 3, 1) := by decide +kernel
theorem dX6_member_20 : decode cX6_member 20 = .ok (.ifCond .ne 11, 3) := by decide +kernel
theorem dX6_member_23 : decode cX6_member 23 = .ok (.aload_n 0, 1) := by decide +kernel
theorem dX6_member_24 : decode cX6_member 24 = .ok (.getfield 57, 3) := by decide +kernel
theorem dX6_member_27 : decode cX6_member 27 = .ok (.iconst 2, 1) := by decide +kernel
theorem dX6_member_28 : decode cX6_member 28 = .ok (.if_icmp .ne 7, 3) := by decide +kernel
theorem dX6_member_31 : decode cX6_member 31 = .ok (.iconst 1, 1) := by decide +kernel
theorem dX6_member_32 : decode cX6_member 32 = .ok (.goto 4, 3) := by decide +kernel
theorem dX6_member_35 : decode cX6_member 35 = .ok (.iconst 0, 1) := by decide +kernel
theorem dX6_member_36 : decode cX6_member 36 = .ok (.istore 4, 2) := by decide +kernel
theorem dX6_member_38 : decode cX6_member 38 = .ok (.iload_n 1, 1) := by decide +kernel
theorem dX6_member_39 : decode cX6_member 39 = .ok (.iconst 2, 1) := by decide +kernel
theorem dX6_member_40 : decode cX6_member 40 = .ok (.if_icmp .ne 22, 3) := by decide +kernel
theorem dX6_member_43 : decode cX6_member 43 = .ok (.iload 4, 2) := by decide +kernel
theorem dX6_member_45 : decode cX6_member 45 = .ok (.ifCond .eq 17, 3) := by decide +kernel
theorem dX6_member_48 : decode cX6_member 48 = .ok (.iload_n 2, 1) := by decide +kernel
theorem dX6_member_49 : decode cX6_member 49 = .ok (.iconst 2, 1) := by decide +kernel
theorem dX6_member_50 : decode cX6_member 50 = .ok (.if_icmp .ge 12, 3) := by decide +kernel
theorem dX6_member_53 : decode cX6_member 53 = .ok (.aload_n 0, 1) := by decide +kernel
theorem dX6_member_54 : decode cX6_member 54 = .ok (.iconst 4, 1) := by decide +kernel
theorem dX6_member_55 : decode cX6_member 55 = .ok (.aload_n 0, 1) := by decide +kernel
theorem dX6_member_56 : decode cX6_member 56 = .ok (.getfield 80, 3) := by decide +kernel
theorem dX6_member_59 : decode cX6_member 59 = .ok (.invokevirtual 83, 3) := by decide +kernel
theorem dX6_member_62 : decode cX6_member 62 = .ok (.iload_n 3, 1) := by decide +kernel
theorem dX6_member_63 : decode cX6_member 63 = .ok (.ifCond .eq 7, 3) := by decide +kernel
theorem dX6_member_66 : decode cX6_member 66 = .ok (.aload_n 0, 1) := by decide +kernel
theorem dX6_member_67 : decode cX6_member 67 = .ok (.invokevirtual 63, 3) := by decide +kernel
theorem dX6_member_70 : decode cX6_member 70 = .ok (.iload_n 1, 1) := by decide +kernel
theorem dX6_member_71 : decode cX6_member 71 = .ok (.iconst 2, 1) := by decide +kernel
theorem dX6_member_72 : decode cX6_member 72 = .ok (.if_icmp .ne 12, 3) := by decide +kernel
theorem dX6_member_75 : decode cX6_member 75 = .ok (.iload 4, 2) := by decide +kernel
theorem dX6_member_77 : decode cX6_member 77 = .ok (.ifCond .ne 7, 3) := by decide +kernel
theorem dX6_member_80 : decode cX6_member 80 = .ok (.iconst 0, 1) := by decide +kernel
theorem dX6_member_81 : decode cX6_member 81 = .ok (.goto 30, 3) := by decide +kernel
theorem dX6_member_84 : decode cX6_member 84 = .ok (.aload_n 0, 1) := by decide +kernel
theorem dX6_member_85 : decode cX6_member 85 = .ok (.iconst 1, 1) := by decide +kernel
theorem dX6_member_86 : decode cX6_member 86 = .ok (.iload_n 1, 1) := by decide +kernel
theorem dX6_member_87 : decode cX6_member 87 = .ok (.iconst 1, 1) := by decide +kernel
theorem dX6_member_88 : decode cX6_member 88 = .ok (.if_icmp .ne 8, 3) := by decide +kernel
theorem dX6_member_91 : decode cX6_member 91 = .ok (.bipush 31, 2) := by decide +kernel
theorem dX6_member_93 : decode cX6_member 93 = .ok (.goto 15, 3) := by decide +kernel
theorem dX6_member_96 : decode cX6_member 96 = .ok (.iload_n 1, 1) := by decide +kernel
theorem dX6_member_97 : decode cX6_member 97 = .ok (.iconst 2, 1) := by decide +kernel
theorem dX6_member_98 : decode cX6_member 98 = .ok (.if_icmp .ne 8, 3) := by decide +kernel
theorem dX6_member_101 : decode cX6_member 101 = .ok (.bipush 53, 2) := by decide +kernel
theorem dX6_member_103 : decode cX6_member 103 = .ok (.goto 5, 3) := by decide +kernel
theorem dX6_member_106 : decode cX6_member 106 = .ok (.bipush 99, 2) := by decide +kernel
theorem dX6_member_108 : decode cX6_member 108 = .ok (.invokevirtual 113, 3) := by decide +kernel
theorem dX6_member_111 : decode cX6_member 111 = .ok (.istore 5, 2) := by decide +kernel
theorem dX6_member_113 : decode cX6_member 113 = .ok (.iload_n 3, 1) := by decide +kernel
theorem dX6_member_114 : decode cX6_member 114 = .ok (.ifCond .eq 9, 3) := by decide +kernel
theorem dX6_member_117 : decode cX6_member 117 = .ok (.iload 5, 2) := by decide +kernel
theorem dX6_member_119 : decode cX6_member 119 = .ok (.ineg, 1) := by decide +kernel
theorem dX6_member_120 : decode cX6_member 120 = .ok (.goto 5, 3) := by decide +kernel
theorem dX6_member_123 : decode cX6_member 123 = .ok (.iload 5, 2) := by decide +kernel
theorem dX6_member_125 : decode cX6_member 125 = .ok (.istore 6, 2) := by decide +kernel
theorem dX6_member_127 : decode cX6_member 127 = .ok (.iload_n 1, 1) := by decide +kernel
theorem dX6_member_128 : decode cX6_member 128 = .ok (.iconst 2, 1) := by decide +kernel
theorem dX6_member_129 : decode cX6_member 129 = .ok (.if_icmp .eq 6, 3) := by decide +kernel
theorem dX6_member_132 : decode cX6_member 132 = .ok (.iload 6, 2) := by decide +kernel
theorem dX6_member_134 : decode cX6_member 134 = .ok (.ireturn, 1) := by decide +kernel
theorem dX6_member_135 : decode cX6_member 135 = .ok (.aload_n 0, 1) := by decide +kernel
theorem dX6_member_136 : decode cX6_member 136 = .ok (.ldc 186, 2) := by decide +kernel
theorem dX6_member_138 : decode cX6_member 138 = .ok (.invokevirtual 121, 3) := by decide +kernel
theorem dX6_member_141 : decode cX6_member 141 = .ok (.istore 7, 2) := by decide +kernel
theorem dX6_member_143 : decode cX6_member 143 = .ok (.aload_n 0, 1) := by decide +kernel
theorem dX6_member_144 : decode cX6_member 144 = .ok (.iload 7, 2) := by decide +kernel
theorem dX6_member_146 : decode cX6_member 146 = .ok (.iconst (-1), 1) := by decide +kernel
theorem dX6_member_147 : decode cX6_member 147 = .ok (.if_icmp .eq 7, 3) := by decide +kernel
theorem dX6_member_150 : decode cX6_member 150 = .ok (.iconst 1, 1) := by decide +kernel
theorem dX6_member_151 : decode cX6_member 151 = .ok (.goto 4, 3) := by decide +kernel
theorem dX6_member_154 : decode cX6_member 154 = .ok (.iconst 0, 1) := by decide +kernel
theorem dX6_member_155 : decode cX6_member 155 = .ok (.invokevirtual 91, 3) := by decide +kernel
theorem dX6_member_158 : decode cX6_member 158 = .ok (.iload 6, 2) := by decide +kernel
theorem dX6_member_160 : decode cX6_member 160 = .ok (.bipush 8, 2) := by decide +kernel
theorem dX6_member_162 : decode cX6_member 162 = .ok (.imul, 1) := by decide +kernel
theorem dX6_member_163 : decode cX6_member 163 = .ok (.iconst 0, 1) := by decide +kernel
theorem dX6_member_164 : decode cX6_member 164 = .ok (.iload 7, 2) := by decide +kernel
theorem dX6_member_166 : decode cX6_member 166 = .ok (.invokestatic 188, 3) := by decide +kernel
theorem dX6_member_169 : decode cX6_member 169 = .ok (.iadd, 1) := by decide +kernel
theorem dX6_member_170 : decode cX6_member 170 = .ok (.ireturn, 1) := by decide +kernel
theorem dX6_setText_0 : decode cX6_setText 0 = .ok (.aload_n 0, 1) := by decide +kernel
theorem dX6_setText_1 : decode cX6_setText 1 = .ok (.getfield 45, 3) := by decide +kernel
theorem dX6_setText_4 : decode cX6_setText 4 = .ok (.getfield 191, 3) := by decide +kernel
theorem dX6_setText_7 : decode cX6_setText 7 = .ok (.bipush 6, 2) := by decide +kernel
theorem dX6_setText_9 : decode cX6_setText 9 = .ok (.if_icmp .lt 13, 3) := by decide +kernel
theorem dX6_setText_12 : decode cX6_setText 12 = .ok (.aload_n 0, 1) := by decide +kernel
theorem dX6_setText_13 : decode cX6_setText 13 = .ok (.iconst 5, 1) := by decide +kernel
theorem dX6_setText_14 : decode cX6_setText 14 = .ok (.aload_n 0, 1) := by decide +kernel
theorem dX6_setText_15 : decode cX6_setText 15 = .ok (.getfield 80, 3) := by decide +kernel
theorem dX6_setText_18 : decode cX6_setText 18 = .ok (.invokevirtual 83, 3) := by decide +kernel
theorem dX6_setText_21 : decode cX6_setText 21 = .ok (.return_, 1) := by decide +kernel
theorem dX6_setText_22 : decode cX6_setText 22 = .ok (.aload_n 0, 1) := by decide +kernel
theorem dX6_setText_23 : decode cX6_setText 23 = .ok (.invokevirtual 63, 3) := by decide +kernel
theorem dX6_setText_26 : decode cX6_setText 26 = .ok (.aload_n 0, 1) := by decide +kernel
theorem dX6_setText_27 : decode cX6_setText 27 = .ok (.invokevirtual 98, 3) := by decide +kernel
theorem dX6_setText_30 : decode cX6_setText 30 = .ok (.istore_n 1, 1) := by decide +kernel
theorem dX6_setText_31 : decode cX6_setText 31 = .ok (.aload_n 0, 1) := by decide +kernel
theorem dX6_setText_32 : decode cX6_setText 32 = .ok (.aload_n 0, 1) := by decide +kernel
theorem dX6_setText_33 : decode cX6_setText 33 = .ok (.ldc 194, 2) := by decide +kernel
theorem dX6_setText_35 : decode cX6_setText 35 = .ok (.invokevirtual 68, 3) := by decide +kernel
theorem dX6_setText_38 : decode cX6_setText 38 = .ok (.invokevirtual 91, 3) := by decide +kernel
theorem dX6_setText_41 : decode cX6_setText 41 = .ok (.aload_n 0, 1) := by decide +kernel
theorem dX6_setText_42 : decode cX6_setText 42 = .ok (.iconst 0, 1) := by decide +kernel
theorem dX6_setText_43 : decode cX6_setText 43 = .ok (.invokevirtual 196, 3) := by decide +kernel
theorem dX6_setText_46 : decode cX6_setText 46 = .ok (.aload_n 0, 1) := by decide +kernel
theorem dX6_setText_47 : decode cX6_setText 47 = .ok (.getfield 45, 3) := by decide +kernel
theorem dX6_setText_50 : decode cX6_setText 50 = .ok (.iload_n 1, 1) := by decide +kernel
theorem dX6_setText_51 : decode cX6_setText 51 = .ok (.invokevirtual 199, 3) := by decide +kernel
theorem dX6_setText_54 : decode cX6_setText 54 = .ok (.return_, 1) := by decide +kernel
theorem dX6_sumText_0 : decode cX6_sumText 0 = .ok (.aload_n 0, 1) := by decide +kernel
theorem dX6_sumText_1 : decode cX6_sumText 1 = .ok (.iload_n 1, 1) := by decide +kernel
theorem dX6_sumText_2 : decode cX6_sumText 2 = .ok (.invokevirtual 202, 3) := by decide +kernel
theorem dX6_sumText_5 : decode cX6_sumText 5 = .ok (.iconst 0, 1) := by decide +kernel
theorem dX6_sumText_6 : decode cX6_sumText 6 = .ok (.istore_n 2, 1) := by decide +kernel
theorem dX6_sumText_7 : decode cX6_sumText 7 = .ok (.iload_n 2, 1) := by decide +kernel
theorem dX6_sumText_8 : decode cX6_sumText 8 = .ok (.sipush 1600, 3) := by decide +kernel
theorem dX6_sumText_11 : decode cX6_sumText 11 = .ok (.if_icmp .ge 36, 3) := by decide +kernel
theorem dX6_sumText_14 : decode cX6_sumText 14 = .ok (.aload_n 0, 1) := by decide +kernel
theorem dX6_sumText_15 : decode cX6_sumText 15 = .ok (.ldc 205, 2) := by decide +kernel
theorem dX6_sumText_17 : decode cX6_sumText 17 = .ok (.invokevirtual 68, 3) := by decide +kernel
theorem dX6_sumText_20 : decode cX6_sumText 20 = .ok (.ifCond .eq 27, 3) := by decide +kernel
theorem dX6_sumText_23 : decode cX6_sumText 23 = .ok (.aload_n 0, 1) := by decide +kernel
theorem dX6_sumText_24 : decode cX6_sumText 24 = .ok (.invokevirtual 63, 3) := by decide +kernel
theorem dX6_sumText_27 : decode cX6_sumText 27 = .ok (.aload_n 0, 1) := by decide +kernel
theorem dX6_sumText_28 : decode cX6_sumText 28 = .ok (.iload_n 1, 1) := by decide +kernel
theorem dX6_sumText_29 : decode cX6_sumText 29 = .ok (.invokevirtual 202, 3) := by decide +kernel
theorem dX6_sumText_32 : decode cX6_sumText 32 = .ok (.aload_n 0, 1) := by decide +kernel
theorem dX6_sumText_33 : decode cX6_sumText 33 = .ok (.getfield 45, 3) := by decide +kernel
theorem dX6_sumText_36 : decode cX6_sumText 36 = .ok (.iconst 3, 1) := by decide +kernel
theorem dX6_sumText_37 : decode cX6_sumText 37 = .ok (.iconst 0, 1) := by decide +kernel
theorem dX6_sumText_38 : decode cX6_sumText 38 = .ok (.invokevirtual 207, 3) := by decide +kernel
theorem dX6_sumText_41 : decode cX6_sumText 41 = .ok (.iinc 2 1, 3) := by decide +kernel
theorem dX6_sumText_44 : decode cX6_sumText 44 = .ok (.goto (-37), 3) := by decide +kernel
theorem dX6_sumText_47 : decode cX6_sumText 47 = .ok (.return_, 1) := by decide +kernel
theorem dX6_bothText_0 : decode cX6_bothText 0 = .ok (.aload_n 0, 1) := by decide +kernel
theorem dX6_bothText_1 : decode cX6_bothText 1 = .ok (.iload_n 1, 1) := by decide +kernel
theorem dX6_bothText_2 : decode cX6_bothText 2 = .ok (.invokevirtual 209, 3) := by decide +kernel
theorem dX6_bothText_5 : decode cX6_bothText 5 = .ok (.iconst 0, 1) := by decide +kernel
theorem dX6_bothText_6 : decode cX6_bothText 6 = .ok (.istore_n 2, 1) := by decide +kernel
theorem dX6_bothText_7 : decode cX6_bothText 7 = .ok (.iload_n 2, 1) := by decide +kernel
theorem dX6_bothText_8 : decode cX6_bothText 8 = .ok (.sipush 1600, 3) := by decide +kernel
theorem dX6_bothText_11 : decode cX6_bothText 11 = .ok (.if_icmp .ge 60, 3) := by decide +kernel
theorem dX6_bothText_14 : decode cX6_bothText 14 = .ok (.aload_n 0, 1) := by decide +kernel
theorem dX6_bothText_15 : decode cX6_bothText 15 = .ok (.ldc 212, 2) := by decide +kernel
theorem dX6_bothText_17 : decode cX6_bothText 17 = .ok (.invokevirtual 68, 3) := by decide +kernel
theorem dX6_bothText_20 : decode cX6_bothText 20 = .ok (.ifCond .ne 12, 3) := by decide +kernel
theorem dX6_bothText_23 : decode cX6_bothText 23 = .ok (.aload_n 0, 1) := by decide +kernel
theorem dX6_bothText_24 : decode cX6_bothText 24 = .ok (.ldc 214, 2) := by decide +kernel
theorem dX6_bothText_26 : decode cX6_bothText 26 = .ok (.invokevirtual 68, 3) := by decide +kernel
theorem dX6_bothText_29 : decode cX6_bothText 29 = .ok (.ifCond .eq 42, 3) := by decide +kernel
theorem dX6_bothText_32 : decode cX6_bothText 32 = .ok (.aload_n 0, 1) := by decide +kernel
theorem dX6_bothText_33 : decode cX6_bothText 33 = .ok (.ldc 212, 2) := by decide +kernel
theorem dX6_bothText_35 : decode cX6_bothText 35 = .ok (.invokevirtual 68, 3) := by decide +kernel
theorem dX6_bothText_38 : decode cX6_bothText 38 = .ok (.ifCond .eq 7, 3) := by decide +kernel
theorem dX6_bothText_41 : decode cX6_bothText 41 = .ok (.iconst 4, 1) := by decide +kernel
theorem dX6_bothText_42 : decode cX6_bothText 42 = .ok (.goto 4, 3) := by decide +kernel
theorem dX6_bothText_45 : decode cX6_bothText 45 = .ok (.iconst 5, 1) := by decide +kernel
theorem dX6_bothText_46 : decode cX6_bothText 46 = .ok (.istore_n 3, 1) := by decide +kernel
theorem dX6_bothText_47 : decode cX6_bothText 47 = .ok (.aload_n 0, 1) := by decide +kernel
theorem dX6_bothText_48 : decode cX6_bothText 48 = .ok (.invokevirtual 63, 3) := by decide +kernel
theorem dX6_bothText_51 : decode cX6_bothText 51 = .ok (.aload_n 0, 1) := by decide +kernel
theorem dX6_bothText_52 : decode cX6_bothText 52 = .ok (.iload_n 1, 1) := by decide +kernel
theorem dX6_bothText_53 : decode cX6_bothText 53 = .ok (.invokevirtual 209, 3) := by decide +kernel
theorem dX6_bothText_56 : decode cX6_bothText 56 = .ok (.aload_n 0, 1) := by decide +kernel
theorem dX6_bothText_57 : decode cX6_bothText 57 = .ok (.getfield 45, 3) := by decide +kernel
theorem dX6_bothText_60 : decode cX6_bothText 60 = .ok (.iload_n 3, 1) := by decide +kernel
theorem dX6_bothText_61 : decode cX6_bothText 61 = .ok (.iconst 0, 1) := by decide +kernel
theorem dX6_bothText_62 : decode cX6_bothText 62 = .ok (.invokevirtual 207, 3) := by decide +kernel
theorem dX6_bothText_65 : decode cX6_bothText 65 = .ok (.iinc 2 1, 3) := by decide +kernel
theorem dX6_bothText_68 : decode cX6_bothText 68 = .ok (.goto (-61), 3) := by decide +kernel
theorem dX6_bothText_71 : decode cX6_bothText 71 = .ok (.return_, 1) := by decide +kernel
theorem dX6_oneText_0 : decode cX6_oneText 0 = .ok (.aload_n 0, 1) := by decide +kernel
theorem dX6_oneText_1 : decode cX6_oneText 1 = .ok (.iload_n 1, 1) := by decide +kernel
theorem dX6_oneText_2 : decode cX6_oneText 2 = .ok (.invokevirtual 216, 3) := by decide +kernel
theorem dX6_oneText_5 : decode cX6_oneText 5 = .ok (.iconst 0, 1) := by decide +kernel
theorem dX6_oneText_6 : decode cX6_oneText 6 = .ok (.istore_n 2, 1) := by decide +kernel
theorem dX6_oneText_7 : decode cX6_oneText 7 = .ok (.iload_n 2, 1) := by decide +kernel
theorem dX6_oneText_8 : decode cX6_oneText 8 = .ok (.sipush 1600, 3) := by decide +kernel
theorem dX6_oneText_11 : decode cX6_oneText 11 = .ok (.if_icmp .ge 99, 3) := by decide +kernel
theorem dX6_oneText_14 : decode cX6_oneText 14 = .ok (.aload_n 0, 1) := by decide +kernel
theorem dX6_oneText_15 : decode cX6_oneText 15 = .ok (.ldc 219, 2) := by decide +kernel
theorem dX6_oneText_17 : decode cX6_oneText 17 = .ok (.invokevirtual 68, 3) := by decide +kernel
theorem dX6_oneText_20 : decode cX6_oneText 20 = .ok (.ifCond .ne 21, 3) := by decide +kernel
theorem dX6_oneText_23 : decode cX6_oneText 23 = .ok (.aload_n 0, 1) := by decide +kernel
theorem dX6_oneText_24 : decode cX6_oneText 24 = .ok (.ldc 221, 2) := by decide +kernel
theorem dX6_oneText_26 : decode cX6_oneText 26 = .ok (.invokevirtual 68, 3) := by decide +kernel
theorem dX6_oneText_29 : decode cX6_oneText 29 = .ok (.ifCond .ne 12, 3) := by decide +kernel
theorem dX6_oneText_32 : decode cX6_oneText 32 = .ok (.aload_n 0, 1) := by decide +kernel
theorem dX6_oneText_33 : decode cX6_oneText 33 = .ok (.ldc 223, 2) := by decide +kernel
theorem dX6_oneText_35 : decode cX6_oneText 35 = .ok (.invokevirtual 68, 3) := by decide +kernel
theorem dX6_oneText_38 : decode cX6_oneText 38 = .ok (.ifCond .eq 72, 3) := by decide +kernel
theorem dX6_oneText_41 : decode cX6_oneText 41 = .ok (.aload_n 0, 1) := by decide +kernel
theorem dX6_oneText_42 : decode cX6_oneText 42 = .ok (.ldc 219, 2) := by decide +kernel
theorem dX6_oneText_44 : decode cX6_oneText 44 = .ok (.invokevirtual 68, 3) := by decide +kernel
theorem dX6_oneText_47 : decode cX6_oneText 47 = .ok (.ifCond .eq 8, 3) := by decide +kernel
theorem dX6_oneText_50 : decode cX6_oneText 50 = .ok (.bipush 6, 2) := by decide +kernel
theorem dX6_oneText_52 : decode cX6_oneText 52 = .ok (.goto 19, 3) := by decide +kernel
theorem dX6_oneText_55 : decode cX6_oneText 55 = .ok (.aload_n 0, 1) := by decide +kernel
theorem dX6_oneText_56 : decode cX6_oneText 56 = .ok (.ldc 221, 2) := by decide +kernel
theorem dX6_oneText_58 : decode cX6_oneText 58 = .ok (.invokevirtual 68, 3) := by decide +kernel
theorem dX6_oneText_61 : decode cX6_oneText 61 = .ok (.ifCond .eq 8, 3) := by decide +kernel
theorem dX6_oneText_64 : decode cX6_oneText 64 = .ok (.bipush 7, 2) := by decide +kernel
theorem dX6_oneText_66 : decode cX6_oneText 66 = .ok (.goto 5, 3) := by decide +kernel
theorem dX6_oneText_69 : decode cX6_oneText 69 = .ok (.bipush 8, 2) := by decide +kernel
theorem dX6_oneText_71 : decode cX6_oneText 71 = .ok (.istore_n 3, 1) := by decide +kernel
theorem dX6_oneText_72 : decode cX6_oneText 72 = .ok (.aload_n 0, 1) := by decide +kernel
theorem dX6_oneText_73 : decode cX6_oneText 73 = .ok (.invokevirtual 63, 3) := by decide +kernel
theorem dX6_oneText_76 : decode cX6_oneText 76 = .ok (.aload_n 0, 1) := by decide +kernel
theorem dX6_oneText_77 : decode cX6_oneText 77 = .ok (.getfield 45, 3) := by decide +kernel
theorem dX6_oneText_80 : decode cX6_oneText 80 = .ok (.iload_n 3, 1) := by decide +kernel
theorem dX6_oneText_81 : decode cX6_oneText 81 = .ok (.iload_n 3, 1) := by decide +kernel
theorem dX6_oneText_82 : decode cX6_oneText 82 = .ok (.bipush 8, 2) := by decide +kernel
theorem dX6_oneText_84 : decode cX6_oneText 84 = .ok (.if_icmp .ne 10, 3) := by decide +kernel
theorem dX6_oneText_87 : decode cX6_oneText 87 = .ok (.aload_n 0, 1) := by decide +kernel
theorem dX6_oneText_88 : decode cX6_oneText 88 = .ok (.invokevirtual 225, 3) := by decide +kernel
theorem dX6_oneText_91 : decode cX6_oneText 91 = .ok (.goto 10, 3) := by decide +kernel
theorem dX6_oneText_94 : decode cX6_oneText 94 = .ok (.aload_n 0, 1) := by decide +kernel
theorem dX6_oneText_95 : decode cX6_oneText 95 = .ok (.iconst 1, 1) := by decide +kernel
theorem dX6_oneText_96 : decode cX6_oneText 96 = .ok (.bipush 99, 2) := by decide +kernel
theorem dX6_oneText_98 : decode cX6_oneText 98 = .ok (.invokevirtual 113, 3) := by decide +kernel
theorem dX6_oneText_101 : decode cX6_oneText 101 = .ok (.invokevirtual 207, 3) := by decide +kernel
theorem dX6_oneText_104 : decode cX6_oneText 104 = .ok (.iinc 2 1, 3) := by decide +kernel
theorem dX6_oneText_107 : decode cX6_oneText 107 = .ok (.goto (-100), 3) := by decide +kernel
theorem dX6_oneText_110 : decode cX6_oneText 110 = .ok (.return_, 1) := by decide +kernel
theorem dX6_firstText_0 : decode cX6_firstText 0 = .ok (.aload_n 0, 1) := by decide +kernel
theorem dX6_firstText_1 : decode cX6_firstText 1 = .ok (.bipush 40, 2) := by decide +kernel
theorem dX6_firstText_3 : decode cX6_firstText 3 = .ok (.invokevirtual 87, 3) := by decide +kernel
theorem dX6_firstText_6 : decode cX6_firstText 6 = .ok (.ifCond .eq 21, 3) := by decide +kernel
theorem dX6_firstText_9 : decode cX6_firstText 9 = .ok (.iload_n 1, 1) := by decide +kernel
theorem dX6_firstText_10 : decode cX6_firstText 10 = .ok (.bipush 6, 2) := by decide +kernel
theorem dX6_firstText_12 : decode cX6_firstText 12 = .ok (.if_icmp .lt 15, 3) := by decide +kernel
theorem dX6_firstText_15 : decode cX6_firstText 15 = .ok (.aload_n 0, 1) := by decide +kernel
theorem dX6_firstText_16 : decode cX6_firstText 16 = .ok (.iconst 5, 1) := by decide +kernel
theorem dX6_firstText_17 : decode cX6_firstText 17 = .ok (.aload_n 0, 1) := by decide +kernel
theorem dX6_firstText_18 : decode cX6_firstText 18 = .ok (.getfield 80, 3) := by decide +kernel
theorem dX6_firstText_21 : decode cX6_firstText 21 = .ok (.invokevirtual 83, 3) := by decide +kernel
theorem dX6_firstText_24 : decode cX6_firstText 24 = .ok (.goto 68, 3) := by decide +kernel
theorem dX6_firstText_27 : decode cX6_firstText 27 = .ok (.aload_n 0, 1) := by decide +kernel
theorem dX6_firstText_28 : decode cX6_firstText 28 = .ok (.bipush 40, 2) := by decide +kernel
theorem dX6_firstText_30 : decode cX6_firstText 30 = .ok (.invokevirtual 87, 3) := by decide +kernel
theorem dX6_firstText_33 : decode cX6_firstText 33 = .ok (.ifCond .eq 27, 3) := by decide +kernel
theorem dX6_firstText_36 : decode cX6_firstText 36 = .ok (.aload_n 0, 1) := by decide +kernel
theorem dX6_firstText_37 : decode cX6_firstText 37 = .ok (.invokevirtual 63, 3) := by decide +kernel
theorem dX6_firstText_40 : decode cX6_firstText 40 = .ok (.aload_n 0, 1) := by decide +kernel
theorem dX6_firstText_41 : decode cX6_firstText 41 = .ok (.iload_n 1, 1) := by decide +kernel
theorem dX6_firstText_42 : decode cX6_firstText 42 = .ok (.iconst 1, 1) := by decide +kernel
theorem dX6_firstText_43 : decode cX6_firstText 43 = .ok (.iadd, 1) := by decide +kernel
theorem dX6_firstText_44 : decode cX6_firstText 44 = .ok (.invokevirtual 196, 3) := by decide +kernel
theorem dX6_firstText_47 : decode cX6_firstText 47 = .ok (.aload_n 0, 1) := by decide +kernel
theorem dX6_firstText_48 : decode cX6_firstText 48 = .ok (.aload_n 0, 1) := by decide +kernel
theorem dX6_firstText_49 : decode cX6_firstText 49 = .ok (.bipush 41, 2) := by decide +kernel
theorem dX6_firstText_51 : decode cX6_firstText 51 = .ok (.invokevirtual 87, 3) := by decide +kernel
theorem dX6_firstText_54 : decode cX6_firstText 54 = .ok (.invokevirtual 91, 3) := by decide +kernel
theorem dX6_firstText_57 : decode cX6_firstText 57 = .ok (.goto 35, 3) := by decide +kernel
theorem dX6_firstText_60 : decode cX6_firstText 60 = .ok (.aload_n 0, 1) := by decide +kernel
theorem dX6_firstText_61 : decode cX6_firstText 61 = .ok (.ldc 228, 2) := by decide +kernel
theorem dX6_firstText_63 : decode cX6_firstText 63 = .ok (.invokevirtual 68, 3) := by decide +kernel
theorem dX6_firstText_66 : decode cX6_firstText 66 = .ok (.ifCond .eq 14, 3) := by decide +kernel
theorem dX6_firstText_69 : decode cX6_firstText 69 = .ok (.aload_n 0, 1) := by decide +kernel
theorem dX6_firstText_70 : decode cX6_firstText 70 = .ok (.invokevirtual 63, 3) := by decide +kernel
theorem dX6_firstText_73 : decode cX6_firstText 73 = .ok (.aload_n 0, 1) := by decide +kernel
theorem dX6_firstText_74 : decode cX6_firstText 74 = .ok (.invokevirtual 230, 3) := by decide +kernel
theorem dX6_firstText_77 : decode cX6_firstText 77 = .ok (.goto 15, 3) := by decide +kernel
theorem dX6_firstText_80 : decode cX6_firstText 80 = .ok (.aload_n 0, 1) := by decide +kernel
theorem dX6_firstText_81 : decode cX6_firstText 81 = .ok (.getfield 45, 3) := by decide +kernel
theorem dX6_firstText_84 : decode cX6_firstText 84 = .ok (.iconst 0, 1) := by decide +kernel
theorem dX6_firstText_85 : decode cX6_firstText 85 = .ok (.aload_n 0, 1) := by decide +kernel
theorem dX6_firstText_86 : decode cX6_firstText 86 = .ok (.invokevirtual 225, 3) := by decide +kernel
theorem dX6_firstText_89 : decode cX6_firstText 89 = .ok (.invokevirtual 207, 3) := by decide +kernel
theorem dX6_firstText_92 : decode cX6_firstText 92 = .ok (.return_, 1) := by decide +kernel
theorem dX6_daysText_0 : decode cX6_daysText 0 = .ok (.aload_n 0, 1) := by decide +kernel
theorem dX6_daysText_1 : decode cX6_daysText 1 = .ok (.getfield 45, 3) := by decide +kernel
theorem dX6_daysText_4 : decode cX6_daysText 4 = .ok (.iconst 1, 1) := by decide +kernel
theorem dX6_daysText_5 : decode cX6_daysText 5 = .ok (.iconst 0, 1) := by decide +kernel
theorem dX6_daysText_6 : decode cX6_daysText 6 = .ok (.invokevirtual 207, 3) := by decide +kernel
theorem dX6_daysText_9 : decode cX6_daysText 9 = .ok (.aload_n 0, 1) := by decide +kernel
theorem dX6_daysText_10 : decode cX6_daysText 10 = .ok (.getfield 24, 3) := by decide +kernel
theorem dX6_daysText_13 : decode cX6_daysText 13 = .ok (.invokevirtual 170, 3) := by decide +kernel
theorem dX6_daysText_16 : decode cX6_daysText 16 = .ok (.iconst 0, 1) := by decide +kernel
theorem dX6_daysText_17 : decode cX6_daysText 17 = .ok (.istore_n 1, 1) := by decide +kernel
theorem dX6_daysText_18 : decode cX6_daysText 18 = .ok (.iload_n 1, 1) := by decide +kernel
theorem dX6_daysText_19 : decode cX6_daysText 19 = .ok (.bipush 8, 2) := by decide +kernel
theorem dX6_daysText_21 : decode cX6_daysText 21 = .ok (.if_icmp .ge 62, 3) := by decide +kernel
theorem dX6_daysText_24 : decode cX6_daysText 24 = .ok (.aload_n 0, 1) := by decide +kernel
theorem dX6_daysText_25 : decode cX6_daysText 25 = .ok (.getfield 80, 3) := by decide +kernel
theorem dX6_daysText_28 : decode cX6_daysText 28 = .ok (.istore_n 2, 1) := by decide +kernel
theorem dX6_daysText_29 : decode cX6_daysText 29 = .ok (.aload_n 0, 1) := by decide +kernel
theorem dX6_daysText_30 : decode cX6_daysText 30 = .ok (.invokevirtual 130, 3) := by decide +kernel
theorem dX6_daysText_33 : decode cX6_daysText 33 = .ok (.istore_n 3, 1) := by decide +kernel
theorem dX6_daysText_34 : decode cX6_daysText 34 = .ok (.aload_n 0, 1) := by decide +kernel
theorem dX6_daysText_35 : decode cX6_daysText 35 = .ok (.getfield 24, 3) := by decide +kernel
theorem dX6_daysText_38 : decode cX6_daysText 38 = .ok (.iload_n 3, 1) := by decide +kernel
theorem dX6_daysText_39 : decode cX6_daysText 39 = .ok (.invokevirtual 174, 3) := by decide +kernel
theorem dX6_daysText_42 : decode cX6_daysText 42 = .ok (.iconst (-1), 1) := by decide +kernel
theorem dX6_daysText_43 : decode cX6_daysText 43 = .ok (.if_icmp .eq 9, 3) := by decide +kernel
theorem dX6_daysText_46 : decode cX6_daysText 46 = .ok (.aload_n 0, 1) := by decide +kernel
theorem dX6_daysText_47 : decode cX6_daysText 47 = .ok (.iconst 4, 1) := by decide +kernel
theorem dX6_daysText_48 : decode cX6_daysText 48 = .ok (.iload_n 2, 1) := by decide +kernel
theorem dX6_daysText_49 : decode cX6_daysText 49 = .ok (.invokevirtual 83, 3) := by decide +kernel
theorem dX6_daysText_52 : decode cX6_daysText 52 = .ok (.aload_n 0, 1) := by decide +kernel
theorem dX6_daysText_53 : decode cX6_daysText 53 = .ok (.getfield 24, 3) := by decide +kernel
theorem dX6_daysText_56 : decode cX6_daysText 56 = .ok (.iload_n 3, 1) := by decide +kernel
theorem dX6_daysText_57 : decode cX6_daysText 57 = .ok (.invokevirtual 178, 3) := by decide +kernel
theorem dX6_daysText_60 : decode cX6_daysText 60 = .ok (.aload_n 0, 1) := by decide +kernel
theorem dX6_daysText_61 : decode cX6_daysText 61 = .ok (.getfield 45, 3) := by decide +kernel
theorem dX6_daysText_64 : decode cX6_daysText 64 = .ok (.iconst 2, 1) := by decide +kernel
theorem dX6_daysText_65 : decode cX6_daysText 65 = .ok (.iload_n 3, 1) := by decide +kernel
theorem dX6_daysText_66 : decode cX6_daysText 66 = .ok (.invokevirtual 207, 3) := by decide +kernel
theorem dX6_daysText_69 : decode cX6_daysText 69 = .ok (.aload_n 0, 1) := by decide +kernel
theorem dX6_daysText_70 : decode cX6_daysText 70 = .ok (.invokevirtual 181, 3) := by decide +kernel
theorem dX6_daysText_73 : decode cX6_daysText 73 = .ok (.ifCond .ne 4, 3) := by decide +kernel
theorem dX6_daysText_76 : decode cX6_daysText 76 = .ok (.return_, 1) := by decide +kernel
theorem dX6_daysText_77 : decode cX6_daysText 77 = .ok (.iinc 1 1, 3) := by decide +kernel
theorem dX6_daysText_80 : decode cX6_daysText 80 = .ok (.goto (-62), 3) := by decide +kernel
theorem dX6_daysText_83 : decode cX6_daysText 83 = .ok (.return_, 1) := by decide +kernel
theorem dX6_dateText_0 : decode cX6_dateText 0 = .ok (.aload_n 0, 1) := by decide +kernel
theorem dX6_dateText_1 : decode cX6_dateText 1 = .ok (.sipush 2000, 3) := by decide +kernel
theorem dX6_dateText_4 : decode cX6_dateText 4 = .ok (.sipush 2039, 3) := by decide +kernel
theorem dX6_dateText_7 : decode cX6_dateText 7 = .ok (.invokevirtual 113, 3) := by decide +kernel
theorem dX6_dateText_10 : decode cX6_dateText 10 = .ok (.sipush 2000, 3) := by decide +kernel
theorem dX6_dateText_13 : decode cX6_dateText 13 = .ok (.isub, 1) := by decide +kernel
theorem dX6_dateText_14 : decode cX6_dateText 14 = .ok (.istore_n 1, 1) := by decide +kernel
theorem dX6_dateText_15 : decode cX6_dateText 15 = .ok (.aload_n 0, 1) := by decide +kernel
theorem dX6_dateText_16 : decode cX6_dateText 16 = .ok (.aload_n 0, 1) := by decide +kernel
theorem dX6_dateText_17 : decode cX6_dateText 17 = .ok (.bipush 45, 2) := by decide +kernel
theorem dX6_dateText_19 : decode cX6_dateText 19 = .ok (.invokevirtual 87, 3) := by decide +kernel
theorem dX6_dateText_22 : decode cX6_dateText 22 = .ok (.invokevirtual 91, 3) := by decide +kernel
theorem dX6_dateText_25 : decode cX6_dateText 25 = .ok (.aload_n 0, 1) := by decide +kernel
theorem dX6_dateText_26 : decode cX6_dateText 26 = .ok (.iconst 1, 1) := by decide +kernel
theorem dX6_dateText_27 : decode cX6_dateText 27 = .ok (.bipush 12, 2) := by decide +kernel
theorem dX6_dateText_29 : decode cX6_dateText 29 = .ok (.invokevirtual 113, 3) := by decide +kernel
theorem dX6_dateText_32 : decode cX6_dateText 32 = .ok (.istore_n 2, 1) := by decide +kernel
theorem dX6_dateText_33 : decode cX6_dateText 33 = .ok (.aload_n 0, 1) := by decide +kernel
theorem dX6_dateText_34 : decode cX6_dateText 34 = .ok (.aload_n 0, 1) := by decide +kernel
theorem dX6_dateText_35 : decode cX6_dateText 35 = .ok (.bipush 45, 2) := by decide +kernel
theorem dX6_dateText_37 : decode cX6_dateText 37 = .ok (.invokevirtual 87, 3) := by decide +kernel
theorem dX6_dateText_40 : decode cX6_dateText 40 = .ok (.invokevirtual 91, 3) := by decide +kernel
theorem dX6_dateText_43 : decode cX6_dateText 43 = .ok (.aload_n 0, 1) := by decide +kernel
theorem dX6_dateText_44 : decode cX6_dateText 44 = .ok (.getfield 54, 3) := by decide +kernel
theorem dX6_dateText_47 : decode cX6_dateText 47 = .ok (.ifCond .eq 5, 3) := by decide +kernel
theorem dX6_dateText_50 : decode cX6_dateText 50 = .ok (.iconst 0, 1) := by decide +kernel
theorem dX6_dateText_51 : decode cX6_dateText 51 = .ok (.ireturn, 1) := by decide +kernel
theorem dX6_dateText_52 : decode cX6_dateText 52 = .ok (.aload_n 0, 1) := by decide +kernel
theorem dX6_dateText_53 : decode cX6_dateText 53 = .ok (.iconst 1, 1) := by decide +kernel
theorem dX6_dateText_54 : decode cX6_dateText 54 = .ok (.iload_n 1, 1) := by decide +kernel
theorem dX6_dateText_55 : decode cX6_dateText 55 = .ok (.iload_n 2, 1) := by decide +kernel
theorem dX6_dateText_56 : decode cX6_dateText 56 = .ok (.invokestatic 233, 3) := by decide +kernel
theorem dX6_dateText_59 : decode cX6_dateText 59 = .ok (.invokevirtual 113, 3) := by decide +kernel
theorem dX6_dateText_62 : decode cX6_dateText 62 = .ok (.istore_n 3, 1) := by decide +kernel
theorem dX6_dateText_63 : decode cX6_dateText 63 = .ok (.aload_n 0, 1) := by decide +kernel
theorem dX6_dateText_64 : decode cX6_dateText 64 = .ok (.getfield 54, 3) := by decide +kernel
theorem dX6_dateText_67 : decode cX6_dateText 67 = .ok (.ifCond .eq 7, 3) := by decide +kernel
theorem dX6_dateText_70 : decode cX6_dateText 70 = .ok (.iconst 0, 1) := by decide +kernel
theorem dX6_dateText_71 : decode cX6_dateText 71 = .ok (.goto 12, 3) := by decide +kernel
theorem dX6_dateText_74 : decode cX6_dateText 74 = .ok (.iload_n 1, 1) := by decide +kernel
theorem dX6_dateText_75 : decode cX6_dateText 75 = .ok (.iload_n 2, 1) := by decide +kernel
theorem dX6_dateText_76 : decode cX6_dateText 76 = .ok (.invokestatic 238, 3) := by decide +kernel
theorem dX6_dateText_79 : decode cX6_dateText 79 = .ok (.iload_n 3, 1) := by decide +kernel
theorem dX6_dateText_80 : decode cX6_dateText 80 = .ok (.iadd, 1) := by decide +kernel
theorem dX6_dateText_81 : decode cX6_dateText 81 = .ok (.iconst 1, 1) := by decide +kernel
theorem dX6_dateText_82 : decode cX6_dateText 82 = .ok (.isub, 1) := by decide +kernel
theorem dX6_dateText_83 : decode cX6_dateText 83 = .ok (.ireturn, 1) := by decide +kernel
theorem dX6_number_0 : decode cX6_number 0 = .ok (.aload_n 0, 1) := by decide +kernel
theorem dX6_number_1 : decode cX6_number 1 = .ok (.getfield 57, 3) := by decide +kernel
theorem dX6_number_4 : decode cX6_number 4 = .ok (.iconst 2, 1) := by decide +kernel
theorem dX6_number_5 : decode cX6_number 5 = .ok (.if_icmp .eq 14, 3) := by decide +kernel
theorem dX6_number_8 : decode cX6_number 8 = .ok (.aload_n 0, 1) := by decide +kernel
theorem dX6_number_9 : decode cX6_number 9 = .ok (.iconst 1, 1) := by decide +kernel
theorem dX6_number_10 : decode cX6_number 10 = .ok (.aload_n 0, 1) := by decide +kernel
theorem dX6_number_11 : decode cX6_number 11 = .ok (.getfield 80, 3) := by decide +kernel
theorem dX6_number_14 : decode cX6_number 14 = .ok (.invokevirtual 83, 3) := by decide +kernel
theorem dX6_number_17 : decode cX6_number 17 = .ok (.iconst 0, 1) := by decide +kernel
theorem dX6_number_18 : decode cX6_number 18 = .ok (.ireturn, 1) := by decide +kernel
theorem dX6_number_19 : decode cX6_number 19 = .ok (.aload_n 0, 1) := by decide +kernel
theorem dX6_number_20 : decode cX6_number 20 = .ok (.getfield 60, 3) := by decide +kernel
theorem dX6_number_23 : decode cX6_number 23 = .ok (.aload_n 0, 1) := by decide +kernel
theorem dX6_number_24 : decode cX6_number 24 = .ok (.getfield 80, 3) := by decide +kernel
theorem dX6_number_27 : decode cX6_number 27 = .ok (.isub, 1) := by decide +kernel
theorem dX6_number_28 : decode cX6_number 28 = .ok (.iconst 4, 1) := by decide +kernel
theorem dX6_number_29 : decode cX6_number 29 = .ok (.if_icmp .le 16, 3) := by decide +kernel
theorem dX6_number_32 : decode cX6_number 32 = .ok (.aload_n 0, 1) := by decide +kernel
theorem dX6_number_33 : decode cX6_number 33 = .ok (.iconst 1, 1) := by decide +kernel
theorem dX6_number_34 : decode cX6_number 34 = .ok (.aload_n 0, 1) := by decide +kernel
theorem dX6_number_35 : decode cX6_number 35 = .ok (.getfield 80, 3) := by decide +kernel
theorem dX6_number_38 : decode cX6_number 38 = .ok (.iconst 4, 1) := by decide +kernel
theorem dX6_number_39 : decode cX6_number 39 = .ok (.iadd, 1) := by decide +kernel
theorem dX6_number_40 : decode cX6_number 40 = .ok (.invokevirtual 83, 3) := by decide +kernel
theorem dX6_number_43 : decode cX6_number 43 = .ok (.iconst 0, 1) := by decide +kernel
theorem dX6_number_44 : decode cX6_number 44 = .ok (.ireturn, 1) := by decide +kernel
theorem dX6_number_45 : decode cX6_number 45 = .ok (.iconst 0, 1) := by decide +kernel
theorem dX6_number_46 : decode cX6_number 46 = .ok (.istore_n 3, 1) := by decide +kernel
theorem dX6_number_47 : decode cX6_number 47 = .ok (.aload_n 0, 1) := by decide +kernel
theorem dX6_number_48 : decode cX6_number 48 = .ok (.getfield 80, 3) := by decide +kernel
theorem dX6_number_51 : decode cX6_number 51 = .ok (.istore 4, 2) := by decide +kernel
theorem dX6_number_53 : decode cX6_number 53 = .ok (.iload 4, 2) := by decide +kernel
theorem dX6_number_55 : decode cX6_number 55 = .ok (.aload_n 0, 1) := by decide +kernel
theorem dX6_number_56 : decode cX6_number 56 = .ok (.getfield 60, 3) := by decide +kernel
theorem dX6_number_59 : decode cX6_number 59 = .ok (.if_icmp .ge 34, 3) := by decide +kernel
theorem dX6_number_62 : decode cX6_number 62 = .ok (.iload 4, 2) := by decide +kernel
theorem dX6_number_64 : decode cX6_number 64 = .ok (.aload_n 0, 1) := by decide +kernel
theorem dX6_number_65 : decode cX6_number 65 = .ok (.getfield 42, 3) := by decide +kernel
theorem dX6_number_68 : decode cX6_number 68 = .ok (.if_icmp .ge 25, 3) := by decide +kernel
theorem dX6_number_71 : decode cX6_number 71 = .ok (.iload_n 3, 1) := by decide +kernel
theorem dX6_number_72 : decode cX6_number 72 = .ok (.bipush 10, 2) := by decide +kernel
theorem dX6_number_74 : decode cX6_number 74 = .ok (.imul, 1) := by decide +kernel
theorem dX6_number_75 : decode cX6_number 75 = .ok (.aload_n 0, 1) := by decide +kernel
theorem dX6_number_76 : decode cX6_number 76 = .ok (.getfield 15, 3) := by decide +kernel
theorem dX6_number_79 : decode cX6_number 79 = .ok (.iload 4, 2) := by decide +kernel
theorem dX6_number_81 : decode cX6_number 81 = .ok (.baload, 1) := by decide +kernel
theorem dX6_number_82 : decode cX6_number 82 = .ok (.iadd, 1) := by decide +kernel
theorem dX6_number_83 : decode cX6_number 83 = .ok (.bipush 48, 2) := by decide +kernel
theorem dX6_number_85 : decode cX6_number 85 = .ok (.isub, 1) := by decide +kernel
theorem dX6_number_86 : decode cX6_number 86 = .ok (.istore_n 3, 1) := by decide +kernel
theorem dX6_number_87 : decode cX6_number 87 = .ok (.iinc 4 1, 3) := by decide +kernel
theorem dX6_number_90 : decode cX6_number 90 = .ok (.goto (-37), 3) := by decide +kernel
theorem dX6_number_93 : decode cX6_number 93 = .ok (.iload_n 3, 1) := by decide +kernel
theorem dX6_number_94 : decode cX6_number 94 = .ok (.iload_n 1, 1) := by decide +kernel
theorem dX6_number_95 : decode cX6_number 95 = .ok (.if_icmp .lt 8, 3) := by decide +kernel
theorem dX6_number_98 : decode cX6_number 98 = .ok (.iload_n 3, 1) := by decide +kernel
theorem dX6_number_99 : decode cX6_number 99 = .ok (.iload_n 2, 1) := by decide +kernel
theorem dX6_number_100 : decode cX6_number 100 = .ok (.if_icmp .le 14, 3) := by decide +kernel
theorem dX6_number_103 : decode cX6_number 103 = .ok (.aload_n 0, 1) := by decide +kernel
theorem dX6_number_104 : decode cX6_number 104 = .ok (.iconst 2, 1) := by decide +kernel
theorem dX6_number_105 : decode cX6_number 105 = .ok (.aload_n 0, 1) := by decide +kernel
theorem dX6_number_106 : decode cX6_number 106 = .ok (.getfield 80, 3) := by decide +kernel
theorem dX6_number_109 : decode cX6_number 109 = .ok (.invokevirtual 83, 3) := by decide +kernel
theorem dX6_number_112 : decode cX6_number 112 = .ok (.iconst 0, 1) := by decide +kernel
theorem dX6_number_113 : decode cX6_number 113 = .ok (.ireturn, 1) := by decide +kernel
theorem dX6_number_114 : decode cX6_number 114 = .ok (.aload_n 0, 1) := by decide +kernel
theorem dX6_number_115 : decode cX6_number 115 = .ok (.invokevirtual 63, 3) := by decide +kernel
theorem dX6_number_118 : decode cX6_number 118 = .ok (.iload_n 3, 1) := by decide +kernel
theorem dX6_number_119 : decode cX6_number 119 = .ok (.ireturn, 1) := by decide +kernel
theorem dX6_newName_0 : decode cX6_newName 0 = .ok (.aload_n 0, 1) := by decide +kernel
theorem dX6_newName_1 : decode cX6_newName 1 = .ok (.getfield 80, 3) := by decide +kernel
theorem dX6_newName_4 : decode cX6_newName 4 = .ok (.istore_n 1, 1) := by decide +kernel
theorem dX6_newName_5 : decode cX6_newName 5 = .ok (.aload_n 0, 1) := by decide +kernel
theorem dX6_newName_6 : decode cX6_newName 6 = .ok (.invokevirtual 241, 3) := by decide +kernel
theorem dX6_newName_9 : decode cX6_newName 9 = .ok (.istore_n 2, 1) := by decide +kernel
theorem dX6_newName_10 : decode cX6_newName 10 = .ok (.aload_n 0, 1) := by decide +kernel
theorem dX6_newName_11 : decode cX6_newName 11 = .ok (.getfield 45, 3) := by decide +kernel
theorem dX6_newName_14 : decode cX6_newName 14 = .ok (.iload_n 2, 1) := by decide +kernel
theorem dX6_newName_15 : decode cX6_newName 15 = .ok (.invokevirtual 244, 3) := by decide +kernel
theorem dX6_newName_18 : decode cX6_newName 18 = .ok (.iconst (-1), 1) := by decide +kernel
theorem dX6_newName_19 : decode cX6_newName 19 = .ok (.if_icmp .eq 9, 3) := by decide +kernel
theorem dX6_newName_22 : decode cX6_newName 22 = .ok (.aload_n 0, 1) := by decide +kernel
theorem dX6_newName_23 : decode cX6_newName 23 = .ok (.iconst 3, 1) := by decide +kernel
theorem dX6_newName_24 : decode cX6_newName 24 = .ok (.iload_n 1, 1) := by decide +kernel
theorem dX6_newName_25 : decode cX6_newName 25 = .ok (.invokevirtual 83, 3) := by decide +kernel
theorem dX6_newName_28 : decode cX6_newName 28 = .ok (.iload_n 2, 1) := by decide +kernel
theorem dX6_newName_29 : decode cX6_newName 29 = .ok (.ireturn, 1) := by decide +kernel
theorem dX6_knownName_0 : decode cX6_knownName 0 = .ok (.aload_n 0, 1) := by decide +kernel
theorem dX6_knownName_1 : decode cX6_knownName 1 = .ok (.getfield 80, 3) := by decide +kernel
theorem dX6_knownName_4 : decode cX6_knownName 4 = .ok (.istore_n 1, 1) := by decide +kernel
theorem dX6_knownName_5 : decode cX6_knownName 5 = .ok (.aload_n 0, 1) := by decide +kernel
theorem dX6_knownName_6 : decode cX6_knownName 6 = .ok (.getfield 45, 3) := by decide +kernel
theorem dX6_knownName_9 : decode cX6_knownName 9 = .ok (.aload_n 0, 1) := by decide +kernel
theorem dX6_knownName_10 : decode cX6_knownName 10 = .ok (.invokevirtual 241, 3) := by decide +kernel
theorem dX6_knownName_13 : decode cX6_knownName 13 = .ok (.invokevirtual 244, 3) := by decide +kernel
theorem dX6_knownName_16 : decode cX6_knownName 16 = .ok (.istore_n 2, 1) := by decide +kernel
theorem dX6_knownName_17 : decode cX6_knownName 17 = .ok (.iload_n 2, 1) := by decide +kernel
theorem dX6_knownName_18 : decode cX6_knownName 18 = .ok (.iconst (-1), 1) := by decide +kernel
theorem dX6_knownName_19 : decode cX6_knownName 19 = .ok (.if_icmp .ne 9, 3) := by decide +kernel
theorem dX6_knownName_22 : decode cX6_knownName 22 = .ok (.aload_n 0, 1) := by decide +kernel
theorem dX6_knownName_23 : decode cX6_knownName 23 = .ok (.iconst 3, 1) := by decide +kernel
theorem dX6_knownName_24 : decode cX6_knownName 24 = .ok (.iload_n 1, 1) := by decide +kernel
theorem dX6_knownName_25 : decode cX6_knownName 25 = .ok (.invokevirtual 83, 3) := by decide +kernel
theorem dX6_knownName_28 : decode cX6_knownName 28 = .ok (.iconst 0, 1) := by decide +kernel
theorem dX6_knownName_29 : decode cX6_knownName 29 = .ok (.iload_n 2, 1) := by decide +kernel
theorem dX6_knownName_30 : decode cX6_knownName 30 = .ok (.invokestatic 188, 3) := by decide +kernel
theorem dX6_knownName_33 : decode cX6_knownName 33 = .ok (.ireturn, 1) := by decide +kernel
theorem dX6_name_0 : decode cX6_name 0 = .ok (.aload_n 0, 1) := by decide +kernel
theorem dX6_name_1 : decode cX6_name 1 = .ok (.getfield 57, 3) := by decide +kernel
theorem dX6_name_4 : decode cX6_name 4 = .ok (.iconst 1, 1) := by decide +kernel
theorem dX6_name_5 : decode cX6_name 5 = .ok (.if_icmp .ne 10, 3) := by decide +kernel
theorem dX6_name_8 : decode cX6_name 8 = .ok (.aload_n 0, 1) := by decide +kernel
theorem dX6_name_9 : decode cX6_name 9 = .ok (.invokevirtual 247, 3) := by decide +kernel
theorem dX6_name_12 : decode cX6_name 12 = .ok (.ifCond .eq 15, 3) := by decide +kernel
theorem dX6_name_15 : decode cX6_name 15 = .ok (.aload_n 0, 1) := by decide +kernel
theorem dX6_name_16 : decode cX6_name 16 = .ok (.iconst 1, 1) := by decide +kernel
theorem dX6_name_17 : decode cX6_name 17 = .ok (.aload_n 0, 1) := by decide +kernel
theorem dX6_name_18 : decode cX6_name 18 = .ok (.getfield 80, 3) := by decide +kernel
theorem dX6_name_21 : decode cX6_name 21 = .ok (.invokevirtual 83, 3) := by decide +kernel
theorem dX6_name_24 : decode cX6_name 24 = .ok (.goto 29, 3) := by decide +kernel
theorem dX6_name_27 : decode cX6_name 27 = .ok (.aload_n 0, 1) := by decide +kernel
theorem dX6_name_28 : decode cX6_name 28 = .ok (.getfield 60, 3) := by decide +kernel
theorem dX6_name_31 : decode cX6_name 31 = .ok (.aload_n 0, 1) := by decide +kernel
theorem dX6_name_32 : decode cX6_name 32 = .ok (.getfield 80, 3) := by decide +kernel
theorem dX6_name_35 : decode cX6_name 35 = .ok (.isub, 1) := by decide +kernel
theorem dX6_name_36 : decode cX6_name 36 = .ok (.bipush 6, 2) := by decide +kernel
theorem dX6_name_38 : decode cX6_name 38 = .ok (.if_icmp .le 15, 3) := by decide +kernel
theorem dX6_name_41 : decode cX6_name 41 = .ok (.aload_n 0, 1) := by decide +kernel
theorem dX6_name_42 : decode cX6_name 42 = .ok (.iconst 1, 1) := by decide +kernel
theorem dX6_name_43 : decode cX6_name 43 = .ok (.aload_n 0, 1) := by decide +kernel
theorem dX6_name_44 : decode cX6_name 44 = .ok (.getfield 80, 3) := by decide +kernel
theorem dX6_name_47 : decode cX6_name 47 = .ok (.bipush 6, 2) := by decide +kernel
theorem dX6_name_49 : decode cX6_name 49 = .ok (.iadd, 1) := by decide +kernel
theorem dX6_name_50 : decode cX6_name 50 = .ok (.invokevirtual 83, 3) := by decide +kernel
theorem dX6_name_53 : decode cX6_name 53 = .ok (.aload_n 0, 1) := by decide +kernel
theorem dX6_name_54 : decode cX6_name 54 = .ok (.getfield 54, 3) := by decide +kernel
theorem dX6_name_57 : decode cX6_name 57 = .ok (.ifCond .eq 5, 3) := by decide +kernel
theorem dX6_name_60 : decode cX6_name 60 = .ok (.iconst 0, 1) := by decide +kernel
theorem dX6_name_61 : decode cX6_name 61 = .ok (.ireturn, 1) := by decide +kernel
theorem dX6_name_62 : decode cX6_name 62 = .ok (.iconst 0, 1) := by decide +kernel
theorem dX6_name_63 : decode cX6_name 63 = .ok (.istore_n 1, 1) := by decide +kernel
theorem dX6_name_64 : decode cX6_name 64 = .ok (.aload_n 0, 1) := by decide +kernel
theorem dX6_name_65 : decode cX6_name 65 = .ok (.getfield 80, 3) := by decide +kernel
theorem dX6_name_68 : decode cX6_name 68 = .ok (.istore_n 2, 1) := by decide +kernel
theorem dX6_name_69 : decode cX6_name 69 = .ok (.iload_n 2, 1) := by decide +kernel
theorem dX6_name_70 : decode cX6_name 70 = .ok (.aload_n 0, 1) := by decide +kernel
theorem dX6_name_71 : decode cX6_name 71 = .ok (.getfield 80, 3) := by decide +kernel
theorem dX6_name_74 : decode cX6_name 74 = .ok (.bipush 6, 2) := by decide +kernel
theorem dX6_name_76 : decode cX6_name 76 = .ok (.iadd, 1) := by decide +kernel
theorem dX6_name_77 : decode cX6_name 77 = .ok (.if_icmp .ge 46, 3) := by decide +kernel
theorem dX6_name_80 : decode cX6_name 80 = .ok (.iload_n 1, 1) := by decide +kernel
theorem dX6_name_81 : decode cX6_name 81 = .ok (.bipush 32, 2) := by decide +kernel
theorem dX6_name_83 : decode cX6_name 83 = .ok (.imul, 1) := by decide +kernel
theorem dX6_name_84 : decode cX6_name 84 = .ok (.iload_n 2, 1) := by decide +kernel
theorem dX6_name_85 : decode cX6_name 85 = .ok (.aload_n 0, 1) := by decide +kernel
theorem dX6_name_86 : decode cX6_name 86 = .ok (.getfield 60, 3) := by decide +kernel
theorem dX6_name_89 : decode cX6_name 89 = .ok (.if_icmp .ge 25, 3) := by decide +kernel
theorem dX6_name_92 : decode cX6_name 92 = .ok (.iload_n 2, 1) := by decide +kernel
theorem dX6_name_93 : decode cX6_name 93 = .ok (.aload_n 0, 1) := by decide +kernel
theorem dX6_name_94 : decode cX6_name 94 = .ok (.getfield 42, 3) := by decide +kernel
theorem dX6_name_97 : decode cX6_name 97 = .ok (.if_icmp .ge 17, 3) := by decide +kernel
theorem dX6_name_100 : decode cX6_name 100 = .ok (.aload_n 0, 1) := by decide +kernel
theorem dX6_name_101 : decode cX6_name 101 = .ok (.getfield 15, 3) := by decide +kernel
theorem dX6_name_104 : decode cX6_name 104 = .ok (.iload_n 2, 1) := by decide +kernel
theorem dX6_name_105 : decode cX6_name 105 = .ok (.baload, 1) := by decide +kernel
theorem dX6_name_106 : decode cX6_name 106 = .ok (.bipush 97, 2) := by decide +kernel
theorem dX6_name_108 : decode cX6_name 108 = .ok (.isub, 1) := by decide +kernel
theorem dX6_name_109 : decode cX6_name 109 = .ok (.iconst 1, 1) := by decide +kernel
theorem dX6_name_110 : decode cX6_name 110 = .ok (.iadd, 1) := by decide +kernel
theorem dX6_name_111 : decode cX6_name 111 = .ok (.goto 4, 3) := by decide +kernel
theorem dX6_name_114 : decode cX6_name 114 = .ok (.iconst 0, 1) := by decide +kernel
theorem dX6_name_115 : decode cX6_name 115 = .ok (.iadd, 1) := by decide +kernel
theorem dX6_name_116 : decode cX6_name 116 = .ok (.istore_n 1, 1) := by decide +kernel
theorem dX6_name_117 : decode cX6_name 117 = .ok (.iinc 2 1, 3) := by decide +kernel
theorem dX6_name_120 : decode cX6_name 120 = .ok (.goto (-51), 3) := by decide +kernel
theorem dX6_name_123 : decode cX6_name 123 = .ok (.aload_n 0, 1) := by decide +kernel
theorem dX6_name_124 : decode cX6_name 124 = .ok (.invokevirtual 63, 3) := by decide +kernel
theorem dX6_name_127 : decode cX6_name 127 = .ok (.iload_n 1, 1) := by decide +kernel
theorem dX6_name_128 : decode cX6_name 128 = .ok (.ireturn, 1) := by decide +kernel
theorem dX6_isOwnWord_0 : decode cX6_isOwnWord 0 = .ok (.aload_n 0, 1) := by decide +kernel
theorem dX6_isOwnWord_1 : decode cX6_isOwnWord 1 = .ok (.ldc 250, 2) := by decide +kernel
theorem dX6_isOwnWord_3 : decode cX6_isOwnWord 3 = .ok (.invokevirtual 121, 3) := by decide +kernel
theorem dX6_isOwnWord_6 : decode cX6_isOwnWord 6 = .ok (.iconst (-1), 1) := by decide +kernel
theorem dX6_isOwnWord_7 : decode cX6_isOwnWord 7 = .ok (.if_icmp .ne 33, 3) := by decide +kernel
theorem dX6_isOwnWord_10 : decode cX6_isOwnWord 10 = .ok (.aload_n 0, 1) := by decide +kernel
theorem dX6_isOwnWord_11 : decode cX6_isOwnWord 11 = .ok (.ldc 136, 2) := by decide +kernel
theorem dX6_isOwnWord_13 : decode cX6_isOwnWord 13 = .ok (.invokevirtual 121, 3) := by decide +kernel
theorem dX6_isOwnWord_16 : decode cX6_isOwnWord 16 = .ok (.iconst (-1), 1) := by decide +kernel
theorem dX6_isOwnWord_17 : decode cX6_isOwnWord 17 = .ok (.if_icmp .ne 23, 3) := by decide +kernel
theorem dX6_isOwnWord_20 : decode cX6_isOwnWord 20 = .ok (.aload_n 0, 1) := by decide +kernel
theorem dX6_isOwnWord_21 : decode cX6_isOwnWord 21 = .ok (.ldc 119, 2) := by decide +kernel
theorem dX6_isOwnWord_23 : decode cX6_isOwnWord 23 = .ok (.invokevirtual 121, 3) := by decide +kernel
theorem dX6_isOwnWord_26 : decode cX6_isOwnWord 26 = .ok (.iconst (-1), 1) := by decide +kernel
theorem dX6_isOwnWord_27 : decode cX6_isOwnWord 27 = .ok (.if_icmp .ne 13, 3) := by decide +kernel
theorem dX6_isOwnWord_30 : decode cX6_isOwnWord 30 = .ok (.aload_n 0, 1) := by decide +kernel
theorem dX6_isOwnWord_31 : decode cX6_isOwnWord 31 = .ok (.ldc 186, 2) := by decide +kernel
theorem dX6_isOwnWord_33 : decode cX6_isOwnWord 33 = .ok (.invokevirtual 121, 3) := by decide +kernel
theorem dX6_isOwnWord_36 : decode cX6_isOwnWord 36 = .ok (.iconst (-1), 1) := by decide +kernel
theorem dX6_isOwnWord_37 : decode cX6_isOwnWord 37 = .ok (.if_icmp .eq 7, 3) := by decide +kernel
theorem dX6_isOwnWord_40 : decode cX6_isOwnWord 40 = .ok (.iconst 1, 1) := by decide +kernel
theorem dX6_isOwnWord_41 : decode cX6_isOwnWord 41 = .ok (.goto 4, 3) := by decide +kernel
theorem dX6_isOwnWord_44 : decode cX6_isOwnWord 44 = .ok (.iconst 0, 1) := by decide +kernel
theorem dX6_isOwnWord_45 : decode cX6_isOwnWord 45 = .ok (.ireturn, 1) := by decide +kernel
theorem dX6_isWord_0 : decode cX6_isWord 0 = .ok (.aload_n 0, 1) := by decide +kernel
theorem dX6_isWord_1 : decode cX6_isWord 1 = .ok (.getfield 57, 3) := by decide +kernel
theorem dX6_isWord_4 : decode cX6_isWord 4 = .ok (.iconst 1, 1) := by decide +kernel
theorem dX6_isWord_5 : decode cX6_isWord 5 = .ok (.if_icmp .ne 19, 3) := by decide +kernel
theorem dX6_isWord_8 : decode cX6_isWord 8 = .ok (.aload_n 0, 1) := by decide +kernel
theorem dX6_isWord_9 : decode cX6_isWord 9 = .ok (.getfield 60, 3) := by decide +kernel
theorem dX6_isWord_12 : decode cX6_isWord 12 = .ok (.aload_n 0, 1) := by decide +kernel
theorem dX6_isWord_13 : decode cX6_isWord 13 = .ok (.getfield 80, 3) := by decide +kernel
theorem dX6_isWord_16 : decode cX6_isWord 16 = .ok (.isub, 1) := by decide +kernel
theorem dX6_isWord_17 : decode cX6_isWord 17 = .ok (.aload_n 1, 1) := by decide +kernel
theorem dX6_isWord_18 : decode cX6_isWord 18 = .ok (.invokevirtual 252, 3) := by decide +kernel
theorem dX6_isWord_21 : decode cX6_isWord 21 = .ok (.if_icmp .eq 5, 3) := by decide +kernel
theorem dX6_isWord_24 : decode cX6_isWord 24 = .ok (.iconst 0, 1) := by decide +kernel
theorem dX6_isWord_25 : decode cX6_isWord 25 = .ok (.ireturn, 1) := by decide +kernel
theorem dX6_isWord_26 : decode cX6_isWord 26 = .ok (.iconst 0, 1) := by decide +kernel
theorem dX6_isWord_27 : decode cX6_isWord 27 = .ok (.istore_n 2, 1) := by decide +kernel
theorem dX6_isWord_28 : decode cX6_isWord 28 = .ok (.iload_n 2, 1) := by decide +kernel
theorem dX6_isWord_29 : decode cX6_isWord 29 = .ok (.aload_n 1, 1) := by decide +kernel
theorem dX6_isWord_30 : decode cX6_isWord 30 = .ok (.invokevirtual 252, 3) := by decide +kernel
theorem dX6_isWord_33 : decode cX6_isWord 33 = .ok (.if_icmp .ge 43, 3) := by decide +kernel
theorem dX6_isWord_36 : decode cX6_isWord 36 = .ok (.aload_n 0, 1) := by decide +kernel
theorem dX6_isWord_37 : decode cX6_isWord 37 = .ok (.getfield 80, 3) := by decide +kernel
theorem dX6_isWord_40 : decode cX6_isWord 40 = .ok (.iload_n 2, 1) := by decide +kernel
theorem dX6_isWord_41 : decode cX6_isWord 41 = .ok (.iadd, 1) := by decide +kernel
theorem dX6_isWord_42 : decode cX6_isWord 42 = .ok (.aload_n 0, 1) := by decide +kernel
theorem dX6_isWord_43 : decode cX6_isWord 43 = .ok (.getfield 42, 3) := by decide +kernel
theorem dX6_isWord_46 : decode cX6_isWord 46 = .ok (.if_icmp .ge 30, 3) := by decide +kernel
theorem dX6_isWord_49 : decode cX6_isWord 49 = .ok (.aload_n 0, 1) := by decide +kernel
theorem dX6_isWord_50 : decode cX6_isWord 50 = .ok (.getfield 15, 3) := by decide +kernel
theorem dX6_isWord_53 : decode cX6_isWord 53 = .ok (.aload_n 0, 1) := by decide +kernel
theorem dX6_isWord_54 : decode cX6_isWord 54 = .ok (.getfield 80, 3) := by decide +kernel
theorem dX6_isWord_57 : decode cX6_isWord 57 = .ok (.iload_n 2, 1) := by decide +kernel
theorem dX6_isWord_58 : decode cX6_isWord 58 = .ok (.iadd, 1) := by decide +kernel
theorem dX6_isWord_59 : decode cX6_isWord 59 = .ok (.baload, 1) := by decide +kernel
theorem dX6_isWord_60 : decode cX6_isWord 60 = .ok (.aload_n 1, 1) := by decide +kernel
theorem dX6_isWord_61 : decode cX6_isWord 61 = .ok (.iload_n 2, 1) := by decide +kernel
theorem dX6_isWord_62 : decode cX6_isWord 62 = .ok (.invokevirtual 256, 3) := by decide +kernel
theorem dX6_isWord_65 : decode cX6_isWord 65 = .ok (.if_icmp .eq 5, 3) := by decide +kernel
theorem dX6_isWord_68 : decode cX6_isWord 68 = .ok (.iconst 0, 1) := by decide +kernel
theorem dX6_isWord_69 : decode cX6_isWord 69 = .ok (.ireturn, 1) := by decide +kernel
theorem dX6_isWord_70 : decode cX6_isWord 70 = .ok (.iinc 2 1, 3) := by decide +kernel
theorem dX6_isWord_73 : decode cX6_isWord 73 = .ok (.goto (-45), 3) := by decide +kernel
theorem dX6_isWord_76 : decode cX6_isWord 76 = .ok (.iconst 1, 1) := by decide +kernel
theorem dX6_isWord_77 : decode cX6_isWord 77 = .ok (.ireturn, 1) := by decide +kernel
theorem dX6_wordAmong_0 : decode cX6_wordAmong 0 = .ok (.aload_n 0, 1) := by decide +kernel
theorem dX6_wordAmong_1 : decode cX6_wordAmong 1 = .ok (.getfield 57, 3) := by decide +kernel
theorem dX6_wordAmong_4 : decode cX6_wordAmong 4 = .ok (.iconst 1, 1) := by decide +kernel
theorem dX6_wordAmong_5 : decode cX6_wordAmong 5 = .ok (.if_icmp .ne 17, 3) := by decide +kernel
theorem dX6_wordAmong_8 : decode cX6_wordAmong 8 = .ok (.aload_n 0, 1) := by decide +kernel
theorem dX6_wordAmong_9 : decode cX6_wordAmong 9 = .ok (.getfield 60, 3) := by decide +kernel
theorem dX6_wordAmong_12 : decode cX6_wordAmong 12 = .ok (.aload_n 0, 1) := by decide +kernel
theorem dX6_wordAmong_13 : decode cX6_wordAmong 13 = .ok (.getfield 80, 3) := by decide +kernel
theorem dX6_wordAmong_16 : decode cX6_wordAmong 16 = .ok (.isub, 1) := by decide +kernel
theorem dX6_wordAmong_17 : decode cX6_wordAmong 17 = .ok (.bipush 6, 2) := by decide +kernel
theorem dX6_wordAmong_19 : decode cX6_wordAmong 19 = .ok (.if_icmp .le 5, 3) := by decide +kernel
theorem dX6_wordAmong_22 : decode cX6_wordAmong 22 = .ok (.iconst (-1), 1) := by decide +kernel
theorem dX6_wordAmong_23 : decode cX6_wordAmong 23 = .ok (.ireturn, 1) := by decide +kernel
theorem dX6_wordAmong_24 : decode cX6_wordAmong 24 = .ok (.iconst 0, 1) := by decide +kernel
theorem dX6_wordAmong_25 : decode cX6_wordAmong 25 = .ok (.istore_n 2, 1) := by decide +kernel
theorem dX6_wordAmong_26 : decode cX6_wordAmong 26 = .ok (.iload_n 2, 1) := by decide +kernel
theorem dX6_wordAmong_27 : decode cX6_wordAmong 27 = .ok (.iconst 1, 1) := by decide +kernel
theorem dX6_wordAmong_28 : decode cX6_wordAmong 28 = .ok (.iadd, 1) := by decide +kernel
theorem dX6_wordAmong_29 : decode cX6_wordAmong 29 = .ok (.bipush 6, 2) := by decide +kernel
theorem dX6_wordAmong_31 : decode cX6_wordAmong 31 = .ok (.imul, 1) := by decide +kernel
theorem dX6_wordAmong_32 : decode cX6_wordAmong 32 = .ok (.aload_n 1, 1) := by decide +kernel
theorem dX6_wordAmong_33 : decode cX6_wordAmong 33 = .ok (.invokevirtual 252, 3) := by decide +kernel
theorem dX6_wordAmong_36 : decode cX6_wordAmong 36 = .ok (.if_icmp .gt 106, 3) := by decide +kernel
theorem dX6_wordAmong_39 : decode cX6_wordAmong 39 = .ok (.iconst 0, 1) := by decide +kernel
theorem dX6_wordAmong_40 : decode cX6_wordAmong 40 = .ok (.istore_n 3, 1) := by decide +kernel
theorem dX6_wordAmong_41 : decode cX6_wordAmong 41 = .ok (.iconst 0, 1) := by decide +kernel
theorem dX6_wordAmong_42 : decode cX6_wordAmong 42 = .ok (.istore 4, 2) := by decide +kernel
theorem dX6_wordAmong_44 : decode cX6_wordAmong 44 = .ok (.iload 4, 2) := by decide +kernel
theorem dX6_wordAmong_46 : decode cX6_wordAmong 46 = .ok (.bipush 6, 2) := by decide +kernel
theorem dX6_wordAmong_48 : decode cX6_wordAmong 48 = .ok (.if_icmp .ge 80, 3) := by decide +kernel
theorem dX6_wordAmong_51 : decode cX6_wordAmong 51 = .ok (.aload_n 0, 1) := by decide +kernel
theorem dX6_wordAmong_52 : decode cX6_wordAmong 52 = .ok (.getfield 80, 3) := by decide +kernel
theorem dX6_wordAmong_55 : decode cX6_wordAmong 55 = .ok (.iload 4, 2) := by decide +kernel
theorem dX6_wordAmong_57 : decode cX6_wordAmong 57 = .ok (.iadd, 1) := by decide +kernel
theorem dX6_wordAmong_58 : decode cX6_wordAmong 58 = .ok (.aload_n 0, 1) := by decide +kernel
theorem dX6_wordAmong_59 : decode cX6_wordAmong 59 = .ok (.getfield 60, 3) := by decide +kernel
theorem dX6_wordAmong_62 : decode cX6_wordAmong 62 = .ok (.if_icmp .ge 32, 3) := by decide +kernel
theorem dX6_wordAmong_65 : decode cX6_wordAmong 65 = .ok (.aload_n 0, 1) := by decide +kernel
theorem dX6_wordAmong_66 : decode cX6_wordAmong 66 = .ok (.getfield 80, 3) := by decide +kernel
theorem dX6_wordAmong_69 : decode cX6_wordAmong 69 = .ok (.iload 4, 2) := by decide +kernel
theorem dX6_wordAmong_71 : decode cX6_wordAmong 71 = .ok (.iadd, 1) := by decide +kernel
theorem dX6_wordAmong_72 : decode cX6_wordAmong 72 = .ok (.aload_n 0, 1) := by decide +kernel
theorem dX6_wordAmong_73 : decode cX6_wordAmong 73 = .ok (.getfield 42, 3) := by decide +kernel
theorem dX6_wordAmong_76 : decode cX6_wordAmong 76 = .ok (.if_icmp .ge 18, 3) := by decide +kernel
theorem dX6_wordAmong_79 : decode cX6_wordAmong 79 = .ok (.aload_n 0, 1) := by decide +kernel
theorem dX6_wordAmong_80 : decode cX6_wordAmong 80 = .ok (.getfield 15, 3) := by decide +kernel
theorem dX6_wordAmong_83 : decode cX6_wordAmong 83 = .ok (.aload_n 0, 1) := by decide +kernel
theorem dX6_wordAmong_84 : decode cX6_wordAmong 84 = .ok (.getfield 80, 3) := by decide +kernel
theorem dX6_wordAmong_87 : decode cX6_wordAmong 87 = .ok (.iload 4, 2) := by decide +kernel
theorem dX6_wordAmong_89 : decode cX6_wordAmong 89 = .ok (.iadd, 1) := by decide +kernel
theorem dX6_wordAmong_90 : decode cX6_wordAmong 90 = .ok (.baload, 1) := by decide +kernel
theorem dX6_wordAmong_91 : decode cX6_wordAmong 91 = .ok (.goto 5, 3) := by decide +kernel
theorem dX6_wordAmong_94 : decode cX6_wordAmong 94 = .ok (.bipush 32, 2) := by decide +kernel
theorem dX6_wordAmong_96 : decode cX6_wordAmong 96 = .ok (.istore 5, 2) := by decide +kernel
theorem dX6_wordAmong_98 : decode cX6_wordAmong 98 = .ok (.iload_n 3, 1) := by decide +kernel
theorem dX6_wordAmong_99 : decode cX6_wordAmong 99 = .ok (.iload 5, 2) := by decide +kernel
theorem dX6_wordAmong_101 : decode cX6_wordAmong 101 = .ok (.aload_n 1, 1) := by decide +kernel
theorem dX6_wordAmong_102 : decode cX6_wordAmong 102 = .ok (.iload_n 2, 1) := by decide +kernel
theorem dX6_wordAmong_103 : decode cX6_wordAmong 103 = .ok (.bipush 6, 2) := by decide +kernel
theorem dX6_wordAmong_105 : decode cX6_wordAmong 105 = .ok (.imul, 1) := by decide +kernel
theorem dX6_wordAmong_106 : decode cX6_wordAmong 106 = .ok (.iload 4, 2) := by decide +kernel
theorem dX6_wordAmong_108 : decode cX6_wordAmong 108 = .ok (.iadd, 1) := by decide +kernel
theorem dX6_wordAmong_109 : decode cX6_wordAmong 109 = .ok (.invokevirtual 256, 3) := by decide +kernel
theorem dX6_wordAmong_112 : decode cX6_wordAmong 112 = .ok (.if_icmp .ne 7, 3) := by decide +kernel
theorem dX6_wordAmong_115 : decode cX6_wordAmong 115 = .ok (.iconst 1, 1) := by decide +kernel
theorem dX6_wordAmong_116 : decode cX6_wordAmong 116 = .ok (.goto 4, 3) := by decide +kernel
theorem dX6_wordAmong_119 : decode cX6_wordAmong 119 = .ok (.iconst 0, 1) := by decide +kernel
theorem dX6_wordAmong_120 : decode cX6_wordAmong 120 = .ok (.iadd, 1) := by decide +kernel
theorem dX6_wordAmong_121 : decode cX6_wordAmong 121 = .ok (.istore_n 3, 1) := by decide +kernel
theorem dX6_wordAmong_122 : decode cX6_wordAmong 122 = .ok (.iinc 4 1, 3) := by decide +kernel
theorem dX6_wordAmong_125 : decode cX6_wordAmong 125 = .ok (.goto (-81), 3) := by decide +kernel
theorem dX6_wordAmong_128 : decode cX6_wordAmong 128 = .ok (.iload_n 3, 1) := by decide +kernel
theorem dX6_wordAmong_129 : decode cX6_wordAmong 129 = .ok (.bipush 6, 2) := by decide +kernel
theorem dX6_wordAmong_131 : decode cX6_wordAmong 131 = .ok (.if_icmp .ne 5, 3) := by decide +kernel
theorem dX6_wordAmong_134 : decode cX6_wordAmong 134 = .ok (.iload_n 2, 1) := by decide +kernel
theorem dX6_wordAmong_135 : decode cX6_wordAmong 135 = .ok (.ireturn, 1) := by decide +kernel
theorem dX6_wordAmong_136 : decode cX6_wordAmong 136 = .ok (.iinc 2 1, 3) := by decide +kernel
theorem dX6_wordAmong_139 : decode cX6_wordAmong 139 = .ok (.goto (-113), 3) := by decide +kernel
theorem dX6_wordAmong_142 : decode cX6_wordAmong 142 = .ok (.iconst (-1), 1) := by decide +kernel
theorem dX6_wordAmong_143 : decode cX6_wordAmong 143 = .ok (.ireturn, 1) := by decide +kernel
theorem dX6_isSign_0 : decode cX6_isSign 0 = .ok (.aload_n 0, 1) := by decide +kernel
theorem dX6_isSign_1 : decode cX6_isSign 1 = .ok (.getfield 57, 3) := by decide +kernel
theorem dX6_isSign_4 : decode cX6_isSign 4 = .ok (.iconst 3, 1) := by decide +kernel
theorem dX6_isSign_5 : decode cX6_isSign 5 = .ok (.if_icmp .ne 31, 3) := by decide +kernel
theorem dX6_isSign_8 : decode cX6_isSign 8 = .ok (.aload_n 0, 1) := by decide +kernel
theorem dX6_isSign_9 : decode cX6_isSign 9 = .ok (.getfield 80, 3) := by decide +kernel
theorem dX6_isSign_12 : decode cX6_isSign 12 = .ok (.aload_n 0, 1) := by decide +kernel
theorem dX6_isSign_13 : decode cX6_isSign 13 = .ok (.getfield 42, 3) := by decide +kernel
theorem dX6_isSign_16 : decode cX6_isSign 16 = .ok (.if_icmp .ge 20, 3) := by decide +kernel
theorem dX6_isSign_19 : decode cX6_isSign 19 = .ok (.aload_n 0, 1) := by decide +kernel
theorem dX6_isSign_20 : decode cX6_isSign 20 = .ok (.getfield 15, 3) := by decide +kernel
theorem dX6_isSign_23 : decode cX6_isSign 23 = .ok (.aload_n 0, 1) := by decide +kernel
theorem dX6_isSign_24 : decode cX6_isSign 24 = .ok (.getfield 80, 3) := by decide +kernel
theorem dX6_isSign_27 : decode cX6_isSign 27 = .ok (.baload, 1) := by decide +kernel
theorem dX6_isSign_28 : decode cX6_isSign 28 = .ok (.iload_n 1, 1) := by decide +kernel
theorem dX6_isSign_29 : decode cX6_isSign 29 = .ok (.if_icmp .ne 7, 3) := by decide +kernel
theorem dX6_isSign_32 : decode cX6_isSign 32 = .ok (.iconst 1, 1) := by decide +kernel
theorem dX6_isSign_33 : decode cX6_isSign 33 = .ok (.goto 4, 3) := by decide +kernel
theorem dX6_isSign_36 : decode cX6_isSign 36 = .ok (.iconst 0, 1) := by decide +kernel
theorem dX6_isSign_37 : decode cX6_isSign 37 = .ok (.ireturn, 1) := by decide +kernel
theorem dX6_pass_0 : decode cX6_pass 0 = .ok (.iload_n 1, 1) := by decide +kernel
theorem dX6_pass_1 : decode cX6_pass 1 = .ok (.ifCond .eq 10, 3) := by decide +kernel
theorem dX6_pass_4 : decode cX6_pass 4 = .ok (.aload_n 0, 1) := by decide +kernel
theorem dX6_pass_5 : decode cX6_pass 5 = .ok (.invokevirtual 63, 3) := by decide +kernel
theorem dX6_pass_8 : decode cX6_pass 8 = .ok (.goto 12, 3) := by decide +kernel
theorem dX6_pass_11 : decode cX6_pass 11 = .ok (.aload_n 0, 1) := by decide +kernel
theorem dX6_pass_12 : decode cX6_pass 12 = .ok (.iconst 1, 1) := by decide +kernel
theorem dX6_pass_13 : decode cX6_pass 13 = .ok (.aload_n 0, 1) := by decide +kernel
theorem dX6_pass_14 : decode cX6_pass 14 = .ok (.getfield 80, 3) := by decide +kernel
theorem dX6_pass_17 : decode cX6_pass 17 = .ok (.invokevirtual 83, 3) := by decide +kernel
theorem dX6_pass_20 : decode cX6_pass 20 = .ok (.return_, 1) := by decide +kernel
theorem dX6_refuse_0 : decode cX6_refuse 0 = .ok (.aload_n 0, 1) := by decide +kernel
theorem dX6_refuse_1 : decode cX6_refuse 1 = .ok (.getfield 54, 3) := by decide +kernel
theorem dX6_refuse_4 : decode cX6_refuse 4 = .ok (.ifCond .ne 13, 3) := by decide +kernel
theorem dX6_refuse_7 : decode cX6_refuse 7 = .ok (.aload_n 0, 1) := by decide +kernel
theorem dX6_refuse_8 : decode cX6_refuse 8 = .ok (.iload_n 1, 1) := by decide +kernel
theorem dX6_refuse_9 : decode cX6_refuse 9 = .ok (.putfield 54, 3) := by decide +kernel
theorem dX6_refuse_12 : decode cX6_refuse 12 = .ok (.aload_n 0, 1) := by decide +kernel
theorem dX6_refuse_13 : decode cX6_refuse 13 = .ok (.iload_n 2, 1) := by decide +kernel
theorem dX6_refuse_14 : decode cX6_refuse 14 = .ok (.putfield 9, 3) := by decide +kernel
theorem dX6_refuse_17 : decode cX6_refuse 17 = .ok (.aload_n 0, 1) := by decide +kernel
theorem dX6_refuse_18 : decode cX6_refuse 18 = .ok (.iconst 4, 1) := by decide +kernel
theorem dX6_refuse_19 : decode cX6_refuse 19 = .ok (.putfield 57, 3) := by decide +kernel
theorem dX6_refuse_22 : decode cX6_refuse 22 = .ok (.return_, 1) := by decide +kernel
theorem dX6_advance_0 : decode cX6_advance 0 = .ok (.aload_n 0, 1) := by decide +kernel
theorem dX6_advance_1 : decode cX6_advance 1 = .ok (.getfield 54, 3) := by decide +kernel
theorem dX6_advance_4 : decode cX6_advance 4 = .ok (.ifCond .eq 4, 3) := by decide +kernel
theorem dX6_advance_7 : decode cX6_advance 7 = .ok (.return_, 1) := by decide +kernel
theorem dX6_advance_8 : decode cX6_advance 8 = .ok (.aload_n 0, 1) := by decide +kernel
theorem dX6_advance_9 : decode cX6_advance 9 = .ok (.getfield 57, 3) := by decide +kernel
theorem dX6_advance_12 : decode cX6_advance 12 = .ok (.iconst 1, 1) := by decide +kernel
theorem dX6_advance_13 : decode cX6_advance 13 = .ok (.if_icmp .eq 11, 3) := by decide +kernel
theorem dX6_advance_16 : decode cX6_advance 16 = .ok (.aload_n 0, 1) := by decide +kernel
theorem dX6_advance_17 : decode cX6_advance 17 = .ok (.getfield 57, 3) := by decide +kernel
theorem dX6_advance_20 : decode cX6_advance 20 = .ok (.iconst 2, 1) := by decide +kernel
theorem dX6_advance_21 : decode cX6_advance 21 = .ok (.if_icmp .ne 7, 3) := by decide +kernel
theorem dX6_advance_24 : decode cX6_advance 24 = .ok (.iconst 1, 1) := by decide +kernel
theorem dX6_advance_25 : decode cX6_advance 25 = .ok (.goto 4, 3) := by decide +kernel
theorem dX6_advance_28 : decode cX6_advance 28 = .ok (.iconst 0, 1) := by decide +kernel
theorem dX6_advance_29 : decode cX6_advance 29 = .ok (.istore_n 1, 1) := by decide +kernel
theorem dX6_advance_30 : decode cX6_advance 30 = .ok (.aload_n 0, 1) := by decide +kernel
theorem dX6_advance_31 : decode cX6_advance 31 = .ok (.getfield 60, 3) := by decide +kernel
theorem dX6_advance_34 : decode cX6_advance 34 = .ok (.istore_n 2, 1) := by decide +kernel
theorem dX6_advance_35 : decode cX6_advance 35 = .ok (.aload_n 0, 1) := by decide +kernel
theorem dX6_advance_36 : decode cX6_advance 36 = .ok (.iload_n 2, 1) := by decide +kernel
theorem dX6_advance_37 : decode cX6_advance 37 = .ok (.putfield 80, 3) := by decide +kernel
theorem dX6_advance_40 : decode cX6_advance 40 = .ok (.aload_n 0, 1) := by decide +kernel
theorem dX6_advance_41 : decode cX6_advance 41 = .ok (.getfield 80, 3) := by decide +kernel
theorem dX6_advance_44 : decode cX6_advance 44 = .ok (.aload_n 0, 1) := by decide +kernel
theorem dX6_advance_45 : decode cX6_advance 45 = .ok (.getfield 42, 3) := by decide +kernel
theorem dX6_advance_48 : decode cX6_advance 48 = .ok (.if_icmp .ge 44, 3) := by decide +kernel
theorem dX6_advance_51 : decode cX6_advance 51 = .ok (.aload_n 0, 1) := by decide +kernel
theorem dX6_advance_52 : decode cX6_advance 52 = .ok (.getfield 15, 3) := by decide +kernel
theorem dX6_advance_55 : decode cX6_advance 55 = .ok (.aload_n 0, 1) := by decide +kernel
theorem dX6_advance_56 : decode cX6_advance 56 = .ok (.getfield 80, 3) := by decide +kernel
theorem dX6_advance_59 : decode cX6_advance 59 = .ok (.baload, 1) := by decide +kernel
theorem dX6_advance_60 : decode cX6_advance 60 = .ok (.bipush 32, 2) := by decide +kernel
theorem dX6_advance_62 : decode cX6_advance 62 = .ok (.if_icmp .eq 17, 3) := by decide +kernel
theorem dX6_advance_65 : decode cX6_advance 65 = .ok (.aload_n 0, 1) := by decide +kernel
theorem dX6_advance_66 : decode cX6_advance 66 = .ok (.getfield 15, 3) := by decide +kernel
theorem dX6_advance_69 : decode cX6_advance 69 = .ok (.aload_n 0, 1) := by decide +kernel
theorem dX6_advance_70 : decode cX6_advance 70 = .ok (.getfield 80, 3) := by decide +kernel
theorem dX6_advance_73 : decode cX6_advance 73 = .ok (.baload, 1) := by decide +kernel
theorem dX6_advance_74 : decode cX6_advance 74 = .ok (.bipush 10, 2) := by decide +kernel
theorem dX6_advance_76 : decode cX6_advance 76 = .ok (.if_icmp .ne 16, 3) := by decide +kernel
theorem dX6_advance_79 : decode cX6_advance 79 = .ok (.aload_n 0, 1) := by decide +kernel
theorem dX6_advance_80 : decode cX6_advance 80 = .ok (.dup, 1) := by decide +kernel
theorem dX6_advance_81 : decode cX6_advance 81 = .ok (.getfield 80, 3) := by decide +kernel
theorem dX6_advance_84 : decode cX6_advance 84 = .ok (.iconst 1, 1) := by decide +kernel
theorem dX6_advance_85 : decode cX6_advance 85 = .ok (.iadd, 1) := by decide +kernel
theorem dX6_advance_86 : decode cX6_advance 86 = .ok (.putfield 80, 3) := by decide +kernel
theorem dX6_advance_89 : decode cX6_advance 89 = .ok (.goto (-49), 3) := by decide +kernel
theorem dX6_advance_92 : decode cX6_advance 92 = .ok (.aload_n 0, 1) := by decide +kernel
theorem dX6_advance_93 : decode cX6_advance 93 = .ok (.aload_n 0, 1) := by decide +kernel
theorem dX6_advance_94 : decode cX6_advance 94 = .ok (.getfield 80, 3) := by decide +kernel
theorem dX6_advance_97 : decode cX6_advance 97 = .ok (.putfield 60, 3) := by decide +kernel
theorem dX6_advance_100 : decode cX6_advance 100 = .ok (.aload_n 0, 1) := by decide +kernel
theorem dX6_advance_101 : decode cX6_advance 101 = .ok (.getfield 60, 3) := by decide +kernel
theorem dX6_advance_104 : decode cX6_advance 104 = .ok (.aload_n 0, 1) := by decide +kernel
theorem dX6_advance_105 : decode cX6_advance 105 = .ok (.getfield 42, 3) := by decide +kernel
theorem dX6_advance_108 : decode cX6_advance 108 = .ok (.if_icmp .ge 44, 3) := by decide +kernel
theorem dX6_advance_111 : decode cX6_advance 111 = .ok (.aload_n 0, 1) := by decide +kernel
theorem dX6_advance_112 : decode cX6_advance 112 = .ok (.getfield 15, 3) := by decide +kernel
theorem dX6_advance_115 : decode cX6_advance 115 = .ok (.aload_n 0, 1) := by decide +kernel
theorem dX6_advance_116 : decode cX6_advance 116 = .ok (.getfield 60, 3) := by decide +kernel
theorem dX6_advance_119 : decode cX6_advance 119 = .ok (.baload, 1) := by decide +kernel
theorem dX6_advance_120 : decode cX6_advance 120 = .ok (.bipush 97, 2) := by decide +kernel
theorem dX6_advance_122 : decode cX6_advance 122 = .ok (.if_icmp .lt 30, 3) := by decide +kernel
theorem dX6_advance_125 : decode cX6_advance 125 = .ok (.aload_n 0, 1) := by decide +kernel
theorem dX6_advance_126 : decode cX6_advance 126 = .ok (.getfield 15, 3) := by decide +kernel
theorem dX6_advance_129 : decode cX6_advance 129 = .ok (.aload_n 0, 1) := by decide +kernel
theorem dX6_advance_130 : decode cX6_advance 130 = .ok (.getfield 60, 3) := by decide +kernel
theorem dX6_advance_133 : decode cX6_advance 133 = .ok (.baload, 1) := by decide +kernel
theorem dX6_advance_134 : decode cX6_advance 134 = .ok (.bipush 122, 2) := by decide +kernel
theorem dX6_advance_136 : decode cX6_advance 136 = .ok (.if_icmp .gt 16, 3) := by decide +kernel
theorem dX6_advance_139 : decode cX6_advance 139 = .ok (.aload_n 0, 1) := by decide +kernel
theorem dX6_advance_140 : decode cX6_advance 140 = .ok (.dup, 1) := by decide +kernel
theorem dX6_advance_141 : decode cX6_advance 141 = .ok (.getfield 60, 3) := by decide +kernel
theorem dX6_advance_144 : decode cX6_advance 144 = .ok (.iconst 1, 1) := by decide +kernel
theorem dX6_advance_145 : decode cX6_advance 145 = .ok (.iadd, 1) := by decide +kernel
theorem dX6_advance_146 : decode cX6_advance 146 = .ok (.putfield 60, 3) := by decide +kernel
theorem dX6_advance_149 : decode cX6_advance 149 = .ok (.goto (-49), 3) := by decide +kernel
theorem dX6_advance_152 : decode cX6_advance 152 = .ok (.aload_n 0, 1) := by decide +kernel
theorem dX6_advance_153 : decode cX6_advance 153 = .ok (.iconst 1, 1) := by decide +kernel
theorem dX6_advance_154 : decode cX6_advance 154 = .ok (.putfield 57, 3) := by decide +kernel
theorem dX6_advance_157 : decode cX6_advance 157 = .ok (.aload_n 0, 1) := by decide +kernel
theorem dX6_advance_158 : decode cX6_advance 158 = .ok (.getfield 60, 3) := by decide +kernel
theorem dX6_advance_161 : decode cX6_advance 161 = .ok (.aload_n 0, 1) := by decide +kernel
theorem dX6_advance_162 : decode cX6_advance 162 = .ok (.getfield 80, 3) := by decide +kernel
theorem dX6_advance_165 : decode cX6_advance 165 = .ok (.if_icmp .ne 60, 3) := by decide +kernel
theorem dX6_advance_168 : decode cX6_advance 168 = .ok (.aload_n 0, 1) := by decide +kernel
theorem dX6_advance_169 : decode cX6_advance 169 = .ok (.iconst 2, 1) := by decide +kernel
theorem dX6_advance_170 : decode cX6_advance 170 = .ok (.putfield 57, 3) := by decide +kernel
theorem dX6_advance_173 : decode cX6_advance 173 = .ok (.aload_n 0, 1) := by decide +kernel
theorem dX6_advance_174 : decode cX6_advance 174 = .ok (.getfield 60, 3) := by decide +kernel
theorem dX6_advance_177 : decode cX6_advance 177 = .ok (.aload_n 0, 1) := by decide +kernel
theorem dX6_advance_178 : decode cX6_advance 178 = .ok (.getfield 42, 3) := by decide +kernel
theorem dX6_advance_181 : decode cX6_advance 181 = .ok (.if_icmp .ge 44, 3) := by decide +kernel
theorem dX6_advance_184 : decode cX6_advance 184 = .ok (.aload_n 0, 1) := by decide +kernel
theorem dX6_advance_185 : decode cX6_advance 185 = .ok (.getfield 15, 3) := by decide +kernel
theorem dX6_advance_188 : decode cX6_advance 188 = .ok (.aload_n 0, 1) := by decide +kernel
theorem dX6_advance_189 : decode cX6_advance 189 = .ok (.getfield 60, 3) := by decide +kernel
theorem dX6_advance_192 : decode cX6_advance 192 = .ok (.baload, 1) := by decide +kernel
theorem dX6_advance_193 : decode cX6_advance 193 = .ok (.bipush 48, 2) := by decide +kernel
theorem dX6_advance_195 : decode cX6_advance 195 = .ok (.if_icmp .lt 30, 3) := by decide +kernel
theorem dX6_advance_198 : decode cX6_advance 198 = .ok (.aload_n 0, 1) := by decide +kernel
theorem dX6_advance_199 : decode cX6_advance 199 = .ok (.getfield 15, 3) := by decide +kernel
theorem dX6_advance_202 : decode cX6_advance 202 = .ok (.aload_n 0, 1) := by decide +kernel
theorem dX6_advance_203 : decode cX6_advance 203 = .ok (.getfield 60, 3) := by decide +kernel
theorem dX6_advance_206 : decode cX6_advance 206 = .ok (.baload, 1) := by decide +kernel
theorem dX6_advance_207 : decode cX6_advance 207 = .ok (.bipush 57, 2) := by decide +kernel
theorem dX6_advance_209 : decode cX6_advance 209 = .ok (.if_icmp .gt 16, 3) := by decide +kernel
theorem dX6_advance_212 : decode cX6_advance 212 = .ok (.aload_n 0, 1) := by decide +kernel
theorem dX6_advance_213 : decode cX6_advance 213 = .ok (.dup, 1) := by decide +kernel
theorem dX6_advance_214 : decode cX6_advance 214 = .ok (.getfield 60, 3) := by decide +kernel
theorem dX6_advance_217 : decode cX6_advance 217 = .ok (.iconst 1, 1) := by decide +kernel
theorem dX6_advance_218 : decode cX6_advance 218 = .ok (.iadd, 1) := by decide +kernel
theorem dX6_advance_219 : decode cX6_advance 219 = .ok (.putfield 60, 3) := by decide +kernel
theorem dX6_advance_222 : decode cX6_advance 222 = .ok (.goto (-49), 3) := by decide +kernel
theorem dX6_advance_225 : decode cX6_advance 225 = .ok (.aload_n 0, 1) := by decide +kernel
theorem dX6_advance_226 : decode cX6_advance 226 = .ok (.getfield 60, 3) := by decide +kernel
theorem dX6_advance_229 : decode cX6_advance 229 = .ok (.aload_n 0, 1) := by decide +kernel
theorem dX6_advance_230 : decode cX6_advance 230 = .ok (.getfield 80, 3) := by decide +kernel
theorem dX6_advance_233 : decode cX6_advance 233 = .ok (.if_icmp .ne 43, 3) := by decide +kernel
theorem dX6_advance_236 : decode cX6_advance 236 = .ok (.aload_n 0, 1) := by decide +kernel
theorem dX6_advance_237 : decode cX6_advance 237 = .ok (.aload_n 0, 1) := by decide +kernel
theorem dX6_advance_238 : decode cX6_advance 238 = .ok (.getfield 60, 3) := by decide +kernel
theorem dX6_advance_241 : decode cX6_advance 241 = .ok (.aload_n 0, 1) := by decide +kernel
theorem dX6_advance_242 : decode cX6_advance 242 = .ok (.getfield 42, 3) := by decide +kernel
theorem dX6_advance_245 : decode cX6_advance 245 = .ok (.if_icmp .ge 7, 3) := by decide +kernel
theorem dX6_advance_248 : decode cX6_advance 248 = .ok (.iconst 3, 1) := by decide +kernel
theorem dX6_advance_249 : decode cX6_advance 249 = .ok (.goto 4, 3) := by decide +kernel
theorem dX6_advance_252 : decode cX6_advance 252 = .ok (.iconst 0, 1) := by decide +kernel
theorem dX6_advance_253 : decode cX6_advance 253 = .ok (.putfield 57, 3) := by decide +kernel
theorem dX6_advance_256 : decode cX6_advance 256 = .ok (.aload_n 0, 1) := by decide +kernel
theorem dX6_advance_257 : decode cX6_advance 257 = .ok (.aload_n 0, 1) := by decide +kernel
theorem dX6_advance_258 : decode cX6_advance 258 = .ok (.getfield 42, 3) := by decide +kernel
theorem dX6_advance_261 : decode cX6_advance 261 = .ok (.aload_n 0, 1) := by decide +kernel
theorem dX6_advance_262 : decode cX6_advance 262 = .ok (.getfield 60, 3) := by decide +kernel
theorem dX6_advance_265 : decode cX6_advance 265 = .ok (.iconst 1, 1) := by decide +kernel
theorem dX6_advance_266 : decode cX6_advance 266 = .ok (.iadd, 1) := by decide +kernel
theorem dX6_advance_267 : decode cX6_advance 267 = .ok (.invokestatic 36, 3) := by decide +kernel
theorem dX6_advance_270 : decode cX6_advance 270 = .ok (.putfield 60, 3) := by decide +kernel
theorem dX6_advance_273 : decode cX6_advance 273 = .ok (.goto 20, 3) := by decide +kernel
theorem dX6_advance_276 : decode cX6_advance 276 = .ok (.iload_n 1, 1) := by decide +kernel
theorem dX6_advance_277 : decode cX6_advance 277 = .ok (.ifCond .eq 16, 3) := by decide +kernel
theorem dX6_advance_280 : decode cX6_advance 280 = .ok (.aload_n 0, 1) := by decide +kernel
theorem dX6_advance_281 : decode cX6_advance 281 = .ok (.getfield 80, 3) := by decide +kernel
theorem dX6_advance_284 : decode cX6_advance 284 = .ok (.iload_n 2, 1) := by decide +kernel
theorem dX6_advance_285 : decode cX6_advance 285 = .ok (.if_icmp .ne 8, 3) := by decide +kernel
theorem dX6_advance_288 : decode cX6_advance 288 = .ok (.aload_n 0, 1) := by decide +kernel
theorem dX6_advance_289 : decode cX6_advance 289 = .ok (.iconst 4, 1) := by decide +kernel
theorem dX6_advance_290 : decode cX6_advance 290 = .ok (.putfield 57, 3) := by decide +kernel
theorem dX6_advance_293 : decode cX6_advance 293 = .ok (.return_, 1) := by decide +kernel
theorem dX7_init_0 : decode cX7_init 0 = .ok (.aload_n 0, 1) := by decide +kernel
theorem dX7_init_1 : decode cX7_init 1 = .ok (.invokespecial 3, 3) := by decide +kernel
theorem dX7_init_4 : decode cX7_init 4 = .ok (.aload_n 0, 1) := by decide +kernel
theorem dX7_init_5 : decode cX7_init 5 = .ok (.iconst 0, 1) := by decide +kernel
theorem dX7_init_6 : decode cX7_init 6 = .ok (.iload_n 1, 1) := by decide +kernel
theorem dX7_init_7 : decode cX7_init 7 = .ok (.invokestatic 9, 3) := by decide +kernel
theorem dX7_init_10 : decode cX7_init 10 = .ok (.newarray .int, 2) := by decide +kernel
theorem dX7_init_12 : decode cX7_init 12 = .ok (.putfield 15, 3) := by decide +kernel
theorem dX7_init_15 : decode cX7_init 15 = .ok (.return_, 1) := by decide +kernel
theorem dX7_clear_0 : decode cX7_clear 0 = .ok (.aload_n 0, 1) := by decide +kernel
theorem dX7_clear_1 : decode cX7_clear 1 = .ok (.iconst 0, 1) := by decide +kernel
theorem dX7_clear_2 : decode cX7_clear 2 = .ok (.putfield 21, 3) := by decide +kernel
theorem dX7_clear_5 : decode cX7_clear 5 = .ok (.return_, 1) := by decide +kernel
theorem dX7_valueAt_0 : decode cX7_valueAt 0 = .ok (.iload_n 1, 1) := by decide +kernel
theorem dX7_valueAt_1 : decode cX7_valueAt 1 = .ok (.ifCond .lt 20, 3) := by decide +kernel
theorem dX7_valueAt_4 : decode cX7_valueAt 4 = .ok (.iload_n 1, 1) := by decide +kernel
theorem dX7_valueAt_5 : decode cX7_valueAt 5 = .ok (.aload_n 0, 1) := by decide +kernel
theorem dX7_valueAt_6 : decode cX7_valueAt 6 = .ok (.getfield 21, 3) := by decide +kernel
theorem dX7_valueAt_9 : decode cX7_valueAt 9 = .ok (.if_icmp .ge 12, 3) := by decide +kernel
theorem dX7_valueAt_12 : decode cX7_valueAt 12 = .ok (.iload_n 1, 1) := by decide +kernel
theorem dX7_valueAt_13 : decode cX7_valueAt 13 = .ok (.aload_n 0, 1) := by decide +kernel
theorem dX7_valueAt_14 : decode cX7_valueAt 14 = .ok (.getfield 15, 3) := by decide +kernel
theorem dX7_valueAt_17 : decode cX7_valueAt 17 = .ok (.arraylength, 1) := by decide +kernel
theorem dX7_valueAt_18 : decode cX7_valueAt 18 = .ok (.if_icmp .lt 7, 3) := by decide +kernel
theorem dX7_valueAt_21 : decode cX7_valueAt 21 = .ok (.iconst 0, 1) := by decide +kernel
theorem dX7_valueAt_22 : decode cX7_valueAt 22 = .ok (.goto 9, 3) := by decide +kernel
theorem dX7_valueAt_25 : decode cX7_valueAt 25 = .ok (.aload_n 0, 1) := by decide +kernel
theorem dX7_valueAt_26 : decode cX7_valueAt 26 = .ok (.getfield 15, 3) := by decide +kernel
theorem dX7_valueAt_29 : decode cX7_valueAt 29 = .ok (.iload_n 1, 1) := by decide +kernel
theorem dX7_valueAt_30 : decode cX7_valueAt 30 = .ok (.iaload, 1) := by decide +kernel
theorem dX7_valueAt_31 : decode cX7_valueAt 31 = .ok (.ireturn, 1) := by decide +kernel
theorem dX7_indexOf_0 : decode cX7_indexOf 0 = .ok (.iconst 0, 1) := by decide +kernel
theorem dX7_indexOf_1 : decode cX7_indexOf 1 = .ok (.istore_n 2, 1) := by decide +kernel
theorem dX7_indexOf_2 : decode cX7_indexOf 2 = .ok (.iload_n 2, 1) := by decide +kernel
theorem dX7_indexOf_3 : decode cX7_indexOf 3 = .ok (.aload_n 0, 1) := by decide +kernel
theorem dX7_indexOf_4 : decode cX7_indexOf 4 = .ok (.getfield 21, 3) := by decide +kernel
theorem dX7_indexOf_7 : decode cX7_indexOf 7 = .ok (.if_icmp .ge 30, 3) := by decide +kernel
theorem dX7_indexOf_10 : decode cX7_indexOf 10 = .ok (.iload_n 2, 1) := by decide +kernel
theorem dX7_indexOf_11 : decode cX7_indexOf 11 = .ok (.aload_n 0, 1) := by decide +kernel
theorem dX7_indexOf_12 : decode cX7_indexOf 12 = .ok (.getfield 15, 3) := by decide +kernel
theorem dX7_indexOf_15 : decode cX7_indexOf 15 = .ok (.arraylength, 1) := by decide +kernel
theorem dX7_indexOf_16 : decode cX7_indexOf 16 = .ok (.if_icmp .ge 21, 3) := by decide +kernel
theorem dX7_indexOf_19 : decode cX7_indexOf 19 = .ok (.aload_n 0, 1) := by decide +kernel
theorem dX7_indexOf_20 : decode cX7_indexOf 20 = .ok (.getfield 15, 3) := by decide +kernel
theorem dX7_indexOf_23 : decode cX7_indexOf 23 = .ok (.iload_n 2, 1) := by decide +kernel
theorem dX7_indexOf_24 : decode cX7_indexOf 24 = .ok (.iaload, 1) := by decide +kernel
theorem dX7_indexOf_25 : decode cX7_indexOf 25 = .ok (.iload_n 1, 1) := by decide +kernel
theorem dX7_indexOf_26 : decode cX7_indexOf 26 = .ok (.if_icmp .ne 5, 3) := by decide +kernel
theorem dX7_indexOf_29 : decode cX7_indexOf 29 = .ok (.iload_n 2, 1) := by decide +kernel
theorem dX7_indexOf_30 : decode cX7_indexOf 30 = .ok (.ireturn, 1) := by decide +kernel
theorem dX7_indexOf_31 : decode cX7_indexOf 31 = .ok (.iinc 2 1, 3) := by decide +kernel
theorem dX7_indexOf_34 : decode cX7_indexOf 34 = .ok (.goto (-32), 3) := by decide +kernel
theorem dX7_indexOf_37 : decode cX7_indexOf 37 = .ok (.iconst (-1), 1) := by decide +kernel
theorem dX7_indexOf_38 : decode cX7_indexOf 38 = .ok (.ireturn, 1) := by decide +kernel
theorem dX7_append_0 : decode cX7_append 0 = .ok (.aload_n 0, 1) := by decide +kernel
theorem dX7_append_1 : decode cX7_append 1 = .ok (.getfield 21, 3) := by decide +kernel
theorem dX7_append_4 : decode cX7_append 4 = .ok (.aload_n 0, 1) := by decide +kernel
theorem dX7_append_5 : decode cX7_append 5 = .ok (.getfield 15, 3) := by decide +kernel
theorem dX7_append_8 : decode cX7_append 8 = .ok (.arraylength, 1) := by decide +kernel
theorem dX7_append_9 : decode cX7_append 9 = .ok (.if_icmp .ge 23, 3) := by decide +kernel
theorem dX7_append_12 : decode cX7_append 12 = .ok (.aload_n 0, 1) := by decide +kernel
theorem dX7_append_13 : decode cX7_append 13 = .ok (.getfield 15, 3) := by decide +kernel
theorem dX7_append_16 : decode cX7_append 16 = .ok (.aload_n 0, 1) := by decide +kernel
theorem dX7_append_17 : decode cX7_append 17 = .ok (.getfield 21, 3) := by decide +kernel
theorem dX7_append_20 : decode cX7_append 20 = .ok (.iload_n 1, 1) := by decide +kernel
theorem dX7_append_21 : decode cX7_append 21 = .ok (.iastore, 1) := by decide +kernel
theorem dX7_append_22 : decode cX7_append 22 = .ok (.aload_n 0, 1) := by decide +kernel
theorem dX7_append_23 : decode cX7_append 23 = .ok (.dup, 1) := by decide +kernel
theorem dX7_append_24 : decode cX7_append 24 = .ok (.getfield 21, 3) := by decide +kernel
theorem dX7_append_27 : decode cX7_append 27 = .ok (.iconst 1, 1) := by decide +kernel
theorem dX7_append_28 : decode cX7_append 28 = .ok (.iadd, 1) := by decide +kernel
theorem dX7_append_29 : decode cX7_append 29 = .ok (.putfield 21, 3) := by decide +kernel
theorem dX7_append_32 : decode cX7_append 32 = .ok (.return_, 1) := by decide +kernel
theorem dX7_remove_0 : decode cX7_remove 0 = .ok (.aload_n 0, 1) := by decide +kernel
theorem dX7_remove_1 : decode cX7_remove 1 = .ok (.iload_n 1, 1) := by decide +kernel
theorem dX7_remove_2 : decode cX7_remove 2 = .ok (.invokevirtual 25, 3) := by decide +kernel
theorem dX7_remove_5 : decode cX7_remove 5 = .ok (.istore_n 2, 1) := by decide +kernel
theorem dX7_remove_6 : decode cX7_remove 6 = .ok (.iload_n 2, 1) := by decide +kernel
theorem dX7_remove_7 : decode cX7_remove 7 = .ok (.iconst (-1), 1) := by decide +kernel
theorem dX7_remove_8 : decode cX7_remove 8 = .ok (.if_icmp .eq 28, 3) := by decide +kernel
theorem dX7_remove_11 : decode cX7_remove 11 = .ok (.aload_n 0, 1) := by decide +kernel
theorem dX7_remove_12 : decode cX7_remove 12 = .ok (.dup, 1) := by decide +kernel
theorem dX7_remove_13 : decode cX7_remove 13 = .ok (.getfield 21, 3) := by decide +kernel
theorem dX7_remove_16 : decode cX7_remove 16 = .ok (.iconst 1, 1) := by decide +kernel
theorem dX7_remove_17 : decode cX7_remove 17 = .ok (.isub, 1) := by decide +kernel
theorem dX7_remove_18 : decode cX7_remove 18 = .ok (.putfield 21, 3) := by decide +kernel
theorem dX7_remove_21 : decode cX7_remove 21 = .ok (.aload_n 0, 1) := by decide +kernel
theorem dX7_remove_22 : decode cX7_remove 22 = .ok (.getfield 15, 3) := by decide +kernel
theorem dX7_remove_25 : decode cX7_remove 25 = .ok (.iload_n 2, 1) := by decide +kernel
theorem dX7_remove_26 : decode cX7_remove 26 = .ok (.aload_n 0, 1) := by decide +kernel
theorem dX7_remove_27 : decode cX7_remove 27 = .ok (.getfield 15, 3) := by decide +kernel
theorem dX7_remove_30 : decode cX7_remove 30 = .ok (.aload_n 0, 1) := by decide +kernel
theorem dX7_remove_31 : decode cX7_remove 31 = .ok (.getfield 21, 3) := by decide +kernel
theorem dX7_remove_34 : decode cX7_remove 34 = .ok (.iaload, 1) := by decide +kernel
theorem dX7_remove_35 : decode cX7_remove 35 = .ok (.iastore, 1) := by decide +kernel
theorem dX7_remove_36 : decode cX7_remove 36 = .ok (.return_, 1) := by decide +kernel
theorem dX7_copy_0 : decode cX7_copy 0 = .ok (.aload_n 0, 1) := by decide +kernel
theorem dX7_copy_1 : decode cX7_copy 1 = .ok (.iconst 0, 1) := by decide +kernel
theorem dX7_copy_2 : decode cX7_copy 2 = .ok (.putfield 21, 3) := by decide +kernel
theorem dX7_copy_5 : decode cX7_copy 5 = .ok (.iconst 0, 1) := by decide +kernel
theorem dX7_copy_6 : decode cX7_copy 6 = .ok (.istore_n 2, 1) := by decide +kernel
theorem dX7_copy_7 : decode cX7_copy 7 = .ok (.iload_n 2, 1) := by decide +kernel
theorem dX7_copy_8 : decode cX7_copy 8 = .ok (.aload_n 1, 1) := by decide +kernel
theorem dX7_copy_9 : decode cX7_copy 9 = .ok (.getfield 21, 3) := by decide +kernel
theorem dX7_copy_12 : decode cX7_copy 12 = .ok (.if_icmp .ge 18, 3) := by decide +kernel
theorem dX7_copy_15 : decode cX7_copy 15 = .ok (.aload_n 0, 1) := by decide +kernel
theorem dX7_copy_16 : decode cX7_copy 16 = .ok (.aload_n 1, 1) := by decide +kernel
theorem dX7_copy_17 : decode cX7_copy 17 = .ok (.iload_n 2, 1) := by decide +kernel
theorem dX7_copy_18 : decode cX7_copy 18 = .ok (.invokevirtual 29, 3) := by decide +kernel
theorem dX7_copy_21 : decode cX7_copy 21 = .ok (.invokevirtual 32, 3) := by decide +kernel
theorem dX7_copy_24 : decode cX7_copy 24 = .ok (.iinc 2 1, 3) := by decide +kernel
theorem dX7_copy_27 : decode cX7_copy 27 = .ok (.goto (-20), 3) := by decide +kernel
theorem dX7_copy_30 : decode cX7_copy 30 = .ok (.return_, 1) := by decide +kernel
theorem dX8_init_0 : decode cX8_init 0 = .ok (.aload_n 0, 1) := by decide +kernel
theorem dX8_init_1 : decode cX8_init 1 = .ok (.invokespecial 3, 3) := by decide +kernel
theorem dX8_init_4 : decode cX8_init 4 = .ok (.aload_n 0, 1) := by decide +kernel
theorem dX8_init_5 : decode cX8_init 5 = .ok (.new 9, 3) := by decide +kernel
theorem dX8_init_8 : decode cX8_init 8 = .ok (.dup, 1) := by decide +kernel
theorem dX8_init_9 : decode cX8_init 9 = .ok (.bipush 8, 2) := by decide +kernel
theorem dX8_init_11 : decode cX8_init 11 = .ok (.invokespecial 11, 3) := by decide +kernel
theorem dX8_init_14 : decode cX8_init 14 = .ok (.putfield 14, 3) := by decide +kernel
theorem dX8_init_17 : decode cX8_init 17 = .ok (.aload_n 0, 1) := by decide +kernel
theorem dX8_init_18 : decode cX8_init 18 = .ok (.new 9, 3) := by decide +kernel
theorem dX8_init_21 : decode cX8_init 21 = .ok (.dup, 1) := by decide +kernel
theorem dX8_init_22 : decode cX8_init 22 = .ok (.bipush 8, 2) := by decide +kernel
theorem dX8_init_24 : decode cX8_init 24 = .ok (.invokespecial 11, 3) := by decide +kernel
theorem dX8_init_27 : decode cX8_init 27 = .ok (.putfield 20, 3) := by decide +kernel
theorem dX8_init_30 : decode cX8_init 30 = .ok (.return_, 1) := by decide +kernel
theorem dX8_clearParts_0 : decode cX8_clearParts 0 = .ok (.aload_n 0, 1) := by decide +kernel
theorem dX8_clearParts_1 : decode cX8_clearParts 1 = .ok (.iconst 0, 1) := by decide +kernel
theorem dX8_clearParts_2 : decode cX8_clearParts 2 = .ok (.putfield 23, 3) := by decide +kernel
theorem dX8_clearParts_5 : decode cX8_clearParts 5 = .ok (.aload_n 0, 1) := by decide +kernel
theorem dX8_clearParts_6 : decode cX8_clearParts 6 = .ok (.iconst 0, 1) := by decide +kernel
theorem dX8_clearParts_7 : decode cX8_clearParts 7 = .ok (.putfield 27, 3) := by decide +kernel
theorem dX8_clearParts_10 : decode cX8_clearParts 10 = .ok (.aload_n 0, 1) := by decide +kernel
theorem dX8_clearParts_11 : decode cX8_clearParts 11 = .ok (.iconst 0, 1) := by decide +kernel
theorem dX8_clearParts_12 : decode cX8_clearParts 12 = .ok (.putfield 30, 3) := by decide +kernel
theorem dX8_clearParts_15 : decode cX8_clearParts 15 = .ok (.aload_n 0, 1) := by decide +kernel
theorem dX8_clearParts_16 : decode cX8_clearParts 16 = .ok (.iconst 0, 1) := by decide +kernel
theorem dX8_clearParts_17 : decode cX8_clearParts 17 = .ok (.putfield 33, 3) := by decide +kernel
theorem dX8_clearParts_20 : decode cX8_clearParts 20 = .ok (.aload_n 0, 1) := by decide +kernel
theorem dX8_clearParts_21 : decode cX8_clearParts 21 = .ok (.iconst 0, 1) := by decide +kernel
theorem dX8_clearParts_22 : decode cX8_clearParts 22 = .ok (.putfield 36, 3) := by decide +kernel
theorem dX8_clearParts_25 : decode cX8_clearParts 25 = .ok (.aload_n 0, 1) := by decide +kernel
theorem dX8_clearParts_26 : decode cX8_clearParts 26 = .ok (.getfield 14, 3) := by decide +kernel
theorem dX8_clearParts_29 : decode cX8_clearParts 29 = .ok (.invokevirtual 39, 3) := by decide +kernel
theorem dX8_clearParts_32 : decode cX8_clearParts 32 = .ok (.aload_n 0, 1) := by decide +kernel
theorem dX8_clearParts_33 : decode cX8_clearParts 33 = .ok (.getfield 20, 3) := by decide +kernel
theorem dX8_clearParts_36 : decode cX8_clearParts 36 = .ok (.invokevirtual 39, 3) := by decide +kernel
