theorem dX12_lays_49 : decode cX12_lays 49 = .ok (.bastore, 1) := by decide +kernel
theorem dX12_lays_50 : decode cX12_lays 50 = .ok (.return_, 1) := by decide +kernel
theorem dX12_lays_51 : decode cX12_lays 51 = .ok (.iconst 0, 1) := by decide +kernel
theorem dX12_lays_52 : decode cX12_lays 52 = .ok (.istore_n 2, 1) := by decide +kernel
theorem dX12_lays_53 : decode cX12_lays 53 = .ok (.iload_n 2, 1) := by decide +kernel
theorem dX12_lays_54 : decode cX12_lays 54 = .ok (.aload_n 0, 1) := by decide +kernel
theorem dX12_lays_55 : decode cX12_lays 55 = .ok (.getfield 39, 3) := by decide +kernel
theorem dX12_lays_58 : decode cX12_lays 58 = .ok (.iconst 0, 1) := by decide +kernel
theorem dX12_lays_59 : decode cX12_lays 59 = .ok (.iaload, 1) := by decide +kernel
theorem dX12_lays_60 : decode cX12_lays 60 = .ok (.if_icmp .ge 14, 3) := by decide +kernel
theorem dX12_lays_63 : decode cX12_lays 63 = .ok (.aload_n 0, 1) := by decide +kernel
theorem dX12_lays_64 : decode cX12_lays 64 = .ok (.iload_n 2, 1) := by decide +kernel
theorem dX12_lays_65 : decode cX12_lays 65 = .ok (.invokevirtual 419, 3) := by decide +kernel
theorem dX12_lays_68 : decode cX12_lays 68 = .ok (.iinc 2 1, 3) := by decide +kernel
theorem dX12_lays_71 : decode cX12_lays 71 = .ok (.goto (-18), 3) := by decide +kernel
theorem dX12_lays_74 : decode cX12_lays 74 = .ok (.iconst 0, 1) := by decide +kernel
theorem dX12_lays_75 : decode cX12_lays 75 = .ok (.istore_n 2, 1) := by decide +kernel
theorem dX12_lays_76 : decode cX12_lays 76 = .ok (.iload_n 2, 1) := by decide +kernel
theorem dX12_lays_77 : decode cX12_lays 77 = .ok (.iload_n 1, 1) := by decide +kernel
theorem dX12_lays_78 : decode cX12_lays 78 = .ok (.bipush 6, 2) := by decide +kernel
theorem dX12_lays_80 : decode cX12_lays 80 = .ok (.isub, 1) := by decide +kernel
theorem dX12_lays_81 : decode cX12_lays 81 = .ok (.if_icmp .gt 36, 3) := by decide +kernel
theorem dX12_lays_84 : decode cX12_lays 84 = .ok (.aload_n 0, 1) := by decide +kernel
theorem dX12_lays_85 : decode cX12_lays 85 = .ok (.getfield 62, 3) := by decide +kernel
theorem dX12_lays_88 : decode cX12_lays 88 = .ok (.bipush 6, 2) := by decide +kernel
theorem dX12_lays_90 : decode cX12_lays 90 = .ok (.iload_n 2, 1) := by decide +kernel
theorem dX12_lays_91 : decode cX12_lays 91 = .ok (.iadd, 1) := by decide +kernel
theorem dX12_lays_92 : decode cX12_lays 92 = .ok (.baload, 1) := by decide +kernel
theorem dX12_lays_93 : decode cX12_lays 93 = .ok (.ifCond .ne 18, 3) := by decide +kernel
theorem dX12_lays_96 : decode cX12_lays 96 = .ok (.aload_n 0, 1) := by decide +kernel
theorem dX12_lays_97 : decode cX12_lays 97 = .ok (.iload_n 2, 1) := by decide +kernel
theorem dX12_lays_98 : decode cX12_lays 98 = .ok (.invokevirtual 422, 3) := by decide +kernel
theorem dX12_lays_101 : decode cX12_lays 101 = .ok (.aload_n 0, 1) := by decide +kernel
theorem dX12_lays_102 : decode cX12_lays 102 = .ok (.getfield 62, 3) := by decide +kernel
theorem dX12_lays_105 : decode cX12_lays 105 = .ok (.bipush 6, 2) := by decide +kernel
theorem dX12_lays_107 : decode cX12_lays 107 = .ok (.iload_n 2, 1) := by decide +kernel
theorem dX12_lays_108 : decode cX12_lays 108 = .ok (.iadd, 1) := by decide +kernel
theorem dX12_lays_109 : decode cX12_lays 109 = .ok (.iconst 1, 1) := by decide +kernel
theorem dX12_lays_110 : decode cX12_lays 110 = .ok (.bastore, 1) := by decide +kernel
theorem dX12_lays_111 : decode cX12_lays 111 = .ok (.iinc 2 1, 3) := by decide +kernel
theorem dX12_lays_114 : decode cX12_lays 114 = .ok (.goto (-38), 3) := by decide +kernel
theorem dX12_lays_117 : decode cX12_lays 117 = .ok (.return_, 1) := by decide +kernel
theorem dX12_lays0_0 : decode cX12_lays0 0 = .ok (.aload_n 0, 1) := by decide +kernel
theorem dX12_lays0_1 : decode cX12_lays0 1 = .ok (.getfield 62, 3) := by decide +kernel
theorem dX12_lays0_4 : decode cX12_lays0 4 = .ok (.iload_n 1, 1) := by decide +kernel
theorem dX12_lays0_5 : decode cX12_lays0 5 = .ok (.baload, 1) := by decide +kernel
theorem dX12_lays0_6 : decode cX12_lays0 6 = .ok (.ifCond .eq 4, 3) := by decide +kernel
theorem dX12_lays0_9 : decode cX12_lays0 9 = .ok (.return_, 1) := by decide +kernel
theorem dX12_lays0_10 : decode cX12_lays0 10 = .ok (.aload_n 0, 1) := by decide +kernel
theorem dX12_lays0_11 : decode cX12_lays0 11 = .ok (.iload_n 1, 1) := by decide +kernel
theorem dX12_lays0_12 : decode cX12_lays0 12 = .ok (.invokevirtual 412, 3) := by decide +kernel
theorem dX12_lays0_15 : decode cX12_lays0 15 = .ok (.aload_n 0, 1) := by decide +kernel
theorem dX12_lays0_16 : decode cX12_lays0 16 = .ok (.iload_n 1, 1) := by decide +kernel
theorem dX12_lays0_17 : decode cX12_lays0 17 = .ok (.aload_n 0, 1) := by decide +kernel
theorem dX12_lays0_18 : decode cX12_lays0 18 = .ok (.getfield 54, 3) := by decide +kernel
theorem dX12_lays0_21 : decode cX12_lays0 21 = .ok (.iconst 2, 1) := by decide +kernel
theorem dX12_lays0_22 : decode cX12_lays0 22 = .ok (.iload_n 1, 1) := by decide +kernel
theorem dX12_lays0_23 : decode cX12_lays0 23 = .ok (.imul, 1) := by decide +kernel
theorem dX12_lays0_24 : decode cX12_lays0 24 = .ok (.iaload, 1) := by decide +kernel
theorem dX12_lays0_25 : decode cX12_lays0 25 = .ok (.aload_n 0, 1) := by decide +kernel
theorem dX12_lays0_26 : decode cX12_lays0 26 = .ok (.getfield 58, 3) := by decide +kernel
theorem dX12_lays0_29 : decode cX12_lays0 29 = .ok (.sipush 14610, 3) := by decide +kernel
theorem dX12_lays0_32 : decode cX12_lays0 32 = .ok (.iload_n 1, 1) := by decide +kernel
theorem dX12_lays0_33 : decode cX12_lays0 33 = .ok (.imul, 1) := by decide +kernel
theorem dX12_lays0_34 : decode cX12_lays0 34 = .ok (.invokevirtual 415, 3) := by decide +kernel
theorem dX12_lays0_37 : decode cX12_lays0 37 = .ok (.aload_n 0, 1) := by decide +kernel
theorem dX12_lays0_38 : decode cX12_lays0 38 = .ok (.getfield 62, 3) := by decide +kernel
theorem dX12_lays0_41 : decode cX12_lays0 41 = .ok (.iload_n 1, 1) := by decide +kernel
theorem dX12_lays0_42 : decode cX12_lays0 42 = .ok (.iconst 1, 1) := by decide +kernel
theorem dX12_lays0_43 : decode cX12_lays0 43 = .ok (.bastore, 1) := by decide +kernel
theorem dX12_lays0_44 : decode cX12_lays0 44 = .ok (.return_, 1) := by decide +kernel
theorem dX12_isOn_0 : decode cX12_isOn 0 = .ok (.aload_n 0, 1) := by decide +kernel
theorem dX12_isOn_1 : decode cX12_isOn 1 = .ok (.getfield 58, 3) := by decide +kernel
theorem dX12_isOn_4 : decode cX12_isOn 4 = .ok (.sipush 14610, 3) := by decide +kernel
theorem dX12_isOn_7 : decode cX12_isOn 7 = .ok (.iload_n 1, 1) := by decide +kernel
theorem dX12_isOn_8 : decode cX12_isOn 8 = .ok (.imul, 1) := by decide +kernel
theorem dX12_isOn_9 : decode cX12_isOn 9 = .ok (.iload_n 2, 1) := by decide +kernel
theorem dX12_isOn_10 : decode cX12_isOn 10 = .ok (.iadd, 1) := by decide +kernel
theorem dX12_isOn_11 : decode cX12_isOn 11 = .ok (.baload, 1) := by decide +kernel
theorem dX12_isOn_12 : decode cX12_isOn 12 = .ok (.ireturn, 1) := by decide +kernel
theorem dX12_handMany_0 : decode cX12_handMany 0 = .ok (.iconst 0, 1) := by decide +kernel
theorem dX12_handMany_1 : decode cX12_handMany 1 = .ok (.istore_n 2, 1) := by decide +kernel
theorem dX12_handMany_2 : decode cX12_handMany 2 = .ok (.iconst 0, 1) := by decide +kernel
theorem dX12_handMany_3 : decode cX12_handMany 3 = .ok (.istore_n 3, 1) := by decide +kernel
theorem dX12_handMany_4 : decode cX12_handMany 4 = .ok (.iload_n 3, 1) := by decide +kernel
theorem dX12_handMany_5 : decode cX12_handMany 5 = .ok (.aload_n 0, 1) := by decide +kernel
theorem dX12_handMany_6 : decode cX12_handMany 6 = .ok (.getfield 39, 3) := by decide +kernel
theorem dX12_handMany_9 : decode cX12_handMany 9 = .ok (.iconst 1, 1) := by decide +kernel
theorem dX12_handMany_10 : decode cX12_handMany 10 = .ok (.iaload, 1) := by decide +kernel
theorem dX12_handMany_11 : decode cX12_handMany 11 = .ok (.if_icmp .ge 22, 3) := by decide +kernel
theorem dX12_handMany_14 : decode cX12_handMany 14 = .ok (.iload_n 2, 1) := by decide +kernel
theorem dX12_handMany_15 : decode cX12_handMany 15 = .ok (.aload_n 0, 1) := by decide +kernel
theorem dX12_handMany_16 : decode cX12_handMany 16 = .ok (.getfield 54, 3) := by decide +kernel
theorem dX12_handMany_19 : decode cX12_handMany 19 = .ok (.iload_n 3, 1) := by decide +kernel
theorem dX12_handMany_20 : decode cX12_handMany 20 = .ok (.iload_n 1, 1) := by decide +kernel
theorem dX12_handMany_21 : decode cX12_handMany 21 = .ok (.invokestatic 408, 3) := by decide +kernel
theorem dX12_handMany_24 : decode cX12_handMany 24 = .ok (.iaload, 1) := by decide +kernel
theorem dX12_handMany_25 : decode cX12_handMany 25 = .ok (.iadd, 1) := by decide +kernel
theorem dX12_handMany_26 : decode cX12_handMany 26 = .ok (.istore_n 2, 1) := by decide +kernel
theorem dX12_handMany_27 : decode cX12_handMany 27 = .ok (.iinc 3 1, 3) := by decide +kernel
theorem dX12_handMany_30 : decode cX12_handMany 30 = .ok (.goto (-26), 3) := by decide +kernel
theorem dX12_handMany_33 : decode cX12_handMany 33 = .ok (.iload_n 2, 1) := by decide +kernel
theorem dX12_handMany_34 : decode cX12_handMany 34 = .ok (.ireturn, 1) := by decide +kernel
theorem dX12_has_0 : decode cX12_has 0 = .ok (.iload_n 1, 1) := by decide +kernel
theorem dX12_has_1 : decode cX12_has 1 = .ok (.tableswitch 75 0 5 #[39, 46, 53, 59, 65, 70], 39) := by decide +kernel
theorem dX12_has_40 : decode cX12_has 40 = .ok (.aload_n 0, 1) := by decide +kernel
theorem dX12_has_41 : decode cX12_has 41 = .ok (.getfield 39, 3) := by decide +kernel
theorem dX12_has_44 : decode cX12_has 44 = .ok (.iconst 0, 1) := by decide +kernel
theorem dX12_has_45 : decode cX12_has 45 = .ok (.iaload, 1) := by decide +kernel
theorem dX12_has_46 : decode cX12_has 46 = .ok (.ireturn, 1) := by decide +kernel
theorem dX12_has_47 : decode cX12_has 47 = .ok (.aload_n 0, 1) := by decide +kernel
theorem dX12_has_48 : decode cX12_has 48 = .ok (.getfield 39, 3) := by decide +kernel
theorem dX12_has_51 : decode cX12_has 51 = .ok (.iconst 1, 1) := by decide +kernel
theorem dX12_has_52 : decode cX12_has 52 = .ok (.iaload, 1) := by decide +kernel
theorem dX12_has_53 : decode cX12_has 53 = .ok (.ireturn, 1) := by decide +kernel
theorem dX12_has_54 : decode cX12_has 54 = .ok (.aload_n 0, 1) := by decide +kernel
theorem dX12_has_55 : decode cX12_has 55 = .ok (.iconst 0, 1) := by decide +kernel
theorem dX12_has_56 : decode cX12_has 56 = .ok (.invokevirtual 425, 3) := by decide +kernel
theorem dX12_has_59 : decode cX12_has 59 = .ok (.ireturn, 1) := by decide +kernel
theorem dX12_has_60 : decode cX12_has 60 = .ok (.aload_n 0, 1) := by decide +kernel
theorem dX12_has_61 : decode cX12_has 61 = .ok (.iconst 1, 1) := by decide +kernel
theorem dX12_has_62 : decode cX12_has 62 = .ok (.invokevirtual 425, 3) := by decide +kernel
theorem dX12_has_65 : decode cX12_has 65 = .ok (.ireturn, 1) := by decide +kernel
theorem dX12_has_66 : decode cX12_has 66 = .ok (.aload_n 0, 1) := by decide +kernel
theorem dX12_has_67 : decode cX12_has 67 = .ok (.getfield 307, 3) := by decide +kernel
theorem dX12_has_70 : decode cX12_has 70 = .ok (.ireturn, 1) := by decide +kernel
theorem dX12_has_71 : decode cX12_has 71 = .ok (.aload_n 0, 1) := by decide +kernel
theorem dX12_has_72 : decode cX12_has 72 = .ok (.getfield 304, 3) := by decide +kernel
theorem dX12_has_75 : decode cX12_has 75 = .ok (.ireturn, 1) := by decide +kernel
theorem dX12_has_76 : decode cX12_has 76 = .ok (.iconst (-1), 1) := by decide +kernel
theorem dX12_has_77 : decode cX12_has 77 = .ok (.ireturn, 1) := by decide +kernel
theorem dX12_letter_0 : decode cX12_letter 0 = .ok (.aload_n 0, 1) := by decide +kernel
theorem dX12_letter_1 : decode cX12_letter 1 = .ok (.iload_n 1, 1) := by decide +kernel
theorem dX12_letter_2 : decode cX12_letter 2 = .ok (.invokevirtual 428, 3) := by decide +kernel
theorem dX12_letter_5 : decode cX12_letter 5 = .ok (.ifCond .eq 15, 3) := by decide +kernel
theorem dX12_letter_8 : decode cX12_letter 8 = .ok (.iload_n 2, 1) := by decide +kernel
theorem dX12_letter_9 : decode cX12_letter 9 = .ok (.i2l, 1) := by decide +kernel
theorem dX12_letter_10 : decode cX12_letter 10 = .ok (.lconst 0, 1) := by decide +kernel
theorem dX12_letter_11 : decode cX12_letter 11 = .ok (.ldc2_w 108, 3) := by decide +kernel
theorem dX12_letter_14 : decode cX12_letter 14 = .ok (.invokestatic 110, 3) := by decide +kernel
theorem dX12_letter_17 : decode cX12_letter 17 = .ok (.ifCond .ne 5, 3) := by decide +kernel
theorem dX12_letter_20 : decode cX12_letter 20 = .ok (.iconst (-1), 1) := by decide +kernel
theorem dX12_letter_21 : decode cX12_letter 21 = .ok (.ireturn, 1) := by decide +kernel
theorem dX12_letter_22 : decode cX12_letter 22 = .ok (.iload_n 1, 1) := by decide +kernel
theorem dX12_letter_23 : decode cX12_letter 23 = .ok (.bipush 6, 2) := by decide +kernel
theorem dX12_letter_25 : decode cX12_letter 25 = .ok (.if_icmp .ge 12, 3) := by decide +kernel
theorem dX12_letter_28 : decode cX12_letter 28 = .ok (.aload_n 0, 1) := by decide +kernel
theorem dX12_letter_29 : decode cX12_letter 29 = .ok (.iload_n 1, 1) := by decide +kernel
theorem dX12_letter_30 : decode cX12_letter 30 = .ok (.iconst 0, 1) := by decide +kernel
theorem dX12_letter_31 : decode cX12_letter 31 = .ok (.invokevirtual 321, 3) := by decide +kernel
theorem dX12_letter_34 : decode cX12_letter 34 = .ok (.goto 16, 3) := by decide +kernel
theorem dX12_letter_37 : decode cX12_letter 37 = .ok (.aload_n 0, 1) := by decide +kernel
theorem dX12_letter_38 : decode cX12_letter 38 = .ok (.getfield 39, 3) := by decide +kernel
theorem dX12_letter_41 : decode cX12_letter 41 = .ok (.iload_n 1, 1) := by decide +kernel
theorem dX12_letter_42 : decode cX12_letter 42 = .ok (.bipush 6, 2) := by decide +kernel
theorem dX12_letter_44 : decode cX12_letter 44 = .ok (.isub, 1) := by decide +kernel
theorem dX12_letter_45 : decode cX12_letter 45 = .ok (.iconst 0, 1) := by decide +kernel
theorem dX12_letter_46 : decode cX12_letter 46 = .ok (.invokestatic 189, 3) := by decide +kernel
theorem dX12_letter_49 : decode cX12_letter 49 = .ok (.iaload, 1) := by decide +kernel
theorem dX12_letter_50 : decode cX12_letter 50 = .ok (.istore_n 3, 1) := by decide +kernel
theorem dX12_letter_51 : decode cX12_letter 51 = .ok (.iconst 0, 1) := by decide +kernel
theorem dX12_letter_52 : decode cX12_letter 52 = .ok (.istore 4, 2) := by decide +kernel
theorem dX12_letter_54 : decode cX12_letter 54 = .ok (.iload_n 3, 1) := by decide +kernel
theorem dX12_letter_55 : decode cX12_letter 55 = .ok (.istore 5, 2) := by decide +kernel
theorem dX12_letter_57 : decode cX12_letter 57 = .ok (.iload 5, 2) := by decide +kernel
theorem dX12_letter_59 : decode cX12_letter 59 = .ok (.ifCond .le 16, 3) := by decide +kernel
theorem dX12_letter_62 : decode cX12_letter 62 = .ok (.iinc 4 1, 3) := by decide +kernel
theorem dX12_letter_65 : decode cX12_letter 65 = .ok (.iload 5, 2) := by decide +kernel
theorem dX12_letter_67 : decode cX12_letter 67 = .ok (.bipush 27, 2) := by decide +kernel
theorem dX12_letter_69 : decode cX12_letter 69 = .ok (.idiv, 1) := by decide +kernel
theorem dX12_letter_70 : decode cX12_letter 70 = .ok (.istore 5, 2) := by decide +kernel
theorem dX12_letter_72 : decode cX12_letter 72 = .ok (.goto (-15), 3) := by decide +kernel
theorem dX12_letter_75 : decode cX12_letter 75 = .ok (.iload 4, 2) := by decide +kernel
theorem dX12_letter_77 : decode cX12_letter 77 = .ok (.iconst 1, 1) := by decide +kernel
theorem dX12_letter_78 : decode cX12_letter 78 = .ok (.isub, 1) := by decide +kernel
theorem dX12_letter_79 : decode cX12_letter 79 = .ok (.istore 5, 2) := by decide +kernel
theorem dX12_letter_81 : decode cX12_letter 81 = .ok (.iload 5, 2) := by decide +kernel
theorem dX12_letter_83 : decode cX12_letter 83 = .ok (.iload_n 2, 1) := by decide +kernel
theorem dX12_letter_84 : decode cX12_letter 84 = .ok (.if_icmp .le 14, 3) := by decide +kernel
theorem dX12_letter_87 : decode cX12_letter 87 = .ok (.iload_n 3, 1) := by decide +kernel
theorem dX12_letter_88 : decode cX12_letter 88 = .ok (.bipush 27, 2) := by decide +kernel
theorem dX12_letter_90 : decode cX12_letter 90 = .ok (.idiv, 1) := by decide +kernel
theorem dX12_letter_91 : decode cX12_letter 91 = .ok (.istore_n 3, 1) := by decide +kernel
theorem dX12_letter_92 : decode cX12_letter 92 = .ok (.iinc 5 (-1), 3) := by decide +kernel
theorem dX12_letter_95 : decode cX12_letter 95 = .ok (.goto (-14), 3) := by decide +kernel
theorem dX12_letter_98 : decode cX12_letter 98 = .ok (.iload_n 2, 1) := by decide +kernel
theorem dX12_letter_99 : decode cX12_letter 99 = .ok (.iload 4, 2) := by decide +kernel
theorem dX12_letter_101 : decode cX12_letter 101 = .ok (.if_icmp .ge 10, 3) := by decide +kernel
theorem dX12_letter_104 : decode cX12_letter 104 = .ok (.iload_n 3, 1) := by decide +kernel
theorem dX12_letter_105 : decode cX12_letter 105 = .ok (.bipush 27, 2) := by decide +kernel
theorem dX12_letter_107 : decode cX12_letter 107 = .ok (.irem, 1) := by decide +kernel
theorem dX12_letter_108 : decode cX12_letter 108 = .ok (.goto 4, 3) := by decide +kernel
theorem dX12_letter_111 : decode cX12_letter 111 = .ok (.iconst 0, 1) := by decide +kernel
theorem dX12_letter_112 : decode cX12_letter 112 = .ok (.ireturn, 1) := by decide +kernel
theorem dX12_rule_0 : decode cX12_rule 0 = .ok (.aload_n 0, 1) := by decide +kernel
theorem dX12_rule_1 : decode cX12_rule 1 = .ok (.iload_n 1, 1) := by decide +kernel
theorem dX12_rule_2 : decode cX12_rule 2 = .ok (.invokevirtual 313, 3) := by decide +kernel
theorem dX12_rule_5 : decode cX12_rule 5 = .ok (.ifCond .ne 5, 3) := by decide +kernel
theorem dX12_rule_8 : decode cX12_rule 8 = .ok (.iconst (-1), 1) := by decide +kernel
theorem dX12_rule_9 : decode cX12_rule 9 = .ok (.ireturn, 1) := by decide +kernel
theorem dX12_rule_10 : decode cX12_rule 10 = .ok (.iload_n 2, 1) := by decide +kernel
theorem dX12_rule_11 : decode cX12_rule 11 = .ok (.tableswitch 117 0 8 #[49, 58, 65, 71, 78, 85, 93, 101, 109], 49) := by decide +kernel
theorem dX12_rule_60 : decode cX12_rule 60 = .ok (.aload_n 0, 1) := by decide +kernel
theorem dX12_rule_61 : decode cX12_rule 61 = .ok (.getfield 54, 3) := by decide +kernel
theorem dX12_rule_64 : decode cX12_rule 64 = .ok (.iconst 2, 1) := by decide +kernel
theorem dX12_rule_65 : decode cX12_rule 65 = .ok (.iload_n 1, 1) := by decide +kernel
theorem dX12_rule_66 : decode cX12_rule 66 = .ok (.imul, 1) := by decide +kernel
theorem dX12_rule_67 : decode cX12_rule 67 = .ok (.iaload, 1) := by decide +kernel
theorem dX12_rule_68 : decode cX12_rule 68 = .ok (.ireturn, 1) := by decide +kernel
theorem dX12_rule_69 : decode cX12_rule 69 = .ok (.aload_n 0, 1) := by decide +kernel
theorem dX12_rule_70 : decode cX12_rule 70 = .ok (.iload_n 1, 1) := by decide +kernel
theorem dX12_rule_71 : decode cX12_rule 71 = .ok (.iconst 2, 1) := by decide +kernel
theorem dX12_rule_72 : decode cX12_rule 72 = .ok (.invokevirtual 321, 3) := by decide +kernel
theorem dX12_rule_75 : decode cX12_rule 75 = .ok (.ireturn, 1) := by decide +kernel
theorem dX12_rule_76 : decode cX12_rule 76 = .ok (.aload_n 0, 1) := by decide +kernel
theorem dX12_rule_77 : decode cX12_rule 77 = .ok (.iload_n 1, 1) := by decide +kernel
theorem dX12_rule_78 : decode cX12_rule 78 = .ok (.invokevirtual 333, 3) := by decide +kernel
theorem dX12_rule_81 : decode cX12_rule 81 = .ok (.ireturn, 1) := by decide +kernel
theorem dX12_rule_82 : decode cX12_rule 82 = .ok (.aload_n 0, 1) := by decide +kernel
theorem dX12_rule_83 : decode cX12_rule 83 = .ok (.iload_n 1, 1) := by decide +kernel
theorem dX12_rule_84 : decode cX12_rule 84 = .ok (.iconst 4, 1) := by decide +kernel
theorem dX12_rule_85 : decode cX12_rule 85 = .ok (.invokevirtual 321, 3) := by decide +kernel
theorem dX12_rule_88 : decode cX12_rule 88 = .ok (.ireturn, 1) := by decide +kernel
theorem dX12_rule_89 : decode cX12_rule 89 = .ok (.aload_n 0, 1) := by decide +kernel
theorem dX12_rule_90 : decode cX12_rule 90 = .ok (.iload_n 1, 1) := by decide +kernel
theorem dX12_rule_91 : decode cX12_rule 91 = .ok (.iconst 5, 1) := by decide +kernel
theorem dX12_rule_92 : decode cX12_rule 92 = .ok (.invokevirtual 321, 3) := by decide +kernel
theorem dX12_rule_95 : decode cX12_rule 95 = .ok (.ireturn, 1) := by decide +kernel
theorem dX12_rule_96 : decode cX12_rule 96 = .ok (.aload_n 0, 1) := by decide +kernel
theorem dX12_rule_97 : decode cX12_rule 97 = .ok (.iload_n 1, 1) := by decide +kernel
theorem dX12_rule_98 : decode cX12_rule 98 = .ok (.bipush 14, 2) := by decide +kernel
theorem dX12_rule_100 : decode cX12_rule 100 = .ok (.invokevirtual 321, 3) := by decide +kernel
theorem dX12_rule_103 : decode cX12_rule 103 = .ok (.ireturn, 1) := by decide +kernel
theorem dX12_rule_104 : decode cX12_rule 104 = .ok (.aload_n 0, 1) := by decide +kernel
theorem dX12_rule_105 : decode cX12_rule 105 = .ok (.iload_n 1, 1) := by decide +kernel
theorem dX12_rule_106 : decode cX12_rule 106 = .ok (.bipush 31, 2) := by decide +kernel
theorem dX12_rule_108 : decode cX12_rule 108 = .ok (.invokevirtual 321, 3) := by decide +kernel
theorem dX12_rule_111 : decode cX12_rule 111 = .ok (.ireturn, 1) := by decide +kernel
theorem dX12_rule_112 : decode cX12_rule 112 = .ok (.aload_n 0, 1) := by decide +kernel
theorem dX12_rule_113 : decode cX12_rule 113 = .ok (.iload_n 1, 1) := by decide +kernel
theorem dX12_rule_114 : decode cX12_rule 114 = .ok (.bipush 40, 2) := by decide +kernel
theorem dX12_rule_116 : decode cX12_rule 116 = .ok (.invokevirtual 321, 3) := by decide +kernel
theorem dX12_rule_119 : decode cX12_rule 119 = .ok (.ireturn, 1) := by decide +kernel
theorem dX12_rule_120 : decode cX12_rule 120 = .ok (.aload_n 0, 1) := by decide +kernel
theorem dX12_rule_121 : decode cX12_rule 121 = .ok (.iload_n 1, 1) := by decide +kernel
theorem dX12_rule_122 : decode cX12_rule 122 = .ok (.bipush 41, 2) := by decide +kernel
theorem dX12_rule_124 : decode cX12_rule 124 = .ok (.invokevirtual 321, 3) := by decide +kernel
theorem dX12_rule_127 : decode cX12_rule 127 = .ok (.ireturn, 1) := by decide +kernel
theorem dX12_rule_128 : decode cX12_rule 128 = .ok (.iconst (-1), 1) := by decide +kernel
theorem dX12_rule_129 : decode cX12_rule 129 = .ok (.ireturn, 1) := by decide +kernel
theorem dX12_day_0 : decode cX12_day 0 = .ok (.aload_n 0, 1) := by decide +kernel
theorem dX12_day_1 : decode cX12_day 1 = .ok (.iload_n 1, 1) := by decide +kernel
theorem dX12_day_2 : decode cX12_day 2 = .ok (.iload_n 2, 1) := by decide +kernel
theorem dX12_day_3 : decode cX12_day 3 = .ok (.iload_n 3, 1) := by decide +kernel
theorem dX12_day_4 : decode cX12_day 4 = .ok (.invokevirtual 205, 3) := by decide +kernel
theorem dX12_day_7 : decode cX12_day 7 = .ok (.ireturn, 1) := by decide +kernel
theorem dX12_date__0 : decode cX12_date_ 0 = .ok (.iload_n 1, 1) := by decide +kernel
theorem dX12_date__1 : decode cX12_date_ 1 = .ok (.invokestatic 387, 3) := by decide +kernel
theorem dX12_date__4 : decode cX12_date_ 4 = .ok (.ifCond .ne 5, 3) := by decide +kernel
theorem dX12_date__7 : decode cX12_date_ 7 = .ok (.iconst (-1), 1) := by decide +kernel
theorem dX12_date__8 : decode cX12_date_ 8 = .ok (.ireturn, 1) := by decide +kernel
theorem dX12_date__9 : decode cX12_date_ 9 = .ok (.aload_n 0, 1) := by decide +kernel
theorem dX12_date__10 : decode cX12_date_ 10 = .ok (.invokevirtual 183, 3) := by decide +kernel
theorem dX12_date__13 : decode cX12_date_ 13 = .ok (.iload_n 2, 1) := by decide +kernel
theorem dX12_date__14 : decode cX12_date_ 14 = .ok (.tableswitch 77 0 5 #[38, 45, 52, 59, 64, 71], 38) := by decide +kernel
theorem dX12_date__52 : decode cX12_date_ 52 = .ok (.aload_n 0, 1) := by decide +kernel
theorem dX12_date__53 : decode cX12_date_ 53 = .ok (.getfield 24, 3) := by decide +kernel
theorem dX12_date__56 : decode cX12_date_ 56 = .ok (.iload_n 1, 1) := by decide +kernel
theorem dX12_date__57 : decode cX12_date_ 57 = .ok (.iaload, 1) := by decide +kernel
theorem dX12_date__58 : decode cX12_date_ 58 = .ok (.ireturn, 1) := by decide +kernel
theorem dX12_date__59 : decode cX12_date_ 59 = .ok (.aload_n 0, 1) := by decide +kernel
theorem dX12_date__60 : decode cX12_date_ 60 = .ok (.getfield 27, 3) := by decide +kernel
theorem dX12_date__63 : decode cX12_date_ 63 = .ok (.iload_n 1, 1) := by decide +kernel
theorem dX12_date__64 : decode cX12_date_ 64 = .ok (.iaload, 1) := by decide +kernel
theorem dX12_date__65 : decode cX12_date_ 65 = .ok (.ireturn, 1) := by decide +kernel
theorem dX12_date__66 : decode cX12_date_ 66 = .ok (.aload_n 0, 1) := by decide +kernel
theorem dX12_date__67 : decode cX12_date_ 67 = .ok (.getfield 30, 3) := by decide +kernel
theorem dX12_date__70 : decode cX12_date_ 70 = .ok (.iload_n 1, 1) := by decide +kernel
theorem dX12_date__71 : decode cX12_date_ 71 = .ok (.iaload, 1) := by decide +kernel
theorem dX12_date__72 : decode cX12_date_ 72 = .ok (.ireturn, 1) := by decide +kernel
theorem dX12_date__73 : decode cX12_date_ 73 = .ok (.iload_n 1, 1) := by decide +kernel
theorem dX12_date__74 : decode cX12_date_ 74 = .ok (.invokestatic 327, 3) := by decide +kernel
theorem dX12_date__77 : decode cX12_date_ 77 = .ok (.ireturn, 1) := by decide +kernel
theorem dX12_date__78 : decode cX12_date_ 78 = .ok (.aload_n 0, 1) := by decide +kernel
theorem dX12_date__79 : decode cX12_date_ 79 = .ok (.getfield 33, 3) := by decide +kernel
theorem dX12_date__82 : decode cX12_date_ 82 = .ok (.iload_n 1, 1) := by decide +kernel
theorem dX12_date__83 : decode cX12_date_ 83 = .ok (.iaload, 1) := by decide +kernel
theorem dX12_date__84 : decode cX12_date_ 84 = .ok (.ireturn, 1) := by decide +kernel
theorem dX12_date__85 : decode cX12_date_ 85 = .ok (.aload_n 0, 1) := by decide +kernel
theorem dX12_date__86 : decode cX12_date_ 86 = .ok (.iload_n 1, 1) := by decide +kernel
theorem dX12_date__87 : decode cX12_date_ 87 = .ok (.invokevirtual 324, 3) := by decide +kernel
theorem dX12_date__90 : decode cX12_date_ 90 = .ok (.ireturn, 1) := by decide +kernel
theorem dX12_date__91 : decode cX12_date_ 91 = .ok (.iconst (-1), 1) := by decide +kernel
theorem dX12_date__92 : decode cX12_date_ 92 = .ok (.ireturn, 1) := by decide +kernel
theorem dX12_isAsked_0 : decode cX12_isAsked 0 = .ok (.aload_n 0, 1) := by decide +kernel
theorem dX12_isAsked_1 : decode cX12_isAsked 1 = .ok (.iload_n 1, 1) := by decide +kernel
theorem dX12_isAsked_2 : decode cX12_isAsked 2 = .ok (.invokevirtual 428, 3) := by decide +kernel
theorem dX12_isAsked_5 : decode cX12_isAsked 5 = .ok (.ifCond .ne 5, 3) := by decide +kernel
theorem dX12_isAsked_8 : decode cX12_isAsked 8 = .ok (.iconst 0, 1) := by decide +kernel
theorem dX12_isAsked_9 : decode cX12_isAsked 9 = .ok (.ireturn, 1) := by decide +kernel
theorem dX12_isAsked_10 : decode cX12_isAsked 10 = .ok (.aload_n 0, 1) := by decide +kernel
theorem dX12_isAsked_11 : decode cX12_isAsked 11 = .ok (.iload_n 1, 1) := by decide +kernel
theorem dX12_isAsked_12 : decode cX12_isAsked 12 = .ok (.invokevirtual 431, 3) := by decide +kernel
theorem dX12_isAsked_15 : decode cX12_isAsked 15 = .ok (.iconst 1, 1) := by decide +kernel
theorem dX12_isAsked_16 : decode cX12_isAsked 16 = .ok (.ireturn, 1) := by decide +kernel
theorem dX12_on_0 : decode cX12_on 0 = .ok (.iload_n 2, 1) := by decide +kernel
theorem dX12_on_1 : decode cX12_on 1 = .ok (.invokestatic 387, 3) := by decide +kernel
theorem dX12_on_4 : decode cX12_on 4 = .ok (.ifCond .eq 23, 3) := by decide +kernel
theorem dX12_on_7 : decode cX12_on 7 = .ok (.aload_n 0, 1) := by decide +kernel
theorem dX12_on_8 : decode cX12_on 8 = .ok (.iload_n 1, 1) := by decide +kernel
theorem dX12_on_9 : decode cX12_on 9 = .ok (.invokevirtual 434, 3) := by decide +kernel
theorem dX12_on_12 : decode cX12_on 12 = .ok (.ifCond .eq 15, 3) := by decide +kernel
theorem dX12_on_15 : decode cX12_on 15 = .ok (.aload_n 0, 1) := by decide +kernel
theorem dX12_on_16 : decode cX12_on 16 = .ok (.iload_n 1, 1) := by decide +kernel
theorem dX12_on_17 : decode cX12_on 17 = .ok (.iload_n 2, 1) := by decide +kernel
theorem dX12_on_18 : decode cX12_on 18 = .ok (.invokevirtual 437, 3) := by decide +kernel
theorem dX12_on_21 : decode cX12_on 21 = .ok (.invokestatic 370, 3) := by decide +kernel
theorem dX12_on_24 : decode cX12_on 24 = .ok (.goto 4, 3) := by decide +kernel
theorem dX12_on_27 : decode cX12_on 27 = .ok (.iconst (-1), 1) := by decide +kernel
theorem dX12_on_28 : decode cX12_on 28 = .ok (.ireturn, 1) := by decide +kernel
theorem dX12_next_0 : decode cX12_next 0 = .ok (.iload_n 2, 1) := by decide +kernel
theorem dX12_next_1 : decode cX12_next 1 = .ok (.i2l, 1) := by decide +kernel
theorem dX12_next_2 : decode cX12_next 2 = .ok (.ldc2_w 440, 3) := by decide +kernel
theorem dX12_next_5 : decode cX12_next 5 = .ok (.ldc2_w 319, 3) := by decide +kernel
theorem dX12_next_8 : decode cX12_next 8 = .ok (.invokestatic 110, 3) := by decide +kernel
theorem dX12_next_11 : decode cX12_next 11 = .ok (.ifCond .eq 11, 3) := by decide +kernel
theorem dX12_next_14 : decode cX12_next 14 = .ok (.aload_n 0, 1) := by decide +kernel
theorem dX12_next_15 : decode cX12_next 15 = .ok (.iload_n 1, 1) := by decide +kernel
theorem dX12_next_16 : decode cX12_next 16 = .ok (.invokevirtual 434, 3) := by decide +kernel
theorem dX12_next_19 : decode cX12_next 19 = .ok (.ifCond .ne 5, 3) := by decide +kernel
theorem dX12_next_22 : decode cX12_next 22 = .ok (.iconst (-1), 1) := by decide +kernel
theorem dX12_next_23 : decode cX12_next 23 = .ok (.ireturn, 1) := by decide +kernel
theorem dX12_next_24 : decode cX12_next 24 = .ok (.iload_n 2, 1) := by decide +kernel
theorem dX12_next_25 : decode cX12_next 25 = .ok (.iconst 1, 1) := by decide +kernel
theorem dX12_next_26 : decode cX12_next 26 = .ok (.iadd, 1) := by decide +kernel
theorem dX12_next_27 : decode cX12_next 27 = .ok (.istore_n 3, 1) := by decide +kernel
theorem dX12_next_28 : decode cX12_next 28 = .ok (.iload_n 3, 1) := by decide +kernel
theorem dX12_next_29 : decode cX12_next 29 = .ok (.sipush 14610, 3) := by decide +kernel
theorem dX12_next_32 : decode cX12_next 32 = .ok (.if_icmp .ge 20, 3) := by decide +kernel
theorem dX12_next_35 : decode cX12_next 35 = .ok (.aload_n 0, 1) := by decide +kernel
theorem dX12_next_36 : decode cX12_next 36 = .ok (.iload_n 1, 1) := by decide +kernel
theorem dX12_next_37 : decode cX12_next 37 = .ok (.iload_n 3, 1) := by decide +kernel
theorem dX12_next_38 : decode cX12_next 38 = .ok (.invokevirtual 437, 3) := by decide +kernel
theorem dX12_next_41 : decode cX12_next 41 = .ok (.ifCond .eq 5, 3) := by decide +kernel
theorem dX12_next_44 : decode cX12_next 44 = .ok (.iload_n 3, 1) := by decide +kernel
theorem dX12_next_45 : decode cX12_next 45 = .ok (.ireturn, 1) := by decide +kernel
theorem dX12_next_46 : decode cX12_next 46 = .ok (.iinc 3 1, 3) := by decide +kernel
theorem dX12_next_49 : decode cX12_next 49 = .ok (.goto (-21), 3) := by decide +kernel
theorem dX12_next_52 : decode cX12_next 52 = .ok (.iconst (-1), 1) := by decide +kernel
theorem dX12_next_53 : decode cX12_next 53 = .ok (.ireturn, 1) := by decide +kernel
theorem dX12_ahead_0 : decode cX12_ahead 0 = .ok (.iload_n 2, 1) := by decide +kernel
theorem dX12_ahead_1 : decode cX12_ahead 1 = .ok (.i2l, 1) := by decide +kernel
theorem dX12_ahead_2 : decode cX12_ahead 2 = .ok (.lconst 0, 1) := by decide +kernel
theorem dX12_ahead_3 : decode cX12_ahead 3 = .ok (.ldc2_w 442, 3) := by decide +kernel
theorem dX12_ahead_6 : decode cX12_ahead 6 = .ok (.invokestatic 110, 3) := by decide +kernel
theorem dX12_ahead_9 : decode cX12_ahead 9 = .ok (.ifCond .eq 11, 3) := by decide +kernel
theorem dX12_ahead_12 : decode cX12_ahead 12 = .ok (.aload_n 0, 1) := by decide +kernel
theorem dX12_ahead_13 : decode cX12_ahead 13 = .ok (.iload_n 1, 1) := by decide +kernel
theorem dX12_ahead_14 : decode cX12_ahead 14 = .ok (.invokevirtual 434, 3) := by decide +kernel
theorem dX12_ahead_17 : decode cX12_ahead 17 = .ok (.ifCond .ne 5, 3) := by decide +kernel
theorem dX12_ahead_20 : decode cX12_ahead 20 = .ok (.iconst (-1), 1) := by decide +kernel
theorem dX12_ahead_21 : decode cX12_ahead 21 = .ok (.ireturn, 1) := by decide +kernel
theorem dX12_ahead_22 : decode cX12_ahead 22 = .ok (.iload_n 2, 1) := by decide +kernel
theorem dX12_ahead_23 : decode cX12_ahead 23 = .ok (.iconst 1, 1) := by decide +kernel
theorem dX12_ahead_24 : decode cX12_ahead 24 = .ok (.isub, 1) := by decide +kernel
theorem dX12_ahead_25 : decode cX12_ahead 25 = .ok (.istore_n 3, 1) := by decide +kernel
theorem dX12_ahead_26 : decode cX12_ahead 26 = .ok (.iload_n 3, 1) := by decide +kernel
theorem dX12_ahead_27 : decode cX12_ahead 27 = .ok (.ifCond .lt 20, 3) := by decide +kernel
theorem dX12_ahead_30 : decode cX12_ahead 30 = .ok (.aload_n 0, 1) := by decide +kernel
theorem dX12_ahead_31 : decode cX12_ahead 31 = .ok (.iload_n 1, 1) := by decide +kernel
theorem dX12_ahead_32 : decode cX12_ahead 32 = .ok (.iload_n 3, 1) := by decide +kernel
theorem dX12_ahead_33 : decode cX12_ahead 33 = .ok (.invokevirtual 437, 3) := by decide +kernel
theorem dX12_ahead_36 : decode cX12_ahead 36 = .ok (.ifCond .eq 5, 3) := by decide +kernel
theorem dX12_ahead_39 : decode cX12_ahead 39 = .ok (.iload_n 3, 1) := by decide +kernel
theorem dX12_ahead_40 : decode cX12_ahead 40 = .ok (.ireturn, 1) := by decide +kernel
theorem dX12_ahead_41 : decode cX12_ahead 41 = .ok (.iinc 3 (-1), 3) := by decide +kernel
theorem dX12_ahead_44 : decode cX12_ahead 44 = .ok (.goto (-18), 3) := by decide +kernel
theorem dX12_ahead_47 : decode cX12_ahead 47 = .ok (.iconst (-1), 1) := by decide +kernel
theorem dX12_ahead_48 : decode cX12_ahead 48 = .ok (.ireturn, 1) := by decide +kernel
theorem dX12_count_0 : decode cX12_count 0 = .ok (.iconst 0, 1) := by decide +kernel
theorem dX12_count_1 : decode cX12_count 1 = .ok (.istore 4, 2) := by decide +kernel
theorem dX12_count_3 : decode cX12_count 3 = .ok (.iload_n 2, 1) := by decide +kernel
theorem dX12_count_4 : decode cX12_count 4 = .ok (.istore 5, 2) := by decide +kernel
theorem dX12_count_6 : decode cX12_count 6 = .ok (.iload 5, 2) := by decide +kernel
theorem dX12_count_8 : decode cX12_count 8 = .ok (.iload_n 3, 1) := by decide +kernel
theorem dX12_count_9 : decode cX12_count 9 = .ok (.if_icmp .gt 24, 3) := by decide +kernel
theorem dX12_count_12 : decode cX12_count 12 = .ok (.iload 4, 2) := by decide +kernel
theorem dX12_count_14 : decode cX12_count 14 = .ok (.aload_n 0, 1) := by decide +kernel
theorem dX12_count_15 : decode cX12_count 15 = .ok (.iload_n 1, 1) := by decide +kernel
theorem dX12_count_16 : decode cX12_count 16 = .ok (.iload 5, 2) := by decide +kernel
theorem dX12_count_18 : decode cX12_count 18 = .ok (.invokevirtual 437, 3) := by decide +kernel
theorem dX12_count_21 : decode cX12_count 21 = .ok (.invokestatic 370, 3) := by decide +kernel
theorem dX12_count_24 : decode cX12_count 24 = .ok (.iadd, 1) := by decide +kernel
theorem dX12_count_25 : decode cX12_count 25 = .ok (.istore 4, 2) := by decide +kernel
theorem dX12_count_27 : decode cX12_count 27 = .ok (.iinc 5 1, 3) := by decide +kernel
theorem dX12_count_30 : decode cX12_count 30 = .ok (.goto (-24), 3) := by decide +kernel
theorem dX12_count_33 : decode cX12_count 33 = .ok (.iload 4, 2) := by decide +kernel
theorem dX12_count_35 : decode cX12_count 35 = .ok (.ireturn, 1) := by decide +kernel
theorem dX12_nth_0 : decode cX12_nth 0 = .ok (.aload_n 0, 1) := by decide +kernel
theorem dX12_nth_1 : decode cX12_nth 1 = .ok (.iload_n 1, 1) := by decide +kernel
theorem dX12_nth_2 : decode cX12_nth 2 = .ok (.invokevirtual 434, 3) := by decide +kernel
theorem dX12_nth_5 : decode cX12_nth 5 = .ok (.ifCond .ne 5, 3) := by decide +kernel
theorem dX12_nth_8 : decode cX12_nth 8 = .ok (.iconst (-1), 1) := by decide +kernel
theorem dX12_nth_9 : decode cX12_nth 9 = .ok (.ireturn, 1) := by decide +kernel
theorem dX12_nth_10 : decode cX12_nth 10 = .ok (.iload_n 2, 1) := by decide +kernel
theorem dX12_nth_11 : decode cX12_nth 11 = .ok (.ifCond .lt 8, 3) := by decide +kernel
theorem dX12_nth_14 : decode cX12_nth 14 = .ok (.iload_n 2, 1) := by decide +kernel
theorem dX12_nth_15 : decode cX12_nth 15 = .ok (.i2l, 1) := by decide +kernel
theorem dX12_nth_16 : decode cX12_nth 16 = .ok (.goto 16, 3) := by decide +kernel
theorem dX12_nth_19 : decode cX12_nth 19 = .ok (.iload_n 2, 1) := by decide +kernel
theorem dX12_nth_20 : decode cX12_nth 20 = .ok (.i2l, 1) := by decide +kernel
theorem dX12_nth_21 : decode cX12_nth 21 = .ok (.aload_n 0, 1) := by decide +kernel
theorem dX12_nth_22 : decode cX12_nth 22 = .ok (.iload_n 1, 1) := by decide +kernel
theorem dX12_nth_23 : decode cX12_nth 23 = .ok (.iconst 0, 1) := by decide +kernel
theorem dX12_nth_24 : decode cX12_nth 24 = .ok (.sipush 14609, 3) := by decide +kernel
theorem dX12_nth_27 : decode cX12_nth 27 = .ok (.invokevirtual 444, 3) := by decide +kernel
theorem dX12_nth_30 : decode cX12_nth 30 = .ok (.i2l, 1) := by decide +kernel
theorem dX12_nth_31 : decode cX12_nth 31 = .ok (.ladd, 1) := by decide +kernel
theorem dX12_nth_32 : decode cX12_nth 32 = .ok (.lstore_n 3, 1) := by decide +kernel
theorem dX12_nth_33 : decode cX12_nth 33 = .ok (.iconst 0, 1) := by decide +kernel
theorem dX12_nth_34 : decode cX12_nth 34 = .ok (.istore 5, 2) := by decide +kernel
theorem dX12_nth_36 : decode cX12_nth 36 = .ok (.iload 5, 2) := by decide +kernel
theorem dX12_nth_38 : decode cX12_nth 38 = .ok (.sipush 14610, 3) := by decide +kernel
theorem dX12_nth_41 : decode cX12_nth 41 = .ok (.if_icmp .ge 38, 3) := by decide +kernel
theorem dX12_nth_44 : decode cX12_nth 44 = .ok (.lload_n 3, 1) := by decide +kernel
theorem dX12_nth_45 : decode cX12_nth 45 = .ok (.lconst 0, 1) := by decide +kernel
theorem dX12_nth_46 : decode cX12_nth 46 = .ok (.lcmp, 1) := by decide +kernel
theorem dX12_nth_47 : decode cX12_nth 47 = .ok (.ifCond .lt 32, 3) := by decide +kernel
theorem dX12_nth_50 : decode cX12_nth 50 = .ok (.aload_n 0, 1) := by decide +kernel
theorem dX12_nth_51 : decode cX12_nth 51 = .ok (.iload_n 1, 1) := by decide +kernel
theorem dX12_nth_52 : decode cX12_nth 52 = .ok (.iload 5, 2) := by decide +kernel
theorem dX12_nth_54 : decode cX12_nth 54 = .ok (.invokevirtual 437, 3) := by decide +kernel
theorem dX12_nth_57 : decode cX12_nth 57 = .ok (.ifCond .eq 16, 3) := by decide +kernel
theorem dX12_nth_60 : decode cX12_nth 60 = .ok (.lload_n 3, 1) := by decide +kernel
theorem dX12_nth_61 : decode cX12_nth 61 = .ok (.lconst 0, 1) := by decide +kernel
theorem dX12_nth_62 : decode cX12_nth 62 = .ok (.lcmp, 1) := by decide +kernel
theorem dX12_nth_63 : decode cX12_nth 63 = .ok (.ifCond .ne 6, 3) := by decide +kernel
theorem dX12_nth_66 : decode cX12_nth 66 = .ok (.iload 5, 2) := by decide +kernel
theorem dX12_nth_68 : decode cX12_nth 68 = .ok (.ireturn, 1) := by decide +kernel
theorem dX12_nth_69 : decode cX12_nth 69 = .ok (.lload_n 3, 1) := by decide +kernel
theorem dX12_nth_70 : decode cX12_nth 70 = .ok (.lconst 1, 1) := by decide +kernel
theorem dX12_nth_71 : decode cX12_nth 71 = .ok (.lsub, 1) := by decide +kernel
theorem dX12_nth_72 : decode cX12_nth 72 = .ok (.lstore_n 3, 1) := by decide +kernel
theorem dX12_nth_73 : decode cX12_nth 73 = .ok (.iinc 5 1, 3) := by decide +kernel
theorem dX12_nth_76 : decode cX12_nth 76 = .ok (.goto (-40), 3) := by decide +kernel
theorem dX12_nth_79 : decode cX12_nth 79 = .ok (.iconst (-1), 1) := by decide +kernel
theorem dX12_nth_80 : decode cX12_nth 80 = .ok (.ireturn, 1) := by decide +kernel
theorem dX12_many_0 : decode cX12_many 0 = .ok (.iload_n 2, 1) := by decide +kernel
theorem dX12_many_1 : decode cX12_many 1 = .ok (.invokestatic 387, 3) := by decide +kernel
theorem dX12_many_4 : decode cX12_many 4 = .ok (.ifCond .eq 33, 3) := by decide +kernel
theorem dX12_many_7 : decode cX12_many 7 = .ok (.iload_n 3, 1) := by decide +kernel
theorem dX12_many_8 : decode cX12_many 8 = .ok (.invokestatic 387, 3) := by decide +kernel
theorem dX12_many_11 : decode cX12_many 11 = .ok (.ifCond .eq 26, 3) := by decide +kernel
theorem dX12_many_14 : decode cX12_many 14 = .ok (.iload_n 2, 1) := by decide +kernel
theorem dX12_many_15 : decode cX12_many 15 = .ok (.iload_n 3, 1) := by decide +kernel
theorem dX12_many_16 : decode cX12_many 16 = .ok (.if_icmp .gt 21, 3) := by decide +kernel
theorem dX12_many_19 : decode cX12_many 19 = .ok (.aload_n 0, 1) := by decide +kernel
theorem dX12_many_20 : decode cX12_many 20 = .ok (.iload_n 1, 1) := by decide +kernel
theorem dX12_many_21 : decode cX12_many 21 = .ok (.invokevirtual 434, 3) := by decide +kernel
theorem dX12_many_24 : decode cX12_many 24 = .ok (.ifCond .eq 13, 3) := by decide +kernel
theorem dX12_many_27 : decode cX12_many 27 = .ok (.aload_n 0, 1) := by decide +kernel
theorem dX12_many_28 : decode cX12_many 28 = .ok (.iload_n 1, 1) := by decide +kernel
theorem dX12_many_29 : decode cX12_many 29 = .ok (.iload_n 2, 1) := by decide +kernel
theorem dX12_many_30 : decode cX12_many 30 = .ok (.iload_n 3, 1) := by decide +kernel
theorem dX12_many_31 : decode cX12_many 31 = .ok (.invokevirtual 444, 3) := by decide +kernel
theorem dX12_many_34 : decode cX12_many 34 = .ok (.goto 4, 3) := by decide +kernel
theorem dX12_many_37 : decode cX12_many 37 = .ok (.iconst (-1), 1) := by decide +kernel
theorem dX12_many_38 : decode cX12_many 38 = .ok (.ireturn, 1) := by decide +kernel
theorem dX12_gap_0 : decode cX12_gap 0 = .ok (.iload_n 2, 1) := by decide +kernel
theorem dX12_gap_1 : decode cX12_gap 1 = .ok (.i2l, 1) := by decide +kernel
theorem dX12_gap_2 : decode cX12_gap 2 = .ok (.lconst 0, 1) := by decide +kernel
theorem dX12_gap_3 : decode cX12_gap 3 = .ok (.lconst 1, 1) := by decide +kernel
theorem dX12_gap_4 : decode cX12_gap 4 = .ok (.invokestatic 110, 3) := by decide +kernel
theorem dX12_gap_7 : decode cX12_gap 7 = .ok (.ifCond .eq 11, 3) := by decide +kernel
theorem dX12_gap_10 : decode cX12_gap 10 = .ok (.aload_n 0, 1) := by decide +kernel
theorem dX12_gap_11 : decode cX12_gap 11 = .ok (.iload_n 1, 1) := by decide +kernel
theorem dX12_gap_12 : decode cX12_gap 12 = .ok (.invokevirtual 434, 3) := by decide +kernel
theorem dX12_gap_15 : decode cX12_gap 15 = .ok (.ifCond .ne 5, 3) := by decide +kernel
theorem dX12_gap_18 : decode cX12_gap 18 = .ok (.iconst (-1), 1) := by decide +kernel
theorem dX12_gap_19 : decode cX12_gap 19 = .ok (.ireturn, 1) := by decide +kernel
theorem dX12_gap_20 : decode cX12_gap 20 = .ok (.iconst (-1), 1) := by decide +kernel
theorem dX12_gap_21 : decode cX12_gap 21 = .ok (.istore_n 3, 1) := by decide +kernel
theorem dX12_gap_22 : decode cX12_gap 22 = .ok (.iconst 0, 1) := by decide +kernel
theorem dX12_gap_23 : decode cX12_gap 23 = .ok (.istore 4, 2) := by decide +kernel
theorem dX12_gap_25 : decode cX12_gap 25 = .ok (.iconst (-1), 1) := by decide +kernel
theorem dX12_gap_26 : decode cX12_gap 26 = .ok (.istore 5, 2) := by decide +kernel
theorem dX12_gap_28 : decode cX12_gap 28 = .ok (.iconst 0, 1) := by decide +kernel
theorem dX12_gap_29 : decode cX12_gap 29 = .ok (.istore 6, 2) := by decide +kernel
theorem dX12_gap_31 : decode cX12_gap 31 = .ok (.iload 6, 2) := by decide +kernel
theorem dX12_gap_33 : decode cX12_gap 33 = .ok (.sipush 14610, 3) := by decide +kernel
theorem dX12_gap_36 : decode cX12_gap 36 = .ok (.if_icmp .ge 45, 3) := by decide +kernel
theorem dX12_gap_39 : decode cX12_gap 39 = .ok (.aload_n 0, 1) := by decide +kernel
theorem dX12_gap_40 : decode cX12_gap 40 = .ok (.iload_n 1, 1) := by decide +kernel
theorem dX12_gap_41 : decode cX12_gap 41 = .ok (.iload 6, 2) := by decide +kernel
theorem dX12_gap_43 : decode cX12_gap 43 = .ok (.invokevirtual 437, 3) := by decide +kernel
theorem dX12_gap_46 : decode cX12_gap 46 = .ok (.ifCond .eq 29, 3) := by decide +kernel
theorem dX12_gap_49 : decode cX12_gap 49 = .ok (.iload_n 3, 1) := by decide +kernel
theorem dX12_gap_50 : decode cX12_gap 50 = .ok (.iconst (-1), 1) := by decide +kernel
theorem dX12_gap_51 : decode cX12_gap 51 = .ok (.if_icmp .eq 21, 3) := by decide +kernel
theorem dX12_gap_54 : decode cX12_gap 54 = .ok (.iload 6, 2) := by decide +kernel
theorem dX12_gap_56 : decode cX12_gap 56 = .ok (.iload_n 3, 1) := by decide +kernel
theorem dX12_gap_57 : decode cX12_gap 57 = .ok (.isub, 1) := by decide +kernel
theorem dX12_gap_58 : decode cX12_gap 58 = .ok (.iload 4, 2) := by decide +kernel
theorem dX12_gap_60 : decode cX12_gap 60 = .ok (.if_icmp .le 12, 3) := by decide +kernel
theorem dX12_gap_63 : decode cX12_gap 63 = .ok (.iload 6, 2) := by decide +kernel
theorem dX12_gap_65 : decode cX12_gap 65 = .ok (.iload_n 3, 1) := by decide +kernel
theorem dX12_gap_66 : decode cX12_gap 66 = .ok (.isub, 1) := by decide +kernel
theorem dX12_gap_67 : decode cX12_gap 67 = .ok (.istore 4, 2) := by decide +kernel
theorem dX12_gap_69 : decode cX12_gap 69 = .ok (.iload_n 3, 1) := by decide +kernel
theorem dX12_gap_70 : decode cX12_gap 70 = .ok (.istore 5, 2) := by decide +kernel
theorem dX12_gap_72 : decode cX12_gap 72 = .ok (.iload 6, 2) := by decide +kernel
theorem dX12_gap_74 : decode cX12_gap 74 = .ok (.istore_n 3, 1) := by decide +kernel
theorem dX12_gap_75 : decode cX12_gap 75 = .ok (.iinc 6 1, 3) := by decide +kernel
theorem dX12_gap_78 : decode cX12_gap 78 = .ok (.goto (-47), 3) := by decide +kernel
theorem dX12_gap_81 : decode cX12_gap 81 = .ok (.iload 5, 2) := by decide +kernel
theorem dX12_gap_83 : decode cX12_gap 83 = .ok (.iconst (-1), 1) := by decide +kernel
theorem dX12_gap_84 : decode cX12_gap 84 = .ok (.if_icmp .ne 7, 3) := by decide +kernel
theorem dX12_gap_87 : decode cX12_gap 87 = .ok (.iconst (-1), 1) := by decide +kernel
theorem dX12_gap_88 : decode cX12_gap 88 = .ok (.goto 14, 3) := by decide +kernel
theorem dX12_gap_91 : decode cX12_gap 91 = .ok (.iload_n 2, 1) := by decide +kernel
theorem dX12_gap_92 : decode cX12_gap 92 = .ok (.ifCond .ne 8, 3) := by decide +kernel
theorem dX12_gap_95 : decode cX12_gap 95 = .ok (.iload 4, 2) := by decide +kernel
theorem dX12_gap_97 : decode cX12_gap 97 = .ok (.goto 5, 3) := by decide +kernel
theorem dX12_gap_100 : decode cX12_gap 100 = .ok (.iload 5, 2) := by decide +kernel
theorem dX12_gap_102 : decode cX12_gap 102 = .ok (.ireturn, 1) := by decide +kernel
theorem dX12_free_0 : decode cX12_free 0 = .ok (.iload_n 2, 1) := by decide +kernel
theorem dX12_free_1 : decode cX12_free 1 = .ok (.invokestatic 387, 3) := by decide +kernel
theorem dX12_free_4 : decode cX12_free 4 = .ok (.ifCond .eq 23, 3) := by decide +kernel
theorem dX12_free_7 : decode cX12_free 7 = .ok (.iload_n 3, 1) := by decide +kernel
theorem dX12_free_8 : decode cX12_free 8 = .ok (.i2l, 1) := by decide +kernel
theorem dX12_free_9 : decode cX12_free 9 = .ok (.lconst 1, 1) := by decide +kernel
theorem dX12_free_10 : decode cX12_free 10 = .ok (.ldc2_w 447, 3) := by decide +kernel
theorem dX12_free_13 : decode cX12_free 13 = .ok (.invokestatic 110, 3) := by decide +kernel
theorem dX12_free_16 : decode cX12_free 16 = .ok (.ifCond .eq 11, 3) := by decide +kernel
theorem dX12_free_19 : decode cX12_free 19 = .ok (.aload_n 0, 1) := by decide +kernel
theorem dX12_free_20 : decode cX12_free 20 = .ok (.iload_n 1, 1) := by decide +kernel
theorem dX12_free_21 : decode cX12_free 21 = .ok (.invokevirtual 434, 3) := by decide +kernel
theorem dX12_free_24 : decode cX12_free 24 = .ok (.ifCond .ne 5, 3) := by decide +kernel
theorem dX12_free_27 : decode cX12_free 27 = .ok (.iconst (-1), 1) := by decide +kernel
theorem dX12_free_28 : decode cX12_free 28 = .ok (.ireturn, 1) := by decide +kernel
theorem dX12_free_29 : decode cX12_free 29 = .ok (.iconst 0, 1) := by decide +kernel
theorem dX12_free_30 : decode cX12_free 30 = .ok (.istore 4, 2) := by decide +kernel
theorem dX12_free_32 : decode cX12_free 32 = .ok (.iload_n 2, 1) := by decide +kernel
theorem dX12_free_33 : decode cX12_free 33 = .ok (.istore 5, 2) := by decide +kernel
theorem dX12_free_35 : decode cX12_free 35 = .ok (.iload 5, 2) := by decide +kernel
theorem dX12_free_37 : decode cX12_free 37 = .ok (.sipush 14610, 3) := by decide +kernel
theorem dX12_free_40 : decode cX12_free 40 = .ok (.if_icmp .ge 42, 3) := by decide +kernel
theorem dX12_free_43 : decode cX12_free 43 = .ok (.aload_n 0, 1) := by decide +kernel
theorem dX12_free_44 : decode cX12_free 44 = .ok (.iload_n 1, 1) := by decide +kernel
theorem dX12_free_45 : decode cX12_free 45 = .ok (.iload 5, 2) := by decide +kernel
theorem dX12_free_47 : decode cX12_free 47 = .ok (.invokevirtual 437, 3) := by decide +kernel
theorem dX12_free_50 : decode cX12_free 50 = .ok (.ifCond .eq 7, 3) := by decide +kernel
theorem dX12_free_53 : decode cX12_free 53 = .ok (.iconst 0, 1) := by decide +kernel
theorem dX12_free_54 : decode cX12_free 54 = .ok (.goto 7, 3) := by decide +kernel
theorem dX12_free_57 : decode cX12_free 57 = .ok (.iload 4, 2) := by decide +kernel
theorem dX12_free_59 : decode cX12_free 59 = .ok (.iconst 1, 1) := by decide +kernel
theorem dX12_free_60 : decode cX12_free 60 = .ok (.iadd, 1) := by decide +kernel
theorem dX12_free_61 : decode cX12_free 61 = .ok (.istore 4, 2) := by decide +kernel
theorem dX12_free_63 : decode cX12_free 63 = .ok (.iload 4, 2) := by decide +kernel
theorem dX12_free_65 : decode cX12_free 65 = .ok (.iload_n 3, 1) := by decide +kernel
theorem dX12_free_66 : decode cX12_free 66 = .ok (.if_icmp .ne 10, 3) := by decide +kernel
theorem dX12_free_69 : decode cX12_free 69 = .ok (.iload 5, 2) := by decide +kernel
theorem dX12_free_71 : decode cX12_free 71 = .ok (.iload_n 3, 1) := by decide +kernel
theorem dX12_free_72 : decode cX12_free 72 = .ok (.isub, 1) := by decide +kernel
theorem dX12_free_73 : decode cX12_free 73 = .ok (.iconst 1, 1) := by decide +kernel
theorem dX12_free_74 : decode cX12_free 74 = .ok (.iadd, 1) := by decide +kernel
theorem dX12_free_75 : decode cX12_free 75 = .ok (.ireturn, 1) := by decide +kernel
theorem dX12_free_76 : decode cX12_free 76 = .ok (.iinc 5 1, 3) := by decide +kernel
theorem dX12_free_79 : decode cX12_free 79 = .ok (.goto (-44), 3) := by decide +kernel
theorem dX12_free_82 : decode cX12_free 82 = .ok (.iconst (-1), 1) := by decide +kernel
theorem dX12_free_83 : decode cX12_free 83 = .ok (.ireturn, 1) := by decide +kernel
theorem dX12_meet_0 : decode cX12_meet 0 = .ok (.iload_n 3, 1) := by decide +kernel
theorem dX12_meet_1 : decode cX12_meet 1 = .ok (.invokestatic 387, 3) := by decide +kernel
theorem dX12_meet_4 : decode cX12_meet 4 = .ok (.ifCond .eq 30, 3) := by decide +kernel
theorem dX12_meet_7 : decode cX12_meet 7 = .ok (.iload 4, 2) := by decide +kernel
theorem dX12_meet_9 : decode cX12_meet 9 = .ok (.i2l, 1) := by decide +kernel
theorem dX12_meet_10 : decode cX12_meet 10 = .ok (.lconst 0, 1) := by decide +kernel
theorem dX12_meet_11 : decode cX12_meet 11 = .ok (.lconst 1, 1) := by decide +kernel
theorem dX12_meet_12 : decode cX12_meet 12 = .ok (.invokestatic 110, 3) := by decide +kernel
theorem dX12_meet_15 : decode cX12_meet 15 = .ok (.ifCond .eq 19, 3) := by decide +kernel
theorem dX12_meet_18 : decode cX12_meet 18 = .ok (.aload_n 0, 1) := by decide +kernel
theorem dX12_meet_19 : decode cX12_meet 19 = .ok (.iload_n 1, 1) := by decide +kernel
theorem dX12_meet_20 : decode cX12_meet 20 = .ok (.invokevirtual 434, 3) := by decide +kernel
theorem dX12_meet_23 : decode cX12_meet 23 = .ok (.ifCond .eq 11, 3) := by decide +kernel
theorem dX12_meet_26 : decode cX12_meet 26 = .ok (.aload_n 0, 1) := by decide +kernel
theorem dX12_meet_27 : decode cX12_meet 27 = .ok (.iload_n 2, 1) := by decide +kernel
theorem dX12_meet_28 : decode cX12_meet 28 = .ok (.invokevirtual 434, 3) := by decide +kernel
theorem dX12_meet_31 : decode cX12_meet 31 = .ok (.ifCond .ne 5, 3) := by decide +kernel
theorem dX12_meet_34 : decode cX12_meet 34 = .ok (.iconst (-1), 1) := by decide +kernel
theorem dX12_meet_35 : decode cX12_meet 35 = .ok (.ireturn, 1) := by decide +kernel
theorem dX12_meet_36 : decode cX12_meet 36 = .ok (.iload_n 3, 1) := by decide +kernel
theorem dX12_meet_37 : decode cX12_meet 37 = .ok (.istore 5, 2) := by decide +kernel
theorem dX12_meet_39 : decode cX12_meet 39 = .ok (.iload 5, 2) := by decide +kernel
theorem dX12_meet_41 : decode cX12_meet 41 = .ok (.sipush 14610, 3) := by decide +kernel
theorem dX12_meet_44 : decode cX12_meet 44 = .ok (.if_icmp .ge 57, 3) := by decide +kernel
theorem dX12_meet_47 : decode cX12_meet 47 = .ok (.iload 4, 2) := by decide +kernel
theorem dX12_meet_49 : decode cX12_meet 49 = .ok (.ifCond .ne 26, 3) := by decide +kernel
theorem dX12_meet_52 : decode cX12_meet 52 = .ok (.aload_n 0, 1) := by decide +kernel
theorem dX12_meet_53 : decode cX12_meet 53 = .ok (.iload_n 1, 1) := by decide +kernel
theorem dX12_meet_54 : decode cX12_meet 54 = .ok (.iload 5, 2) := by decide +kernel
theorem dX12_meet_56 : decode cX12_meet 56 = .ok (.invokevirtual 437, 3) := by decide +kernel
theorem dX12_meet_59 : decode cX12_meet 59 = .ok (.ifCond .eq 36, 3) := by decide +kernel
theorem dX12_meet_62 : decode cX12_meet 62 = .ok (.aload_n 0, 1) := by decide +kernel
theorem dX12_meet_63 : decode cX12_meet 63 = .ok (.iload_n 2, 1) := by decide +kernel
theorem dX12_meet_64 : decode cX12_meet 64 = .ok (.iload 5, 2) := by decide +kernel
theorem dX12_meet_66 : decode cX12_meet 66 = .ok (.invokevirtual 437, 3) := by decide +kernel
theorem dX12_meet_69 : decode cX12_meet 69 = .ok (.ifCond .eq 26, 3) := by decide +kernel
theorem dX12_meet_72 : decode cX12_meet 72 = .ok (.goto 20, 3) := by decide +kernel
theorem dX12_meet_75 : decode cX12_meet 75 = .ok (.aload_n 0, 1) := by decide +kernel
theorem dX12_meet_76 : decode cX12_meet 76 = .ok (.iload_n 1, 1) := by decide +kernel
theorem dX12_meet_77 : decode cX12_meet 77 = .ok (.iload 5, 2) := by decide +kernel
theorem dX12_meet_79 : decode cX12_meet 79 = .ok (.invokevirtual 437, 3) := by decide +kernel
theorem dX12_meet_82 : decode cX12_meet 82 = .ok (.aload_n 0, 1) := by decide +kernel
theorem dX12_meet_83 : decode cX12_meet 83 = .ok (.iload_n 2, 1) := by decide +kernel
theorem dX12_meet_84 : decode cX12_meet 84 = .ok (.iload 5, 2) := by decide +kernel
theorem dX12_meet_86 : decode cX12_meet 86 = .ok (.invokevirtual 437, 3) := by decide +kernel
theorem dX12_meet_89 : decode cX12_meet 89 = .ok (.if_icmp .eq 6, 3) := by decide +kernel
theorem dX12_meet_92 : decode cX12_meet 92 = .ok (.iload 5, 2) := by decide +kernel
theorem dX12_meet_94 : decode cX12_meet 94 = .ok (.ireturn, 1) := by decide +kernel
theorem dX12_meet_95 : decode cX12_meet 95 = .ok (.iinc 5 1, 3) := by decide +kernel
theorem dX12_meet_98 : decode cX12_meet 98 = .ok (.goto (-59), 3) := by decide +kernel
theorem dX12_meet_101 : decode cX12_meet 101 = .ok (.iconst (-1), 1) := by decide +kernel
theorem dX12_meet_102 : decode cX12_meet 102 = .ok (.ireturn, 1) := by decide +kernel
theorem dX12_fares_0 : decode cX12_fares 0 = .ok (.iload_n 2, 1) := by decide +kernel
theorem dX12_fares_1 : decode cX12_fares 1 = .ok (.i2l, 1) := by decide +kernel
theorem dX12_fares_2 : decode cX12_fares 2 = .ok (.lconst 0, 1) := by decide +kernel
theorem dX12_fares_3 : decode cX12_fares 3 = .ok (.ldc2_w 449, 3) := by decide +kernel
theorem dX12_fares_6 : decode cX12_fares 6 = .ok (.invokestatic 110, 3) := by decide +kernel
theorem dX12_fares_9 : decode cX12_fares 9 = .ok (.ifCond .eq 11, 3) := by decide +kernel
theorem dX12_fares_12 : decode cX12_fares 12 = .ok (.aload_n 0, 1) := by decide +kernel
theorem dX12_fares_13 : decode cX12_fares 13 = .ok (.iload_n 1, 1) := by decide +kernel
theorem dX12_fares_14 : decode cX12_fares 14 = .ok (.invokevirtual 434, 3) := by decide +kernel
theorem dX12_fares_17 : decode cX12_fares 17 = .ok (.ifCond .ne 5, 3) := by decide +kernel
theorem dX12_fares_20 : decode cX12_fares 20 = .ok (.iconst (-1), 1) := by decide +kernel
theorem dX12_fares_21 : decode cX12_fares 21 = .ok (.ireturn, 1) := by decide +kernel
theorem dX12_fares_22 : decode cX12_fares 22 = .ok (.iconst 0, 1) := by decide +kernel
theorem dX12_fares_23 : decode cX12_fares 23 = .ok (.istore_n 3, 1) := by decide +kernel
theorem dX12_fares_24 : decode cX12_fares 24 = .ok (.iconst 0, 1) := by decide +kernel
theorem dX12_fares_25 : decode cX12_fares 25 = .ok (.istore 4, 2) := by decide +kernel
theorem dX12_fares_27 : decode cX12_fares 27 = .ok (.iload 4, 2) := by decide +kernel
theorem dX12_fares_29 : decode cX12_fares 29 = .ok (.sipush 14610, 3) := by decide +kernel
theorem dX12_fares_32 : decode cX12_fares 32 = .ok (.if_icmp .ge 62, 3) := by decide +kernel
theorem dX12_fares_35 : decode cX12_fares 35 = .ok (.iload_n 3, 1) := by decide +kernel
theorem dX12_fares_36 : decode cX12_fares 36 = .ok (.aload_n 0, 1) := by decide +kernel
theorem dX12_fares_37 : decode cX12_fares 37 = .ok (.iload_n 1, 1) := by decide +kernel
theorem dX12_fares_38 : decode cX12_fares 38 = .ok (.iload 4, 2) := by decide +kernel
theorem dX12_fares_40 : decode cX12_fares 40 = .ok (.invokevirtual 437, 3) := by decide +kernel
theorem dX12_fares_43 : decode cX12_fares 43 = .ok (.ifCond .eq 39, 3) := by decide +kernel
theorem dX12_fares_46 : decode cX12_fares 46 = .ok (.iload_n 2, 1) := by decide +kernel
theorem dX12_fares_47 : decode cX12_fares 47 = .ok (.bipush 7, 2) := by decide +kernel
theorem dX12_fares_49 : decode cX12_fares 49 = .ok (.if_icmp .ge 15, 3) := by decide +kernel
theorem dX12_fares_52 : decode cX12_fares 52 = .ok (.iload 4, 2) := by decide +kernel
theorem dX12_fares_54 : decode cX12_fares 54 = .ok (.invokestatic 327, 3) := by decide +kernel
theorem dX12_fares_57 : decode cX12_fares 57 = .ok (.iload_n 2, 1) := by decide +kernel
theorem dX12_fares_58 : decode cX12_fares 58 = .ok (.if_icmp .ne 24, 3) := by decide +kernel
theorem dX12_fares_61 : decode cX12_fares 61 = .ok (.goto 17, 3) := by decide +kernel
theorem dX12_fares_64 : decode cX12_fares 64 = .ok (.aload_n 0, 1) := by decide +kernel
theorem dX12_fares_65 : decode cX12_fares 65 = .ok (.getfield 27, 3) := by decide +kernel
theorem dX12_fares_68 : decode cX12_fares 68 = .ok (.iload 4, 2) := by decide +kernel
theorem dX12_fares_70 : decode cX12_fares 70 = .ok (.iaload, 1) := by decide +kernel
theorem dX12_fares_71 : decode cX12_fares 71 = .ok (.iload_n 2, 1) := by decide +kernel
theorem dX12_fares_72 : decode cX12_fares 72 = .ok (.bipush 6, 2) := by decide +kernel
theorem dX12_fares_74 : decode cX12_fares 74 = .ok (.isub, 1) := by decide +kernel
theorem dX12_fares_75 : decode cX12_fares 75 = .ok (.if_icmp .ne 7, 3) := by decide +kernel
theorem dX12_fares_78 : decode cX12_fares 78 = .ok (.iconst 1, 1) := by decide +kernel
theorem dX12_fares_79 : decode cX12_fares 79 = .ok (.goto 4, 3) := by decide +kernel
theorem dX12_fares_82 : decode cX12_fares 82 = .ok (.iconst 0, 1) := by decide +kernel
theorem dX12_fares_83 : decode cX12_fares 83 = .ok (.invokestatic 370, 3) := by decide +kernel
theorem dX12_fares_86 : decode cX12_fares 86 = .ok (.iadd, 1) := by decide +kernel
theorem dX12_fares_87 : decode cX12_fares 87 = .ok (.istore_n 3, 1) := by decide +kernel
theorem dX12_fares_88 : decode cX12_fares 88 = .ok (.iinc 4 1, 3) := by decide +kernel
theorem dX12_fares_91 : decode cX12_fares 91 = .ok (.goto (-64), 3) := by decide +kernel
theorem dX12_fares_94 : decode cX12_fares 94 = .ok (.iload_n 3, 1) := by decide +kernel
theorem dX12_fares_95 : decode cX12_fares 95 = .ok (.ireturn, 1) := by decide +kernel
theorem dX12_period_0 : decode cX12_period 0 = .ok (.aload_n 0, 1) := by decide +kernel
theorem dX12_period_1 : decode cX12_period 1 = .ok (.iload_n 1, 1) := by decide +kernel
theorem dX12_period_2 : decode cX12_period 2 = .ok (.invokevirtual 313, 3) := by decide +kernel
theorem dX12_period_5 : decode cX12_period 5 = .ok (.ifCond .eq 22, 3) := by decide +kernel
theorem dX12_period_8 : decode cX12_period 8 = .ok (.iload_n 2, 1) := by decide +kernel
theorem dX12_period_9 : decode cX12_period 9 = .ok (.invokestatic 387, 3) := by decide +kernel
theorem dX12_period_12 : decode cX12_period 12 = .ok (.ifCond .eq 15, 3) := by decide +kernel
theorem dX12_period_15 : decode cX12_period 15 = .ok (.iload_n 3, 1) := by decide +kernel
theorem dX12_period_16 : decode cX12_period 16 = .ok (.i2l, 1) := by decide +kernel
theorem dX12_period_17 : decode cX12_period 17 = .ok (.lconst 0, 1) := by decide +kernel
theorem dX12_period_18 : decode cX12_period 18 = .ok (.ldc2_w 451, 3) := by decide +kernel
theorem dX12_period_21 : decode cX12_period 21 = .ok (.invokestatic 110, 3) := by decide +kernel
theorem dX12_period_24 : decode cX12_period 24 = .ok (.ifCond .ne 5, 3) := by decide +kernel
theorem dX12_period_27 : decode cX12_period 27 = .ok (.iconst (-1), 1) := by decide +kernel
theorem dX12_period_28 : decode cX12_period 28 = .ok (.ireturn, 1) := by decide +kernel
theorem dX12_period_29 : decode cX12_period 29 = .ok (.iload_n 3, 1) := by decide +kernel
theorem dX12_period_30 : decode cX12_period 30 = .ok (.iconst 2, 1) := by decide +kernel
theorem dX12_period_31 : decode cX12_period 31 = .ok (.if_icmp .ne 48, 3) := by decide +kernel
theorem dX12_period_34 : decode cX12_period 34 = .ok (.aload_n 0, 1) := by decide +kernel
theorem dX12_period_35 : decode cX12_period 35 = .ok (.iload_n 1, 1) := by decide +kernel
theorem dX12_period_36 : decode cX12_period 36 = .ok (.iload_n 2, 1) := by decide +kernel
theorem dX12_period_37 : decode cX12_period 37 = .ok (.invokevirtual 364, 3) := by decide +kernel
theorem dX12_period_40 : decode cX12_period 40 = .ok (.aload_n 0, 1) := by decide +kernel
theorem dX12_period_41 : decode cX12_period 41 = .ok (.iload_n 1, 1) := by decide +kernel
theorem dX12_period_42 : decode cX12_period 42 = .ok (.aload_n 0, 1) := by decide +kernel
theorem dX12_period_43 : decode cX12_period 43 = .ok (.iload_n 1, 1) := by decide +kernel
theorem dX12_period_44 : decode cX12_period 44 = .ok (.invokevirtual 333, 3) := by decide +kernel
theorem dX12_period_47 : decode cX12_period 47 = .ok (.invokevirtual 364, 3) := by decide +kernel
theorem dX12_period_50 : decode cX12_period 50 = .ok (.if_icmp .lt 24, 3) := by decide +kernel
theorem dX12_period_53 : decode cX12_period 53 = .ok (.aload_n 0, 1) := by decide +kernel
theorem dX12_period_54 : decode cX12_period 54 = .ok (.iload_n 1, 1) := by decide +kernel
theorem dX12_period_55 : decode cX12_period 55 = .ok (.iload_n 2, 1) := by decide +kernel
theorem dX12_period_56 : decode cX12_period 56 = .ok (.aload_n 0, 1) := by decide +kernel
theorem dX12_period_57 : decode cX12_period 57 = .ok (.getfield 54, 3) := by decide +kernel
theorem dX12_period_60 : decode cX12_period 60 = .ok (.iconst 2, 1) := by decide +kernel
theorem dX12_period_61 : decode cX12_period 61 = .ok (.iload_n 1, 1) := by decide +kernel
theorem dX12_period_62 : decode cX12_period 62 = .ok (.imul, 1) := by decide +kernel
theorem dX12_period_63 : decode cX12_period 63 = .ok (.iaload, 1) := by decide +kernel
theorem dX12_period_64 : decode cX12_period 64 = .ok (.invokevirtual 381, 3) := by decide +kernel
theorem dX12_period_67 : decode cX12_period 67 = .ok (.ifCond .eq 7, 3) := by decide +kernel
theorem dX12_period_70 : decode cX12_period 70 = .ok (.iconst 1, 1) := by decide +kernel
theorem dX12_period_71 : decode cX12_period 71 = .ok (.goto 4, 3) := by decide +kernel
theorem dX12_period_74 : decode cX12_period 74 = .ok (.iconst 0, 1) := by decide +kernel
theorem dX12_period_75 : decode cX12_period 75 = .ok (.invokestatic 370, 3) := by decide +kernel
theorem dX12_period_78 : decode cX12_period 78 = .ok (.ireturn, 1) := by decide +kernel
theorem dX12_period_79 : decode cX12_period 79 = .ok (.aload_n 0, 1) := by decide +kernel
theorem dX12_period_80 : decode cX12_period 80 = .ok (.iload_n 1, 1) := by decide +kernel
theorem dX12_period_81 : decode cX12_period 81 = .ok (.invokevirtual 412, 3) := by decide +kernel
theorem dX12_period_84 : decode cX12_period 84 = .ok (.iconst 0, 1) := by decide +kernel
theorem dX12_period_85 : decode cX12_period 85 = .ok (.istore 4, 2) := by decide +kernel
theorem dX12_period_87 : decode cX12_period 87 = .ok (.iconst 0, 1) := by decide +kernel
theorem dX12_period_88 : decode cX12_period 88 = .ok (.istore 5, 2) := by decide +kernel
theorem dX12_period_90 : decode cX12_period 90 = .ok (.iload 5, 2) := by decide +kernel
theorem dX12_period_92 : decode cX12_period 92 = .ok (.sipush 14610, 3) := by decide +kernel
theorem dX12_period_95 : decode cX12_period 95 = .ok (.if_icmp .ge 54, 3) := by decide +kernel
theorem dX12_period_98 : decode cX12_period 98 = .ok (.aload_n 0, 1) := by decide +kernel
theorem dX12_period_99 : decode cX12_period 99 = .ok (.iload_n 1, 1) := by decide +kernel
theorem dX12_period_100 : decode cX12_period 100 = .ok (.iload 5, 2) := by decide +kernel
theorem dX12_period_102 : decode cX12_period 102 = .ok (.invokevirtual 364, 3) := by decide +kernel
theorem dX12_period_105 : decode cX12_period 105 = .ok (.aload_n 0, 1) := by decide +kernel
theorem dX12_period_106 : decode cX12_period 106 = .ok (.iload_n 1, 1) := by decide +kernel
theorem dX12_period_107 : decode cX12_period 107 = .ok (.iload_n 2, 1) := by decide +kernel
theorem dX12_period_108 : decode cX12_period 108 = .ok (.invokevirtual 364, 3) := by decide +kernel
theorem dX12_period_111 : decode cX12_period 111 = .ok (.if_icmp .ne 32, 3) := by decide +kernel
theorem dX12_period_114 : decode cX12_period 114 = .ok (.iload 4, 2) := by decide +kernel
theorem dX12_period_116 : decode cX12_period 116 = .ok (.iload_n 3, 1) := by decide +kernel
theorem dX12_period_117 : decode cX12_period 117 = .ok (.ifCond .ne 13, 3) := by decide +kernel
theorem dX12_period_120 : decode cX12_period 120 = .ok (.aload_n 0, 1) := by decide +kernel
theorem dX12_period_121 : decode cX12_period 121 = .ok (.iload_n 1, 1) := by decide +kernel
theorem dX12_period_122 : decode cX12_period 122 = .ok (.iload 5, 2) := by decide +kernel
theorem dX12_period_124 : decode cX12_period 124 = .ok (.invokevirtual 367, 3) := by decide +kernel
theorem dX12_period_127 : decode cX12_period 127 = .ok (.goto 10, 3) := by decide +kernel
theorem dX12_period_130 : decode cX12_period 130 = .ok (.aload_n 0, 1) := by decide +kernel
theorem dX12_period_131 : decode cX12_period 131 = .ok (.getfield 65, 3) := by decide +kernel
theorem dX12_period_134 : decode cX12_period 134 = .ok (.iload 5, 2) := by decide +kernel
theorem dX12_period_136 : decode cX12_period 136 = .ok (.baload, 1) := by decide +kernel
theorem dX12_period_137 : decode cX12_period 137 = .ok (.invokestatic 370, 3) := by decide +kernel
theorem dX12_period_140 : decode cX12_period 140 = .ok (.iadd, 1) := by decide +kernel
theorem dX12_period_141 : decode cX12_period 141 = .ok (.istore 4, 2) := by decide +kernel
theorem dX12_period_143 : decode cX12_period 143 = .ok (.iinc 5 1, 3) := by decide +kernel
theorem dX12_period_146 : decode cX12_period 146 = .ok (.goto (-56), 3) := by decide +kernel
theorem dX12_period_149 : decode cX12_period 149 = .ok (.iload 4, 2) := by decide +kernel
theorem dX12_period_151 : decode cX12_period 151 = .ok (.ireturn, 1) := by decide +kernel
theorem dX12_sum_0 : decode cX12_sum 0 = .ok (.aload_n 0, 1) := by decide +kernel
theorem dX12_sum_1 : decode cX12_sum 1 = .ok (.iload_n 1, 1) := by decide +kernel
theorem dX12_sum_2 : decode cX12_sum 2 = .ok (.invokevirtual 434, 3) := by decide +kernel
theorem dX12_sum_5 : decode cX12_sum 5 = .ok (.ifCond .ne 5, 3) := by decide +kernel
theorem dX12_sum_8 : decode cX12_sum 8 = .ok (.iconst (-1), 1) := by decide +kernel
theorem dX12_sum_9 : decode cX12_sum 9 = .ok (.ireturn, 1) := by decide +kernel
theorem dX12_sum_10 : decode cX12_sum 10 = .ok (.lconst 0, 1) := by decide +kernel
theorem dX12_sum_11 : decode cX12_sum 11 = .ok (.lstore_n 2, 1) := by decide +kernel
theorem dX12_sum_12 : decode cX12_sum 12 = .ok (.iconst 0, 1) := by decide +kernel
theorem dX12_sum_13 : decode cX12_sum 13 = .ok (.istore 4, 2) := by decide +kernel
theorem dX12_sum_15 : decode cX12_sum 15 = .ok (.iconst 0, 1) := by decide +kernel
theorem dX12_sum_16 : decode cX12_sum 16 = .ok (.istore 5, 2) := by decide +kernel
theorem dX12_sum_18 : decode cX12_sum 18 = .ok (.iload 5, 2) := by decide +kernel
theorem dX12_sum_20 : decode cX12_sum 20 = .ok (.sipush 14610, 3) := by decide +kernel
theorem dX12_sum_23 : decode cX12_sum 23 = .ok (.if_icmp .ge 36, 3) := by decide +kernel
theorem dX12_sum_26 : decode cX12_sum 26 = .ok (.aload_n 0, 1) := by decide +kernel
theorem dX12_sum_27 : decode cX12_sum 27 = .ok (.iload_n 1, 1) := by decide +kernel
theorem dX12_sum_28 : decode cX12_sum 28 = .ok (.iload 5, 2) := by decide +kernel
theorem dX12_sum_30 : decode cX12_sum 30 = .ok (.invokevirtual 437, 3) := by decide +kernel
theorem dX12_sum_33 : decode cX12_sum 33 = .ok (.ifCond .eq 20, 3) := by decide +kernel
theorem dX12_sum_36 : decode cX12_sum 36 = .ok (.iinc 4 1, 3) := by decide +kernel
theorem dX12_sum_39 : decode cX12_sum 39 = .ok (.lload_n 2, 1) := by decide +kernel
theorem dX12_sum_40 : decode cX12_sum 40 = .ok (.iload 4, 2) := by decide +kernel
theorem dX12_sum_42 : decode cX12_sum 42 = .ok (.i2l, 1) := by decide +kernel
theorem dX12_sum_43 : decode cX12_sum 43 = .ok (.iload 5, 2) := by decide +kernel
theorem dX12_sum_45 : decode cX12_sum 45 = .ok (.i2l, 1) := by decide +kernel
theorem dX12_sum_46 : decode cX12_sum 46 = .ok (.lmul, 1) := by decide +kernel
theorem dX12_sum_47 : decode cX12_sum 47 = .ok (.ladd, 1) := by decide +kernel
theorem dX12_sum_48 : decode cX12_sum 48 = .ok (.ldc2_w 453, 3) := by decide +kernel
theorem dX12_sum_51 : decode cX12_sum 51 = .ok (.lrem, 1) := by decide +kernel
theorem dX12_sum_52 : decode cX12_sum 52 = .ok (.lstore_n 2, 1) := by decide +kernel
theorem dX12_sum_53 : decode cX12_sum 53 = .ok (.iinc 5 1, 3) := by decide +kernel
theorem dX12_sum_56 : decode cX12_sum 56 = .ok (.goto (-38), 3) := by decide +kernel
theorem dX12_sum_59 : decode cX12_sum 59 = .ok (.lload_n 2, 1) := by decide +kernel
theorem dX12_sum_60 : decode cX12_sum 60 = .ok (.l2i, 1) := by decide +kernel
theorem dX12_sum_61 : decode cX12_sum 61 = .ok (.ireturn, 1) := by decide +kernel
theorem dX12_see_0 : decode cX12_see 0 = .ok (.aload_n 0, 1) := by decide +kernel
theorem dX12_see_1 : decode cX12_see 1 = .ok (.getfield 97, 3) := by decide +kernel
theorem dX12_see_4 : decode cX12_see 4 = .ok (.istore_n 2, 1) := by decide +kernel
theorem dX12_see_5 : decode cX12_see 5 = .ok (.aload_n 0, 1) := by decide +kernel
theorem dX12_see_6 : decode cX12_see 6 = .ok (.iconst 0, 1) := by decide +kernel
theorem dX12_see_7 : decode cX12_see 7 = .ok (.putfield 97, 3) := by decide +kernel
theorem dX12_see_10 : decode cX12_see 10 = .ok (.aload_n 0, 1) := by decide +kernel
theorem dX12_see_11 : decode cX12_see 11 = .ok (.iload_n 1, 1) := by decide +kernel
theorem dX12_see_12 : decode cX12_see 12 = .ok (.invokevirtual 313, 3) := by decide +kernel
theorem dX12_see_15 : decode cX12_see 15 = .ok (.ifCond .eq 25, 3) := by decide +kernel
theorem dX12_see_18 : decode cX12_see 18 = .ok (.iload_n 2, 1) := by decide +kernel
theorem dX12_see_19 : decode cX12_see 19 = .ok (.ifCond .le 21, 3) := by decide +kernel
theorem dX12_see_22 : decode cX12_see 22 = .ok (.iload_n 2, 1) := by decide +kernel
theorem dX12_see_23 : decode cX12_see 23 = .ok (.iconst 3, 1) := by decide +kernel
theorem dX12_see_24 : decode cX12_see 24 = .ok (.irem, 1) := by decide +kernel
theorem dX12_see_25 : decode cX12_see 25 = .ok (.ifCond .ne 15, 3) := by decide +kernel
theorem dX12_see_28 : decode cX12_see 28 = .ok (.iload_n 2, 1) := by decide +kernel
theorem dX12_see_29 : decode cX12_see 29 = .ok (.iconst 3, 1) := by decide +kernel
theorem dX12_see_30 : decode cX12_see 30 = .ok (.idiv, 1) := by decide +kernel
theorem dX12_see_31 : decode cX12_see 31 = .ok (.bipush 12, 2) := by decide +kernel
theorem dX12_see_33 : decode cX12_see 33 = .ok (.if_icmp .gt 7, 3) := by decide +kernel
theorem dX12_see_36 : decode cX12_see 36 = .ok (.iconst 1, 1) := by decide +kernel
theorem dX12_see_37 : decode cX12_see 37 = .ok (.goto 4, 3) := by decide +kernel
theorem dX12_see_40 : decode cX12_see 40 = .ok (.iconst 0, 1) := by decide +kernel
theorem dX12_see_41 : decode cX12_see 41 = .ok (.istore_n 3, 1) := by decide +kernel
theorem dX12_see_42 : decode cX12_see 42 = .ok (.iconst 0, 1) := by decide +kernel
theorem dX12_see_43 : decode cX12_see 43 = .ok (.istore 4, 2) := by decide +kernel
theorem dX12_see_45 : decode cX12_see 45 = .ok (.iload 4, 2) := by decide +kernel
theorem dX12_see_47 : decode cX12_see 47 = .ok (.iload_n 2, 1) := by decide +kernel
theorem dX12_see_48 : decode cX12_see 48 = .ok (.if_icmp .ge 59, 3) := by decide +kernel
theorem dX12_see_51 : decode cX12_see 51 = .ok (.iload_n 3, 1) := by decide +kernel
theorem dX12_see_52 : decode cX12_see 52 = .ok (.ifCond .eq 55, 3) := by decide +kernel
theorem dX12_see_55 : decode cX12_see 55 = .ok (.sipush 256, 3) := by decide +kernel
theorem dX12_see_58 : decode cX12_see 58 = .ok (.aload_n 0, 1) := by decide +kernel
theorem dX12_see_59 : decode cX12_see 59 = .ok (.getfield 7, 3) := by decide +kernel
theorem dX12_see_62 : decode cX12_see 62 = .ok (.iload 4, 2) := by decide +kernel
theorem dX12_see_64 : decode cX12_see 64 = .ok (.iaload, 1) := by decide +kernel
theorem dX12_see_65 : decode cX12_see 65 = .ok (.imul, 1) := by decide +kernel
theorem dX12_see_66 : decode cX12_see 66 = .ok (.aload_n 0, 1) := by decide +kernel
theorem dX12_see_67 : decode cX12_see 67 = .ok (.getfield 7, 3) := by decide +kernel
theorem dX12_see_70 : decode cX12_see 70 = .ok (.iload 4, 2) := by decide +kernel
theorem dX12_see_72 : decode cX12_see 72 = .ok (.iconst 1, 1) := by decide +kernel
theorem dX12_see_73 : decode cX12_see 73 = .ok (.iadd, 1) := by decide +kernel
theorem dX12_see_74 : decode cX12_see 74 = .ok (.iaload, 1) := by decide +kernel
theorem dX12_see_75 : decode cX12_see 75 = .ok (.iadd, 1) := by decide +kernel
theorem dX12_see_76 : decode cX12_see 76 = .ok (.invokestatic 387, 3) := by decide +kernel
theorem dX12_see_79 : decode cX12_see 79 = .ok (.ifCond .eq 20, 3) := by decide +kernel
theorem dX12_see_82 : decode cX12_see 82 = .ok (.aload_n 0, 1) := by decide +kernel
theorem dX12_see_83 : decode cX12_see 83 = .ok (.getfield 7, 3) := by decide +kernel
theorem dX12_see_86 : decode cX12_see 86 = .ok (.iload 4, 2) := by decide +kernel
theorem dX12_see_88 : decode cX12_see 88 = .ok (.iconst 2, 1) := by decide +kernel
theorem dX12_see_89 : decode cX12_see 89 = .ok (.iadd, 1) := by decide +kernel
theorem dX12_see_90 : decode cX12_see 90 = .ok (.iaload, 1) := by decide +kernel
theorem dX12_see_91 : decode cX12_see 91 = .ok (.iconst 1, 1) := by decide +kernel
theorem dX12_see_92 : decode cX12_see 92 = .ok (.if_icmp .gt 7, 3) := by decide +kernel
theorem dX12_see_95 : decode cX12_see 95 = .ok (.iconst 1, 1) := by decide +kernel
theorem dX12_see_96 : decode cX12_see 96 = .ok (.goto 4, 3) := by decide +kernel
theorem dX12_see_99 : decode cX12_see 99 = .ok (.iconst 0, 1) := by decide +kernel
theorem dX12_see_100 : decode cX12_see 100 = .ok (.istore_n 3, 1) := by decide +kernel
theorem dX12_see_101 : decode cX12_see 101 = .ok (.iinc 4 3, 3) := by decide +kernel
theorem dX12_see_104 : decode cX12_see 104 = .ok (.goto (-59), 3) := by decide +kernel
theorem dX12_see_107 : decode cX12_see 107 = .ok (.iload_n 3, 1) := by decide +kernel
theorem dX12_see_108 : decode cX12_see 108 = .ok (.ifCond .ne 9, 3) := by decide +kernel
theorem dX12_see_111 : decode cX12_see 111 = .ok (.aload_n 0, 1) := by decide +kernel
theorem dX12_see_112 : decode cX12_see 112 = .ok (.iconst 1, 1) := by decide +kernel
theorem dX12_see_113 : decode cX12_see 113 = .ok (.invokevirtual 100, 3) := by decide +kernel
theorem dX12_see_116 : decode cX12_see 116 = .ok (.ireturn, 1) := by decide +kernel
theorem dX12_see_117 : decode cX12_see 117 = .ok (.aload_n 0, 1) := by decide +kernel
theorem dX12_see_118 : decode cX12_see 118 = .ok (.iload_n 2, 1) := by decide +kernel
theorem dX12_see_119 : decode cX12_see 119 = .ok (.iconst 3, 1) := by decide +kernel
theorem dX12_see_120 : decode cX12_see 120 = .ok (.idiv, 1) := by decide +kernel
theorem dX12_see_121 : decode cX12_see 121 = .ok (.putfield 307, 3) := by decide +kernel
theorem dX12_see_124 : decode cX12_see 124 = .ok (.aload_n 0, 1) := by decide +kernel
theorem dX12_see_125 : decode cX12_see 125 = .ok (.iload_n 1, 1) := by decide +kernel
theorem dX12_see_126 : decode cX12_see 126 = .ok (.putfield 455, 3) := by decide +kernel
theorem dX12_see_129 : decode cX12_see 129 = .ok (.iconst 0, 1) := by decide +kernel
theorem dX12_see_130 : decode cX12_see 130 = .ok (.istore 4, 2) := by decide +kernel
theorem dX12_see_132 : decode cX12_see 132 = .ok (.iload 4, 2) := by decide +kernel
theorem dX12_see_134 : decode cX12_see 134 = .ok (.aload_n 0, 1) := by decide +kernel
theorem dX12_see_135 : decode cX12_see 135 = .ok (.getfield 307, 3) := by decide +kernel
theorem dX12_see_138 : decode cX12_see 138 = .ok (.if_icmp .ge 68, 3) := by decide +kernel
theorem dX12_see_141 : decode cX12_see 141 = .ok (.aload_n 0, 1) := by decide +kernel
theorem dX12_see_142 : decode cX12_see 142 = .ok (.getfield 75, 3) := by decide +kernel
theorem dX12_see_145 : decode cX12_see 145 = .ok (.iload 4, 2) := by decide +kernel
theorem dX12_see_147 : decode cX12_see 147 = .ok (.sipush 256, 3) := by decide +kernel
theorem dX12_see_150 : decode cX12_see 150 = .ok (.aload_n 0, 1) := by decide +kernel
theorem dX12_see_151 : decode cX12_see 151 = .ok (.getfield 7, 3) := by decide +kernel
theorem dX12_see_154 : decode cX12_see 154 = .ok (.iconst 3, 1) := by decide +kernel
theorem dX12_see_155 : decode cX12_see 155 = .ok (.iload 4, 2) := by decide +kernel
theorem dX12_see_157 : decode cX12_see 157 = .ok (.imul, 1) := by decide +kernel
theorem dX12_see_158 : decode cX12_see 158 = .ok (.iaload, 1) := by decide +kernel
theorem dX12_see_159 : decode cX12_see 159 = .ok (.imul, 1) := by decide +kernel
theorem dX12_see_160 : decode cX12_see 160 = .ok (.aload_n 0, 1) := by decide +kernel
theorem dX12_see_161 : decode cX12_see 161 = .ok (.getfield 7, 3) := by decide +kernel
theorem dX12_see_164 : decode cX12_see 164 = .ok (.iconst 3, 1) := by decide +kernel
theorem dX12_see_165 : decode cX12_see 165 = .ok (.iload 4, 2) := by decide +kernel
theorem dX12_see_167 : decode cX12_see 167 = .ok (.imul, 1) := by decide +kernel
theorem dX12_see_168 : decode cX12_see 168 = .ok (.iconst 1, 1) := by decide +kernel
theorem dX12_see_169 : decode cX12_see 169 = .ok (.iadd, 1) := by decide +kernel
theorem dX12_see_170 : decode cX12_see 170 = .ok (.iaload, 1) := by decide +kernel
theorem dX12_see_171 : decode cX12_see 171 = .ok (.iadd, 1) := by decide +kernel
theorem dX12_see_172 : decode cX12_see 172 = .ok (.iastore, 1) := by decide +kernel
theorem dX12_see_173 : decode cX12_see 173 = .ok (.aload_n 0, 1) := by decide +kernel
theorem dX12_see_174 : decode cX12_see 174 = .ok (.getfield 78, 3) := by decide +kernel
theorem dX12_see_177 : decode cX12_see 177 = .ok (.iload 4, 2) := by decide +kernel
theorem dX12_see_179 : decode cX12_see 179 = .ok (.aload_n 0, 1) := by decide +kernel
theorem dX12_see_180 : decode cX12_see 180 = .ok (.getfield 7, 3) := by decide +kernel
theorem dX12_see_183 : decode cX12_see 183 = .ok (.iconst 3, 1) := by decide +kernel
theorem dX12_see_184 : decode cX12_see 184 = .ok (.iload 4, 2) := by decide +kernel
theorem dX12_see_186 : decode cX12_see 186 = .ok (.imul, 1) := by decide +kernel
theorem dX12_see_187 : decode cX12_see 187 = .ok (.iconst 2, 1) := by decide +kernel
theorem dX12_see_188 : decode cX12_see 188 = .ok (.iadd, 1) := by decide +kernel
theorem dX12_see_189 : decode cX12_see 189 = .ok (.iaload, 1) := by decide +kernel
theorem dX12_see_190 : decode cX12_see 190 = .ok (.iconst 1, 1) := by decide +kernel
theorem dX12_see_191 : decode cX12_see 191 = .ok (.if_icmp .ne 7, 3) := by decide +kernel
theorem dX12_see_194 : decode cX12_see 194 = .ok (.iconst 1, 1) := by decide +kernel
theorem dX12_see_195 : decode cX12_see 195 = .ok (.goto 4, 3) := by decide +kernel
theorem dX12_see_198 : decode cX12_see 198 = .ok (.iconst 0, 1) := by decide +kernel
theorem dX12_see_199 : decode cX12_see 199 = .ok (.bastore, 1) := by decide +kernel
theorem dX12_see_200 : decode cX12_see 200 = .ok (.iinc 4 1, 3) := by decide +kernel
theorem dX12_see_203 : decode cX12_see 203 = .ok (.goto (-71), 3) := by decide +kernel
theorem dX12_see_206 : decode cX12_see 206 = .ok (.aload_n 0, 1) := by decide +kernel
theorem dX12_see_207 : decode cX12_see 207 = .ok (.getfield 307, 3) := by decide +kernel
theorem dX12_see_210 : decode cX12_see 210 = .ok (.ireturn, 1) := by decide +kernel
theorem dX12_laysFits_0 : decode cX12_laysFits 0 = .ok (.iconst 0, 1) := by decide +kernel
theorem dX12_laysFits_1 : decode cX12_laysFits 1 = .ok (.istore_n 1, 1) := by decide +kernel
theorem dX12_laysFits_2 : decode cX12_laysFits 2 = .ok (.aload_n 0, 1) := by decide +kernel
theorem dX12_laysFits_3 : decode cX12_laysFits 3 = .ok (.getfield 24, 3) := by decide +kernel
theorem dX12_laysFits_6 : decode cX12_laysFits 6 = .ok (.aload_n 0, 1) := by decide +kernel
theorem dX12_laysFits_7 : decode cX12_laysFits 7 = .ok (.getfield 75, 3) := by decide +kernel
theorem dX12_laysFits_10 : decode cX12_laysFits 10 = .ok (.iconst 0, 1) := by decide +kernel
theorem dX12_laysFits_11 : decode cX12_laysFits 11 = .ok (.iaload, 1) := by decide +kernel
theorem dX12_laysFits_12 : decode cX12_laysFits 12 = .ok (.iaload, 1) := by decide +kernel
theorem dX12_laysFits_13 : decode cX12_laysFits 13 = .ok (.istore_n 2, 1) := by decide +kernel
theorem dX12_laysFits_14 : decode cX12_laysFits 14 = .ok (.iconst 0, 1) := by decide +kernel
theorem dX12_laysFits_15 : decode cX12_laysFits 15 = .ok (.istore_n 3, 1) := by decide +kernel
theorem dX12_laysFits_16 : decode cX12_laysFits 16 = .ok (.iload_n 3, 1) := by decide +kernel
theorem dX12_laysFits_17 : decode cX12_laysFits 17 = .ok (.sipush 366, 3) := by decide +kernel
theorem dX12_laysFits_20 : decode cX12_laysFits 20 = .ok (.if_icmp .ge 16, 3) := by decide +kernel
theorem dX12_laysFits_23 : decode cX12_laysFits 23 = .ok (.aload_n 0, 1) := by decide +kernel
theorem dX12_laysFits_24 : decode cX12_laysFits 24 = .ok (.getfield 87, 3) := by decide +kernel
theorem dX12_laysFits_27 : decode cX12_laysFits 27 = .ok (.iload_n 3, 1) := by decide +kernel
theorem dX12_laysFits_28 : decode cX12_laysFits 28 = .ok (.iconst 0, 1) := by decide +kernel
theorem dX12_laysFits_29 : decode cX12_laysFits 29 = .ok (.iastore, 1) := by decide +kernel
theorem dX12_laysFits_30 : decode cX12_laysFits 30 = .ok (.iinc 3 1, 3) := by decide +kernel
theorem dX12_laysFits_33 : decode cX12_laysFits 33 = .ok (.goto (-17), 3) := by decide +kernel
theorem dX12_laysFits_36 : decode cX12_laysFits 36 = .ok (.aload_n 0, 1) := by decide +kernel
theorem dX12_laysFits_37 : decode cX12_laysFits 37 = .ok (.aload_n 0, 1) := by decide +kernel
theorem dX12_laysFits_38 : decode cX12_laysFits 38 = .ok (.getfield 455, 3) := by decide +kernel
theorem dX12_laysFits_41 : decode cX12_laysFits 41 = .ok (.invokevirtual 412, 3) := by decide +kernel
theorem dX12_laysFits_44 : decode cX12_laysFits 44 = .ok (.iconst 1, 1) := by decide +kernel
theorem dX12_laysFits_45 : decode cX12_laysFits 45 = .ok (.istore_n 3, 1) := by decide +kernel
theorem dX12_laysFits_46 : decode cX12_laysFits 46 = .ok (.iload_n 3, 1) := by decide +kernel
theorem dX12_laysFits_47 : decode cX12_laysFits 47 = .ok (.bipush 60, 2) := by decide +kernel
theorem dX12_laysFits_49 : decode cX12_laysFits 49 = .ok (.if_icmp .gt 153, 3) := by decide +kernel
theorem dX12_laysFits_52 : decode cX12_laysFits 52 = .ok (.aload_n 0, 1) := by decide +kernel
theorem dX12_laysFits_53 : decode cX12_laysFits 53 = .ok (.aload_n 0, 1) := by decide +kernel
theorem dX12_laysFits_54 : decode cX12_laysFits 54 = .ok (.getfield 455, 3) := by decide +kernel
theorem dX12_laysFits_57 : decode cX12_laysFits 57 = .ok (.iload_n 3, 1) := by decide +kernel
theorem dX12_laysFits_58 : decode cX12_laysFits 58 = .ok (.aload_n 0, 1) := by decide +kernel
theorem dX12_laysFits_59 : decode cX12_laysFits 59 = .ok (.getfield 84, 3) := by decide +kernel
theorem dX12_laysFits_62 : decode cX12_laysFits 62 = .ok (.iconst 0, 1) := by decide +kernel
theorem dX12_laysFits_63 : decode cX12_laysFits 63 = .ok (.invokevirtual 415, 3) := by decide +kernel
theorem dX12_laysFits_66 : decode cX12_laysFits 66 = .ok (.aload_n 0, 1) := by decide +kernel
theorem dX12_laysFits_67 : decode cX12_laysFits 67 = .ok (.getfield 81, 3) := by decide +kernel
theorem dX12_laysFits_70 : decode cX12_laysFits 70 = .ok (.iload_n 3, 1) := by decide +kernel
theorem dX12_laysFits_71 : decode cX12_laysFits 71 = .ok (.iconst 1, 1) := by decide +kernel
theorem dX12_laysFits_72 : decode cX12_laysFits 72 = .ok (.bastore, 1) := by decide +kernel
theorem dX12_laysFits_73 : decode cX12_laysFits 73 = .ok (.iconst 0, 1) := by decide +kernel
theorem dX12_laysFits_74 : decode cX12_laysFits 74 = .ok (.istore 4, 2) := by decide +kernel
theorem dX12_laysFits_76 : decode cX12_laysFits 76 = .ok (.iload 4, 2) := by decide +kernel
theorem dX12_laysFits_78 : decode cX12_laysFits 78 = .ok (.aload_n 0, 1) := by decide +kernel
theorem dX12_laysFits_79 : decode cX12_laysFits 79 = .ok (.getfield 307, 3) := by decide +kernel
theorem dX12_laysFits_82 : decode cX12_laysFits 82 = .ok (.if_icmp .ge 38, 3) := by decide +kernel
theorem dX12_laysFits_85 : decode cX12_laysFits 85 = .ok (.aload_n 0, 1) := by decide +kernel
theorem dX12_laysFits_86 : decode cX12_laysFits 86 = .ok (.getfield 84, 3) := by decide +kernel
theorem dX12_laysFits_89 : decode cX12_laysFits 89 = .ok (.aload_n 0, 1) := by decide +kernel
theorem dX12_laysFits_90 : decode cX12_laysFits 90 = .ok (.getfield 75, 3) := by decide +kernel
theorem dX12_laysFits_93 : decode cX12_laysFits 93 = .ok (.iload 4, 2) := by decide +kernel
theorem dX12_laysFits_95 : decode cX12_laysFits 95 = .ok (.iaload, 1) := by decide +kernel
theorem dX12_laysFits_96 : decode cX12_laysFits 96 = .ok (.baload, 1) := by decide +kernel
theorem dX12_laysFits_97 : decode cX12_laysFits 97 = .ok (.aload_n 0, 1) := by decide +kernel
theorem dX12_laysFits_98 : decode cX12_laysFits 98 = .ok (.getfield 78, 3) := by decide +kernel
theorem dX12_laysFits_101 : decode cX12_laysFits 101 = .ok (.iload 4, 2) := by decide +kernel
theorem dX12_laysFits_103 : decode cX12_laysFits 103 = .ok (.baload, 1) := by decide +kernel
theorem dX12_laysFits_104 : decode cX12_laysFits 104 = .ok (.if_icmp .eq 10, 3) := by decide +kernel
theorem dX12_laysFits_107 : decode cX12_laysFits 107 = .ok (.aload_n 0, 1) := by decide +kernel
theorem dX12_laysFits_108 : decode cX12_laysFits 108 = .ok (.getfield 81, 3) := by decide +kernel
theorem dX12_laysFits_111 : decode cX12_laysFits 111 = .ok (.iload_n 3, 1) := by decide +kernel
theorem dX12_laysFits_112 : decode cX12_laysFits 112 = .ok (.iconst 0, 1) := by decide +kernel
theorem dX12_laysFits_113 : decode cX12_laysFits 113 = .ok (.bastore, 1) := by decide +kernel
theorem dX12_laysFits_114 : decode cX12_laysFits 114 = .ok (.iinc 4 1, 3) := by decide +kernel
theorem dX12_laysFits_117 : decode cX12_laysFits 117 = .ok (.goto (-41), 3) := by decide +kernel
theorem dX12_laysFits_120 : decode cX12_laysFits 120 = .ok (.iload_n 1, 1) := by decide +kernel
theorem dX12_laysFits_121 : decode cX12_laysFits 121 = .ok (.aload_n 0, 1) := by decide +kernel
theorem dX12_laysFits_122 : decode cX12_laysFits 122 = .ok (.getfield 81, 3) := by decide +kernel
theorem dX12_laysFits_125 : decode cX12_laysFits 125 = .ok (.iload_n 3, 1) := by decide +kernel
theorem dX12_laysFits_126 : decode cX12_laysFits 126 = .ok (.baload, 1) := by decide +kernel
theorem dX12_laysFits_127 : decode cX12_laysFits 127 = .ok (.invokestatic 370, 3) := by decide +kernel
theorem dX12_laysFits_130 : decode cX12_laysFits 130 = .ok (.iadd, 1) := by decide +kernel
theorem dX12_laysFits_131 : decode cX12_laysFits 131 = .ok (.istore_n 1, 1) := by decide +kernel
theorem dX12_laysFits_132 : decode cX12_laysFits 132 = .ok (.iconst 0, 1) := by decide +kernel
theorem dX12_laysFits_133 : decode cX12_laysFits 133 = .ok (.istore 4, 2) := by decide +kernel
theorem dX12_laysFits_135 : decode cX12_laysFits 135 = .ok (.iload 4, 2) := by decide +kernel
theorem dX12_laysFits_137 : decode cX12_laysFits 137 = .ok (.sipush 14610, 3) := by decide +kernel
theorem dX12_laysFits_140 : decode cX12_laysFits 140 = .ok (.if_icmp .ge 56, 3) := by decide +kernel
theorem dX12_laysFits_143 : decode cX12_laysFits 143 = .ok (.aload_n 0, 1) := by decide +kernel
theorem dX12_laysFits_144 : decode cX12_laysFits 144 = .ok (.getfield 81, 3) := by decide +kernel
theorem dX12_laysFits_147 : decode cX12_laysFits 147 = .ok (.iload_n 3, 1) := by decide +kernel
theorem dX12_laysFits_148 : decode cX12_laysFits 148 = .ok (.baload, 1) := by decide +kernel
theorem dX12_laysFits_149 : decode cX12_laysFits 149 = .ok (.ifCond .eq 47, 3) := by decide +kernel
theorem dX12_laysFits_152 : decode cX12_laysFits 152 = .ok (.aload_n 0, 1) := by decide +kernel
theorem dX12_laysFits_153 : decode cX12_laysFits 153 = .ok (.getfield 24, 3) := by decide +kernel
theorem dX12_laysFits_156 : decode cX12_laysFits 156 = .ok (.iload 4, 2) := by decide +kernel
theorem dX12_laysFits_158 : decode cX12_laysFits 158 = .ok (.iaload, 1) := by decide +kernel
theorem dX12_laysFits_159 : decode cX12_laysFits 159 = .ok (.iload_n 2, 1) := by decide +kernel
theorem dX12_laysFits_160 : decode cX12_laysFits 160 = .ok (.if_icmp .ne 30, 3) := by decide +kernel
theorem dX12_laysFits_163 : decode cX12_laysFits 163 = .ok (.aload_n 0, 1) := by decide +kernel
theorem dX12_laysFits_164 : decode cX12_laysFits 164 = .ok (.getfield 87, 3) := by decide +kernel
theorem dX12_laysFits_167 : decode cX12_laysFits 167 = .ok (.aload_n 0, 1) := by decide +kernel
theorem dX12_laysFits_168 : decode cX12_laysFits 168 = .ok (.getfield 33, 3) := by decide +kernel
theorem dX12_laysFits_171 : decode cX12_laysFits 171 = .ok (.iload 4, 2) := by decide +kernel
theorem dX12_laysFits_173 : decode cX12_laysFits 173 = .ok (.iaload, 1) := by decide +kernel
theorem dX12_laysFits_174 : decode cX12_laysFits 174 = .ok (.iconst 1, 1) := by decide +kernel
theorem dX12_laysFits_175 : decode cX12_laysFits 175 = .ok (.isub, 1) := by decide +kernel
theorem dX12_laysFits_176 : decode cX12_laysFits 176 = .ok (.dup2, 1) := by decide +kernel
theorem dX12_laysFits_177 : decode cX12_laysFits 177 = .ok (.iaload, 1) := by decide +kernel
theorem dX12_laysFits_178 : decode cX12_laysFits 178 = .ok (.aload_n 0, 1) := by decide +kernel
theorem dX12_laysFits_179 : decode cX12_laysFits 179 = .ok (.getfield 84, 3) := by decide +kernel
theorem dX12_laysFits_182 : decode cX12_laysFits 182 = .ok (.iload 4, 2) := by decide +kernel
theorem dX12_laysFits_184 : decode cX12_laysFits 184 = .ok (.baload, 1) := by decide +kernel
theorem dX12_laysFits_185 : decode cX12_laysFits 185 = .ok (.invokestatic 370, 3) := by decide +kernel
theorem dX12_laysFits_188 : decode cX12_laysFits 188 = .ok (.iadd, 1) := by decide +kernel
theorem dX12_laysFits_189 : decode cX12_laysFits 189 = .ok (.iastore, 1) := by decide +kernel
theorem dX12_laysFits_190 : decode cX12_laysFits 190 = .ok (.iinc 4 1, 3) := by decide +kernel
theorem dX12_laysFits_193 : decode cX12_laysFits 193 = .ok (.goto (-58), 3) := by decide +kernel
theorem dX12_laysFits_196 : decode cX12_laysFits 196 = .ok (.iinc 3 1, 3) := by decide +kernel
theorem dX12_laysFits_199 : decode cX12_laysFits 199 = .ok (.goto (-153), 3) := by decide +kernel
theorem dX12_laysFits_202 : decode cX12_laysFits 202 = .ok (.iload_n 1, 1) := by decide +kernel
theorem dX12_laysFits_203 : decode cX12_laysFits 203 = .ok (.ireturn, 1) := by decide +kernel
theorem dX12_fits_0 : decode cX12_fits 0 = .ok (.aload_n 0, 1) := by decide +kernel
theorem dX12_fits_1 : decode cX12_fits 1 = .ok (.getfield 307, 3) := by decide +kernel
theorem dX12_fits_4 : decode cX12_fits 4 = .ok (.ifCond .eq 8, 3) := by decide +kernel
theorem dX12_fits_7 : decode cX12_fits 7 = .ok (.iload_n 1, 1) := by decide +kernel
theorem dX12_fits_8 : decode cX12_fits 8 = .ok (.iconst (-1), 1) := by decide +kernel
theorem dX12_fits_9 : decode cX12_fits 9 = .ok (.if_icmp .ge 5, 3) := by decide +kernel
theorem dX12_fits_12 : decode cX12_fits 12 = .ok (.iconst (-1), 1) := by decide +kernel
theorem dX12_fits_13 : decode cX12_fits 13 = .ok (.ireturn, 1) := by decide +kernel
theorem dX12_fits_14 : decode cX12_fits 14 = .ok (.aload_n 0, 1) := by decide +kernel
theorem dX12_fits_15 : decode cX12_fits 15 = .ok (.invokevirtual 458, 3) := by decide +kernel
theorem dX12_fits_18 : decode cX12_fits 18 = .ok (.istore_n 2, 1) := by decide +kernel
theorem dX12_fits_19 : decode cX12_fits 19 = .ok (.iload_n 1, 1) := by decide +kernel
theorem dX12_fits_20 : decode cX12_fits 20 = .ok (.iconst (-1), 1) := by decide +kernel
theorem dX12_fits_21 : decode cX12_fits 21 = .ok (.if_icmp .ne 5, 3) := by decide +kernel
theorem dX12_fits_24 : decode cX12_fits 24 = .ok (.iload_n 2, 1) := by decide +kernel
theorem dX12_fits_25 : decode cX12_fits 25 = .ok (.ireturn, 1) := by decide +kernel
theorem dX12_fits_26 : decode cX12_fits 26 = .ok (.iload_n 1, 1) := by decide +kernel
theorem dX12_fits_27 : decode cX12_fits 27 = .ok (.istore_n 3, 1) := by decide +kernel
theorem dX12_fits_28 : decode cX12_fits 28 = .ok (.iconst 1, 1) := by decide +kernel
theorem dX12_fits_29 : decode cX12_fits 29 = .ok (.istore 4, 2) := by decide +kernel
theorem dX12_fits_31 : decode cX12_fits 31 = .ok (.iload 4, 2) := by decide +kernel
theorem dX12_fits_33 : decode cX12_fits 33 = .ok (.bipush 60, 2) := by decide +kernel
theorem dX12_fits_35 : decode cX12_fits 35 = .ok (.if_icmp .gt 32, 3) := by decide +kernel
theorem dX12_fits_38 : decode cX12_fits 38 = .ok (.aload_n 0, 1) := by decide +kernel
theorem dX12_fits_39 : decode cX12_fits 39 = .ok (.getfield 81, 3) := by decide +kernel
theorem dX12_fits_42 : decode cX12_fits 42 = .ok (.iload 4, 2) := by decide +kernel
theorem dX12_fits_44 : decode cX12_fits 44 = .ok (.baload, 1) := by decide +kernel
theorem dX12_fits_45 : decode cX12_fits 45 = .ok (.ifCond .ne 6, 3) := by decide +kernel
theorem dX12_fits_48 : decode cX12_fits 48 = .ok (.goto 13, 3) := by decide +kernel
theorem dX12_fits_51 : decode cX12_fits 51 = .ok (.iload_n 3, 1) := by decide +kernel
theorem dX12_fits_52 : decode cX12_fits 52 = .ok (.ifCond .ne 6, 3) := by decide +kernel
theorem dX12_fits_55 : decode cX12_fits 55 = .ok (.iload 4, 2) := by decide +kernel
theorem dX12_fits_57 : decode cX12_fits 57 = .ok (.ireturn, 1) := by decide +kernel
theorem dX12_fits_58 : decode cX12_fits 58 = .ok (.iinc 3 (-1), 3) := by decide +kernel
theorem dX12_fits_61 : decode cX12_fits 61 = .ok (.iinc 4 1, 3) := by decide +kernel
theorem dX12_fits_64 : decode cX12_fits 64 = .ok (.goto (-33), 3) := by decide +kernel
theorem dX12_fits_67 : decode cX12_fits 67 = .ok (.iconst (-1), 1) := by decide +kernel
theorem dX12_fits_68 : decode cX12_fits 68 = .ok (.ireturn, 1) := by decide +kernel
theorem dX12_tells_0 : decode cX12_tells 0 = .ok (.aload_n 0, 1) := by decide +kernel
theorem dX12_tells_1 : decode cX12_tells 1 = .ok (.getfield 307, 3) := by decide +kernel
theorem dX12_tells_4 : decode cX12_tells 4 = .ok (.ifCond .eq 13, 3) := by decide +kernel
theorem dX12_tells_7 : decode cX12_tells 7 = .ok (.iload_n 1, 1) := by decide +kernel
theorem dX12_tells_8 : decode cX12_tells 8 = .ok (.i2l, 1) := by decide +kernel
theorem dX12_tells_9 : decode cX12_tells 9 = .ok (.lconst 0, 1) := by decide +kernel
theorem dX12_tells_10 : decode cX12_tells 10 = .ok (.lconst 1, 1) := by decide +kernel
theorem dX12_tells_11 : decode cX12_tells 11 = .ok (.invokestatic 110, 3) := by decide +kernel
theorem dX12_tells_14 : decode cX12_tells 14 = .ok (.ifCond .ne 5, 3) := by decide +kernel
theorem dX12_tells_17 : decode cX12_tells 17 = .ok (.iconst (-1), 1) := by decide +kernel
theorem dX12_tells_18 : decode cX12_tells 18 = .ok (.ireturn, 1) := by decide +kernel
theorem dX12_tells_19 : decode cX12_tells 19 = .ok (.aload_n 0, 1) := by decide +kernel
theorem dX12_tells_20 : decode cX12_tells 20 = .ok (.invokevirtual 458, 3) := by decide +kernel
theorem dX12_tells_23 : decode cX12_tells 23 = .ok (.istore_n 2, 1) := by decide +kernel
theorem dX12_tells_24 : decode cX12_tells 24 = .ok (.iload_n 2, 1) := by decide +kernel
theorem dX12_tells_25 : decode cX12_tells 25 = .ok (.ifCond .ne 5, 3) := by decide +kernel
theorem dX12_tells_28 : decode cX12_tells 28 = .ok (.iconst (-1), 1) := by decide +kernel
theorem dX12_tells_29 : decode cX12_tells 29 = .ok (.ireturn, 1) := by decide +kernel
theorem dX12_tells_30 : decode cX12_tells 30 = .ok (.iconst (-1), 1) := by decide +kernel
theorem dX12_tells_31 : decode cX12_tells 31 = .ok (.istore_n 3, 1) := by decide +kernel
theorem dX12_tells_32 : decode cX12_tells 32 = .ok (.iconst 0, 1) := by decide +kernel
theorem dX12_tells_33 : decode cX12_tells 33 = .ok (.istore 4, 2) := by decide +kernel
theorem dX12_tells_35 : decode cX12_tells 35 = .ok (.iconst 0, 1) := by decide +kernel
theorem dX12_tells_36 : decode cX12_tells 36 = .ok (.istore 5, 2) := by decide +kernel
theorem dX12_tells_38 : decode cX12_tells 38 = .ok (.iload 5, 2) := by decide +kernel
theorem dX12_tells_40 : decode cX12_tells 40 = .ok (.sipush 14610, 3) := by decide +kernel
theorem dX12_tells_43 : decode cX12_tells 43 = .ok (.if_icmp .ge 88, 3) := by decide +kernel
theorem dX12_tells_46 : decode cX12_tells 46 = .ok (.aload_n 0, 1) := by decide +kernel
theorem dX12_tells_47 : decode cX12_tells 47 = .ok (.getfield 24, 3) := by decide +kernel
theorem dX12_tells_50 : decode cX12_tells 50 = .ok (.iload 5, 2) := by decide +kernel
theorem dX12_tells_52 : decode cX12_tells 52 = .ok (.iaload, 1) := by decide +kernel
theorem dX12_tells_53 : decode cX12_tells 53 = .ok (.aload_n 0, 1) := by decide +kernel
theorem dX12_tells_54 : decode cX12_tells 54 = .ok (.getfield 24, 3) := by decide +kernel
theorem dX12_tells_57 : decode cX12_tells 57 = .ok (.aload_n 0, 1) := by decide +kernel
theorem dX12_tells_58 : decode cX12_tells 58 = .ok (.getfield 75, 3) := by decide +kernel
theorem dX12_tells_61 : decode cX12_tells 61 = .ok (.iconst 0, 1) := by decide +kernel
theorem dX12_tells_62 : decode cX12_tells 62 = .ok (.iaload, 1) := by decide +kernel
theorem dX12_tells_63 : decode cX12_tells 63 = .ok (.iaload, 1) := by decide +kernel
theorem dX12_tells_64 : decode cX12_tells 64 = .ok (.if_icmp .ne 61, 3) := by decide +kernel
theorem dX12_tells_67 : decode cX12_tells 67 = .ok (.aload_n 0, 1) := by decide +kernel
theorem dX12_tells_68 : decode cX12_tells 68 = .ok (.getfield 87, 3) := by decide +kernel
theorem dX12_tells_71 : decode cX12_tells 71 = .ok (.aload_n 0, 1) := by decide +kernel
theorem dX12_tells_72 : decode cX12_tells 72 = .ok (.getfield 33, 3) := by decide +kernel
theorem dX12_tells_75 : decode cX12_tells 75 = .ok (.iload 5, 2) := by decide +kernel
theorem dX12_tells_77 : decode cX12_tells 77 = .ok (.iaload, 1) := by decide +kernel
theorem dX12_tells_78 : decode cX12_tells 78 = .ok (.iconst 1, 1) := by decide +kernel
theorem dX12_tells_79 : decode cX12_tells 79 = .ok (.isub, 1) := by decide +kernel
theorem dX12_tells_80 : decode cX12_tells 80 = .ok (.iaload, 1) := by decide +kernel
theorem dX12_tells_81 : decode cX12_tells 81 = .ok (.istore 6, 2) := by decide +kernel
theorem dX12_tells_83 : decode cX12_tells 83 = .ok (.iload 6, 2) := by decide +kernel
theorem dX12_tells_85 : decode cX12_tells 85 = .ok (.iload_n 2, 1) := by decide +kernel
theorem dX12_tells_86 : decode cX12_tells 86 = .ok (.iload 6, 2) := by decide +kernel
theorem dX12_tells_88 : decode cX12_tells 88 = .ok (.isub, 1) := by decide +kernel
theorem dX12_tells_89 : decode cX12_tells 89 = .ok (.if_icmp .le 8, 3) := by decide +kernel
theorem dX12_tells_92 : decode cX12_tells 92 = .ok (.iload 6, 2) := by decide +kernel
theorem dX12_tells_94 : decode cX12_tells 94 = .ok (.goto 7, 3) := by decide +kernel
theorem dX12_tells_97 : decode cX12_tells 97 = .ok (.iload_n 2, 1) := by decide +kernel
theorem dX12_tells_98 : decode cX12_tells 98 = .ok (.iload 6, 2) := by decide +kernel
theorem dX12_tells_100 : decode cX12_tells 100 = .ok (.isub, 1) := by decide +kernel
theorem dX12_tells_101 : decode cX12_tells 101 = .ok (.istore 7, 2) := by decide +kernel
theorem dX12_tells_103 : decode cX12_tells 103 = .ok (.iload_n 3, 1) := by decide +kernel
theorem dX12_tells_104 : decode cX12_tells 104 = .ok (.iconst (-1), 1) := by decide +kernel
theorem dX12_tells_105 : decode cX12_tells 105 = .ok (.if_icmp .eq 13, 3) := by decide +kernel
theorem dX12_tells_108 : decode cX12_tells 108 = .ok (.iload 7, 2) := by decide +kernel
theorem dX12_tells_110 : decode cX12_tells 110 = .ok (.iload 4, 2) := by decide +kernel
theorem dX12_tells_112 : decode cX12_tells 112 = .ok (.if_icmp .lt 6, 3) := by decide +kernel
theorem dX12_tells_115 : decode cX12_tells 115 = .ok (.goto 10, 3) := by decide +kernel
theorem dX12_tells_118 : decode cX12_tells 118 = .ok (.iload 5, 2) := by decide +kernel
theorem dX12_tells_120 : decode cX12_tells 120 = .ok (.istore_n 3, 1) := by decide +kernel
theorem dX12_tells_121 : decode cX12_tells 121 = .ok (.iload 7, 2) := by decide +kernel
theorem dX12_tells_123 : decode cX12_tells 123 = .ok (.istore 4, 2) := by decide +kernel
theorem dX12_tells_125 : decode cX12_tells 125 = .ok (.iinc 5 1, 3) := by decide +kernel
theorem dX12_tells_128 : decode cX12_tells 128 = .ok (.goto (-90), 3) := by decide +kernel
theorem dX12_tells_131 : decode cX12_tells 131 = .ok (.iload_n 1, 1) := by decide +kernel
theorem dX12_tells_132 : decode cX12_tells 132 = .ok (.ifCond .ne 7, 3) := by decide +kernel
theorem dX12_tells_135 : decode cX12_tells 135 = .ok (.iload_n 3, 1) := by decide +kernel
theorem dX12_tells_136 : decode cX12_tells 136 = .ok (.goto 5, 3) := by decide +kernel
theorem dX12_tells_139 : decode cX12_tells 139 = .ok (.iload 4, 2) := by decide +kernel
theorem dX12_tells_141 : decode cX12_tells 141 = .ok (.ireturn, 1) := by decide +kernel
theorem dX12_keeps_0 : decode cX12_keeps 0 = .ok (.aload_n 0, 1) := by decide +kernel
theorem dX12_keeps_1 : decode cX12_keeps 1 = .ok (.aload_n 0, 1) := by decide +kernel
theorem dX12_keeps_2 : decode cX12_keeps 2 = .ok (.getfield 461, 3) := by decide +kernel
theorem dX12_keeps_5 : decode cX12_keeps 5 = .ok (.iconst 1, 1) := by decide +kernel
theorem dX12_keeps_6 : decode cX12_keeps 6 = .ok (.iadd, 1) := by decide +kernel
theorem dX12_keeps_7 : decode cX12_keeps 7 = .ok (.bipush 20, 2) := by decide +kernel
theorem dX12_keeps_9 : decode cX12_keeps 9 = .ok (.irem, 1) := by decide +kernel
theorem dX12_keeps_10 : decode cX12_keeps 10 = .ok (.putfield 461, 3) := by decide +kernel
theorem dX12_keeps_13 : decode cX12_keeps 13 = .ok (.iconst 0, 1) := by decide +kernel
theorem dX12_keeps_14 : decode cX12_keeps 14 = .ok (.istore_n 1, 1) := by decide +kernel
theorem dX12_keeps_15 : decode cX12_keeps 15 = .ok (.iload_n 1, 1) := by decide +kernel
theorem dX12_keeps_16 : decode cX12_keeps 16 = .ok (.sipush 264, 3) := by decide +kernel
theorem dX12_keeps_19 : decode cX12_keeps 19 = .ok (.if_icmp .ge 30, 3) := by decide +kernel
theorem dX12_keeps_22 : decode cX12_keeps 22 = .ok (.aload_n 0, 1) := by decide +kernel
theorem dX12_keeps_23 : decode cX12_keeps 23 = .ok (.getfield 90, 3) := by decide +kernel
theorem dX12_keeps_26 : decode cX12_keeps 26 = .ok (.sipush 264, 3) := by decide +kernel
theorem dX12_keeps_29 : decode cX12_keeps 29 = .ok (.aload_n 0, 1) := by decide +kernel
theorem dX12_keeps_30 : decode cX12_keeps 30 = .ok (.getfield 461, 3) := by decide +kernel
theorem dX12_keeps_33 : decode cX12_keeps 33 = .ok (.imul, 1) := by decide +kernel
theorem dX12_keeps_34 : decode cX12_keeps 34 = .ok (.iload_n 1, 1) := by decide +kernel
theorem dX12_keeps_35 : decode cX12_keeps 35 = .ok (.iadd, 1) := by decide +kernel
theorem dX12_keeps_36 : decode cX12_keeps 36 = .ok (.aload_n 0, 1) := by decide +kernel
theorem dX12_keeps_37 : decode cX12_keeps 37 = .ok (.getfield 54, 3) := by decide +kernel
theorem dX12_keeps_40 : decode cX12_keeps 40 = .ok (.iload_n 1, 1) := by decide +kernel
theorem dX12_keeps_41 : decode cX12_keeps 41 = .ok (.iaload, 1) := by decide +kernel
theorem dX12_keeps_42 : decode cX12_keeps 42 = .ok (.iastore, 1) := by decide +kernel
theorem dX12_keeps_43 : decode cX12_keeps 43 = .ok (.iinc 1 1, 3) := by decide +kernel
theorem dX12_keeps_46 : decode cX12_keeps 46 = .ok (.goto (-31), 3) := by decide +kernel
theorem dX12_keeps_49 : decode cX12_keeps 49 = .ok (.aload_n 0, 1) := by decide +kernel
theorem dX12_keeps_50 : decode cX12_keeps 50 = .ok (.getfield 304, 3) := by decide +kernel
theorem dX12_keeps_53 : decode cX12_keeps 53 = .ok (.bipush 20, 2) := by decide +kernel
theorem dX12_keeps_55 : decode cX12_keeps 55 = .ok (.if_icmp .ge 13, 3) := by decide +kernel
theorem dX12_keeps_58 : decode cX12_keeps 58 = .ok (.aload_n 0, 1) := by decide +kernel
theorem dX12_keeps_59 : decode cX12_keeps 59 = .ok (.dup, 1) := by decide +kernel
theorem dX12_keeps_60 : decode cX12_keeps 60 = .ok (.getfield 304, 3) := by decide +kernel
theorem dX12_keeps_63 : decode cX12_keeps 63 = .ok (.iconst 1, 1) := by decide +kernel
theorem dX12_keeps_64 : decode cX12_keeps 64 = .ok (.iadd, 1) := by decide +kernel
theorem dX12_keeps_65 : decode cX12_keeps 65 = .ok (.putfield 304, 3) := by decide +kernel
theorem dX12_keeps_68 : decode cX12_keeps 68 = .ok (.return_, 1) := by decide +kernel
theorem dX12_undo_0 : decode cX12_undo 0 = .ok (.aload_n 0, 1) := by decide +kernel
theorem dX12_undo_1 : decode cX12_undo 1 = .ok (.getfield 304, 3) := by decide +kernel
theorem dX12_undo_4 : decode cX12_undo 4 = .ok (.ifCond .ne 9, 3) := by decide +kernel
theorem dX12_undo_7 : decode cX12_undo 7 = .ok (.aload_n 0, 1) := by decide +kernel
theorem dX12_undo_8 : decode cX12_undo 8 = .ok (.iconst 4, 1) := by decide +kernel
theorem dX12_undo_9 : decode cX12_undo 9 = .ok (.invokevirtual 104, 3) := by decide +kernel
theorem dX12_undo_12 : decode cX12_undo 12 = .ok (.ireturn, 1) := by decide +kernel
theorem dX12_undo_13 : decode cX12_undo 13 = .ok (.iconst 0, 1) := by decide +kernel
theorem dX12_undo_14 : decode cX12_undo 14 = .ok (.istore_n 1, 1) := by decide +kernel
theorem dX12_undo_15 : decode cX12_undo 15 = .ok (.iload_n 1, 1) := by decide +kernel
theorem dX12_undo_16 : decode cX12_undo 16 = .ok (.sipush 264, 3) := by decide +kernel
theorem dX12_undo_19 : decode cX12_undo 19 = .ok (.if_icmp .ge 30, 3) := by decide +kernel
theorem dX12_undo_22 : decode cX12_undo 22 = .ok (.aload_n 0, 1) := by decide +kernel
theorem dX12_undo_23 : decode cX12_undo 23 = .ok (.getfield 54, 3) := by decide +kernel
theorem dX12_undo_26 : decode cX12_undo 26 = .ok (.iload_n 1, 1) := by decide +kernel
theorem dX12_undo_27 : decode cX12_undo 27 = .ok (.aload_n 0, 1) := by decide +kernel
theorem dX12_undo_28 : decode cX12_undo 28 = .ok (.getfield 90, 3) := by decide +kernel
theorem dX12_undo_31 : decode cX12_undo 31 = .ok (.sipush 264, 3) := by decide +kernel
theorem dX12_undo_34 : decode cX12_undo 34 = .ok (.aload_n 0, 1) := by decide +kernel
theorem dX12_undo_35 : decode cX12_undo 35 = .ok (.getfield 461, 3) := by decide +kernel
theorem dX12_undo_38 : decode cX12_undo 38 = .ok (.imul, 1) := by decide +kernel
theorem dX12_undo_39 : decode cX12_undo 39 = .ok (.iload_n 1, 1) := by decide +kernel
theorem dX12_undo_40 : decode cX12_undo 40 = .ok (.iadd, 1) := by decide +kernel
theorem dX12_undo_41 : decode cX12_undo 41 = .ok (.iaload, 1) := by decide +kernel
theorem dX12_undo_42 : decode cX12_undo 42 = .ok (.iastore, 1) := by decide +kernel
theorem dX12_undo_43 : decode cX12_undo 43 = .ok (.iinc 1 1, 3) := by decide +kernel
theorem dX12_undo_46 : decode cX12_undo 46 = .ok (.goto (-31), 3) := by decide +kernel
theorem dX12_undo_49 : decode cX12_undo 49 = .ok (.aload_n 0, 1) := by decide +kernel
theorem dX12_undo_50 : decode cX12_undo 50 = .ok (.aload_n 0, 1) := by decide +kernel
theorem dX12_undo_51 : decode cX12_undo 51 = .ok (.getfield 461, 3) := by decide +kernel
theorem dX12_undo_54 : decode cX12_undo 54 = .ok (.bipush 20, 2) := by decide +kernel
theorem dX12_undo_56 : decode cX12_undo 56 = .ok (.iadd, 1) := by decide +kernel
theorem dX12_undo_57 : decode cX12_undo 57 = .ok (.iconst 1, 1) := by decide +kernel
theorem dX12_undo_58 : decode cX12_undo 58 = .ok (.isub, 1) := by decide +kernel
theorem dX12_undo_59 : decode cX12_undo 59 = .ok (.bipush 20, 2) := by decide +kernel
theorem dX12_undo_61 : decode cX12_undo 61 = .ok (.irem, 1) := by decide +kernel
theorem dX12_undo_62 : decode cX12_undo 62 = .ok (.putfield 461, 3) := by decide +kernel
theorem dX12_undo_65 : decode cX12_undo 65 = .ok (.aload_n 0, 1) := by decide +kernel
theorem dX12_undo_66 : decode cX12_undo 66 = .ok (.dup, 1) := by decide +kernel
theorem dX12_undo_67 : decode cX12_undo 67 = .ok (.getfield 304, 3) := by decide +kernel
theorem dX12_undo_70 : decode cX12_undo 70 = .ok (.iconst 1, 1) := by decide +kernel
theorem dX12_undo_71 : decode cX12_undo 71 = .ok (.isub, 1) := by decide +kernel
theorem dX12_undo_72 : decode cX12_undo 72 = .ok (.putfield 304, 3) := by decide +kernel
theorem dX12_undo_75 : decode cX12_undo 75 = .ok (.aload_n 0, 1) := by decide +kernel
theorem dX12_undo_76 : decode cX12_undo 76 = .ok (.invokevirtual 310, 3) := by decide +kernel
theorem dX12_undo_79 : decode cX12_undo 79 = .ok (.iconst 1, 1) := by decide +kernel
theorem dX12_undo_80 : decode cX12_undo 80 = .ok (.ireturn, 1) := by decide +kernel
theorem dX12_handOf_0 : decode cX12_handOf 0 = .ok (.iload_n 1, 1) := by decide +kernel
theorem dX12_handOf_1 : decode cX12_handOf 1 = .ok (.iload_n 2, 1) := by decide +kernel
theorem dX12_handOf_2 : decode cX12_handOf 2 = .ok (.invokestatic 408, 3) := by decide +kernel
theorem dX12_handOf_5 : decode cX12_handOf 5 = .ok (.istore 4, 2) := by decide +kernel
theorem dX12_handOf_7 : decode cX12_handOf 7 = .ok (.iconst 1, 1) := by decide +kernel
theorem dX12_handOf_8 : decode cX12_handOf 8 = .ok (.istore 5, 2) := by decide +kernel
theorem dX12_handOf_10 : decode cX12_handOf 10 = .ok (.iload 5, 2) := by decide +kernel
theorem dX12_handOf_12 : decode cX12_handOf 12 = .ok (.aload_n 0, 1) := by decide +kernel
theorem dX12_handOf_13 : decode cX12_handOf 13 = .ok (.getfield 54, 3) := by decide +kernel
theorem dX12_handOf_16 : decode cX12_handOf 16 = .ok (.iload 4, 2) := by decide +kernel
theorem dX12_handOf_18 : decode cX12_handOf 18 = .ok (.iaload, 1) := by decide +kernel
theorem dX12_handOf_19 : decode cX12_handOf 19 = .ok (.if_icmp .gt 26, 3) := by decide +kernel
theorem dX12_handOf_22 : decode cX12_handOf 22 = .ok (.aload_n 0, 1) := by decide +kernel
theorem dX12_handOf_23 : decode cX12_handOf 23 = .ok (.getfield 54, 3) := by decide +kernel
theorem dX12_handOf_26 : decode cX12_handOf 26 = .ok (.iload 4, 2) := by decide +kernel
theorem dX12_handOf_28 : decode cX12_handOf 28 = .ok (.iload 5, 2) := by decide +kernel
theorem dX12_handOf_30 : decode cX12_handOf 30 = .ok (.iadd, 1) := by decide +kernel
theorem dX12_handOf_31 : decode cX12_handOf 31 = .ok (.iaload, 1) := by decide +kernel
theorem dX12_handOf_32 : decode cX12_handOf 32 = .ok (.iload_n 3, 1) := by decide +kernel
theorem dX12_handOf_33 : decode cX12_handOf 33 = .ok (.if_icmp .ne 6, 3) := by decide +kernel
theorem dX12_handOf_36 : decode cX12_handOf 36 = .ok (.iload 5, 2) := by decide +kernel
theorem dX12_handOf_38 : decode cX12_handOf 38 = .ok (.ireturn, 1) := by decide +kernel
theorem dX12_handOf_39 : decode cX12_handOf 39 = .ok (.iinc 5 1, 3) := by decide +kernel
theorem dX12_handOf_42 : decode cX12_handOf 42 = .ok (.goto (-32), 3) := by decide +kernel
theorem dX12_handOf_45 : decode cX12_handOf 45 = .ok (.iconst (-1), 1) := by decide +kernel
theorem dX12_handOf_46 : decode cX12_handOf 46 = .ok (.ireturn, 1) := by decide +kernel
theorem dX12_canHand_0 : decode cX12_canHand 0 = .ok (.aload_n 0, 1) := by decide +kernel
theorem dX12_canHand_1 : decode cX12_canHand 1 = .ok (.iload_n 1, 1) := by decide +kernel
theorem dX12_canHand_2 : decode cX12_canHand 2 = .ok (.invokevirtual 316, 3) := by decide +kernel
theorem dX12_canHand_5 : decode cX12_canHand 5 = .ok (.ifCond .eq 10, 3) := by decide +kernel
theorem dX12_canHand_8 : decode cX12_canHand 8 = .ok (.iload_n 3, 1) := by decide +kernel
theorem dX12_canHand_9 : decode cX12_canHand 9 = .ok (.invokestatic 387, 3) := by decide +kernel
theorem dX12_canHand_12 : decode cX12_canHand 12 = .ok (.ifCond .ne 5, 3) := by decide +kernel
theorem dX12_canHand_15 : decode cX12_canHand 15 = .ok (.iconst 0, 1) := by decide +kernel
theorem dX12_canHand_16 : decode cX12_canHand 16 = .ok (.ireturn, 1) := by decide +kernel
theorem dX12_canHand_17 : decode cX12_canHand 17 = .ok (.aload_n 0, 1) := by decide +kernel
theorem dX12_canHand_18 : decode cX12_canHand 18 = .ok (.bipush 6, 2) := by decide +kernel
theorem dX12_canHand_20 : decode cX12_canHand 20 = .ok (.iload_n 1, 1) := by decide +kernel
theorem dX12_canHand_21 : decode cX12_canHand 21 = .ok (.iadd, 1) := by decide +kernel
theorem dX12_canHand_22 : decode cX12_canHand 22 = .ok (.invokevirtual 431, 3) := by decide +kernel
theorem dX12_canHand_25 : decode cX12_canHand 25 = .ok (.aload_n 0, 1) := by decide +kernel
theorem dX12_canHand_26 : decode cX12_canHand 26 = .ok (.bipush 6, 2) := by decide +kernel
theorem dX12_canHand_28 : decode cX12_canHand 28 = .ok (.iload_n 1, 1) := by decide +kernel
theorem dX12_canHand_29 : decode cX12_canHand 29 = .ok (.iadd, 1) := by decide +kernel
theorem dX12_canHand_30 : decode cX12_canHand 30 = .ok (.iload_n 3, 1) := by decide +kernel
theorem dX12_canHand_31 : decode cX12_canHand 31 = .ok (.invokevirtual 437, 3) := by decide +kernel
theorem dX12_canHand_34 : decode cX12_canHand 34 = .ok (.iload_n 2, 1) := by decide +kernel
theorem dX12_canHand_35 : decode cX12_canHand 35 = .ok (.if_icmp .eq 5, 3) := by decide +kernel
theorem dX12_canHand_38 : decode cX12_canHand 38 = .ok (.iconst 0, 1) := by decide +kernel
theorem dX12_canHand_39 : decode cX12_canHand 39 = .ok (.ireturn, 1) := by decide +kernel
theorem dX12_canHand_40 : decode cX12_canHand 40 = .ok (.aload_n 0, 1) := by decide +kernel
theorem dX12_canHand_41 : decode cX12_canHand 41 = .ok (.iload_n 1, 1) := by decide +kernel
theorem dX12_canHand_42 : decode cX12_canHand 42 = .ok (.iload_n 2, 1) := by decide +kernel
theorem dX12_canHand_43 : decode cX12_canHand 43 = .ok (.ifCond .ne 7, 3) := by decide +kernel
theorem dX12_canHand_46 : decode cX12_canHand 46 = .ok (.iconst 1, 1) := by decide +kernel
theorem dX12_canHand_47 : decode cX12_canHand 47 = .ok (.goto 4, 3) := by decide +kernel
theorem dX12_canHand_50 : decode cX12_canHand 50 = .ok (.iconst 0, 1) := by decide +kernel
theorem dX12_canHand_51 : decode cX12_canHand 51 = .ok (.iload_n 3, 1) := by decide +kernel
theorem dX12_canHand_52 : decode cX12_canHand 52 = .ok (.invokevirtual 464, 3) := by decide +kernel
theorem dX12_canHand_55 : decode cX12_canHand 55 = .ok (.iconst (-1), 1) := by decide +kernel
theorem dX12_canHand_56 : decode cX12_canHand 56 = .ok (.if_icmp .ne 18, 3) := by decide +kernel
theorem dX12_canHand_59 : decode cX12_canHand 59 = .ok (.aload_n 0, 1) := by decide +kernel
theorem dX12_canHand_60 : decode cX12_canHand 60 = .ok (.getfield 54, 3) := by decide +kernel
theorem dX12_canHand_63 : decode cX12_canHand 63 = .ok (.iload_n 1, 1) := by decide +kernel
theorem dX12_canHand_64 : decode cX12_canHand 64 = .ok (.iload_n 2, 1) := by decide +kernel
theorem dX12_canHand_65 : decode cX12_canHand 65 = .ok (.invokestatic 408, 3) := by decide +kernel
theorem dX12_canHand_68 : decode cX12_canHand 68 = .ok (.iaload, 1) := by decide +kernel
theorem dX12_canHand_69 : decode cX12_canHand 69 = .ok (.bipush 20, 2) := by decide +kernel
theorem dX12_canHand_71 : decode cX12_canHand 71 = .ok (.if_icmp .ge 7, 3) := by decide +kernel
theorem dX12_canHand_74 : decode cX12_canHand 74 = .ok (.iconst 1, 1) := by decide +kernel
theorem dX12_canHand_75 : decode cX12_canHand 75 = .ok (.goto 4, 3) := by decide +kernel
theorem dX12_canHand_78 : decode cX12_canHand 78 = .ok (.iconst 0, 1) := by decide +kernel
theorem dX12_canHand_79 : decode cX12_canHand 79 = .ok (.ireturn, 1) := by decide +kernel
theorem dX12_hands_0 : decode cX12_hands 0 = .ok (.aload_n 0, 1) := by decide +kernel
theorem dX12_hands_1 : decode cX12_hands 1 = .ok (.iload_n 1, 1) := by decide +kernel
theorem dX12_hands_2 : decode cX12_hands 2 = .ok (.iload_n 2, 1) := by decide +kernel
theorem dX12_hands_3 : decode cX12_hands 3 = .ok (.ifCond .ne 7, 3) := by decide +kernel
theorem dX12_hands_6 : decode cX12_hands 6 = .ok (.iconst 1, 1) := by decide +kernel
theorem dX12_hands_7 : decode cX12_hands 7 = .ok (.goto 4, 3) := by decide +kernel
theorem dX12_hands_10 : decode cX12_hands 10 = .ok (.iconst 0, 1) := by decide +kernel
theorem dX12_hands_11 : decode cX12_hands 11 = .ok (.iload_n 3, 1) := by decide +kernel
theorem dX12_hands_12 : decode cX12_hands 12 = .ok (.invokevirtual 464, 3) := by decide +kernel
theorem dX12_hands_15 : decode cX12_hands 15 = .ok (.istore 4, 2) := by decide +kernel
theorem dX12_hands_17 : decode cX12_hands 17 = .ok (.iload_n 1, 1) := by decide +kernel
theorem dX12_hands_18 : decode cX12_hands 18 = .ok (.iload_n 2, 1) := by decide +kernel
theorem dX12_hands_19 : decode cX12_hands 19 = .ok (.ifCond .ne 7, 3) := by decide +kernel
theorem dX12_hands_22 : decode cX12_hands 22 = .ok (.iconst 1, 1) := by decide +kernel
theorem dX12_hands_23 : decode cX12_hands 23 = .ok (.goto 4, 3) := by decide +kernel
theorem dX12_hands_26 : decode cX12_hands 26 = .ok (.iconst 0, 1) := by decide +kernel
theorem dX12_hands_27 : decode cX12_hands 27 = .ok (.invokestatic 408, 3) := by decide +kernel
theorem dX12_hands_30 : decode cX12_hands 30 = .ok (.istore 5, 2) := by decide +kernel
theorem dX12_hands_32 : decode cX12_hands 32 = .ok (.iload 4, 2) := by decide +kernel
theorem dX12_hands_34 : decode cX12_hands 34 = .ok (.iconst (-1), 1) := by decide +kernel
theorem dX12_hands_35 : decode cX12_hands 35 = .ok (.if_icmp .eq 61, 3) := by decide +kernel
theorem dX12_hands_38 : decode cX12_hands 38 = .ok (.iload 4, 2) := by decide +kernel
theorem dX12_hands_40 : decode cX12_hands 40 = .ok (.istore 6, 2) := by decide +kernel
theorem dX12_hands_42 : decode cX12_hands 42 = .ok (.iload 6, 2) := by decide +kernel
theorem dX12_hands_44 : decode cX12_hands 44 = .ok (.aload_n 0, 1) := by decide +kernel
theorem dX12_hands_45 : decode cX12_hands 45 = .ok (.getfield 54, 3) := by decide +kernel
theorem dX12_hands_48 : decode cX12_hands 48 = .ok (.iload 5, 2) := by decide +kernel
theorem dX12_hands_50 : decode cX12_hands 50 = .ok (.iaload, 1) := by decide +kernel
theorem dX12_hands_51 : decode cX12_hands 51 = .ok (.if_icmp .ge 31, 3) := by decide +kernel
theorem dX12_hands_54 : decode cX12_hands 54 = .ok (.aload_n 0, 1) := by decide +kernel
theorem dX12_hands_55 : decode cX12_hands 55 = .ok (.getfield 54, 3) := by decide +kernel
theorem dX12_hands_58 : decode cX12_hands 58 = .ok (.iload 5, 2) := by decide +kernel
theorem dX12_hands_60 : decode cX12_hands 60 = .ok (.iload 6, 2) := by decide +kernel
theorem dX12_hands_62 : decode cX12_hands 62 = .ok (.iadd, 1) := by decide +kernel
theorem dX12_hands_63 : decode cX12_hands 63 = .ok (.aload_n 0, 1) := by decide +kernel
theorem dX12_hands_64 : decode cX12_hands 64 = .ok (.getfield 54, 3) := by decide +kernel
theorem dX12_hands_67 : decode cX12_hands 67 = .ok (.iload 5, 2) := by decide +kernel
theorem dX12_hands_69 : decode cX12_hands 69 = .ok (.iload 6, 2) := by decide +kernel
theorem dX12_hands_71 : decode cX12_hands 71 = .ok (.iadd, 1) := by decide +kernel
theorem dX12_hands_72 : decode cX12_hands 72 = .ok (.iconst 1, 1) := by decide +kernel
theorem dX12_hands_73 : decode cX12_hands 73 = .ok (.iadd, 1) := by decide +kernel
theorem dX12_hands_74 : decode cX12_hands 74 = .ok (.iaload, 1) := by decide +kernel
theorem dX12_hands_75 : decode cX12_hands 75 = .ok (.iastore, 1) := by decide +kernel
theorem dX12_hands_76 : decode cX12_hands 76 = .ok (.iinc 6 1, 3) := by decide +kernel
theorem dX12_hands_79 : decode cX12_hands 79 = .ok (.goto (-37), 3) := by decide +kernel
theorem dX12_hands_82 : decode cX12_hands 82 = .ok (.aload_n 0, 1) := by decide +kernel
theorem dX12_hands_83 : decode cX12_hands 83 = .ok (.getfield 54, 3) := by decide +kernel
theorem dX12_hands_86 : decode cX12_hands 86 = .ok (.iload 5, 2) := by decide +kernel
theorem dX12_hands_88 : decode cX12_hands 88 = .ok (.dup2, 1) := by decide +kernel
theorem dX12_hands_89 : decode cX12_hands 89 = .ok (.iaload, 1) := by decide +kernel
theorem dX12_hands_90 : decode cX12_hands 90 = .ok (.iconst 1, 1) := by decide +kernel
theorem dX12_hands_91 : decode cX12_hands 91 = .ok (.isub, 1) := by decide +kernel
theorem dX12_hands_92 : decode cX12_hands 92 = .ok (.iastore, 1) := by decide +kernel
theorem dX12_hands_93 : decode cX12_hands 93 = .ok (.goto 37, 3) := by decide +kernel
theorem dX12_hands_96 : decode cX12_hands 96 = .ok (.iload_n 1, 1) := by decide +kernel
theorem dX12_hands_97 : decode cX12_hands 97 = .ok (.iload_n 2, 1) := by decide +kernel
theorem dX12_hands_98 : decode cX12_hands 98 = .ok (.invokestatic 408, 3) := by decide +kernel
theorem dX12_hands_101 : decode cX12_hands 101 = .ok (.istore 5, 2) := by decide +kernel
theorem dX12_hands_103 : decode cX12_hands 103 = .ok (.aload_n 0, 1) := by decide +kernel
theorem dX12_hands_104 : decode cX12_hands 104 = .ok (.getfield 54, 3) := by decide +kernel
theorem dX12_hands_107 : decode cX12_hands 107 = .ok (.iload 5, 2) := by decide +kernel
theorem dX12_hands_109 : decode cX12_hands 109 = .ok (.dup2, 1) := by decide +kernel
theorem dX12_hands_110 : decode cX12_hands 110 = .ok (.iaload, 1) := by decide +kernel
theorem dX12_hands_111 : decode cX12_hands 111 = .ok (.iconst 1, 1) := by decide +kernel
theorem dX12_hands_112 : decode cX12_hands 112 = .ok (.iadd, 1) := by decide +kernel
theorem dX12_hands_113 : decode cX12_hands 113 = .ok (.iastore, 1) := by decide +kernel
theorem dX12_hands_114 : decode cX12_hands 114 = .ok (.aload_n 0, 1) := by decide +kernel
theorem dX12_hands_115 : decode cX12_hands 115 = .ok (.getfield 54, 3) := by decide +kernel
theorem dX12_hands_118 : decode cX12_hands 118 = .ok (.iload 5, 2) := by decide +kernel
theorem dX12_hands_120 : decode cX12_hands 120 = .ok (.aload_n 0, 1) := by decide +kernel
theorem dX12_hands_121 : decode cX12_hands 121 = .ok (.getfield 54, 3) := by decide +kernel
theorem dX12_hands_124 : decode cX12_hands 124 = .ok (.iload 5, 2) := by decide +kernel
theorem dX12_hands_126 : decode cX12_hands 126 = .ok (.iaload, 1) := by decide +kernel
theorem dX12_hands_127 : decode cX12_hands 127 = .ok (.iadd, 1) := by decide +kernel
theorem dX12_hands_128 : decode cX12_hands 128 = .ok (.iload_n 3, 1) := by decide +kernel
theorem dX12_hands_129 : decode cX12_hands 129 = .ok (.iastore, 1) := by decide +kernel
theorem dX12_hands_130 : decode cX12_hands 130 = .ok (.iload_n 1, 1) := by decide +kernel
theorem dX12_hands_131 : decode cX12_hands 131 = .ok (.istore 6, 2) := by decide +kernel
theorem dX12_hands_133 : decode cX12_hands 133 = .ok (.iload 6, 2) := by decide +kernel
theorem dX12_hands_135 : decode cX12_hands 135 = .ok (.bipush 6, 2) := by decide +kernel
theorem dX12_hands_137 : decode cX12_hands 137 = .ok (.if_icmp .ge 20, 3) := by decide +kernel
theorem dX12_hands_140 : decode cX12_hands 140 = .ok (.aload_n 0, 1) := by decide +kernel
theorem dX12_hands_141 : decode cX12_hands 141 = .ok (.getfield 62, 3) := by decide +kernel
theorem dX12_hands_144 : decode cX12_hands 144 = .ok (.bipush 6, 2) := by decide +kernel
theorem dX12_hands_146 : decode cX12_hands 146 = .ok (.iload 6, 2) := by decide +kernel
theorem dX12_hands_148 : decode cX12_hands 148 = .ok (.iadd, 1) := by decide +kernel
theorem dX12_hands_149 : decode cX12_hands 149 = .ok (.iconst 0, 1) := by decide +kernel
theorem dX12_hands_150 : decode cX12_hands 150 = .ok (.bastore, 1) := by decide +kernel
theorem dX12_hands_151 : decode cX12_hands 151 = .ok (.iinc 6 1, 3) := by decide +kernel
theorem dX12_hands_154 : decode cX12_hands 154 = .ok (.goto (-21), 3) := by decide +kernel
theorem dX12_hands_157 : decode cX12_hands 157 = .ok (.return_, 1) := by decide +kernel
theorem dX12_add_0 : decode cX12_add 0 = .ok (.aload_n 0, 1) := by decide +kernel
theorem dX12_add_1 : decode cX12_add 1 = .ok (.iload_n 1, 1) := by decide +kernel
theorem dX12_add_2 : decode cX12_add 2 = .ok (.iconst 0, 1) := by decide +kernel
theorem dX12_add_3 : decode cX12_add 3 = .ok (.iload_n 2, 1) := by decide +kernel
theorem dX12_add_4 : decode cX12_add 4 = .ok (.invokevirtual 468, 3) := by decide +kernel
theorem dX12_add_7 : decode cX12_add 7 = .ok (.ifCond .ne 9, 3) := by decide +kernel
theorem dX12_add_10 : decode cX12_add 10 = .ok (.aload_n 0, 1) := by decide +kernel
theorem dX12_add_11 : decode cX12_add 11 = .ok (.iconst 2, 1) := by decide +kernel
theorem dX12_add_12 : decode cX12_add 12 = .ok (.invokevirtual 104, 3) := by decide +kernel
theorem dX12_add_15 : decode cX12_add 15 = .ok (.ireturn, 1) := by decide +kernel
theorem dX12_add_16 : decode cX12_add 16 = .ok (.aload_n 0, 1) := by decide +kernel
theorem dX12_add_17 : decode cX12_add 17 = .ok (.invokevirtual 472, 3) := by decide +kernel
theorem dX12_add_20 : decode cX12_add 20 = .ok (.aload_n 0, 1) := by decide +kernel
theorem dX12_add_21 : decode cX12_add 21 = .ok (.iload_n 1, 1) := by decide +kernel
theorem dX12_add_22 : decode cX12_add 22 = .ok (.iconst 0, 1) := by decide +kernel
theorem dX12_add_23 : decode cX12_add 23 = .ok (.iload_n 2, 1) := by decide +kernel
theorem dX12_add_24 : decode cX12_add 24 = .ok (.invokevirtual 475, 3) := by decide +kernel
theorem dX12_add_27 : decode cX12_add 27 = .ok (.iconst 1, 1) := by decide +kernel
theorem dX12_add_28 : decode cX12_add 28 = .ok (.ireturn, 1) := by decide +kernel
theorem dX12_leave_0 : decode cX12_leave 0 = .ok (.aload_n 0, 1) := by decide +kernel
theorem dX12_leave_1 : decode cX12_leave 1 = .ok (.iload_n 1, 1) := by decide +kernel
theorem dX12_leave_2 : decode cX12_leave 2 = .ok (.iconst 1, 1) := by decide +kernel
theorem dX12_leave_3 : decode cX12_leave 3 = .ok (.iload_n 2, 1) := by decide +kernel
theorem dX12_leave_4 : decode cX12_leave 4 = .ok (.invokevirtual 468, 3) := by decide +kernel
theorem dX12_leave_7 : decode cX12_leave 7 = .ok (.ifCond .ne 9, 3) := by decide +kernel
theorem dX12_leave_10 : decode cX12_leave 10 = .ok (.aload_n 0, 1) := by decide +kernel
theorem dX12_leave_11 : decode cX12_leave 11 = .ok (.iconst 2, 1) := by decide +kernel
theorem dX12_leave_12 : decode cX12_leave 12 = .ok (.invokevirtual 104, 3) := by decide +kernel
theorem dX12_leave_15 : decode cX12_leave 15 = .ok (.ireturn, 1) := by decide +kernel
theorem dX12_leave_16 : decode cX12_leave 16 = .ok (.aload_n 0, 1) := by decide +kernel
theorem dX12_leave_17 : decode cX12_leave 17 = .ok (.invokevirtual 472, 3) := by decide +kernel
theorem dX12_leave_20 : decode cX12_leave 20 = .ok (.aload_n 0, 1) := by decide +kernel
theorem dX12_leave_21 : decode cX12_leave 21 = .ok (.iload_n 1, 1) := by decide +kernel
theorem dX12_leave_22 : decode cX12_leave 22 = .ok (.iconst 1, 1) := by decide +kernel
theorem dX12_leave_23 : decode cX12_leave 23 = .ok (.iload_n 2, 1) := by decide +kernel
theorem dX12_leave_24 : decode cX12_leave 24 = .ok (.invokevirtual 475, 3) := by decide +kernel
theorem dX12_leave_27 : decode cX12_leave 27 = .ok (.iconst 1, 1) := by decide +kernel
theorem dX12_leave_28 : decode cX12_leave 28 = .ok (.ireturn, 1) := by decide +kernel
theorem dX12_every_0 : decode cX12_every 0 = .ok (.aload_n 0, 1) := by decide +kernel
theorem dX12_every_1 : decode cX12_every 1 = .ok (.iload_n 1, 1) := by decide +kernel
theorem dX12_every_2 : decode cX12_every 2 = .ok (.invokevirtual 313, 3) := by decide +kernel
theorem dX12_every_5 : decode cX12_every 5 = .ok (.ifCond .eq 27, 3) := by decide +kernel
theorem dX12_every_8 : decode cX12_every 8 = .ok (.iload_n 2, 1) := by decide +kernel
theorem dX12_every_9 : decode cX12_every 9 = .ok (.i2l, 1) := by decide +kernel
theorem dX12_every_10 : decode cX12_every 10 = .ok (.lconst 1, 1) := by decide +kernel
theorem dX12_every_11 : decode cX12_every 11 = .ok (.ldc2_w 479, 3) := by decide +kernel
theorem dX12_every_14 : decode cX12_every 14 = .ok (.invokestatic 110, 3) := by decide +kernel
theorem dX12_every_17 : decode cX12_every 17 = .ok (.ifCond .eq 15, 3) := by decide +kernel
theorem dX12_every_20 : decode cX12_every 20 = .ok (.aload_n 0, 1) := by decide +kernel
theorem dX12_every_21 : decode cX12_every 21 = .ok (.getfield 54, 3) := by decide +kernel
theorem dX12_every_24 : decode cX12_every 24 = .ok (.iconst 2, 1) := by decide +kernel
theorem dX12_every_25 : decode cX12_every 25 = .ok (.iload_n 1, 1) := by decide +kernel
theorem dX12_every_26 : decode cX12_every 26 = .ok (.imul, 1) := by decide +kernel
theorem dX12_every_27 : decode cX12_every 27 = .ok (.iaload, 1) := by decide +kernel
theorem dX12_every_28 : decode cX12_every 28 = .ok (.iload_n 2, 1) := by decide +kernel
theorem dX12_every_29 : decode cX12_every 29 = .ok (.if_icmp .ne 9, 3) := by decide +kernel
theorem dX12_every_32 : decode cX12_every 32 = .ok (.aload_n 0, 1) := by decide +kernel
theorem dX12_every_33 : decode cX12_every 33 = .ok (.iconst 3, 1) := by decide +kernel
theorem dX12_every_34 : decode cX12_every 34 = .ok (.invokevirtual 104, 3) := by decide +kernel
theorem dX12_every_37 : decode cX12_every 37 = .ok (.ireturn, 1) := by decide +kernel
theorem dX12_every_38 : decode cX12_every 38 = .ok (.aload_n 0, 1) := by decide +kernel
theorem dX12_every_39 : decode cX12_every 39 = .ok (.invokevirtual 472, 3) := by decide +kernel
theorem dX12_every_42 : decode cX12_every 42 = .ok (.aload_n 0, 1) := by decide +kernel
theorem dX12_every_43 : decode cX12_every 43 = .ok (.getfield 54, 3) := by decide +kernel
theorem dX12_every_46 : decode cX12_every 46 = .ok (.iconst 2, 1) := by decide +kernel
theorem dX12_every_47 : decode cX12_every 47 = .ok (.iload_n 1, 1) := by decide +kernel
theorem dX12_every_48 : decode cX12_every 48 = .ok (.imul, 1) := by decide +kernel
theorem dX12_every_49 : decode cX12_every 49 = .ok (.iload_n 2, 1) := by decide +kernel
theorem dX12_every_50 : decode cX12_every 50 = .ok (.iastore, 1) := by decide +kernel
theorem dX12_every_51 : decode cX12_every 51 = .ok (.aload_n 0, 1) := by decide +kernel
theorem dX12_every_52 : decode cX12_every 52 = .ok (.invokevirtual 310, 3) := by decide +kernel
theorem dX12_every_55 : decode cX12_every 55 = .ok (.iconst 1, 1) := by decide +kernel
theorem dX12_every_56 : decode cX12_every 56 = .ok (.ireturn, 1) := by decide +kernel
theorem dX12_from_0 : decode cX12_from 0 = .ok (.aload_n 0, 1) := by decide +kernel
theorem dX12_from_1 : decode cX12_from 1 = .ok (.iload_n 1, 1) := by decide +kernel
theorem dX12_from_2 : decode cX12_from 2 = .ok (.invokevirtual 313, 3) := by decide +kernel
theorem dX12_from_5 : decode cX12_from 5 = .ok (.ifCond .eq 19, 3) := by decide +kernel
theorem dX12_from_8 : decode cX12_from 8 = .ok (.iload_n 2, 1) := by decide +kernel
theorem dX12_from_9 : decode cX12_from 9 = .ok (.invokestatic 387, 3) := by decide +kernel
theorem dX12_from_12 : decode cX12_from 12 = .ok (.ifCond .eq 12, 3) := by decide +kernel
theorem dX12_from_15 : decode cX12_from 15 = .ok (.aload_n 0, 1) := by decide +kernel
theorem dX12_from_16 : decode cX12_from 16 = .ok (.iload_n 1, 1) := by decide +kernel
theorem dX12_from_17 : decode cX12_from 17 = .ok (.invokevirtual 333, 3) := by decide +kernel
theorem dX12_from_20 : decode cX12_from 20 = .ok (.iload_n 2, 1) := by decide +kernel
theorem dX12_from_21 : decode cX12_from 21 = .ok (.if_icmp .ne 9, 3) := by decide +kernel
theorem dX12_from_24 : decode cX12_from 24 = .ok (.aload_n 0, 1) := by decide +kernel
theorem dX12_from_25 : decode cX12_from 25 = .ok (.iconst 3, 1) := by decide +kernel
theorem dX12_from_26 : decode cX12_from 26 = .ok (.invokevirtual 104, 3) := by decide +kernel
theorem dX12_from_29 : decode cX12_from 29 = .ok (.ireturn, 1) := by decide +kernel
theorem dX12_from_30 : decode cX12_from 30 = .ok (.aload_n 0, 1) := by decide +kernel
theorem dX12_from_31 : decode cX12_from 31 = .ok (.invokevirtual 472, 3) := by decide +kernel
theorem dX12_from_34 : decode cX12_from 34 = .ok (.aload_n 0, 1) := by decide +kernel
theorem dX12_from_35 : decode cX12_from 35 = .ok (.getfield 54, 3) := by decide +kernel
theorem dX12_from_38 : decode cX12_from 38 = .ok (.iconst 2, 1) := by decide +kernel
theorem dX12_from_39 : decode cX12_from 39 = .ok (.iload_n 1, 1) := by decide +kernel
theorem dX12_from_40 : decode cX12_from 40 = .ok (.imul, 1) := by decide +kernel
theorem dX12_from_41 : decode cX12_from 41 = .ok (.iconst 1, 1) := by decide +kernel
theorem dX12_from_42 : decode cX12_from 42 = .ok (.iadd, 1) := by decide +kernel
theorem dX12_from_43 : decode cX12_from 43 = .ok (.iload_n 2, 1) := by decide +kernel
theorem dX12_from_44 : decode cX12_from 44 = .ok (.iastore, 1) := by decide +kernel
theorem dX12_from_45 : decode cX12_from 45 = .ok (.aload_n 0, 1) := by decide +kernel
theorem dX12_from_46 : decode cX12_from 46 = .ok (.invokevirtual 310, 3) := by decide +kernel
theorem dX12_from_49 : decode cX12_from 49 = .ok (.iconst 1, 1) := by decide +kernel
theorem dX12_from_50 : decode cX12_from 50 = .ok (.ireturn, 1) := by decide +kernel
theorem dX12_seed_0 : decode cX12_seed 0 = .ok (.iload_n 1, 1) := by decide +kernel
theorem dX12_seed_1 : decode cX12_seed 1 = .ok (.ifCond .ge 9, 3) := by decide +kernel
theorem dX12_seed_4 : decode cX12_seed 4 = .ok (.aload_n 0, 1) := by decide +kernel
theorem dX12_seed_5 : decode cX12_seed 5 = .ok (.iconst 5, 1) := by decide +kernel
theorem dX12_seed_6 : decode cX12_seed 6 = .ok (.invokevirtual 104, 3) := by decide +kernel
theorem dX12_seed_9 : decode cX12_seed 9 = .ok (.ireturn, 1) := by decide +kernel
theorem dX12_seed_10 : decode cX12_seed 10 = .ok (.aload_n 0, 1) := by decide +kernel
theorem dX12_seed_11 : decode cX12_seed 11 = .ok (.iload_n 1, 1) := by decide +kernel
theorem dX12_seed_12 : decode cX12_seed 12 = .ok (.i2l, 1) := by decide +kernel
theorem dX12_seed_13 : decode cX12_seed 13 = .ok (.putfield 93, 3) := by decide +kernel
theorem dX12_seed_16 : decode cX12_seed 16 = .ok (.iconst 1, 1) := by decide +kernel
theorem dX12_seed_17 : decode cX12_seed 17 = .ok (.ireturn, 1) := by decide +kernel
theorem dX12_drawOf_0 : decode cX12_drawOf 0 = .ok (.aload_n 0, 1) := by decide +kernel
theorem dX12_drawOf_1 : decode cX12_drawOf 1 = .ok (.ldc2_w 481, 3) := by decide +kernel
theorem dX12_drawOf_4 : decode cX12_drawOf 4 = .ok (.aload_n 0, 1) := by decide +kernel
theorem dX12_drawOf_5 : decode cX12_drawOf 5 = .ok (.getfield 93, 3) := by decide +kernel
theorem dX12_drawOf_8 : decode cX12_drawOf 8 = .ok (.lmul, 1) := by decide +kernel
theorem dX12_drawOf_9 : decode cX12_drawOf 9 = .ok (.ldc2_w 483, 3) := by decide +kernel
theorem dX12_drawOf_12 : decode cX12_drawOf 12 = .ok (.ladd, 1) := by decide +kernel
theorem dX12_drawOf_13 : decode cX12_drawOf 13 = .ok (.ldc2_w 485, 3) := by decide +kernel
theorem dX12_drawOf_16 : decode cX12_drawOf 16 = .ok (.lrem, 1) := by decide +kernel
theorem dX12_drawOf_17 : decode cX12_drawOf 17 = .ok (.putfield 93, 3) := by decide +kernel
theorem dX12_drawOf_20 : decode cX12_drawOf 20 = .ok (.aload_n 0, 1) := by decide +kernel
theorem dX12_drawOf_21 : decode cX12_drawOf 21 = .ok (.getfield 93, 3) := by decide +kernel
theorem dX12_drawOf_24 : decode cX12_drawOf 24 = .ok (.ldc2_w 487, 3) := by decide +kernel
theorem dX12_drawOf_27 : decode cX12_drawOf 27 = .ok (.ldiv, 1) := by decide +kernel
theorem dX12_drawOf_28 : decode cX12_drawOf 28 = .ok (.iload_n 1, 1) := by decide +kernel
theorem dX12_drawOf_29 : decode cX12_drawOf 29 = .ok (.i2l, 1) := by decide +kernel
theorem dX12_drawOf_30 : decode cX12_drawOf 30 = .ok (.lrem, 1) := by decide +kernel
theorem dX12_drawOf_31 : decode cX12_drawOf 31 = .ok (.l2i, 1) := by decide +kernel
theorem dX12_drawOf_32 : decode cX12_drawOf 32 = .ok (.ireturn, 1) := by decide +kernel
theorem dX12_chance_0 : decode cX12_chance 0 = .ok (.aload_n 0, 1) := by decide +kernel
theorem dX12_chance_1 : decode cX12_chance 1 = .ok (.getfield 298, 3) := by decide +kernel
theorem dX12_chance_4 : decode cX12_chance 4 = .ok (.ifCond .eq 24, 3) := by decide +kernel
theorem dX12_chance_7 : decode cX12_chance 7 = .ok (.aload_n 0, 1) := by decide +kernel
theorem dX12_chance_8 : decode cX12_chance 8 = .ok (.getfield 39, 3) := by decide +kernel
theorem dX12_chance_11 : decode cX12_chance 11 = .ok (.iconst 1, 1) := by decide +kernel
theorem dX12_chance_12 : decode cX12_chance 12 = .ok (.iaload, 1) := by decide +kernel
theorem dX12_chance_13 : decode cX12_chance 13 = .ok (.ifCond .eq 15, 3) := by decide +kernel
theorem dX12_chance_16 : decode cX12_chance 16 = .ok (.iload_n 1, 1) := by decide +kernel
theorem dX12_chance_17 : decode cX12_chance 17 = .ok (.i2l, 1) := by decide +kernel
theorem dX12_chance_18 : decode cX12_chance 18 = .ok (.lconst 1, 1) := by decide +kernel
theorem dX12_chance_19 : decode cX12_chance 19 = .ok (.ldc2_w 489, 3) := by decide +kernel
theorem dX12_chance_22 : decode cX12_chance 22 = .ok (.invokestatic 110, 3) := by decide +kernel
theorem dX12_chance_25 : decode cX12_chance 25 = .ok (.ifCond .ne 9, 3) := by decide +kernel
theorem dX12_chance_28 : decode cX12_chance 28 = .ok (.aload_n 0, 1) := by decide +kernel
theorem dX12_chance_29 : decode cX12_chance 29 = .ok (.iconst 2, 1) := by decide +kernel
theorem dX12_chance_30 : decode cX12_chance 30 = .ok (.invokevirtual 100, 3) := by decide +kernel
theorem dX12_chance_33 : decode cX12_chance 33 = .ok (.ireturn, 1) := by decide +kernel
theorem dX12_chance_34 : decode cX12_chance 34 = .ok (.aload_n 0, 1) := by decide +kernel
theorem dX12_chance_35 : decode cX12_chance 35 = .ok (.invokevirtual 472, 3) := by decide +kernel
theorem dX12_chance_38 : decode cX12_chance 38 = .ok (.iconst 0, 1) := by decide +kernel
theorem dX12_chance_39 : decode cX12_chance 39 = .ok (.istore_n 2, 1) := by decide +kernel
theorem dX12_chance_40 : decode cX12_chance 40 = .ok (.iconst 0, 1) := by decide +kernel
theorem dX12_chance_41 : decode cX12_chance 41 = .ok (.istore_n 3, 1) := by decide +kernel
theorem dX12_chance_42 : decode cX12_chance 42 = .ok (.iload_n 3, 1) := by decide +kernel
theorem dX12_chance_43 : decode cX12_chance 43 = .ok (.iload_n 1, 1) := by decide +kernel
theorem dX12_chance_44 : decode cX12_chance 44 = .ok (.if_icmp .ge 81, 3) := by decide +kernel
theorem dX12_chance_47 : decode cX12_chance 47 = .ok (.aload_n 0, 1) := by decide +kernel
theorem dX12_chance_48 : decode cX12_chance 48 = .ok (.aload_n 0, 1) := by decide +kernel
theorem dX12_chance_49 : decode cX12_chance 49 = .ok (.getfield 39, 3) := by decide +kernel
theorem dX12_chance_52 : decode cX12_chance 52 = .ok (.iconst 1, 1) := by decide +kernel
theorem dX12_chance_53 : decode cX12_chance 53 = .ok (.iaload, 1) := by decide +kernel
theorem dX12_chance_54 : decode cX12_chance 54 = .ok (.invokevirtual 491, 3) := by decide +kernel
theorem dX12_chance_57 : decode cX12_chance 57 = .ok (.istore 4, 2) := by decide +kernel
theorem dX12_chance_59 : decode cX12_chance 59 = .ok (.aload_n 0, 1) := by decide +kernel
theorem dX12_chance_60 : decode cX12_chance 60 = .ok (.sipush 14610, 3) := by decide +kernel
theorem dX12_chance_63 : decode cX12_chance 63 = .ok (.invokevirtual 491, 3) := by decide +kernel
theorem dX12_chance_66 : decode cX12_chance 66 = .ok (.istore 5, 2) := by decide +kernel
theorem dX12_chance_68 : decode cX12_chance 68 = .ok (.aload_n 0, 1) := by decide +kernel
theorem dX12_chance_69 : decode cX12_chance 69 = .ok (.bipush 6, 2) := by decide +kernel
theorem dX12_chance_71 : decode cX12_chance 71 = .ok (.iload 4, 2) := by decide +kernel
theorem dX12_chance_73 : decode cX12_chance 73 = .ok (.iadd, 1) := by decide +kernel
theorem dX12_chance_74 : decode cX12_chance 74 = .ok (.invokevirtual 431, 3) := by decide +kernel
theorem dX12_chance_77 : decode cX12_chance 77 = .ok (.aload_n 0, 1) := by decide +kernel
theorem dX12_chance_78 : decode cX12_chance 78 = .ok (.bipush 6, 2) := by decide +kernel
theorem dX12_chance_80 : decode cX12_chance 80 = .ok (.iload 4, 2) := by decide +kernel
theorem dX12_chance_82 : decode cX12_chance 82 = .ok (.iadd, 1) := by decide +kernel
theorem dX12_chance_83 : decode cX12_chance 83 = .ok (.iload 5, 2) := by decide +kernel
theorem dX12_chance_85 : decode cX12_chance 85 = .ok (.invokevirtual 437, 3) := by decide +kernel
theorem dX12_chance_88 : decode cX12_chance 88 = .ok (.istore 6, 2) := by decide +kernel
theorem dX12_chance_90 : decode cX12_chance 90 = .ok (.aload_n 0, 1) := by decide +kernel
theorem dX12_chance_91 : decode cX12_chance 91 = .ok (.iload 4, 2) := by decide +kernel
theorem dX12_chance_93 : decode cX12_chance 93 = .ok (.iload 6, 2) := by decide +kernel
theorem dX12_chance_95 : decode cX12_chance 95 = .ok (.iload 5, 2) := by decide +kernel
theorem dX12_chance_97 : decode cX12_chance 97 = .ok (.invokevirtual 468, 3) := by decide +kernel
theorem dX12_chance_100 : decode cX12_chance 100 = .ok (.ifCond .ne 6, 3) := by decide +kernel
theorem dX12_chance_103 : decode cX12_chance 103 = .ok (.goto 16, 3) := by decide +kernel
theorem dX12_chance_106 : decode cX12_chance 106 = .ok (.aload_n 0, 1) := by decide +kernel
theorem dX12_chance_107 : decode cX12_chance 107 = .ok (.iload 4, 2) := by decide +kernel
theorem dX12_chance_109 : decode cX12_chance 109 = .ok (.iload 6, 2) := by decide +kernel
theorem dX12_chance_111 : decode cX12_chance 111 = .ok (.iload 5, 2) := by decide +kernel
theorem dX12_chance_113 : decode cX12_chance 113 = .ok (.invokevirtual 475, 3) := by decide +kernel
theorem dX12_chance_116 : decode cX12_chance 116 = .ok (.iinc 2 1, 3) := by decide +kernel
theorem dX12_chance_119 : decode cX12_chance 119 = .ok (.iinc 3 1, 3) := by decide +kernel
theorem dX12_chance_122 : decode cX12_chance 122 = .ok (.goto (-80), 3) := by decide +kernel
theorem dX12_chance_125 : decode cX12_chance 125 = .ok (.iload_n 2, 1) := by decide +kernel
theorem dX12_chance_126 : decode cX12_chance 126 = .ok (.ireturn, 1) := by decide +kernel
theorem dJ13_bitCount_95d88_0 : decode cJ13_bitCount_95d88 0 = .ok (.lload_n 0, 1) := by decide +kernel
theorem dJ13_bitCount_95d88_1 : decode cJ13_bitCount_95d88 1 = .ok (.lload_n 0, 1) := by decide +kernel
theorem dJ13_bitCount_95d88_2 : decode cJ13_bitCount_95d88 2 = .ok (.iconst 1, 1) := by decide +kernel
theorem dJ13_bitCount_95d88_3 : decode cJ13_bitCount_95d88 3 = .ok (.lushr, 1) := by decide +kernel
theorem dJ13_bitCount_95d88_4 : decode cJ13_bitCount_95d88 4 = .ok (.ldc2_w 314, 3) := by decide +kernel
theorem dJ13_bitCount_95d88_7 : decode cJ13_bitCount_95d88 7 = .ok (.land, 1) := by decide +kernel
theorem dJ13_bitCount_95d88_8 : decode cJ13_bitCount_95d88 8 = .ok (.lsub, 1) := by decide +kernel
theorem dJ13_bitCount_95d88_9 : decode cJ13_bitCount_95d88 9 = .ok (.lstore_n 0, 1) := by decide +kernel
theorem dJ13_bitCount_95d88_10 : decode cJ13_bitCount_95d88 10 = .ok (.lload_n 0, 1) := by decide +kernel
theorem dJ13_bitCount_95d88_11 : decode cJ13_bitCount_95d88 11 = .ok (.ldc2_w 316, 3) := by decide +kernel
theorem dJ13_bitCount_95d88_14 : decode cJ13_bitCount_95d88 14 = .ok (.land, 1) := by decide +kernel
theorem dJ13_bitCount_95d88_15 : decode cJ13_bitCount_95d88 15 = .ok (.lload_n 0, 1) := by decide +kernel
theorem dJ13_bitCount_95d88_16 : decode cJ13_bitCount_95d88 16 = .ok (.iconst 2, 1) := by decide +kernel
theorem dJ13_bitCount_95d88_17 : decode cJ13_bitCount_95d88 17 = .ok (.lushr, 1) := by decide +kernel
theorem dJ13_bitCount_95d88_18 : decode cJ13_bitCount_95d88 18 = .ok (.ldc2_w 316, 3) := by decide +kernel
theorem dJ13_bitCount_95d88_21 : decode cJ13_bitCount_95d88 21 = .ok (.land, 1) := by decide +kernel
theorem dJ13_bitCount_95d88_22 : decode cJ13_bitCount_95d88 22 = .ok (.ladd, 1) := by decide +kernel
theorem dJ13_bitCount_95d88_23 : decode cJ13_bitCount_95d88 23 = .ok (.lstore_n 0, 1) := by decide +kernel
theorem dJ13_bitCount_95d88_24 : decode cJ13_bitCount_95d88 24 = .ok (.lload_n 0, 1) := by decide +kernel
theorem dJ13_bitCount_95d88_25 : decode cJ13_bitCount_95d88 25 = .ok (.lload_n 0, 1) := by decide +kernel
theorem dJ13_bitCount_95d88_26 : decode cJ13_bitCount_95d88 26 = .ok (.iconst 4, 1) := by decide +kernel
theorem dJ13_bitCount_95d88_27 : decode cJ13_bitCount_95d88 27 = .ok (.lushr, 1) := by decide +kernel
theorem dJ13_bitCount_95d88_28 : decode cJ13_bitCount_95d88 28 = .ok (.ladd, 1) := by decide +kernel
theorem dJ13_bitCount_95d88_29 : decode cJ13_bitCount_95d88 29 = .ok (.ldc2_w 318, 3) := by decide +kernel
theorem dJ13_bitCount_95d88_32 : decode cJ13_bitCount_95d88 32 = .ok (.land, 1) := by decide +kernel
theorem dJ13_bitCount_95d88_33 : decode cJ13_bitCount_95d88 33 = .ok (.lstore_n 0, 1) := by decide +kernel
theorem dJ13_bitCount_95d88_34 : decode cJ13_bitCount_95d88 34 = .ok (.lload_n 0, 1) := by decide +kernel
theorem dJ13_bitCount_95d88_35 : decode cJ13_bitCount_95d88 35 = .ok (.lload_n 0, 1) := by decide +kernel
theorem dJ13_bitCount_95d88_36 : decode cJ13_bitCount_95d88 36 = .ok (.bipush 8, 2) := by decide +kernel
theorem dJ13_bitCount_95d88_38 : decode cJ13_bitCount_95d88 38 = .ok (.lushr, 1) := by decide +kernel
theorem dJ13_bitCount_95d88_39 : decode cJ13_bitCount_95d88 39 = .ok (.ladd, 1) := by decide +kernel
theorem dJ13_bitCount_95d88_40 : decode cJ13_bitCount_95d88 40 = .ok (.lstore_n 0, 1) := by decide +kernel
theorem dJ13_bitCount_95d88_41 : decode cJ13_bitCount_95d88 41 = .ok (.lload_n 0, 1) := by decide +kernel
theorem dJ13_bitCount_95d88_42 : decode cJ13_bitCount_95d88 42 = .ok (.lload_n 0, 1) := by decide +kernel
theorem dJ13_bitCount_95d88_43 : decode cJ13_bitCount_95d88 43 = .ok (.bipush 16, 2) := by decide +kernel
theorem dJ13_bitCount_95d88_45 : decode cJ13_bitCount_95d88 45 = .ok (.lushr, 1) := by decide +kernel
theorem dJ13_bitCount_95d88_46 : decode cJ13_bitCount_95d88 46 = .ok (.ladd, 1) := by decide +kernel
theorem dJ13_bitCount_95d88_47 : decode cJ13_bitCount_95d88 47 = .ok (.lstore_n 0, 1) := by decide +kernel
theorem dJ13_bitCount_95d88_48 : decode cJ13_bitCount_95d88 48 = .ok (.lload_n 0, 1) := by decide +kernel
theorem dJ13_bitCount_95d88_49 : decode cJ13_bitCount_95d88 49 = .ok (.lload_n 0, 1) := by decide +kernel
theorem dJ13_bitCount_95d88_50 : decode cJ13_bitCount_95d88 50 = .ok (.bipush 32, 2) := by decide +kernel
theorem dJ13_bitCount_95d88_52 : decode cJ13_bitCount_95d88 52 = .ok (.lushr, 1) := by decide +kernel
theorem dJ13_bitCount_95d88_53 : decode cJ13_bitCount_95d88 53 = .ok (.ladd, 1) := by decide +kernel
theorem dJ13_bitCount_95d88_54 : decode cJ13_bitCount_95d88 54 = .ok (.lstore_n 0, 1) := by decide +kernel
theorem dJ13_bitCount_95d88_55 : decode cJ13_bitCount_95d88 55 = .ok (.lload_n 0, 1) := by decide +kernel
theorem dJ13_bitCount_95d88_56 : decode cJ13_bitCount_95d88 56 = .ok (.l2i, 1) := by decide +kernel
theorem dJ13_bitCount_95d88_57 : decode cJ13_bitCount_95d88 57 = .ok (.bipush 127, 2) := by decide +kernel
theorem dJ13_bitCount_95d88_59 : decode cJ13_bitCount_95d88 59 = .ok (.iand, 1) := by decide +kernel
theorem dJ13_bitCount_95d88_60 : decode cJ13_bitCount_95d88 60 = .ok (.ireturn, 1) := by decide +kernel
theorem dJ9_max_7cf53_0 : decode cJ9_max_7cf53 0 = .ok (.iload_n 0, 1) := by decide +kernel
theorem dJ9_max_7cf53_1 : decode cJ9_max_7cf53 1 = .ok (.iload_n 1, 1) := by decide +kernel
theorem dJ9_max_7cf53_2 : decode cJ9_max_7cf53 2 = .ok (.if_icmp .lt 7, 3) := by decide +kernel
theorem dJ9_max_7cf53_5 : decode cJ9_max_7cf53 5 = .ok (.iload_n 0, 1) := by decide +kernel
theorem dJ9_max_7cf53_6 : decode cJ9_max_7cf53 6 = .ok (.goto 4, 3) := by decide +kernel
theorem dJ9_max_7cf53_9 : decode cJ9_max_7cf53 9 = .ok (.iload_n 1, 1) := by decide +kernel
theorem dJ9_max_7cf53_10 : decode cJ9_max_7cf53 10 = .ok (.ireturn, 1) := by decide +kernel
theorem dJ9_min_7cf53_0 : decode cJ9_min_7cf53 0 = .ok (.iload_n 0, 1) := by decide +kernel
theorem dJ9_min_7cf53_1 : decode cJ9_min_7cf53 1 = .ok (.iload_n 1, 1) := by decide +kernel
theorem dJ9_min_7cf53_2 : decode cJ9_min_7cf53 2 = .ok (.if_icmp .gt 7, 3) := by decide +kernel
theorem dJ9_min_7cf53_5 : decode cJ9_min_7cf53 5 = .ok (.iload_n 0, 1) := by decide +kernel
theorem dJ9_min_7cf53_6 : decode cJ9_min_7cf53 6 = .ok (.goto 4, 3) := by decide +kernel
theorem dJ9_min_7cf53_9 : decode cJ9_min_7cf53 9 = .ok (.iload_n 1, 1) := by decide +kernel
theorem dJ9_min_7cf53_10 : decode cJ9_min_7cf53 10 = .ok (.ireturn, 1) := by decide +kernel
theorem dJ0_length_8abf5_0 : decode cJ0_length_8abf5 0 = .ok (.aload_n 0, 1) := by decide +kernel
theorem dJ0_length_8abf5_1 : decode cJ0_length_8abf5 1 = .ok (.getfield 9, 3) := by decide +kernel
theorem dJ0_length_8abf5_4 : decode cJ0_length_8abf5 4 = .ok (.arraylength, 1) := by decide +kernel
theorem dJ0_length_8abf5_5 : decode cJ0_length_8abf5 5 = .ok (.aload_n 0, 1) := by decide +kernel
theorem dJ0_length_8abf5_6 : decode cJ0_length_8abf5 6 = .ok (.invokevirtual 335, 3) := by decide +kernel
theorem dJ0_length_8abf5_9 : decode cJ0_length_8abf5 9 = .ok (.ishr, 1) := by decide +kernel
theorem dJ0_length_8abf5_10 : decode cJ0_length_8abf5 10 = .ok (.ireturn, 1) := by decide +kernel
theorem dJ0_charAt_5068e_0 : decode cJ0_charAt_5068e 0 = .ok (.aload_n 0, 1) := by decide +kernel
theorem dJ0_charAt_5068e_1 : decode cJ0_charAt_5068e 1 = .ok (.invokevirtual 492, 3) := by decide +kernel
theorem dJ0_charAt_5068e_4 : decode cJ0_charAt_5068e 4 = .ok (.ifCond .eq 12, 3) := by decide +kernel
theorem dJ0_charAt_5068e_7 : decode cJ0_charAt_5068e 7 = .ok (.aload_n 0, 1) := by decide +kernel
theorem dJ0_charAt_5068e_8 : decode cJ0_charAt_5068e 8 = .ok (.getfield 9, 3) := by decide +kernel
theorem dJ0_charAt_5068e_11 : decode cJ0_charAt_5068e 11 = .ok (.iload_n 1, 1) := by decide +kernel
theorem dJ0_charAt_5068e_12 : decode cJ0_charAt_5068e 12 = .ok (.invokestatic 495, 3) := by decide +kernel
theorem dJ0_charAt_5068e_15 : decode cJ0_charAt_5068e 15 = .ok (.ireturn, 1) := by decide +kernel
theorem dJ0_charAt_5068e_16 : decode cJ0_charAt_5068e 16 = .ok (.aload_n 0, 1) := by decide +kernel
theorem dJ0_charAt_5068e_17 : decode cJ0_charAt_5068e 17 = .ok (.getfield 9, 3) := by decide +kernel
theorem dJ0_charAt_5068e_20 : decode cJ0_charAt_5068e 20 = .ok (.iload_n 1, 1) := by decide +kernel
theorem dJ0_charAt_5068e_21 : decode cJ0_charAt_5068e 21 = .ok (.invokestatic 498, 3) := by decide +kernel
theorem dJ0_charAt_5068e_24 : decode cJ0_charAt_5068e 24 = .ok (.ireturn, 1) := by decide +kernel
theorem dJ0_coder_7d493_0 : decode cJ0_coder_7d493 0 = .ok (.getstatic 38, 3) := by decide +kernel
theorem dJ0_coder_7d493_3 : decode cJ0_coder_7d493 3 = .ok (.ifCond .eq 10, 3) := by decide +kernel
theorem dJ0_coder_7d493_6 : decode cJ0_coder_7d493 6 = .ok (.aload_n 0, 1) := by decide +kernel
theorem dJ0_coder_7d493_7 : decode cJ0_coder_7d493 7 = .ok (.getfield 15, 3) := by decide +kernel
theorem dJ0_coder_7d493_10 : decode cJ0_coder_7d493 10 = .ok (.goto 4, 3) := by decide +kernel
theorem dJ0_coder_7d493_13 : decode cJ0_coder_7d493 13 = .ok (.iconst 1, 1) := by decide +kernel
theorem dJ0_coder_7d493_14 : decode cJ0_coder_7d493 14 = .ok (.ireturn, 1) := by decide +kernel
theorem dJ0_isLatin1_aae02_0 : decode cJ0_isLatin1_aae02 0 = .ok (.getstatic 38, 3) := by decide +kernel
theorem dJ0_isLatin1_aae02_3 : decode cJ0_isLatin1_aae02 3 = .ok (.ifCond .eq 14, 3) := by decide +kernel
theorem dJ0_isLatin1_aae02_6 : decode cJ0_isLatin1_aae02 6 = .ok (.aload_n 0, 1) := by decide +kernel
theorem dJ0_isLatin1_aae02_7 : decode cJ0_isLatin1_aae02 7 = .ok (.getfield 15, 3) := by decide +kernel
theorem dJ0_isLatin1_aae02_10 : decode cJ0_isLatin1_aae02 10 = .ok (.ifCond .ne 7, 3) := by decide +kernel
theorem dJ0_isLatin1_aae02_13 : decode cJ0_isLatin1_aae02 13 = .ok (.iconst 1, 1) := by decide +kernel
theorem dJ0_isLatin1_aae02_14 : decode cJ0_isLatin1_aae02 14 = .ok (.goto 4, 3) := by decide +kernel
theorem dJ0_isLatin1_aae02_17 : decode cJ0_isLatin1_aae02 17 = .ok (.iconst 0, 1) := by decide +kernel
