theorem dX8_clearParts_39 : decode cX8_clearParts 39 = .ok (.aload_n 0, 1) := by decide +kernel
theorem dX8_clearParts_40 : decode cX8_clearParts 40 = .ok (.iconst (-1), 1) := by decide +kernel
theorem dX8_clearParts_41 : decode cX8_clearParts 41 = .ok (.putfield 42, 3) := by decide +kernel
theorem dX8_clearParts_44 : decode cX8_clearParts 44 = .ok (.aload_n 0, 1) := by decide +kernel
theorem dX8_clearParts_45 : decode cX8_clearParts 45 = .ok (.iconst (-1), 1) := by decide +kernel
theorem dX8_clearParts_46 : decode cX8_clearParts 46 = .ok (.putfield 45, 3) := by decide +kernel
theorem dX8_clearParts_49 : decode cX8_clearParts 49 = .ok (.return_, 1) := by decide +kernel
theorem dX8_beginAt_0 : decode cX8_beginAt 0 = .ok (.iload_n 1, 1) := by decide +kernel
theorem dX8_beginAt_1 : decode cX8_beginAt 1 = .ok (.invokestatic 48, 3) := by decide +kernel
theorem dX8_beginAt_4 : decode cX8_beginAt 4 = .ok (.istore_n 2, 1) := by decide +kernel
theorem dX8_beginAt_5 : decode cX8_beginAt 5 = .ok (.aload_n 0, 1) := by decide +kernel
theorem dX8_beginAt_6 : decode cX8_beginAt 6 = .ok (.iload_n 1, 1) := by decide +kernel
theorem dX8_beginAt_7 : decode cX8_beginAt 7 = .ok (.putfield 54, 3) := by decide +kernel
theorem dX8_beginAt_10 : decode cX8_beginAt 10 = .ok (.aload_n 0, 1) := by decide +kernel
theorem dX8_beginAt_11 : decode cX8_beginAt 11 = .ok (.iload_n 1, 1) := by decide +kernel
theorem dX8_beginAt_12 : decode cX8_beginAt 12 = .ok (.invokestatic 57, 3) := by decide +kernel
theorem dX8_beginAt_15 : decode cX8_beginAt 15 = .ok (.putfield 60, 3) := by decide +kernel
theorem dX8_beginAt_18 : decode cX8_beginAt 18 = .ok (.aload_n 0, 1) := by decide +kernel
theorem dX8_beginAt_19 : decode cX8_beginAt 19 = .ok (.iload_n 1, 1) := by decide +kernel
theorem dX8_beginAt_20 : decode cX8_beginAt 20 = .ok (.iload_n 2, 1) := by decide +kernel
theorem dX8_beginAt_21 : decode cX8_beginAt 21 = .ok (.aload_n 0, 1) := by decide +kernel
theorem dX8_beginAt_22 : decode cX8_beginAt 22 = .ok (.getfield 60, 3) := by decide +kernel
theorem dX8_beginAt_25 : decode cX8_beginAt 25 = .ok (.invokestatic 63, 3) := by decide +kernel
theorem dX8_beginAt_28 : decode cX8_beginAt 28 = .ok (.isub, 1) := by decide +kernel
theorem dX8_beginAt_29 : decode cX8_beginAt 29 = .ok (.iconst 1, 1) := by decide +kernel
theorem dX8_beginAt_30 : decode cX8_beginAt 30 = .ok (.iadd, 1) := by decide +kernel
theorem dX8_beginAt_31 : decode cX8_beginAt 31 = .ok (.putfield 67, 3) := by decide +kernel
theorem dX8_beginAt_34 : decode cX8_beginAt 34 = .ok (.aload_n 0, 1) := by decide +kernel
theorem dX8_beginAt_35 : decode cX8_beginAt 35 = .ok (.iload_n 1, 1) := by decide +kernel
theorem dX8_beginAt_36 : decode cX8_beginAt 36 = .ok (.invokestatic 70, 3) := by decide +kernel
theorem dX8_beginAt_39 : decode cX8_beginAt 39 = .ok (.putfield 73, 3) := by decide +kernel
theorem dX8_beginAt_42 : decode cX8_beginAt 42 = .ok (.return_, 1) := by decide +kernel
theorem dX8_tellMonths_0 : decode cX8_tellMonths 0 = .ok (.iconst 0, 1) := by decide +kernel
theorem dX8_tellMonths_1 : decode cX8_tellMonths 1 = .ok (.istore_n 2, 1) := by decide +kernel
theorem dX8_tellMonths_2 : decode cX8_tellMonths 2 = .ok (.iload_n 2, 1) := by decide +kernel
theorem dX8_tellMonths_3 : decode cX8_tellMonths 3 = .ok (.aload_n 1, 1) := by decide +kernel
theorem dX8_tellMonths_4 : decode cX8_tellMonths 4 = .ok (.getfield 76, 3) := by decide +kernel
theorem dX8_tellMonths_7 : decode cX8_tellMonths 7 = .ok (.if_icmp .ge 25, 3) := by decide +kernel
theorem dX8_tellMonths_10 : decode cX8_tellMonths 10 = .ok (.aload_n 0, 1) := by decide +kernel
theorem dX8_tellMonths_11 : decode cX8_tellMonths 11 = .ok (.dup, 1) := by decide +kernel
theorem dX8_tellMonths_12 : decode cX8_tellMonths 12 = .ok (.getfield 23, 3) := by decide +kernel
theorem dX8_tellMonths_15 : decode cX8_tellMonths 15 = .ok (.iconst 1, 1) := by decide +kernel
theorem dX8_tellMonths_16 : decode cX8_tellMonths 16 = .ok (.aload_n 1, 1) := by decide +kernel
theorem dX8_tellMonths_17 : decode cX8_tellMonths 17 = .ok (.iload_n 2, 1) := by decide +kernel
theorem dX8_tellMonths_18 : decode cX8_tellMonths 18 = .ok (.invokevirtual 79, 3) := by decide +kernel
theorem dX8_tellMonths_21 : decode cX8_tellMonths 21 = .ok (.ishl, 1) := by decide +kernel
theorem dX8_tellMonths_22 : decode cX8_tellMonths 22 = .ok (.ior, 1) := by decide +kernel
theorem dX8_tellMonths_23 : decode cX8_tellMonths 23 = .ok (.putfield 23, 3) := by decide +kernel
theorem dX8_tellMonths_26 : decode cX8_tellMonths 26 = .ok (.iinc 2 1, 3) := by decide +kernel
theorem dX8_tellMonths_29 : decode cX8_tellMonths 29 = .ok (.goto (-27), 3) := by decide +kernel
theorem dX8_tellMonths_32 : decode cX8_tellMonths 32 = .ok (.return_, 1) := by decide +kernel
theorem dX8_tellDates_0 : decode cX8_tellDates 0 = .ok (.aload_n 0, 1) := by decide +kernel
theorem dX8_tellDates_1 : decode cX8_tellDates 1 = .ok (.aload_n 1, 1) := by decide +kernel
theorem dX8_tellDates_2 : decode cX8_tellDates 2 = .ok (.getfield 76, 3) := by decide +kernel
theorem dX8_tellDates_5 : decode cX8_tellDates 5 = .ok (.putfield 36, 3) := by decide +kernel
theorem dX8_tellDates_8 : decode cX8_tellDates 8 = .ok (.iconst 0, 1) := by decide +kernel
theorem dX8_tellDates_9 : decode cX8_tellDates 9 = .ok (.istore_n 2, 1) := by decide +kernel
theorem dX8_tellDates_10 : decode cX8_tellDates 10 = .ok (.iload_n 2, 1) := by decide +kernel
theorem dX8_tellDates_11 : decode cX8_tellDates 11 = .ok (.aload_n 1, 1) := by decide +kernel
theorem dX8_tellDates_12 : decode cX8_tellDates 12 = .ok (.getfield 76, 3) := by decide +kernel
theorem dX8_tellDates_15 : decode cX8_tellDates 15 = .ok (.if_icmp .ge 47, 3) := by decide +kernel
theorem dX8_tellDates_18 : decode cX8_tellDates 18 = .ok (.aload_n 1, 1) := by decide +kernel
theorem dX8_tellDates_19 : decode cX8_tellDates 19 = .ok (.iload_n 2, 1) := by decide +kernel
theorem dX8_tellDates_20 : decode cX8_tellDates 20 = .ok (.invokevirtual 79, 3) := by decide +kernel
theorem dX8_tellDates_23 : decode cX8_tellDates 23 = .ok (.istore_n 3, 1) := by decide +kernel
theorem dX8_tellDates_24 : decode cX8_tellDates 24 = .ok (.iload_n 3, 1) := by decide +kernel
theorem dX8_tellDates_25 : decode cX8_tellDates 25 = .ok (.ifCond .le 18, 3) := by decide +kernel
theorem dX8_tellDates_28 : decode cX8_tellDates 28 = .ok (.aload_n 0, 1) := by decide +kernel
theorem dX8_tellDates_29 : decode cX8_tellDates 29 = .ok (.dup, 1) := by decide +kernel
theorem dX8_tellDates_30 : decode cX8_tellDates 30 = .ok (.getfield 27, 3) := by decide +kernel
theorem dX8_tellDates_33 : decode cX8_tellDates 33 = .ok (.iconst 1, 1) := by decide +kernel
theorem dX8_tellDates_34 : decode cX8_tellDates 34 = .ok (.iload_n 3, 1) := by decide +kernel
theorem dX8_tellDates_35 : decode cX8_tellDates 35 = .ok (.ishl, 1) := by decide +kernel
theorem dX8_tellDates_36 : decode cX8_tellDates 36 = .ok (.ior, 1) := by decide +kernel
theorem dX8_tellDates_37 : decode cX8_tellDates 37 = .ok (.putfield 27, 3) := by decide +kernel
theorem dX8_tellDates_40 : decode cX8_tellDates 40 = .ok (.goto 16, 3) := by decide +kernel
theorem dX8_tellDates_43 : decode cX8_tellDates 43 = .ok (.aload_n 0, 1) := by decide +kernel
theorem dX8_tellDates_44 : decode cX8_tellDates 44 = .ok (.dup, 1) := by decide +kernel
theorem dX8_tellDates_45 : decode cX8_tellDates 45 = .ok (.getfield 30, 3) := by decide +kernel
theorem dX8_tellDates_48 : decode cX8_tellDates 48 = .ok (.iconst 1, 1) := by decide +kernel
theorem dX8_tellDates_49 : decode cX8_tellDates 49 = .ok (.iload_n 3, 1) := by decide +kernel
theorem dX8_tellDates_50 : decode cX8_tellDates 50 = .ok (.ineg, 1) := by decide +kernel
theorem dX8_tellDates_51 : decode cX8_tellDates 51 = .ok (.ishl, 1) := by decide +kernel
theorem dX8_tellDates_52 : decode cX8_tellDates 52 = .ok (.ior, 1) := by decide +kernel
theorem dX8_tellDates_53 : decode cX8_tellDates 53 = .ok (.putfield 30, 3) := by decide +kernel
theorem dX8_tellDates_56 : decode cX8_tellDates 56 = .ok (.iinc 2 1, 3) := by decide +kernel
theorem dX8_tellDates_59 : decode cX8_tellDates 59 = .ok (.goto (-49), 3) := by decide +kernel
theorem dX8_tellDates_62 : decode cX8_tellDates 62 = .ok (.return_, 1) := by decide +kernel
theorem dX8_tellWeekdays_0 : decode cX8_tellWeekdays 0 = .ok (.aload_n 0, 1) := by decide +kernel
theorem dX8_tellWeekdays_1 : decode cX8_tellWeekdays 1 = .ok (.getfield 14, 3) := by decide +kernel
theorem dX8_tellWeekdays_4 : decode cX8_tellWeekdays 4 = .ok (.aload_n 1, 1) := by decide +kernel
theorem dX8_tellWeekdays_5 : decode cX8_tellWeekdays 5 = .ok (.invokevirtual 82, 3) := by decide +kernel
theorem dX8_tellWeekdays_8 : decode cX8_tellWeekdays 8 = .ok (.iconst 0, 1) := by decide +kernel
theorem dX8_tellWeekdays_9 : decode cX8_tellWeekdays 9 = .ok (.istore_n 2, 1) := by decide +kernel
theorem dX8_tellWeekdays_10 : decode cX8_tellWeekdays 10 = .ok (.iload_n 2, 1) := by decide +kernel
theorem dX8_tellWeekdays_11 : decode cX8_tellWeekdays 11 = .ok (.aload_n 1, 1) := by decide +kernel
theorem dX8_tellWeekdays_12 : decode cX8_tellWeekdays 12 = .ok (.getfield 76, 3) := by decide +kernel
theorem dX8_tellWeekdays_15 : decode cX8_tellWeekdays 15 = .ok (.if_icmp .ge 28, 3) := by decide +kernel
theorem dX8_tellWeekdays_18 : decode cX8_tellWeekdays 18 = .ok (.aload_n 0, 1) := by decide +kernel
theorem dX8_tellWeekdays_19 : decode cX8_tellWeekdays 19 = .ok (.dup, 1) := by decide +kernel
theorem dX8_tellWeekdays_20 : decode cX8_tellWeekdays 20 = .ok (.getfield 33, 3) := by decide +kernel
theorem dX8_tellWeekdays_23 : decode cX8_tellWeekdays 23 = .ok (.iconst 1, 1) := by decide +kernel
theorem dX8_tellWeekdays_24 : decode cX8_tellWeekdays 24 = .ok (.aload_n 1, 1) := by decide +kernel
theorem dX8_tellWeekdays_25 : decode cX8_tellWeekdays 25 = .ok (.iload_n 2, 1) := by decide +kernel
theorem dX8_tellWeekdays_26 : decode cX8_tellWeekdays 26 = .ok (.invokevirtual 79, 3) := by decide +kernel
theorem dX8_tellWeekdays_29 : decode cX8_tellWeekdays 29 = .ok (.bipush 7, 2) := by decide +kernel
theorem dX8_tellWeekdays_31 : decode cX8_tellWeekdays 31 = .ok (.iand, 1) := by decide +kernel
theorem dX8_tellWeekdays_32 : decode cX8_tellWeekdays 32 = .ok (.ishl, 1) := by decide +kernel
theorem dX8_tellWeekdays_33 : decode cX8_tellWeekdays 33 = .ok (.ior, 1) := by decide +kernel
theorem dX8_tellWeekdays_34 : decode cX8_tellWeekdays 34 = .ok (.putfield 33, 3) := by decide +kernel
theorem dX8_tellWeekdays_37 : decode cX8_tellWeekdays 37 = .ok (.iinc 2 1, 3) := by decide +kernel
theorem dX8_tellWeekdays_40 : decode cX8_tellWeekdays 40 = .ok (.goto (-30), 3) := by decide +kernel
theorem dX8_tellWeekdays_43 : decode cX8_tellWeekdays 43 = .ok (.return_, 1) := by decide +kernel
theorem dX8_tell_0 : decode cX8_tell 0 = .ok (.iload_n 1, 1) := by decide +kernel
theorem dX8_tell_1 : decode cX8_tell 1 = .ok (.tableswitch 102 0 8 #[51, 56, 61, 66, 71, 76, 84, 92, 97], 51) := by decide +kernel
theorem dX8_tell_52 : decode cX8_tell 52 = .ok (.aload_n 0, 1) := by decide +kernel
theorem dX8_tell_53 : decode cX8_tell 53 = .ok (.getfield 86, 3) := by decide +kernel
theorem dX8_tell_56 : decode cX8_tell 56 = .ok (.ireturn, 1) := by decide +kernel
theorem dX8_tell_57 : decode cX8_tell 57 = .ok (.aload_n 0, 1) := by decide +kernel
theorem dX8_tell_58 : decode cX8_tell 58 = .ok (.getfield 89, 3) := by decide +kernel
theorem dX8_tell_61 : decode cX8_tell 61 = .ok (.ireturn, 1) := by decide +kernel
theorem dX8_tell_62 : decode cX8_tell 62 = .ok (.aload_n 0, 1) := by decide +kernel
theorem dX8_tell_63 : decode cX8_tell 63 = .ok (.getfield 54, 3) := by decide +kernel
theorem dX8_tell_66 : decode cX8_tell 66 = .ok (.ireturn, 1) := by decide +kernel
theorem dX8_tell_67 : decode cX8_tell 67 = .ok (.aload_n 0, 1) := by decide +kernel
theorem dX8_tell_68 : decode cX8_tell 68 = .ok (.getfield 23, 3) := by decide +kernel
theorem dX8_tell_71 : decode cX8_tell 71 = .ok (.ireturn, 1) := by decide +kernel
theorem dX8_tell_72 : decode cX8_tell 72 = .ok (.aload_n 0, 1) := by decide +kernel
theorem dX8_tell_73 : decode cX8_tell 73 = .ok (.getfield 36, 3) := by decide +kernel
theorem dX8_tell_76 : decode cX8_tell 76 = .ok (.ireturn, 1) := by decide +kernel
theorem dX8_tell_77 : decode cX8_tell 77 = .ok (.aload_n 0, 1) := by decide +kernel
theorem dX8_tell_78 : decode cX8_tell 78 = .ok (.getfield 14, 3) := by decide +kernel
theorem dX8_tell_81 : decode cX8_tell 81 = .ok (.getfield 76, 3) := by decide +kernel
theorem dX8_tell_84 : decode cX8_tell 84 = .ok (.ireturn, 1) := by decide +kernel
theorem dX8_tell_85 : decode cX8_tell 85 = .ok (.aload_n 0, 1) := by decide +kernel
theorem dX8_tell_86 : decode cX8_tell 86 = .ok (.getfield 20, 3) := by decide +kernel
theorem dX8_tell_89 : decode cX8_tell 89 = .ok (.getfield 76, 3) := by decide +kernel
theorem dX8_tell_92 : decode cX8_tell 92 = .ok (.ireturn, 1) := by decide +kernel
theorem dX8_tell_93 : decode cX8_tell 93 = .ok (.aload_n 0, 1) := by decide +kernel
theorem dX8_tell_94 : decode cX8_tell 94 = .ok (.getfield 42, 3) := by decide +kernel
theorem dX8_tell_97 : decode cX8_tell 97 = .ok (.ireturn, 1) := by decide +kernel
theorem dX8_tell_98 : decode cX8_tell 98 = .ok (.aload_n 0, 1) := by decide +kernel
theorem dX8_tell_99 : decode cX8_tell 99 = .ok (.getfield 45, 3) := by decide +kernel
theorem dX8_tell_102 : decode cX8_tell 102 = .ok (.ireturn, 1) := by decide +kernel
theorem dX8_tell_103 : decode cX8_tell 103 = .ok (.iconst (-1), 1) := by decide +kernel
theorem dX8_tell_104 : decode cX8_tell 104 = .ok (.ireturn, 1) := by decide +kernel
theorem dX8_goesBy_0 : decode cX8_goesBy 0 = .ok (.iload_n 1, 1) := by decide +kernel
theorem dX8_goesBy_1 : decode cX8_goesBy 1 = .ok (.aload_n 0, 1) := by decide +kernel
theorem dX8_goesBy_2 : decode cX8_goesBy 2 = .ok (.getfield 89, 3) := by decide +kernel
theorem dX8_goesBy_5 : decode cX8_goesBy 5 = .ok (.aload_n 0, 1) := by decide +kernel
theorem dX8_goesBy_6 : decode cX8_goesBy 6 = .ok (.getfield 54, 3) := by decide +kernel
theorem dX8_goesBy_9 : decode cX8_goesBy 9 = .ok (.invokestatic 92, 3) := by decide +kernel
theorem dX8_goesBy_12 : decode cX8_goesBy 12 = .ok (.isub, 1) := by decide +kernel
theorem dX8_goesBy_13 : decode cX8_goesBy 13 = .ok (.istore_n 2, 1) := by decide +kernel
theorem dX8_goesBy_14 : decode cX8_goesBy 14 = .ok (.iload_n 2, 1) := by decide +kernel
theorem dX8_goesBy_15 : decode cX8_goesBy 15 = .ok (.ifCond .lt 23, 3) := by decide +kernel
theorem dX8_goesBy_18 : decode cX8_goesBy 18 = .ok (.aload_n 0, 1) := by decide +kernel
theorem dX8_goesBy_19 : decode cX8_goesBy 19 = .ok (.getfield 86, 3) := by decide +kernel
theorem dX8_goesBy_22 : decode cX8_goesBy 22 = .ok (.ifCond .le 16, 3) := by decide +kernel
theorem dX8_goesBy_25 : decode cX8_goesBy 25 = .ok (.iload_n 2, 1) := by decide +kernel
theorem dX8_goesBy_26 : decode cX8_goesBy 26 = .ok (.aload_n 0, 1) := by decide +kernel
theorem dX8_goesBy_27 : decode cX8_goesBy 27 = .ok (.getfield 86, 3) := by decide +kernel
theorem dX8_goesBy_30 : decode cX8_goesBy 30 = .ok (.irem, 1) := by decide +kernel
theorem dX8_goesBy_31 : decode cX8_goesBy 31 = .ok (.ifCond .ne 7, 3) := by decide +kernel
theorem dX8_goesBy_34 : decode cX8_goesBy 34 = .ok (.iconst 1, 1) := by decide +kernel
theorem dX8_goesBy_35 : decode cX8_goesBy 35 = .ok (.goto 4, 3) := by decide +kernel
theorem dX8_goesBy_38 : decode cX8_goesBy 38 = .ok (.iconst 0, 1) := by decide +kernel
theorem dX8_goesBy_39 : decode cX8_goesBy 39 = .ok (.ireturn, 1) := by decide +kernel
theorem dX8_counts_0 : decode cX8_counts 0 = .ok (.aload_n 0, 1) := by decide +kernel
theorem dX8_counts_1 : decode cX8_counts 1 = .ok (.getfield 23, 3) := by decide +kernel
theorem dX8_counts_4 : decode cX8_counts 4 = .ok (.ifCond .eq 19, 3) := by decide +kernel
theorem dX8_counts_7 : decode cX8_counts 7 = .ok (.aload_n 0, 1) := by decide +kernel
theorem dX8_counts_8 : decode cX8_counts 8 = .ok (.getfield 23, 3) := by decide +kernel
theorem dX8_counts_11 : decode cX8_counts 11 = .ok (.aload_n 1, 1) := by decide +kernel
theorem dX8_counts_12 : decode cX8_counts 12 = .ok (.getfield 95, 3) := by decide +kernel
theorem dX8_counts_15 : decode cX8_counts 15 = .ok (.ishr, 1) := by decide +kernel
theorem dX8_counts_16 : decode cX8_counts 16 = .ok (.iconst 1, 1) := by decide +kernel
theorem dX8_counts_17 : decode cX8_counts 17 = .ok (.iand, 1) := by decide +kernel
theorem dX8_counts_18 : decode cX8_counts 18 = .ok (.ifCond .ne 5, 3) := by decide +kernel
theorem dX8_counts_21 : decode cX8_counts 21 = .ok (.iconst 0, 1) := by decide +kernel
theorem dX8_counts_22 : decode cX8_counts 22 = .ok (.ireturn, 1) := by decide +kernel
theorem dX8_counts_23 : decode cX8_counts 23 = .ok (.aload_n 0, 1) := by decide +kernel
theorem dX8_counts_24 : decode cX8_counts 24 = .ok (.getfield 89, 3) := by decide +kernel
theorem dX8_counts_27 : decode cX8_counts 27 = .ok (.tableswitch 99 0 2 #[25, 47, 93], 25) := by decide +kernel
theorem dX8_counts_52 : decode cX8_counts 52 = .ok (.aload_n 0, 1) := by decide +kernel
theorem dX8_counts_53 : decode cX8_counts 53 = .ok (.aload_n 1, 1) := by decide +kernel
theorem dX8_counts_54 : decode cX8_counts 54 = .ok (.invokevirtual 98, 3) := by decide +kernel
theorem dX8_counts_57 : decode cX8_counts 57 = .ok (.ifCond .eq 15, 3) := by decide +kernel
theorem dX8_counts_60 : decode cX8_counts 60 = .ok (.aload_n 0, 1) := by decide +kernel
theorem dX8_counts_61 : decode cX8_counts 61 = .ok (.aload_n 1, 1) := by decide +kernel
theorem dX8_counts_62 : decode cX8_counts 62 = .ok (.invokevirtual 102, 3) := by decide +kernel
theorem dX8_counts_65 : decode cX8_counts 65 = .ok (.ifCond .eq 7, 3) := by decide +kernel
theorem dX8_counts_68 : decode cX8_counts 68 = .ok (.iconst 1, 1) := by decide +kernel
theorem dX8_counts_69 : decode cX8_counts 69 = .ok (.goto 4, 3) := by decide +kernel
theorem dX8_counts_72 : decode cX8_counts 72 = .ok (.iconst 0, 1) := by decide +kernel
theorem dX8_counts_73 : decode cX8_counts 73 = .ok (.ireturn, 1) := by decide +kernel
theorem dX8_counts_74 : decode cX8_counts 74 = .ok (.aload_n 0, 1) := by decide +kernel
theorem dX8_counts_75 : decode cX8_counts 75 = .ok (.aload_n 1, 1) := by decide +kernel
theorem dX8_counts_76 : decode cX8_counts 76 = .ok (.invokevirtual 98, 3) := by decide +kernel
theorem dX8_counts_79 : decode cX8_counts 79 = .ok (.ifCond .eq 39, 3) := by decide +kernel
theorem dX8_counts_82 : decode cX8_counts 82 = .ok (.aload_n 0, 1) := by decide +kernel
theorem dX8_counts_83 : decode cX8_counts 83 = .ok (.getfield 14, 3) := by decide +kernel
theorem dX8_counts_86 : decode cX8_counts 86 = .ok (.getfield 76, 3) := by decide +kernel
theorem dX8_counts_89 : decode cX8_counts 89 = .ok (.ifCond .le 14, 3) := by decide +kernel
theorem dX8_counts_92 : decode cX8_counts 92 = .ok (.aload_n 0, 1) := by decide +kernel
theorem dX8_counts_93 : decode cX8_counts 93 = .ok (.aload_n 1, 1) := by decide +kernel
theorem dX8_counts_94 : decode cX8_counts 94 = .ok (.invokevirtual 102, 3) := by decide +kernel
theorem dX8_counts_97 : decode cX8_counts 97 = .ok (.ifCond .eq 21, 3) := by decide +kernel
theorem dX8_counts_100 : decode cX8_counts 100 = .ok (.goto 14, 3) := by decide +kernel
theorem dX8_counts_103 : decode cX8_counts 103 = .ok (.aload_n 1, 1) := by decide +kernel
theorem dX8_counts_104 : decode cX8_counts 104 = .ok (.getfield 105, 3) := by decide +kernel
theorem dX8_counts_107 : decode cX8_counts 107 = .ok (.aload_n 0, 1) := by decide +kernel
theorem dX8_counts_108 : decode cX8_counts 108 = .ok (.getfield 73, 3) := by decide +kernel
theorem dX8_counts_111 : decode cX8_counts 111 = .ok (.if_icmp .ne 7, 3) := by decide +kernel
theorem dX8_counts_114 : decode cX8_counts 114 = .ok (.iconst 1, 1) := by decide +kernel
theorem dX8_counts_115 : decode cX8_counts 115 = .ok (.goto 4, 3) := by decide +kernel
theorem dX8_counts_118 : decode cX8_counts 118 = .ok (.iconst 0, 1) := by decide +kernel
theorem dX8_counts_119 : decode cX8_counts 119 = .ok (.ireturn, 1) := by decide +kernel
theorem dX8_counts_120 : decode cX8_counts 120 = .ok (.aload_n 0, 1) := by decide +kernel
theorem dX8_counts_121 : decode cX8_counts 121 = .ok (.aload_n 1, 1) := by decide +kernel
theorem dX8_counts_122 : decode cX8_counts 122 = .ok (.invokevirtual 108, 3) := by decide +kernel
theorem dX8_counts_125 : decode cX8_counts 125 = .ok (.ireturn, 1) := by decide +kernel
theorem dX8_counts_126 : decode cX8_counts 126 = .ok (.aload_n 0, 1) := by decide +kernel
theorem dX8_counts_127 : decode cX8_counts 127 = .ok (.getfield 23, 3) := by decide +kernel
theorem dX8_counts_130 : decode cX8_counts 130 = .ok (.ifCond .ne 10, 3) := by decide +kernel
theorem dX8_counts_133 : decode cX8_counts 133 = .ok (.aload_n 0, 1) := by decide +kernel
theorem dX8_counts_134 : decode cX8_counts 134 = .ok (.getfield 36, 3) := by decide +kernel
theorem dX8_counts_137 : decode cX8_counts 137 = .ok (.ifCond .le 11, 3) := by decide +kernel
theorem dX8_counts_140 : decode cX8_counts 140 = .ok (.aload_n 0, 1) := by decide +kernel
theorem dX8_counts_141 : decode cX8_counts 141 = .ok (.aload_n 1, 1) := by decide +kernel
theorem dX8_counts_142 : decode cX8_counts 142 = .ok (.invokevirtual 108, 3) := by decide +kernel
theorem dX8_counts_145 : decode cX8_counts 145 = .ok (.goto 8, 3) := by decide +kernel
theorem dX8_counts_148 : decode cX8_counts 148 = .ok (.aload_n 0, 1) := by decide +kernel
theorem dX8_counts_149 : decode cX8_counts 149 = .ok (.aload_n 1, 1) := by decide +kernel
theorem dX8_counts_150 : decode cX8_counts 150 = .ok (.invokevirtual 111, 3) := by decide +kernel
theorem dX8_counts_153 : decode cX8_counts 153 = .ok (.ireturn, 1) := by decide +kernel
theorem dX8_countsInMonth_0 : decode cX8_countsInMonth 0 = .ok (.aload_n 0, 1) := by decide +kernel
theorem dX8_countsInMonth_1 : decode cX8_countsInMonth 1 = .ok (.getfield 36, 3) := by decide +kernel
theorem dX8_countsInMonth_4 : decode cX8_countsInMonth 4 = .ok (.ifCond .le 25, 3) := by decide +kernel
theorem dX8_countsInMonth_7 : decode cX8_countsInMonth 7 = .ok (.aload_n 0, 1) := by decide +kernel
theorem dX8_countsInMonth_8 : decode cX8_countsInMonth 8 = .ok (.aload_n 1, 1) := by decide +kernel
theorem dX8_countsInMonth_9 : decode cX8_countsInMonth 9 = .ok (.invokevirtual 98, 3) := by decide +kernel
theorem dX8_countsInMonth_12 : decode cX8_countsInMonth 12 = .ok (.ifCond .eq 15, 3) := by decide +kernel
theorem dX8_countsInMonth_15 : decode cX8_countsInMonth 15 = .ok (.aload_n 0, 1) := by decide +kernel
theorem dX8_countsInMonth_16 : decode cX8_countsInMonth 16 = .ok (.aload_n 1, 1) := by decide +kernel
theorem dX8_countsInMonth_17 : decode cX8_countsInMonth 17 = .ok (.invokevirtual 102, 3) := by decide +kernel
theorem dX8_countsInMonth_20 : decode cX8_countsInMonth 20 = .ok (.ifCond .eq 7, 3) := by decide +kernel
theorem dX8_countsInMonth_23 : decode cX8_countsInMonth 23 = .ok (.iconst 1, 1) := by decide +kernel
theorem dX8_countsInMonth_24 : decode cX8_countsInMonth 24 = .ok (.goto 4, 3) := by decide +kernel
theorem dX8_countsInMonth_27 : decode cX8_countsInMonth 27 = .ok (.iconst 0, 1) := by decide +kernel
theorem dX8_countsInMonth_28 : decode cX8_countsInMonth 28 = .ok (.ireturn, 1) := by decide +kernel
theorem dX8_countsInMonth_29 : decode cX8_countsInMonth 29 = .ok (.aload_n 0, 1) := by decide +kernel
theorem dX8_countsInMonth_30 : decode cX8_countsInMonth 30 = .ok (.getfield 14, 3) := by decide +kernel
theorem dX8_countsInMonth_33 : decode cX8_countsInMonth 33 = .ok (.getfield 76, 3) := by decide +kernel
theorem dX8_countsInMonth_36 : decode cX8_countsInMonth 36 = .ok (.ifCond .le 22, 3) := by decide +kernel
theorem dX8_countsInMonth_39 : decode cX8_countsInMonth 39 = .ok (.aload_n 0, 1) := by decide +kernel
theorem dX8_countsInMonth_40 : decode cX8_countsInMonth 40 = .ok (.aload_n 1, 1) := by decide +kernel
theorem dX8_countsInMonth_41 : decode cX8_countsInMonth 41 = .ok (.getfield 105, 3) := by decide +kernel
theorem dX8_countsInMonth_44 : decode cX8_countsInMonth 44 = .ok (.aload_n 1, 1) := by decide +kernel
theorem dX8_countsInMonth_45 : decode cX8_countsInMonth 45 = .ok (.getfield 114, 3) := by decide +kernel
theorem dX8_countsInMonth_48 : decode cX8_countsInMonth 48 = .ok (.aload_n 1, 1) := by decide +kernel
theorem dX8_countsInMonth_49 : decode cX8_countsInMonth 49 = .ok (.getfield 117, 3) := by decide +kernel
theorem dX8_countsInMonth_52 : decode cX8_countsInMonth 52 = .ok (.invokevirtual 120, 3) := by decide +kernel
theorem dX8_countsInMonth_55 : decode cX8_countsInMonth 55 = .ok (.goto 19, 3) := by decide +kernel
theorem dX8_countsInMonth_58 : decode cX8_countsInMonth 58 = .ok (.aload_n 1, 1) := by decide +kernel
theorem dX8_countsInMonth_59 : decode cX8_countsInMonth 59 = .ok (.getfield 114, 3) := by decide +kernel
theorem dX8_countsInMonth_62 : decode cX8_countsInMonth 62 = .ok (.aload_n 0, 1) := by decide +kernel
theorem dX8_countsInMonth_63 : decode cX8_countsInMonth 63 = .ok (.getfield 67, 3) := by decide +kernel
theorem dX8_countsInMonth_66 : decode cX8_countsInMonth 66 = .ok (.if_icmp .ne 7, 3) := by decide +kernel
theorem dX8_countsInMonth_69 : decode cX8_countsInMonth 69 = .ok (.iconst 1, 1) := by decide +kernel
theorem dX8_countsInMonth_70 : decode cX8_countsInMonth 70 = .ok (.goto 4, 3) := by decide +kernel
theorem dX8_countsInMonth_73 : decode cX8_countsInMonth 73 = .ok (.iconst 0, 1) := by decide +kernel
theorem dX8_countsInMonth_74 : decode cX8_countsInMonth 74 = .ok (.ireturn, 1) := by decide +kernel
theorem dX8_countsInYear_0 : decode cX8_countsInYear 0 = .ok (.aload_n 0, 1) := by decide +kernel
theorem dX8_countsInYear_1 : decode cX8_countsInYear 1 = .ok (.getfield 14, 3) := by decide +kernel
theorem dX8_countsInYear_4 : decode cX8_countsInYear 4 = .ok (.getfield 76, 3) := by decide +kernel
theorem dX8_countsInYear_7 : decode cX8_countsInYear 7 = .ok (.ifCond .le 20, 3) := by decide +kernel
theorem dX8_countsInYear_10 : decode cX8_countsInYear 10 = .ok (.aload_n 0, 1) := by decide +kernel
theorem dX8_countsInYear_11 : decode cX8_countsInYear 11 = .ok (.aload_n 1, 1) := by decide +kernel
theorem dX8_countsInYear_12 : decode cX8_countsInYear 12 = .ok (.getfield 105, 3) := by decide +kernel
theorem dX8_countsInYear_15 : decode cX8_countsInYear 15 = .ok (.aload_n 1, 1) := by decide +kernel
theorem dX8_countsInYear_16 : decode cX8_countsInYear 16 = .ok (.getfield 124, 3) := by decide +kernel
theorem dX8_countsInYear_19 : decode cX8_countsInYear 19 = .ok (.aload_n 1, 1) := by decide +kernel
theorem dX8_countsInYear_20 : decode cX8_countsInYear 20 = .ok (.getfield 127, 3) := by decide +kernel
theorem dX8_countsInYear_23 : decode cX8_countsInYear 23 = .ok (.invokevirtual 120, 3) := by decide +kernel
theorem dX8_countsInYear_26 : decode cX8_countsInYear 26 = .ok (.ireturn, 1) := by decide +kernel
theorem dX8_countsInYear_27 : decode cX8_countsInYear 27 = .ok (.aload_n 1, 1) := by decide +kernel
theorem dX8_countsInYear_28 : decode cX8_countsInYear 28 = .ok (.getfield 95, 3) := by decide +kernel
theorem dX8_countsInYear_31 : decode cX8_countsInYear 31 = .ok (.aload_n 0, 1) := by decide +kernel
theorem dX8_countsInYear_32 : decode cX8_countsInYear 32 = .ok (.getfield 60, 3) := by decide +kernel
theorem dX8_countsInYear_35 : decode cX8_countsInYear 35 = .ok (.if_icmp .ne 18, 3) := by decide +kernel
theorem dX8_countsInYear_38 : decode cX8_countsInYear 38 = .ok (.aload_n 1, 1) := by decide +kernel
theorem dX8_countsInYear_39 : decode cX8_countsInYear 39 = .ok (.getfield 114, 3) := by decide +kernel
theorem dX8_countsInYear_42 : decode cX8_countsInYear 42 = .ok (.aload_n 0, 1) := by decide +kernel
theorem dX8_countsInYear_43 : decode cX8_countsInYear 43 = .ok (.getfield 67, 3) := by decide +kernel
theorem dX8_countsInYear_46 : decode cX8_countsInYear 46 = .ok (.if_icmp .ne 7, 3) := by decide +kernel
theorem dX8_countsInYear_49 : decode cX8_countsInYear 49 = .ok (.iconst 1, 1) := by decide +kernel
theorem dX8_countsInYear_50 : decode cX8_countsInYear 50 = .ok (.goto 4, 3) := by decide +kernel
theorem dX8_countsInYear_53 : decode cX8_countsInYear 53 = .ok (.iconst 0, 1) := by decide +kernel
theorem dX8_countsInYear_54 : decode cX8_countsInYear 54 = .ok (.ireturn, 1) := by decide +kernel
theorem dX8_dateTold_0 : decode cX8_dateTold 0 = .ok (.aload_n 0, 1) := by decide +kernel
theorem dX8_dateTold_1 : decode cX8_dateTold 1 = .ok (.getfield 36, 3) := by decide +kernel
theorem dX8_dateTold_4 : decode cX8_dateTold 4 = .ok (.ifCond .eq 38, 3) := by decide +kernel
theorem dX8_dateTold_7 : decode cX8_dateTold 7 = .ok (.aload_n 0, 1) := by decide +kernel
theorem dX8_dateTold_8 : decode cX8_dateTold 8 = .ok (.getfield 27, 3) := by decide +kernel
theorem dX8_dateTold_11 : decode cX8_dateTold 11 = .ok (.aload_n 1, 1) := by decide +kernel
theorem dX8_dateTold_12 : decode cX8_dateTold 12 = .ok (.getfield 114, 3) := by decide +kernel
theorem dX8_dateTold_15 : decode cX8_dateTold 15 = .ok (.ishr, 1) := by decide +kernel
theorem dX8_dateTold_16 : decode cX8_dateTold 16 = .ok (.iconst 1, 1) := by decide +kernel
theorem dX8_dateTold_17 : decode cX8_dateTold 17 = .ok (.iand, 1) := by decide +kernel
theorem dX8_dateTold_18 : decode cX8_dateTold 18 = .ok (.ifCond .ne 24, 3) := by decide +kernel
theorem dX8_dateTold_21 : decode cX8_dateTold 21 = .ok (.aload_n 0, 1) := by decide +kernel
theorem dX8_dateTold_22 : decode cX8_dateTold 22 = .ok (.getfield 30, 3) := by decide +kernel
theorem dX8_dateTold_25 : decode cX8_dateTold 25 = .ok (.aload_n 1, 1) := by decide +kernel
theorem dX8_dateTold_26 : decode cX8_dateTold 26 = .ok (.getfield 117, 3) := by decide +kernel
theorem dX8_dateTold_29 : decode cX8_dateTold 29 = .ok (.iconst 1, 1) := by decide +kernel
theorem dX8_dateTold_30 : decode cX8_dateTold 30 = .ok (.iadd, 1) := by decide +kernel
theorem dX8_dateTold_31 : decode cX8_dateTold 31 = .ok (.aload_n 1, 1) := by decide +kernel
theorem dX8_dateTold_32 : decode cX8_dateTold 32 = .ok (.getfield 114, 3) := by decide +kernel
theorem dX8_dateTold_35 : decode cX8_dateTold 35 = .ok (.isub, 1) := by decide +kernel
theorem dX8_dateTold_36 : decode cX8_dateTold 36 = .ok (.ishr, 1) := by decide +kernel
theorem dX8_dateTold_37 : decode cX8_dateTold 37 = .ok (.iconst 1, 1) := by decide +kernel
theorem dX8_dateTold_38 : decode cX8_dateTold 38 = .ok (.iand, 1) := by decide +kernel
theorem dX8_dateTold_39 : decode cX8_dateTold 39 = .ok (.ifCond .eq 7, 3) := by decide +kernel
theorem dX8_dateTold_42 : decode cX8_dateTold 42 = .ok (.iconst 1, 1) := by decide +kernel
theorem dX8_dateTold_43 : decode cX8_dateTold 43 = .ok (.goto 4, 3) := by decide +kernel
theorem dX8_dateTold_46 : decode cX8_dateTold 46 = .ok (.iconst 0, 1) := by decide +kernel
theorem dX8_dateTold_47 : decode cX8_dateTold 47 = .ok (.ireturn, 1) := by decide +kernel
theorem dX8_weekdayTold_0 : decode cX8_weekdayTold 0 = .ok (.aload_n 0, 1) := by decide +kernel
theorem dX8_weekdayTold_1 : decode cX8_weekdayTold 1 = .ok (.getfield 14, 3) := by decide +kernel
theorem dX8_weekdayTold_4 : decode cX8_weekdayTold 4 = .ok (.getfield 76, 3) := by decide +kernel
theorem dX8_weekdayTold_7 : decode cX8_weekdayTold 7 = .ok (.ifCond .eq 17, 3) := by decide +kernel
theorem dX8_weekdayTold_10 : decode cX8_weekdayTold 10 = .ok (.aload_n 0, 1) := by decide +kernel
theorem dX8_weekdayTold_11 : decode cX8_weekdayTold 11 = .ok (.getfield 33, 3) := by decide +kernel
theorem dX8_weekdayTold_14 : decode cX8_weekdayTold 14 = .ok (.aload_n 1, 1) := by decide +kernel
theorem dX8_weekdayTold_15 : decode cX8_weekdayTold 15 = .ok (.getfield 105, 3) := by decide +kernel
theorem dX8_weekdayTold_18 : decode cX8_weekdayTold 18 = .ok (.ishr, 1) := by decide +kernel
theorem dX8_weekdayTold_19 : decode cX8_weekdayTold 19 = .ok (.iconst 1, 1) := by decide +kernel
theorem dX8_weekdayTold_20 : decode cX8_weekdayTold 20 = .ok (.iand, 1) := by decide +kernel
theorem dX8_weekdayTold_21 : decode cX8_weekdayTold 21 = .ok (.ifCond .eq 7, 3) := by decide +kernel
theorem dX8_weekdayTold_24 : decode cX8_weekdayTold 24 = .ok (.iconst 1, 1) := by decide +kernel
theorem dX8_weekdayTold_25 : decode cX8_weekdayTold 25 = .ok (.goto 4, 3) := by decide +kernel
theorem dX8_weekdayTold_28 : decode cX8_weekdayTold 28 = .ok (.iconst 0, 1) := by decide +kernel
theorem dX8_weekdayTold_29 : decode cX8_weekdayTold 29 = .ok (.ireturn, 1) := by decide +kernel
theorem dX8_placeTold_0 : decode cX8_placeTold 0 = .ok (.iload_n 2, 1) := by decide +kernel
theorem dX8_placeTold_1 : decode cX8_placeTold 1 = .ok (.iconst 1, 1) := by decide +kernel
theorem dX8_placeTold_2 : decode cX8_placeTold 2 = .ok (.isub, 1) := by decide +kernel
theorem dX8_placeTold_3 : decode cX8_placeTold 3 = .ok (.bipush 7, 2) := by decide +kernel
theorem dX8_placeTold_5 : decode cX8_placeTold 5 = .ok (.idiv, 1) := by decide +kernel
theorem dX8_placeTold_6 : decode cX8_placeTold 6 = .ok (.iconst 1, 1) := by decide +kernel
theorem dX8_placeTold_7 : decode cX8_placeTold 7 = .ok (.iadd, 1) := by decide +kernel
theorem dX8_placeTold_8 : decode cX8_placeTold 8 = .ok (.istore 4, 2) := by decide +kernel
theorem dX8_placeTold_10 : decode cX8_placeTold 10 = .ok (.iload_n 3, 1) := by decide +kernel
theorem dX8_placeTold_11 : decode cX8_placeTold 11 = .ok (.iload_n 2, 1) := by decide +kernel
theorem dX8_placeTold_12 : decode cX8_placeTold 12 = .ok (.isub, 1) := by decide +kernel
theorem dX8_placeTold_13 : decode cX8_placeTold 13 = .ok (.bipush 7, 2) := by decide +kernel
theorem dX8_placeTold_15 : decode cX8_placeTold 15 = .ok (.idiv, 1) := by decide +kernel
theorem dX8_placeTold_16 : decode cX8_placeTold 16 = .ok (.iconst 1, 1) := by decide +kernel
theorem dX8_placeTold_17 : decode cX8_placeTold 17 = .ok (.iadd, 1) := by decide +kernel
theorem dX8_placeTold_18 : decode cX8_placeTold 18 = .ok (.istore 5, 2) := by decide +kernel
theorem dX8_placeTold_20 : decode cX8_placeTold 20 = .ok (.iconst 0, 1) := by decide +kernel
theorem dX8_placeTold_21 : decode cX8_placeTold 21 = .ok (.istore 6, 2) := by decide +kernel
theorem dX8_placeTold_23 : decode cX8_placeTold 23 = .ok (.iload 6, 2) := by decide +kernel
theorem dX8_placeTold_25 : decode cX8_placeTold 25 = .ok (.aload_n 0, 1) := by decide +kernel
theorem dX8_placeTold_26 : decode cX8_placeTold 26 = .ok (.getfield 14, 3) := by decide +kernel
theorem dX8_placeTold_29 : decode cX8_placeTold 29 = .ok (.getfield 76, 3) := by decide +kernel
theorem dX8_placeTold_32 : decode cX8_placeTold 32 = .ok (.if_icmp .ge 75, 3) := by decide +kernel
theorem dX8_placeTold_35 : decode cX8_placeTold 35 = .ok (.iload 6, 2) := by decide +kernel
theorem dX8_placeTold_37 : decode cX8_placeTold 37 = .ok (.aload_n 0, 1) := by decide +kernel
theorem dX8_placeTold_38 : decode cX8_placeTold 38 = .ok (.getfield 14, 3) := by decide +kernel
theorem dX8_placeTold_41 : decode cX8_placeTold 41 = .ok (.getfield 130, 3) := by decide +kernel
theorem dX8_placeTold_44 : decode cX8_placeTold 44 = .ok (.arraylength, 1) := by decide +kernel
theorem dX8_placeTold_45 : decode cX8_placeTold 45 = .ok (.if_icmp .ge 62, 3) := by decide +kernel
theorem dX8_placeTold_48 : decode cX8_placeTold 48 = .ok (.aload_n 0, 1) := by decide +kernel
theorem dX8_placeTold_49 : decode cX8_placeTold 49 = .ok (.getfield 14, 3) := by decide +kernel
theorem dX8_placeTold_52 : decode cX8_placeTold 52 = .ok (.getfield 130, 3) := by decide +kernel
theorem dX8_placeTold_55 : decode cX8_placeTold 55 = .ok (.iload 6, 2) := by decide +kernel
theorem dX8_placeTold_57 : decode cX8_placeTold 57 = .ok (.iaload, 1) := by decide +kernel
theorem dX8_placeTold_58 : decode cX8_placeTold 58 = .ok (.iconst 3, 1) := by decide +kernel
theorem dX8_placeTold_59 : decode cX8_placeTold 59 = .ok (.ishr, 1) := by decide +kernel
theorem dX8_placeTold_60 : decode cX8_placeTold 60 = .ok (.istore 7, 2) := by decide +kernel
theorem dX8_placeTold_62 : decode cX8_placeTold 62 = .ok (.aload_n 0, 1) := by decide +kernel
theorem dX8_placeTold_63 : decode cX8_placeTold 63 = .ok (.getfield 14, 3) := by decide +kernel
theorem dX8_placeTold_66 : decode cX8_placeTold 66 = .ok (.getfield 130, 3) := by decide +kernel
theorem dX8_placeTold_69 : decode cX8_placeTold 69 = .ok (.iload 6, 2) := by decide +kernel
theorem dX8_placeTold_71 : decode cX8_placeTold 71 = .ok (.iaload, 1) := by decide +kernel
theorem dX8_placeTold_72 : decode cX8_placeTold 72 = .ok (.bipush 7, 2) := by decide +kernel
theorem dX8_placeTold_74 : decode cX8_placeTold 74 = .ok (.iand, 1) := by decide +kernel
theorem dX8_placeTold_75 : decode cX8_placeTold 75 = .ok (.iload_n 1, 1) := by decide +kernel
theorem dX8_placeTold_76 : decode cX8_placeTold 76 = .ok (.if_icmp .ne 25, 3) := by decide +kernel
theorem dX8_placeTold_79 : decode cX8_placeTold 79 = .ok (.iload 7, 2) := by decide +kernel
theorem dX8_placeTold_81 : decode cX8_placeTold 81 = .ok (.ifCond .eq 18, 3) := by decide +kernel
theorem dX8_placeTold_84 : decode cX8_placeTold 84 = .ok (.iload 7, 2) := by decide +kernel
theorem dX8_placeTold_86 : decode cX8_placeTold 86 = .ok (.iload 4, 2) := by decide +kernel
theorem dX8_placeTold_88 : decode cX8_placeTold 88 = .ok (.if_icmp .eq 11, 3) := by decide +kernel
theorem dX8_placeTold_91 : decode cX8_placeTold 91 = .ok (.iload 7, 2) := by decide +kernel
theorem dX8_placeTold_93 : decode cX8_placeTold 93 = .ok (.iload 5, 2) := by decide +kernel
theorem dX8_placeTold_95 : decode cX8_placeTold 95 = .ok (.ineg, 1) := by decide +kernel
theorem dX8_placeTold_96 : decode cX8_placeTold 96 = .ok (.if_icmp .ne 5, 3) := by decide +kernel
theorem dX8_placeTold_99 : decode cX8_placeTold 99 = .ok (.iconst 1, 1) := by decide +kernel
theorem dX8_placeTold_100 : decode cX8_placeTold 100 = .ok (.ireturn, 1) := by decide +kernel
theorem dX8_placeTold_101 : decode cX8_placeTold 101 = .ok (.iinc 6 1, 3) := by decide +kernel
theorem dX8_placeTold_104 : decode cX8_placeTold 104 = .ok (.goto (-81), 3) := by decide +kernel
theorem dX8_placeTold_107 : decode cX8_placeTold 107 = .ok (.iconst 0, 1) := by decide +kernel
theorem dX8_placeTold_108 : decode cX8_placeTold 108 = .ok (.ireturn, 1) := by decide +kernel
theorem dX9_init_0 : decode cX9_init 0 = .ok (.aload_n 0, 1) := by decide +kernel
theorem dX9_init_1 : decode cX9_init 1 = .ok (.invokespecial 3, 3) := by decide +kernel
theorem dX9_init_4 : decode cX9_init 4 = .ok (.aload_n 0, 1) := by decide +kernel
theorem dX9_init_5 : decode cX9_init 5 = .ok (.new 9, 3) := by decide +kernel
theorem dX9_init_8 : decode cX9_init 8 = .ok (.dup, 1) := by decide +kernel
theorem dX9_init_9 : decode cX9_init 9 = .ok (.invokespecial 11, 3) := by decide +kernel
theorem dX9_init_12 : decode cX9_init 12 = .ok (.putfield 12, 3) := by decide +kernel
theorem dX9_init_15 : decode cX9_init 15 = .ok (.aload_n 0, 1) := by decide +kernel
theorem dX9_init_16 : decode cX9_init 16 = .ok (.bipush 12, 2) := by decide +kernel
theorem dX9_init_18 : decode cX9_init 18 = .ok (.newarray .int, 2) := by decide +kernel
theorem dX9_init_20 : decode cX9_init 20 = .ok (.putfield 18, 3) := by decide +kernel
theorem dX9_init_23 : decode cX9_init 23 = .ok (.aload_n 0, 1) := by decide +kernel
theorem dX9_init_24 : decode cX9_init 24 = .ok (.bipush 12, 2) := by decide +kernel
theorem dX9_init_26 : decode cX9_init 26 = .ok (.newarray .boolean, 2) := by decide +kernel
theorem dX9_init_28 : decode cX9_init 28 = .ok (.putfield 22, 3) := by decide +kernel
theorem dX9_init_31 : decode cX9_init 31 = .ok (.aload_n 0, 1) := by decide +kernel
theorem dX9_init_32 : decode cX9_init 32 = .ok (.sipush 366, 3) := by decide +kernel
theorem dX9_init_35 : decode cX9_init 35 = .ok (.newarray .int, 2) := by decide +kernel
theorem dX9_init_37 : decode cX9_init 37 = .ok (.putfield 26, 3) := by decide +kernel
theorem dX9_init_40 : decode cX9_init 40 = .ok (.aload_n 0, 1) := by decide +kernel
theorem dX9_init_41 : decode cX9_init 41 = .ok (.new 29, 3) := by decide +kernel
theorem dX9_init_44 : decode cX9_init 44 = .ok (.dup, 1) := by decide +kernel
theorem dX9_init_45 : decode cX9_init 45 = .ok (.bipush 60, 2) := by decide +kernel
theorem dX9_init_47 : decode cX9_init 47 = .ok (.invokespecial 31, 3) := by decide +kernel
theorem dX9_init_50 : decode cX9_init 50 = .ok (.putfield 34, 3) := by decide +kernel
theorem dX9_init_53 : decode cX9_init 53 = .ok (.aload_n 0, 1) := by decide +kernel
theorem dX9_init_54 : decode cX9_init 54 = .ok (.aload_n 1, 1) := by decide +kernel
theorem dX9_init_55 : decode cX9_init 55 = .ok (.putfield 38, 3) := by decide +kernel
theorem dX9_init_58 : decode cX9_init 58 = .ok (.return_, 1) := by decide +kernel
theorem dX9_isTold_0 : decode cX9_isTold 0 = .ok (.aload_n 0, 1) := by decide +kernel
theorem dX9_isTold_1 : decode cX9_isTold 1 = .ok (.getfield 42, 3) := by decide +kernel
theorem dX9_isTold_4 : decode cX9_isTold 4 = .ok (.iconst 3, 1) := by decide +kernel
theorem dX9_isTold_5 : decode cX9_isTold 5 = .ok (.if_icmp .lt 21, 3) := by decide +kernel
theorem dX9_isTold_8 : decode cX9_isTold 8 = .ok (.aload_n 0, 1) := by decide +kernel
theorem dX9_isTold_9 : decode cX9_isTold 9 = .ok (.getfield 42, 3) := by decide +kernel
theorem dX9_isTold_12 : decode cX9_isTold 12 = .ok (.bipush 36, 2) := by decide +kernel
theorem dX9_isTold_14 : decode cX9_isTold 14 = .ok (.if_icmp .gt 12, 3) := by decide +kernel
theorem dX9_isTold_17 : decode cX9_isTold 17 = .ok (.aload_n 0, 1) := by decide +kernel
theorem dX9_isTold_18 : decode cX9_isTold 18 = .ok (.getfield 42, 3) := by decide +kernel
theorem dX9_isTold_21 : decode cX9_isTold 21 = .ok (.iconst 3, 1) := by decide +kernel
theorem dX9_isTold_22 : decode cX9_isTold 22 = .ok (.irem, 1) := by decide +kernel
theorem dX9_isTold_23 : decode cX9_isTold 23 = .ok (.ifCond .eq 5, 3) := by decide +kernel
theorem dX9_isTold_26 : decode cX9_isTold 26 = .ok (.iconst 0, 1) := by decide +kernel
theorem dX9_isTold_27 : decode cX9_isTold 27 = .ok (.ireturn, 1) := by decide +kernel
theorem dX9_isTold_28 : decode cX9_isTold 28 = .ok (.iconst 0, 1) := by decide +kernel
theorem dX9_isTold_29 : decode cX9_isTold 29 = .ok (.istore_n 1, 1) := by decide +kernel
theorem dX9_isTold_30 : decode cX9_isTold 30 = .ok (.iload_n 1, 1) := by decide +kernel
theorem dX9_isTold_31 : decode cX9_isTold 31 = .ok (.aload_n 0, 1) := by decide +kernel
theorem dX9_isTold_32 : decode cX9_isTold 32 = .ok (.getfield 42, 3) := by decide +kernel
theorem dX9_isTold_35 : decode cX9_isTold 35 = .ok (.if_icmp .ge 33, 3) := by decide +kernel
theorem dX9_isTold_38 : decode cX9_isTold 38 = .ok (.aload_n 0, 1) := by decide +kernel
theorem dX9_isTold_39 : decode cX9_isTold 39 = .ok (.iload_n 1, 1) := by decide +kernel
theorem dX9_isTold_40 : decode cX9_isTold 40 = .ok (.invokestatic 48, 3) := by decide +kernel
theorem dX9_isTold_43 : decode cX9_isTold 43 = .ok (.invokestatic 52, 3) := by decide +kernel
theorem dX9_isTold_46 : decode cX9_isTold 46 = .ok (.ifCond .eq 14, 3) := by decide +kernel
theorem dX9_isTold_49 : decode cX9_isTold 49 = .ok (.aload_n 0, 1) := by decide +kernel
theorem dX9_isTold_50 : decode cX9_isTold 50 = .ok (.iload_n 1, 1) := by decide +kernel
theorem dX9_isTold_51 : decode cX9_isTold 51 = .ok (.iconst 2, 1) := by decide +kernel
theorem dX9_isTold_52 : decode cX9_isTold 52 = .ok (.iadd, 1) := by decide +kernel
theorem dX9_isTold_53 : decode cX9_isTold 53 = .ok (.invokevirtual 56, 3) := by decide +kernel
theorem dX9_isTold_56 : decode cX9_isTold 56 = .ok (.iconst 1, 1) := by decide +kernel
theorem dX9_isTold_57 : decode cX9_isTold 57 = .ok (.if_icmp .le 5, 3) := by decide +kernel
theorem dX9_isTold_60 : decode cX9_isTold 60 = .ok (.iconst 0, 1) := by decide +kernel
theorem dX9_isTold_61 : decode cX9_isTold 61 = .ok (.ireturn, 1) := by decide +kernel
theorem dX9_isTold_62 : decode cX9_isTold 62 = .ok (.iinc 1 3, 3) := by decide +kernel
theorem dX9_isTold_65 : decode cX9_isTold 65 = .ok (.goto (-35), 3) := by decide +kernel
theorem dX9_isTold_68 : decode cX9_isTold 68 = .ok (.iconst 1, 1) := by decide +kernel
theorem dX9_isTold_69 : decode cX9_isTold 69 = .ok (.ireturn, 1) := by decide +kernel
theorem dX9_dayAt_0 : decode cX9_dayAt 0 = .ok (.aload_n 0, 1) := by decide +kernel
theorem dX9_dayAt_1 : decode cX9_dayAt 1 = .ok (.iload_n 1, 1) := by decide +kernel
theorem dX9_dayAt_2 : decode cX9_dayAt 2 = .ok (.invokevirtual 56, 3) := by decide +kernel
theorem dX9_dayAt_5 : decode cX9_dayAt 5 = .ok (.sipush 256, 3) := by decide +kernel
theorem dX9_dayAt_8 : decode cX9_dayAt 8 = .ok (.imul, 1) := by decide +kernel
theorem dX9_dayAt_9 : decode cX9_dayAt 9 = .ok (.aload_n 0, 1) := by decide +kernel
theorem dX9_dayAt_10 : decode cX9_dayAt 10 = .ok (.iload_n 1, 1) := by decide +kernel
theorem dX9_dayAt_11 : decode cX9_dayAt 11 = .ok (.iconst 1, 1) := by decide +kernel
theorem dX9_dayAt_12 : decode cX9_dayAt 12 = .ok (.iadd, 1) := by decide +kernel
theorem dX9_dayAt_13 : decode cX9_dayAt 13 = .ok (.invokevirtual 56, 3) := by decide +kernel
theorem dX9_dayAt_16 : decode cX9_dayAt 16 = .ok (.iadd, 1) := by decide +kernel
theorem dX9_dayAt_17 : decode cX9_dayAt 17 = .ok (.ireturn, 1) := by decide +kernel
theorem dX9_take_0 : decode cX9_take 0 = .ok (.aload_n 0, 1) := by decide +kernel
theorem dX9_take_1 : decode cX9_take 1 = .ok (.aload_n 2, 1) := by decide +kernel
theorem dX9_take_2 : decode cX9_take 2 = .ok (.putfield 60, 3) := by decide +kernel
theorem dX9_take_5 : decode cX9_take 5 = .ok (.aload_n 0, 1) := by decide +kernel
theorem dX9_take_6 : decode cX9_take 6 = .ok (.bipush 12, 2) := by decide +kernel
theorem dX9_take_8 : decode cX9_take 8 = .ok (.aload_n 1, 1) := by decide +kernel
theorem dX9_take_9 : decode cX9_take 9 = .ok (.getfield 42, 3) := by decide +kernel
theorem dX9_take_12 : decode cX9_take 12 = .ok (.iconst 3, 1) := by decide +kernel
theorem dX9_take_13 : decode cX9_take 13 = .ok (.idiv, 1) := by decide +kernel
theorem dX9_take_14 : decode cX9_take 14 = .ok (.invokestatic 64, 3) := by decide +kernel
theorem dX9_take_17 : decode cX9_take 17 = .ok (.putfield 70, 3) := by decide +kernel
theorem dX9_take_20 : decode cX9_take 20 = .ok (.iconst 0, 1) := by decide +kernel
theorem dX9_take_21 : decode cX9_take 21 = .ok (.istore_n 3, 1) := by decide +kernel
theorem dX9_take_22 : decode cX9_take 22 = .ok (.iload_n 3, 1) := by decide +kernel
theorem dX9_take_23 : decode cX9_take 23 = .ok (.aload_n 0, 1) := by decide +kernel
theorem dX9_take_24 : decode cX9_take 24 = .ok (.getfield 70, 3) := by decide +kernel
theorem dX9_take_27 : decode cX9_take 27 = .ok (.if_icmp .ge 46, 3) := by decide +kernel
theorem dX9_take_30 : decode cX9_take 30 = .ok (.aload_n 0, 1) := by decide +kernel
theorem dX9_take_31 : decode cX9_take 31 = .ok (.getfield 18, 3) := by decide +kernel
theorem dX9_take_34 : decode cX9_take 34 = .ok (.iload_n 3, 1) := by decide +kernel
theorem dX9_take_35 : decode cX9_take 35 = .ok (.aload_n 1, 1) := by decide +kernel
theorem dX9_take_36 : decode cX9_take 36 = .ok (.iload_n 3, 1) := by decide +kernel
theorem dX9_take_37 : decode cX9_take 37 = .ok (.iconst 3, 1) := by decide +kernel
theorem dX9_take_38 : decode cX9_take 38 = .ok (.imul, 1) := by decide +kernel
theorem dX9_take_39 : decode cX9_take 39 = .ok (.invokestatic 48, 3) := by decide +kernel
theorem dX9_take_42 : decode cX9_take 42 = .ok (.iastore, 1) := by decide +kernel
theorem dX9_take_43 : decode cX9_take 43 = .ok (.aload_n 0, 1) := by decide +kernel
theorem dX9_take_44 : decode cX9_take 44 = .ok (.getfield 22, 3) := by decide +kernel
theorem dX9_take_47 : decode cX9_take 47 = .ok (.iload_n 3, 1) := by decide +kernel
theorem dX9_take_48 : decode cX9_take 48 = .ok (.aload_n 1, 1) := by decide +kernel
theorem dX9_take_49 : decode cX9_take 49 = .ok (.iload_n 3, 1) := by decide +kernel
theorem dX9_take_50 : decode cX9_take 50 = .ok (.iconst 3, 1) := by decide +kernel
theorem dX9_take_51 : decode cX9_take 51 = .ok (.imul, 1) := by decide +kernel
theorem dX9_take_52 : decode cX9_take 52 = .ok (.iconst 2, 1) := by decide +kernel
theorem dX9_take_53 : decode cX9_take 53 = .ok (.iadd, 1) := by decide +kernel
theorem dX9_take_54 : decode cX9_take 54 = .ok (.invokevirtual 56, 3) := by decide +kernel
theorem dX9_take_57 : decode cX9_take 57 = .ok (.iconst 1, 1) := by decide +kernel
theorem dX9_take_58 : decode cX9_take 58 = .ok (.if_icmp .ne 7, 3) := by decide +kernel
theorem dX9_take_61 : decode cX9_take 61 = .ok (.iconst 1, 1) := by decide +kernel
theorem dX9_take_62 : decode cX9_take 62 = .ok (.goto 4, 3) := by decide +kernel
theorem dX9_take_65 : decode cX9_take 65 = .ok (.iconst 0, 1) := by decide +kernel
theorem dX9_take_66 : decode cX9_take 66 = .ok (.bastore, 1) := by decide +kernel
theorem dX9_take_67 : decode cX9_take 67 = .ok (.iinc 3 1, 3) := by decide +kernel
theorem dX9_take_70 : decode cX9_take 70 = .ok (.goto (-48), 3) := by decide +kernel
theorem dX9_take_73 : decode cX9_take 73 = .ok (.aload_n 0, 1) := by decide +kernel
theorem dX9_take_74 : decode cX9_take 74 = .ok (.iconst 0, 1) := by decide +kernel
theorem dX9_take_75 : decode cX9_take 75 = .ok (.putfield 71, 3) := by decide +kernel
theorem dX9_take_78 : decode cX9_take 78 = .ok (.return_, 1) := by decide +kernel
theorem dX9_clear_0 : decode cX9_clear 0 = .ok (.aload_n 0, 1) := by decide +kernel
theorem dX9_clear_1 : decode cX9_clear 1 = .ok (.aconst_null, 1) := by decide +kernel
theorem dX9_clear_2 : decode cX9_clear 2 = .ok (.putfield 60, 3) := by decide +kernel
theorem dX9_clear_5 : decode cX9_clear 5 = .ok (.aload_n 0, 1) := by decide +kernel
theorem dX9_clear_6 : decode cX9_clear 6 = .ok (.iconst 0, 1) := by decide +kernel
theorem dX9_clear_7 : decode cX9_clear 7 = .ok (.putfield 70, 3) := by decide +kernel
theorem dX9_clear_10 : decode cX9_clear 10 = .ok (.aload_n 0, 1) := by decide +kernel
theorem dX9_clear_11 : decode cX9_clear 11 = .ok (.iconst 0, 1) := by decide +kernel
theorem dX9_clear_12 : decode cX9_clear 12 = .ok (.putfield 71, 3) := by decide +kernel
theorem dX9_clear_15 : decode cX9_clear 15 = .ok (.return_, 1) := by decide +kernel
theorem dX9_forget_0 : decode cX9_forget 0 = .ok (.aload_n 0, 1) := by decide +kernel
theorem dX9_forget_1 : decode cX9_forget 1 = .ok (.iconst 0, 1) := by decide +kernel
theorem dX9_forget_2 : decode cX9_forget 2 = .ok (.putfield 71, 3) := by decide +kernel
theorem dX9_forget_5 : decode cX9_forget 5 = .ok (.return_, 1) := by decide +kernel
theorem dX9_fitAt_0 : decode cX9_fitAt 0 = .ok (.iload_n 1, 1) := by decide +kernel
theorem dX9_fitAt_1 : decode cX9_fitAt 1 = .ok (.ifCond .lt 14, 3) := by decide +kernel
theorem dX9_fitAt_4 : decode cX9_fitAt 4 = .ok (.iload_n 1, 1) := by decide +kernel
theorem dX9_fitAt_5 : decode cX9_fitAt 5 = .ok (.aload_n 0, 1) := by decide +kernel
theorem dX9_fitAt_6 : decode cX9_fitAt 6 = .ok (.getfield 34, 3) := by decide +kernel
theorem dX9_fitAt_9 : decode cX9_fitAt 9 = .ok (.getfield 75, 3) := by decide +kernel
theorem dX9_fitAt_12 : decode cX9_fitAt 12 = .ok (.if_icmp .lt 7, 3) := by decide +kernel
theorem dX9_fitAt_15 : decode cX9_fitAt 15 = .ok (.iconst (-1), 1) := by decide +kernel
theorem dX9_fitAt_16 : decode cX9_fitAt 16 = .ok (.goto 11, 3) := by decide +kernel
theorem dX9_fitAt_19 : decode cX9_fitAt 19 = .ok (.aload_n 0, 1) := by decide +kernel
theorem dX9_fitAt_20 : decode cX9_fitAt 20 = .ok (.getfield 34, 3) := by decide +kernel
theorem dX9_fitAt_23 : decode cX9_fitAt 23 = .ok (.iload_n 1, 1) := by decide +kernel
theorem dX9_fitAt_24 : decode cX9_fitAt 24 = .ok (.invokevirtual 76, 3) := by decide +kernel
theorem dX9_fitAt_27 : decode cX9_fitAt 27 = .ok (.ireturn, 1) := by decide +kernel
theorem dX9_workOut_0 : decode cX9_workOut 0 = .ok (.aload_n 0, 1) := by decide +kernel
theorem dX9_workOut_1 : decode cX9_workOut 1 = .ok (.getfield 71, 3) := by decide +kernel
theorem dX9_workOut_4 : decode cX9_workOut 4 = .ok (.ifCond .ne 10, 3) := by decide +kernel
theorem dX9_workOut_7 : decode cX9_workOut 7 = .ok (.aload_n 0, 1) := by decide +kernel
theorem dX9_workOut_8 : decode cX9_workOut 8 = .ok (.getfield 60, 3) := by decide +kernel
theorem dX9_workOut_11 : decode cX9_workOut 11 = .ok (.ifnonnull 4, 3) := by decide +kernel
theorem dX9_workOut_14 : decode cX9_workOut 14 = .ok (.return_, 1) := by decide +kernel
theorem dX9_workOut_15 : decode cX9_workOut 15 = .ok (.aload_n 0, 1) := by decide +kernel
theorem dX9_workOut_16 : decode cX9_workOut 16 = .ok (.getfield 18, 3) := by decide +kernel
theorem dX9_workOut_19 : decode cX9_workOut 19 = .ok (.iconst 0, 1) := by decide +kernel
theorem dX9_workOut_20 : decode cX9_workOut 20 = .ok (.iaload, 1) := by decide +kernel
theorem dX9_workOut_21 : decode cX9_workOut 21 = .ok (.invokestatic 79, 3) := by decide +kernel
theorem dX9_workOut_24 : decode cX9_workOut 24 = .ok (.istore_n 1, 1) := by decide +kernel
theorem dX9_workOut_25 : decode cX9_workOut 25 = .ok (.iload_n 1, 1) := by decide +kernel
theorem dX9_workOut_26 : decode cX9_workOut 26 = .ok (.invokestatic 84, 3) := by decide +kernel
theorem dX9_workOut_29 : decode cX9_workOut 29 = .ok (.istore_n 2, 1) := by decide +kernel
theorem dX9_workOut_30 : decode cX9_workOut 30 = .ok (.aload_n 0, 1) := by decide +kernel
theorem dX9_workOut_31 : decode cX9_workOut 31 = .ok (.getfield 26, 3) := by decide +kernel
theorem dX9_workOut_34 : decode cX9_workOut 34 = .ok (.arraylength, 1) := by decide +kernel
theorem dX9_workOut_35 : decode cX9_workOut 35 = .ok (.iload_n 1, 1) := by decide +kernel
theorem dX9_workOut_36 : decode cX9_workOut 36 = .ok (.iconst 1, 1) := by decide +kernel
theorem dX9_workOut_37 : decode cX9_workOut 37 = .ok (.iadd, 1) := by decide +kernel
theorem dX9_workOut_38 : decode cX9_workOut 38 = .ok (.invokestatic 84, 3) := by decide +kernel
theorem dX9_workOut_41 : decode cX9_workOut 41 = .ok (.iload_n 2, 1) := by decide +kernel
theorem dX9_workOut_42 : decode cX9_workOut 42 = .ok (.isub, 1) := by decide +kernel
theorem dX9_workOut_43 : decode cX9_workOut 43 = .ok (.invokestatic 64, 3) := by decide +kernel
theorem dX9_workOut_46 : decode cX9_workOut 46 = .ok (.istore_n 3, 1) := by decide +kernel
theorem dX9_workOut_47 : decode cX9_workOut 47 = .ok (.aload_n 0, 1) := by decide +kernel
theorem dX9_workOut_48 : decode cX9_workOut 48 = .ok (.getfield 26, 3) := by decide +kernel
theorem dX9_workOut_51 : decode cX9_workOut 51 = .ok (.iconst 0, 1) := by decide +kernel
theorem dX9_workOut_52 : decode cX9_workOut 52 = .ok (.invokestatic 87, 3) := by decide +kernel
theorem dX9_workOut_55 : decode cX9_workOut 55 = .ok (.aload_n 0, 1) := by decide +kernel
theorem dX9_workOut_56 : decode cX9_workOut 56 = .ok (.getfield 34, 3) := by decide +kernel
theorem dX9_workOut_59 : decode cX9_workOut 59 = .ok (.invokevirtual 93, 3) := by decide +kernel
theorem dX9_workOut_62 : decode cX9_workOut 62 = .ok (.iconst 1, 1) := by decide +kernel
theorem dX9_workOut_63 : decode cX9_workOut 63 = .ok (.istore 4, 2) := by decide +kernel
theorem dX9_workOut_65 : decode cX9_workOut 65 = .ok (.iload 4, 2) := by decide +kernel
theorem dX9_workOut_67 : decode cX9_workOut 67 = .ok (.bipush 60, 2) := by decide +kernel
theorem dX9_workOut_69 : decode cX9_workOut 69 = .ok (.if_icmp .gt 48, 3) := by decide +kernel
theorem dX9_workOut_72 : decode cX9_workOut 72 = .ok (.aload_n 0, 1) := by decide +kernel
theorem dX9_workOut_73 : decode cX9_workOut 73 = .ok (.getfield 38, 3) := by decide +kernel
theorem dX9_workOut_76 : decode cX9_workOut 76 = .ok (.aload_n 0, 1) := by decide +kernel
theorem dX9_workOut_77 : decode cX9_workOut 77 = .ok (.getfield 60, 3) := by decide +kernel
theorem dX9_workOut_80 : decode cX9_workOut 80 = .ok (.iload 4, 2) := by decide +kernel
theorem dX9_workOut_82 : decode cX9_workOut 82 = .ok (.aload_n 0, 1) := by decide +kernel
theorem dX9_workOut_83 : decode cX9_workOut 83 = .ok (.getfield 12, 3) := by decide +kernel
theorem dX9_workOut_86 : decode cX9_workOut 86 = .ok (.invokevirtual 96, 3) := by decide +kernel
theorem dX9_workOut_89 : decode cX9_workOut 89 = .ok (.aload_n 0, 1) := by decide +kernel
theorem dX9_workOut_90 : decode cX9_workOut 90 = .ok (.invokevirtual 101, 3) := by decide +kernel
theorem dX9_workOut_93 : decode cX9_workOut 93 = .ok (.ifCond .eq 18, 3) := by decide +kernel
theorem dX9_workOut_96 : decode cX9_workOut 96 = .ok (.aload_n 0, 1) := by decide +kernel
theorem dX9_workOut_97 : decode cX9_workOut 97 = .ok (.getfield 34, 3) := by decide +kernel
theorem dX9_workOut_100 : decode cX9_workOut 100 = .ok (.iload 4, 2) := by decide +kernel
theorem dX9_workOut_102 : decode cX9_workOut 102 = .ok (.invokevirtual 105, 3) := by decide +kernel
theorem dX9_workOut_105 : decode cX9_workOut 105 = .ok (.aload_n 0, 1) := by decide +kernel
theorem dX9_workOut_106 : decode cX9_workOut 106 = .ok (.iload_n 2, 1) := by decide +kernel
theorem dX9_workOut_107 : decode cX9_workOut 107 = .ok (.iload_n 3, 1) := by decide +kernel
theorem dX9_workOut_108 : decode cX9_workOut 108 = .ok (.invokevirtual 108, 3) := by decide +kernel
theorem dX9_workOut_111 : decode cX9_workOut 111 = .ok (.iinc 4 1, 3) := by decide +kernel
theorem dX9_workOut_114 : decode cX9_workOut 114 = .ok (.goto (-49), 3) := by decide +kernel
theorem dX9_workOut_117 : decode cX9_workOut 117 = .ok (.aload_n 0, 1) := by decide +kernel
theorem dX9_workOut_118 : decode cX9_workOut 118 = .ok (.aload_n 0, 1) := by decide +kernel
theorem dX9_workOut_119 : decode cX9_workOut 119 = .ok (.getfield 34, 3) := by decide +kernel
theorem dX9_workOut_122 : decode cX9_workOut 122 = .ok (.getfield 75, 3) := by decide +kernel
theorem dX9_workOut_125 : decode cX9_workOut 125 = .ok (.putfield 112, 3) := by decide +kernel
theorem dX9_workOut_128 : decode cX9_workOut 128 = .ok (.aload_n 0, 1) := by decide +kernel
theorem dX9_workOut_129 : decode cX9_workOut 129 = .ok (.iload_n 2, 1) := by decide +kernel
theorem dX9_workOut_130 : decode cX9_workOut 130 = .ok (.iload_n 3, 1) := by decide +kernel
theorem dX9_workOut_131 : decode cX9_workOut 131 = .ok (.invokevirtual 115, 3) := by decide +kernel
theorem dX9_workOut_134 : decode cX9_workOut 134 = .ok (.aload_n 0, 1) := by decide +kernel
theorem dX9_workOut_135 : decode cX9_workOut 135 = .ok (.iconst 1, 1) := by decide +kernel
theorem dX9_workOut_136 : decode cX9_workOut 136 = .ok (.putfield 71, 3) := by decide +kernel
theorem dX9_workOut_139 : decode cX9_workOut 139 = .ok (.return_, 1) := by decide +kernel
theorem dX9_isSo_0 : decode cX9_isSo 0 = .ok (.iconst 0, 1) := by decide +kernel
theorem dX9_isSo_1 : decode cX9_isSo 1 = .ok (.istore_n 1, 1) := by decide +kernel
theorem dX9_isSo_2 : decode cX9_isSo 2 = .ok (.iload_n 1, 1) := by decide +kernel
theorem dX9_isSo_3 : decode cX9_isSo 3 = .ok (.aload_n 0, 1) := by decide +kernel
theorem dX9_isSo_4 : decode cX9_isSo 4 = .ok (.getfield 70, 3) := by decide +kernel
theorem dX9_isSo_7 : decode cX9_isSo 7 = .ok (.if_icmp .ge 42, 3) := by decide +kernel
theorem dX9_isSo_10 : decode cX9_isSo 10 = .ok (.iload_n 1, 1) := by decide +kernel
theorem dX9_isSo_11 : decode cX9_isSo 11 = .ok (.aload_n 0, 1) := by decide +kernel
theorem dX9_isSo_12 : decode cX9_isSo 12 = .ok (.getfield 18, 3) := by decide +kernel
theorem dX9_isSo_15 : decode cX9_isSo 15 = .ok (.arraylength, 1) := by decide +kernel
theorem dX9_isSo_16 : decode cX9_isSo 16 = .ok (.if_icmp .ge 33, 3) := by decide +kernel
theorem dX9_isSo_19 : decode cX9_isSo 19 = .ok (.aload_n 0, 1) := by decide +kernel
theorem dX9_isSo_20 : decode cX9_isSo 20 = .ok (.getfield 12, 3) := by decide +kernel
theorem dX9_isSo_23 : decode cX9_isSo 23 = .ok (.aload_n 0, 1) := by decide +kernel
theorem dX9_isSo_24 : decode cX9_isSo 24 = .ok (.getfield 18, 3) := by decide +kernel
theorem dX9_isSo_27 : decode cX9_isSo 27 = .ok (.iload_n 1, 1) := by decide +kernel
theorem dX9_isSo_28 : decode cX9_isSo 28 = .ok (.iaload, 1) := by decide +kernel
theorem dX9_isSo_29 : decode cX9_isSo 29 = .ok (.invokevirtual 118, 3) := by decide +kernel
theorem dX9_isSo_32 : decode cX9_isSo 32 = .ok (.aload_n 0, 1) := by decide +kernel
theorem dX9_isSo_33 : decode cX9_isSo 33 = .ok (.getfield 22, 3) := by decide +kernel
theorem dX9_isSo_36 : decode cX9_isSo 36 = .ok (.iload_n 1, 1) := by decide +kernel
theorem dX9_isSo_37 : decode cX9_isSo 37 = .ok (.baload, 1) := by decide +kernel
theorem dX9_isSo_38 : decode cX9_isSo 38 = .ok (.if_icmp .eq 5, 3) := by decide +kernel
theorem dX9_isSo_41 : decode cX9_isSo 41 = .ok (.iconst 0, 1) := by decide +kernel
theorem dX9_isSo_42 : decode cX9_isSo 42 = .ok (.ireturn, 1) := by decide +kernel
theorem dX9_isSo_43 : decode cX9_isSo 43 = .ok (.iinc 1 1, 3) := by decide +kernel
theorem dX9_isSo_46 : decode cX9_isSo 46 = .ok (.goto (-44), 3) := by decide +kernel
theorem dX9_isSo_49 : decode cX9_isSo 49 = .ok (.iconst 1, 1) := by decide +kernel
theorem dX9_isSo_50 : decode cX9_isSo 50 = .ok (.ireturn, 1) := by decide +kernel
theorem dX9_countYear_0 : decode cX9_countYear 0 = .ok (.iconst 0, 1) := by decide +kernel
theorem dX9_countYear_1 : decode cX9_countYear 1 = .ok (.istore_n 3, 1) := by decide +kernel
theorem dX9_countYear_2 : decode cX9_countYear 2 = .ok (.iload_n 3, 1) := by decide +kernel
theorem dX9_countYear_3 : decode cX9_countYear 3 = .ok (.iload_n 2, 1) := by decide +kernel
theorem dX9_countYear_4 : decode cX9_countYear 4 = .ok (.if_icmp .ge 36, 3) := by decide +kernel
theorem dX9_countYear_7 : decode cX9_countYear 7 = .ok (.aload_n 0, 1) := by decide +kernel
theorem dX9_countYear_8 : decode cX9_countYear 8 = .ok (.getfield 26, 3) := by decide +kernel
theorem dX9_countYear_11 : decode cX9_countYear 11 = .ok (.iload_n 3, 1) := by decide +kernel
theorem dX9_countYear_12 : decode cX9_countYear 12 = .ok (.dup2, 1) := by decide +kernel
theorem dX9_countYear_13 : decode cX9_countYear 13 = .ok (.iaload, 1) := by decide +kernel
theorem dX9_countYear_14 : decode cX9_countYear 14 = .ok (.aload_n 0, 1) := by decide +kernel
theorem dX9_countYear_15 : decode cX9_countYear 15 = .ok (.getfield 12, 3) := by decide +kernel
theorem dX9_countYear_18 : decode cX9_countYear 18 = .ok (.iload_n 1, 1) := by decide +kernel
theorem dX9_countYear_19 : decode cX9_countYear 19 = .ok (.iload_n 3, 1) := by decide +kernel
theorem dX9_countYear_20 : decode cX9_countYear 20 = .ok (.iadd, 1) := by decide +kernel
theorem dX9_countYear_21 : decode cX9_countYear 21 = .ok (.invokevirtual 118, 3) := by decide +kernel
theorem dX9_countYear_24 : decode cX9_countYear 24 = .ok (.ifCond .eq 7, 3) := by decide +kernel
theorem dX9_countYear_27 : decode cX9_countYear 27 = .ok (.iconst 1, 1) := by decide +kernel
theorem dX9_countYear_28 : decode cX9_countYear 28 = .ok (.goto 4, 3) := by decide +kernel
theorem dX9_countYear_31 : decode cX9_countYear 31 = .ok (.iconst 0, 1) := by decide +kernel
theorem dX9_countYear_32 : decode cX9_countYear 32 = .ok (.iadd, 1) := by decide +kernel
theorem dX9_countYear_33 : decode cX9_countYear 33 = .ok (.iastore, 1) := by decide +kernel
theorem dX9_countYear_34 : decode cX9_countYear 34 = .ok (.iinc 3 1, 3) := by decide +kernel
theorem dX9_countYear_37 : decode cX9_countYear 37 = .ok (.goto (-35), 3) := by decide +kernel
theorem dX9_countYear_40 : decode cX9_countYear 40 = .ok (.return_, 1) := by decide +kernel
theorem dX9_choose_0 : decode cX9_choose 0 = .ok (.aload_n 0, 1) := by decide +kernel
theorem dX9_choose_1 : decode cX9_choose 1 = .ok (.iconst (-1), 1) := by decide +kernel
theorem dX9_choose_2 : decode cX9_choose 2 = .ok (.putfield 121, 3) := by decide +kernel
theorem dX9_choose_5 : decode cX9_choose 5 = .ok (.aload_n 0, 1) := by decide +kernel
theorem dX9_choose_6 : decode cX9_choose 6 = .ok (.iconst (-1), 1) := by decide +kernel
theorem dX9_choose_7 : decode cX9_choose 7 = .ok (.putfield 124, 3) := by decide +kernel
theorem dX9_choose_10 : decode cX9_choose 10 = .ok (.iconst 0, 1) := by decide +kernel
theorem dX9_choose_11 : decode cX9_choose 11 = .ok (.istore_n 3, 1) := by decide +kernel
theorem dX9_choose_12 : decode cX9_choose 12 = .ok (.iload_n 3, 1) := by decide +kernel
theorem dX9_choose_13 : decode cX9_choose 13 = .ok (.iload_n 2, 1) := by decide +kernel
theorem dX9_choose_14 : decode cX9_choose 14 = .ok (.if_icmp .ge 68, 3) := by decide +kernel
theorem dX9_choose_17 : decode cX9_choose 17 = .ok (.aload_n 0, 1) := by decide +kernel
theorem dX9_choose_18 : decode cX9_choose 18 = .ok (.getfield 112, 3) := by decide +kernel
theorem dX9_choose_21 : decode cX9_choose 21 = .ok (.ifCond .le 61, 3) := by decide +kernel
theorem dX9_choose_24 : decode cX9_choose 24 = .ok (.aload_n 0, 1) := by decide +kernel
theorem dX9_choose_25 : decode cX9_choose 25 = .ok (.getfield 26, 3) := by decide +kernel
theorem dX9_choose_28 : decode cX9_choose 28 = .ok (.iload_n 3, 1) := by decide +kernel
theorem dX9_choose_29 : decode cX9_choose 29 = .ok (.iaload, 1) := by decide +kernel
theorem dX9_choose_30 : decode cX9_choose 30 = .ok (.aload_n 0, 1) := by decide +kernel
theorem dX9_choose_31 : decode cX9_choose 31 = .ok (.getfield 112, 3) := by decide +kernel
theorem dX9_choose_34 : decode cX9_choose 34 = .ok (.aload_n 0, 1) := by decide +kernel
theorem dX9_choose_35 : decode cX9_choose 35 = .ok (.getfield 26, 3) := by decide +kernel
theorem dX9_choose_38 : decode cX9_choose 38 = .ok (.iload_n 3, 1) := by decide +kernel
theorem dX9_choose_39 : decode cX9_choose 39 = .ok (.iaload, 1) := by decide +kernel
theorem dX9_choose_40 : decode cX9_choose 40 = .ok (.isub, 1) := by decide +kernel
theorem dX9_choose_41 : decode cX9_choose 41 = .ok (.invokestatic 127, 3) := by decide +kernel
theorem dX9_choose_44 : decode cX9_choose 44 = .ok (.istore 4, 2) := by decide +kernel
theorem dX9_choose_46 : decode cX9_choose 46 = .ok (.aload_n 0, 1) := by decide +kernel
theorem dX9_choose_47 : decode cX9_choose 47 = .ok (.getfield 121, 3) := by decide +kernel
theorem dX9_choose_50 : decode cX9_choose 50 = .ok (.iconst (-1), 1) := by decide +kernel
theorem dX9_choose_51 : decode cX9_choose 51 = .ok (.if_icmp .eq 12, 3) := by decide +kernel
theorem dX9_choose_54 : decode cX9_choose 54 = .ok (.iload 4, 2) := by decide +kernel
theorem dX9_choose_56 : decode cX9_choose 56 = .ok (.aload_n 0, 1) := by decide +kernel
theorem dX9_choose_57 : decode cX9_choose 57 = .ok (.getfield 124, 3) := by decide +kernel
theorem dX9_choose_60 : decode cX9_choose 60 = .ok (.if_icmp .ge 16, 3) := by decide +kernel
theorem dX9_choose_63 : decode cX9_choose 63 = .ok (.aload_n 0, 1) := by decide +kernel
theorem dX9_choose_64 : decode cX9_choose 64 = .ok (.iload_n 1, 1) := by decide +kernel
theorem dX9_choose_65 : decode cX9_choose 65 = .ok (.iload_n 3, 1) := by decide +kernel
theorem dX9_choose_66 : decode cX9_choose 66 = .ok (.iadd, 1) := by decide +kernel
theorem dX9_choose_67 : decode cX9_choose 67 = .ok (.putfield 121, 3) := by decide +kernel
theorem dX9_choose_70 : decode cX9_choose 70 = .ok (.aload_n 0, 1) := by decide +kernel
theorem dX9_choose_71 : decode cX9_choose 71 = .ok (.iload 4, 2) := by decide +kernel
theorem dX9_choose_73 : decode cX9_choose 73 = .ok (.putfield 124, 3) := by decide +kernel
theorem dX9_choose_76 : decode cX9_choose 76 = .ok (.iinc 3 1, 3) := by decide +kernel
theorem dX9_choose_79 : decode cX9_choose 79 = .ok (.goto (-67), 3) := by decide +kernel
theorem dX9_choose_82 : decode cX9_choose 82 = .ok (.return_, 1) := by decide +kernel
theorem dX10_init_0 : decode cX10_init 0 = .ok (.aload_n 0, 1) := by decide +kernel
theorem dX10_init_1 : decode cX10_init 1 = .ok (.invokespecial 3, 3) := by decide +kernel
theorem dX10_init_4 : decode cX10_init 4 = .ok (.aload_n 0, 1) := by decide +kernel
theorem dX10_init_5 : decode cX10_init 5 = .ok (.sipush 1600, 3) := by decide +kernel
theorem dX10_init_8 : decode cX10_init 8 = .ok (.newarray .byte, 2) := by decide +kernel
theorem dX10_init_10 : decode cX10_init 10 = .ok (.putfield 9, 3) := by decide +kernel
theorem dX10_init_13 : decode cX10_init 13 = .ok (.return_, 1) := by decide +kernel
theorem dX10_append_0 : decode cX10_append 0 = .ok (.bipush 24, 2) := by decide +kernel
theorem dX10_append_2 : decode cX10_append 2 = .ok (.istore_n 2, 1) := by decide +kernel
theorem dX10_append_3 : decode cX10_append 3 = .ok (.iload_n 2, 1) := by decide +kernel
theorem dX10_append_4 : decode cX10_append 4 = .ok (.ifCond .lt 44, 3) := by decide +kernel
theorem dX10_append_7 : decode cX10_append 7 = .ok (.aload_n 0, 1) := by decide +kernel
theorem dX10_append_8 : decode cX10_append 8 = .ok (.getfield 15, 3) := by decide +kernel
theorem dX10_append_11 : decode cX10_append 11 = .ok (.aload_n 0, 1) := by decide +kernel
theorem dX10_append_12 : decode cX10_append 12 = .ok (.getfield 9, 3) := by decide +kernel
theorem dX10_append_15 : decode cX10_append 15 = .ok (.arraylength, 1) := by decide +kernel
theorem dX10_append_16 : decode cX10_append 16 = .ok (.if_icmp .ge 32, 3) := by decide +kernel
theorem dX10_append_19 : decode cX10_append 19 = .ok (.aload_n 0, 1) := by decide +kernel
theorem dX10_append_20 : decode cX10_append 20 = .ok (.getfield 9, 3) := by decide +kernel
theorem dX10_append_23 : decode cX10_append 23 = .ok (.aload_n 0, 1) := by decide +kernel
theorem dX10_append_24 : decode cX10_append 24 = .ok (.getfield 15, 3) := by decide +kernel
theorem dX10_append_27 : decode cX10_append 27 = .ok (.iload_n 1, 1) := by decide +kernel
theorem dX10_append_28 : decode cX10_append 28 = .ok (.iload_n 2, 1) := by decide +kernel
theorem dX10_append_29 : decode cX10_append 29 = .ok (.ishr, 1) := by decide +kernel
theorem dX10_append_30 : decode cX10_append 30 = .ok (.i2b, 1) := by decide +kernel
theorem dX10_append_31 : decode cX10_append 31 = .ok (.bastore, 1) := by decide +kernel
theorem dX10_append_32 : decode cX10_append 32 = .ok (.aload_n 0, 1) := by decide +kernel
theorem dX10_append_33 : decode cX10_append 33 = .ok (.dup, 1) := by decide +kernel
theorem dX10_append_34 : decode cX10_append 34 = .ok (.getfield 15, 3) := by decide +kernel
theorem dX10_append_37 : decode cX10_append 37 = .ok (.iconst 1, 1) := by decide +kernel
theorem dX10_append_38 : decode cX10_append 38 = .ok (.iadd, 1) := by decide +kernel
theorem dX10_append_39 : decode cX10_append 39 = .ok (.putfield 15, 3) := by decide +kernel
theorem dX10_append_42 : decode cX10_append 42 = .ok (.iinc 2 (-8), 3) := by decide +kernel
theorem dX10_append_45 : decode cX10_append 45 = .ok (.goto (-42), 3) := by decide +kernel
theorem dX10_append_48 : decode cX10_append 48 = .ok (.return_, 1) := by decide +kernel
theorem dX10_byteAt_0 : decode cX10_byteAt 0 = .ok (.iload_n 1, 1) := by decide +kernel
theorem dX10_byteAt_1 : decode cX10_byteAt 1 = .ok (.ifCond .lt 20, 3) := by decide +kernel
theorem dX10_byteAt_4 : decode cX10_byteAt 4 = .ok (.iload_n 1, 1) := by decide +kernel
theorem dX10_byteAt_5 : decode cX10_byteAt 5 = .ok (.aload_n 0, 1) := by decide +kernel
theorem dX10_byteAt_6 : decode cX10_byteAt 6 = .ok (.getfield 15, 3) := by decide +kernel
theorem dX10_byteAt_9 : decode cX10_byteAt 9 = .ok (.if_icmp .ge 12, 3) := by decide +kernel
theorem dX10_byteAt_12 : decode cX10_byteAt 12 = .ok (.iload_n 1, 1) := by decide +kernel
theorem dX10_byteAt_13 : decode cX10_byteAt 13 = .ok (.aload_n 0, 1) := by decide +kernel
theorem dX10_byteAt_14 : decode cX10_byteAt 14 = .ok (.getfield 9, 3) := by decide +kernel
theorem dX10_byteAt_17 : decode cX10_byteAt 17 = .ok (.arraylength, 1) := by decide +kernel
theorem dX10_byteAt_18 : decode cX10_byteAt 18 = .ok (.if_icmp .lt 7, 3) := by decide +kernel
theorem dX10_byteAt_21 : decode cX10_byteAt 21 = .ok (.iconst 0, 1) := by decide +kernel
theorem dX10_byteAt_22 : decode cX10_byteAt 22 = .ok (.goto 13, 3) := by decide +kernel
theorem dX10_byteAt_25 : decode cX10_byteAt 25 = .ok (.aload_n 0, 1) := by decide +kernel
theorem dX10_byteAt_26 : decode cX10_byteAt 26 = .ok (.getfield 9, 3) := by decide +kernel
theorem dX10_byteAt_29 : decode cX10_byteAt 29 = .ok (.iload_n 1, 1) := by decide +kernel
theorem dX10_byteAt_30 : decode cX10_byteAt 30 = .ok (.baload, 1) := by decide +kernel
theorem dX10_byteAt_31 : decode cX10_byteAt 31 = .ok (.sipush 255, 3) := by decide +kernel
theorem dX10_byteAt_34 : decode cX10_byteAt 34 = .ok (.iand, 1) := by decide +kernel
theorem dX10_byteAt_35 : decode cX10_byteAt 35 = .ok (.ireturn, 1) := by decide +kernel
theorem dX11_init_0 : decode cX11_init 0 = .ok (.aload_n 0, 1) := by decide +kernel
theorem dX11_init_1 : decode cX11_init 1 = .ok (.invokespecial 1, 3) := by decide +kernel
theorem dX11_init_4 : decode cX11_init 4 = .ok (.aload_n 0, 1) := by decide +kernel
theorem dX11_init_5 : decode cX11_init 5 = .ok (.new 7, 3) := by decide +kernel
theorem dX11_init_8 : decode cX11_init 8 = .ok (.dup, 1) := by decide +kernel
theorem dX11_init_9 : decode cX11_init 9 = .ok (.invokespecial 9, 3) := by decide +kernel
theorem dX11_init_12 : decode cX11_init 12 = .ok (.putfield 10, 3) := by decide +kernel
theorem dX11_init_15 : decode cX11_init 15 = .ok (.aload_n 0, 1) := by decide +kernel
theorem dX11_init_16 : decode cX11_init 16 = .ok (.new 16, 3) := by decide +kernel
theorem dX11_init_19 : decode cX11_init 19 = .ok (.dup, 1) := by decide +kernel
theorem dX11_init_20 : decode cX11_init 20 = .ok (.invokespecial 18, 3) := by decide +kernel
theorem dX11_init_23 : decode cX11_init 23 = .ok (.putfield 19, 3) := by decide +kernel
theorem dX11_init_26 : decode cX11_init 26 = .ok (.aload_n 0, 1) := by decide +kernel
theorem dX11_init_27 : decode cX11_init 27 = .ok (.new 23, 3) := by decide +kernel
theorem dX11_init_30 : decode cX11_init 30 = .ok (.dup, 1) := by decide +kernel
theorem dX11_init_31 : decode cX11_init 31 = .ok (.invokespecial 25, 3) := by decide +kernel
theorem dX11_init_34 : decode cX11_init 34 = .ok (.putfield 26, 3) := by decide +kernel
theorem dX11_init_37 : decode cX11_init 37 = .ok (.aload_n 0, 1) := by decide +kernel
theorem dX11_init_38 : decode cX11_init 38 = .ok (.new 30, 3) := by decide +kernel
theorem dX11_init_41 : decode cX11_init 41 = .ok (.dup, 1) := by decide +kernel
theorem dX11_init_42 : decode cX11_init 42 = .ok (.aload_n 0, 1) := by decide +kernel
theorem dX11_init_43 : decode cX11_init 43 = .ok (.getfield 26, 3) := by decide +kernel
theorem dX11_init_46 : decode cX11_init 46 = .ok (.invokespecial 32, 3) := by decide +kernel
theorem dX11_init_49 : decode cX11_init 49 = .ok (.putfield 35, 3) := by decide +kernel
theorem dX11_init_52 : decode cX11_init 52 = .ok (.aload_n 0, 1) := by decide +kernel
theorem dX11_init_53 : decode cX11_init 53 = .ok (.new 39, 3) := by decide +kernel
theorem dX11_init_56 : decode cX11_init 56 = .ok (.dup, 1) := by decide +kernel
theorem dX11_init_57 : decode cX11_init 57 = .ok (.invokespecial 41, 3) := by decide +kernel
theorem dX11_init_60 : decode cX11_init 60 = .ok (.putfield 42, 3) := by decide +kernel
theorem dX11_init_63 : decode cX11_init 63 = .ok (.aload_n 0, 1) := by decide +kernel
theorem dX11_init_64 : decode cX11_init 64 = .ok (.new 46, 3) := by decide +kernel
theorem dX11_init_67 : decode cX11_init 67 = .ok (.dup, 1) := by decide +kernel
theorem dX11_init_68 : decode cX11_init 68 = .ok (.aload_n 0, 1) := by decide +kernel
theorem dX11_init_69 : decode cX11_init 69 = .ok (.getfield 26, 3) := by decide +kernel
theorem dX11_init_72 : decode cX11_init 72 = .ok (.invokespecial 48, 3) := by decide +kernel
theorem dX11_init_75 : decode cX11_init 75 = .ok (.putfield 49, 3) := by decide +kernel
theorem dX11_init_78 : decode cX11_init 78 = .ok (.aload_n 0, 1) := by decide +kernel
theorem dX11_init_79 : decode cX11_init 79 = .ok (.bipush 6, 2) := by decide +kernel
theorem dX11_init_81 : decode cX11_init 81 = .ok (.newarray .int, 2) := by decide +kernel
theorem dX11_init_83 : decode cX11_init 83 = .ok (.putfield 53, 3) := by decide +kernel
theorem dX11_init_86 : decode cX11_init 86 = .ok (.aload_n 0, 1) := by decide +kernel
theorem dX11_init_87 : decode cX11_init 87 = .ok (.new 57, 3) := by decide +kernel
theorem dX11_init_90 : decode cX11_init 90 = .ok (.dup, 1) := by decide +kernel
theorem dX11_init_91 : decode cX11_init 91 = .ok (.invokespecial 59, 3) := by decide +kernel
theorem dX11_init_94 : decode cX11_init 94 = .ok (.putfield 60, 3) := by decide +kernel
theorem dX11_init_97 : decode cX11_init 97 = .ok (.aload_n 0, 1) := by decide +kernel
theorem dX11_init_98 : decode cX11_init 98 = .ok (.new 57, 3) := by decide +kernel
theorem dX11_init_101 : decode cX11_init 101 = .ok (.dup, 1) := by decide +kernel
theorem dX11_init_102 : decode cX11_init 102 = .ok (.invokespecial 59, 3) := by decide +kernel
theorem dX11_init_105 : decode cX11_init 105 = .ok (.putfield 64, 3) := by decide +kernel
theorem dX11_init_108 : decode cX11_init 108 = .ok (.aload_n 0, 1) := by decide +kernel
theorem dX11_init_109 : decode cX11_init 109 = .ok (.iconst 1, 1) := by decide +kernel
theorem dX11_init_110 : decode cX11_init 110 = .ok (.putfield 67, 3) := by decide +kernel
theorem dX11_init_113 : decode cX11_init 113 = .ok (.aload_n 0, 1) := by decide +kernel
theorem dX11_init_114 : decode cX11_init 114 = .ok (.getfield 35, 3) := by decide +kernel
theorem dX11_init_117 : decode cX11_init 117 = .ok (.aload_n 0, 1) := by decide +kernel
theorem dX11_init_118 : decode cX11_init 118 = .ok (.getfield 60, 3) := by decide +kernel
theorem dX11_init_121 : decode cX11_init 121 = .ok (.invokevirtual 71, 3) := by decide +kernel
theorem dX11_init_124 : decode cX11_init 124 = .ok (.return_, 1) := by decide +kernel
theorem dX11_feed_0 : decode cX11_feed 0 = .ok (.aload_n 0, 1) := by decide +kernel
theorem dX11_feed_1 : decode cX11_feed 1 = .ok (.getfield 10, 3) := by decide +kernel
theorem dX11_feed_4 : decode cX11_feed 4 = .ok (.getfield 75, 3) := by decide +kernel
theorem dX11_feed_7 : decode cX11_feed 7 = .ok (.bipush 20, 2) := by decide +kernel
theorem dX11_feed_9 : decode cX11_feed 9 = .ok (.iadd, 1) := by decide +kernel
theorem dX11_feed_10 : decode cX11_feed 10 = .ok (.sipush 1600, 3) := by decide +kernel
theorem dX11_feed_13 : decode cX11_feed 13 = .ok (.if_icmp .le 9, 3) := by decide +kernel
theorem dX11_feed_16 : decode cX11_feed 16 = .ok (.aload_n 0, 1) := by decide +kernel
theorem dX11_feed_17 : decode cX11_feed 17 = .ok (.iconst 0, 1) := by decide +kernel
theorem dX11_feed_18 : decode cX11_feed 18 = .ok (.invokevirtual 78, 3) := by decide +kernel
theorem dX11_feed_21 : decode cX11_feed 21 = .ok (.ireturn, 1) := by decide +kernel
theorem dX11_feed_22 : decode cX11_feed 22 = .ok (.aload_n 0, 1) := by decide +kernel
theorem dX11_feed_23 : decode cX11_feed 23 = .ok (.getfield 10, 3) := by decide +kernel
theorem dX11_feed_26 : decode cX11_feed 26 = .ok (.iload_n 1, 1) := by decide +kernel
theorem dX11_feed_27 : decode cX11_feed 27 = .ok (.invokevirtual 82, 3) := by decide +kernel
theorem dX11_feed_30 : decode cX11_feed 30 = .ok (.aload_n 0, 1) := by decide +kernel
theorem dX11_feed_31 : decode cX11_feed 31 = .ok (.getfield 10, 3) := by decide +kernel
theorem dX11_feed_34 : decode cX11_feed 34 = .ok (.iload_n 2, 1) := by decide +kernel
theorem dX11_feed_35 : decode cX11_feed 35 = .ok (.invokevirtual 82, 3) := by decide +kernel
theorem dX11_feed_38 : decode cX11_feed 38 = .ok (.aload_n 0, 1) := by decide +kernel
theorem dX11_feed_39 : decode cX11_feed 39 = .ok (.getfield 10, 3) := by decide +kernel
theorem dX11_feed_42 : decode cX11_feed 42 = .ok (.iload_n 3, 1) := by decide +kernel
theorem dX11_feed_43 : decode cX11_feed 43 = .ok (.invokevirtual 82, 3) := by decide +kernel
theorem dX11_feed_46 : decode cX11_feed 46 = .ok (.aload_n 0, 1) := by decide +kernel
theorem dX11_feed_47 : decode cX11_feed 47 = .ok (.getfield 10, 3) := by decide +kernel
theorem dX11_feed_50 : decode cX11_feed 50 = .ok (.iload 4, 2) := by decide +kernel
theorem dX11_feed_52 : decode cX11_feed 52 = .ok (.invokevirtual 82, 3) := by decide +kernel
theorem dX11_feed_55 : decode cX11_feed 55 = .ok (.aload_n 0, 1) := by decide +kernel
theorem dX11_feed_56 : decode cX11_feed 56 = .ok (.getfield 10, 3) := by decide +kernel
theorem dX11_feed_59 : decode cX11_feed 59 = .ok (.iload 5, 2) := by decide +kernel
theorem dX11_feed_61 : decode cX11_feed 61 = .ok (.invokevirtual 82, 3) := by decide +kernel
theorem dX11_feed_64 : decode cX11_feed 64 = .ok (.aload_n 0, 1) := by decide +kernel
theorem dX11_feed_65 : decode cX11_feed 65 = .ok (.getfield 10, 3) := by decide +kernel
theorem dX11_feed_68 : decode cX11_feed 68 = .ok (.getfield 75, 3) := by decide +kernel
theorem dX11_feed_71 : decode cX11_feed 71 = .ok (.ireturn, 1) := by decide +kernel
theorem dX11_end_0 : decode cX11_end 0 = .ok (.iload_n 1, 1) := by decide +kernel
theorem dX11_end_1 : decode cX11_end 1 = .ok (.ifCond .lt 14, 3) := by decide +kernel
theorem dX11_end_4 : decode cX11_end 4 = .ok (.iload_n 1, 1) := by decide +kernel
theorem dX11_end_5 : decode cX11_end 5 = .ok (.aload_n 0, 1) := by decide +kernel
theorem dX11_end_6 : decode cX11_end 6 = .ok (.getfield 10, 3) := by decide +kernel
theorem dX11_end_9 : decode cX11_end 9 = .ok (.getfield 75, 3) := by decide +kernel
theorem dX11_end_12 : decode cX11_end 12 = .ok (.if_icmp .le 9, 3) := by decide +kernel
theorem dX11_end_15 : decode cX11_end 15 = .ok (.aload_n 0, 1) := by decide +kernel
theorem dX11_end_16 : decode cX11_end 16 = .ok (.iconst 0, 1) := by decide +kernel
theorem dX11_end_17 : decode cX11_end 17 = .ok (.invokevirtual 86, 3) := by decide +kernel
theorem dX11_end_20 : decode cX11_end 20 = .ok (.ireturn, 1) := by decide +kernel
theorem dX11_end_21 : decode cX11_end 21 = .ok (.aload_n 0, 1) := by decide +kernel
theorem dX11_end_22 : decode cX11_end 22 = .ok (.getfield 10, 3) := by decide +kernel
theorem dX11_end_25 : decode cX11_end 25 = .ok (.iload_n 1, 1) := by decide +kernel
theorem dX11_end_26 : decode cX11_end 26 = .ok (.putfield 75, 3) := by decide +kernel
theorem dX11_end_29 : decode cX11_end 29 = .ok (.iconst 1, 1) := by decide +kernel
theorem dX11_end_30 : decode cX11_end 30 = .ok (.ireturn, 1) := by decide +kernel
theorem dX11_book_0 : decode cX11_book 0 = .ok (.aload_n 0, 1) := by decide +kernel
theorem dX11_book_1 : decode cX11_book 1 = .ok (.getfield 19, 3) := by decide +kernel
theorem dX11_book_4 : decode cX11_book 4 = .ok (.aload_n 0, 1) := by decide +kernel
theorem dX11_book_5 : decode cX11_book 5 = .ok (.getfield 10, 3) := by decide +kernel
theorem dX11_book_8 : decode cX11_book 8 = .ok (.aload_n 0, 1) := by decide +kernel
theorem dX11_book_9 : decode cX11_book 9 = .ok (.getfield 64, 3) := by decide +kernel
theorem dX11_book_12 : decode cX11_book 12 = .ok (.invokevirtual 90, 3) := by decide +kernel
theorem dX11_book_15 : decode cX11_book 15 = .ok (.aload_n 0, 1) := by decide +kernel
theorem dX11_book_16 : decode cX11_book 16 = .ok (.getfield 10, 3) := by decide +kernel
theorem dX11_book_19 : decode cX11_book 19 = .ok (.iconst 0, 1) := by decide +kernel
theorem dX11_book_20 : decode cX11_book 20 = .ok (.putfield 75, 3) := by decide +kernel
theorem dX11_book_23 : decode cX11_book 23 = .ok (.aload_n 0, 1) := by decide +kernel
theorem dX11_book_24 : decode cX11_book 24 = .ok (.getfield 19, 3) := by decide +kernel
theorem dX11_book_27 : decode cX11_book 27 = .ok (.getfield 94, 3) := by decide +kernel
theorem dX11_book_30 : decode cX11_book 30 = .ok (.ifCond .eq 9, 3) := by decide +kernel
theorem dX11_book_33 : decode cX11_book 33 = .ok (.aload_n 0, 1) := by decide +kernel
theorem dX11_book_34 : decode cX11_book 34 = .ok (.iconst 1, 1) := by decide +kernel
theorem dX11_book_35 : decode cX11_book 35 = .ok (.invokevirtual 78, 3) := by decide +kernel
theorem dX11_book_38 : decode cX11_book 38 = .ok (.ireturn, 1) := by decide +kernel
theorem dX11_book_39 : decode cX11_book 39 = .ok (.aload_n 0, 1) := by decide +kernel
theorem dX11_book_40 : decode cX11_book 40 = .ok (.getfield 64, 3) := by decide +kernel
theorem dX11_book_43 : decode cX11_book 43 = .ok (.astore_n 1, 1) := by decide +kernel
theorem dX11_book_44 : decode cX11_book 44 = .ok (.aload_n 0, 1) := by decide +kernel
theorem dX11_book_45 : decode cX11_book 45 = .ok (.aload_n 0, 1) := by decide +kernel
theorem dX11_book_46 : decode cX11_book 46 = .ok (.getfield 60, 3) := by decide +kernel
theorem dX11_book_49 : decode cX11_book 49 = .ok (.putfield 64, 3) := by decide +kernel
theorem dX11_book_52 : decode cX11_book 52 = .ok (.aload_n 0, 1) := by decide +kernel
theorem dX11_book_53 : decode cX11_book 53 = .ok (.aload_n 1, 1) := by decide +kernel
theorem dX11_book_54 : decode cX11_book 54 = .ok (.putfield 60, 3) := by decide +kernel
theorem dX11_book_57 : decode cX11_book 57 = .ok (.aload_n 0, 1) := by decide +kernel
theorem dX11_book_58 : decode cX11_book 58 = .ok (.getfield 35, 3) := by decide +kernel
theorem dX11_book_61 : decode cX11_book 61 = .ok (.aload_n 0, 1) := by decide +kernel
theorem dX11_book_62 : decode cX11_book 62 = .ok (.getfield 60, 3) := by decide +kernel
theorem dX11_book_65 : decode cX11_book 65 = .ok (.invokevirtual 71, 3) := by decide +kernel
theorem dX11_book_68 : decode cX11_book 68 = .ok (.aload_n 0, 1) := by decide +kernel
theorem dX11_book_69 : decode cX11_book 69 = .ok (.getfield 42, 3) := by decide +kernel
theorem dX11_book_72 : decode cX11_book 72 = .ok (.invokevirtual 97, 3) := by decide +kernel
theorem dX11_book_75 : decode cX11_book 75 = .ok (.aload_n 0, 1) := by decide +kernel
theorem dX11_book_76 : decode cX11_book 76 = .ok (.getfield 49, 3) := by decide +kernel
theorem dX11_book_79 : decode cX11_book 79 = .ok (.invokevirtual 100, 3) := by decide +kernel
theorem dX11_book_82 : decode cX11_book 82 = .ok (.aload_n 0, 1) := by decide +kernel
theorem dX11_book_83 : decode cX11_book 83 = .ok (.getfield 60, 3) := by decide +kernel
theorem dX11_book_86 : decode cX11_book 86 = .ok (.getfield 101, 3) := by decide +kernel
theorem dX11_book_89 : decode cX11_book 89 = .ok (.aload_n 0, 1) := by decide +kernel
theorem dX11_book_90 : decode cX11_book 90 = .ok (.getfield 60, 3) := by decide +kernel
theorem dX11_book_93 : decode cX11_book 93 = .ok (.getfield 104, 3) := by decide +kernel
theorem dX11_book_96 : decode cX11_book 96 = .ok (.iadd, 1) := by decide +kernel
theorem dX11_book_97 : decode cX11_book 97 = .ok (.ireturn, 1) := by decide +kernel
theorem dX11_fault_0 : decode cX11_fault 0 = .ok (.iload_n 1, 1) := by decide +kernel
theorem dX11_fault_1 : decode cX11_fault 1 = .ok (.lookupswitch 43 #[(0, 27), (1, 35)], 27) := by decide +kernel
theorem dX11_fault_28 : decode cX11_fault 28 = .ok (.aload_n 0, 1) := by decide +kernel
theorem dX11_fault_29 : decode cX11_fault 29 = .ok (.getfield 19, 3) := by decide +kernel
theorem dX11_fault_32 : decode cX11_fault 32 = .ok (.getfield 94, 3) := by decide +kernel
theorem dX11_fault_35 : decode cX11_fault 35 = .ok (.ireturn, 1) := by decide +kernel
theorem dX11_fault_36 : decode cX11_fault 36 = .ok (.aload_n 0, 1) := by decide +kernel
theorem dX11_fault_37 : decode cX11_fault 37 = .ok (.getfield 19, 3) := by decide +kernel
theorem dX11_fault_40 : decode cX11_fault 40 = .ok (.getfield 107, 3) := by decide +kernel
theorem dX11_fault_43 : decode cX11_fault 43 = .ok (.ireturn, 1) := by decide +kernel
theorem dX11_fault_44 : decode cX11_fault 44 = .ok (.iconst (-1), 1) := by decide +kernel
theorem dX11_fault_45 : decode cX11_fault 45 = .ok (.ireturn, 1) := by decide +kernel
theorem dX11_has_0 : decode cX11_has 0 = .ok (.iload_n 1, 1) := by decide +kernel
theorem dX11_has_1 : decode cX11_has 1 = .ok (.tableswitch 89 0 5 #[39, 47, 55, 64, 73, 81], 39) := by decide +kernel
theorem dX11_has_40 : decode cX11_has 40 = .ok (.aload_n 0, 1) := by decide +kernel
theorem dX11_has_41 : decode cX11_has 41 = .ok (.getfield 60, 3) := by decide +kernel
theorem dX11_has_44 : decode cX11_has 44 = .ok (.getfield 101, 3) := by decide +kernel
theorem dX11_has_47 : decode cX11_has 47 = .ok (.ireturn, 1) := by decide +kernel
theorem dX11_has_48 : decode cX11_has 48 = .ok (.aload_n 0, 1) := by decide +kernel
theorem dX11_has_49 : decode cX11_has 49 = .ok (.getfield 60, 3) := by decide +kernel
theorem dX11_has_52 : decode cX11_has 52 = .ok (.getfield 104, 3) := by decide +kernel
theorem dX11_has_55 : decode cX11_has 55 = .ok (.ireturn, 1) := by decide +kernel
theorem dX11_has_56 : decode cX11_has 56 = .ok (.aload_n 0, 1) := by decide +kernel
theorem dX11_has_57 : decode cX11_has 57 = .ok (.getfield 35, 3) := by decide +kernel
theorem dX11_has_60 : decode cX11_has 60 = .ok (.iconst 1, 1) := by decide +kernel
theorem dX11_has_61 : decode cX11_has 61 = .ok (.invokevirtual 110, 3) := by decide +kernel
theorem dX11_has_64 : decode cX11_has 64 = .ok (.ireturn, 1) := by decide +kernel
theorem dX11_has_65 : decode cX11_has 65 = .ok (.aload_n 0, 1) := by decide +kernel
theorem dX11_has_66 : decode cX11_has 66 = .ok (.getfield 35, 3) := by decide +kernel
theorem dX11_has_69 : decode cX11_has 69 = .ok (.iconst 2, 1) := by decide +kernel
theorem dX11_has_70 : decode cX11_has 70 = .ok (.invokevirtual 110, 3) := by decide +kernel
theorem dX11_has_73 : decode cX11_has 73 = .ok (.ireturn, 1) := by decide +kernel
theorem dX11_has_74 : decode cX11_has 74 = .ok (.aload_n 0, 1) := by decide +kernel
theorem dX11_has_75 : decode cX11_has 75 = .ok (.getfield 49, 3) := by decide +kernel
theorem dX11_has_78 : decode cX11_has 78 = .ok (.getfield 113, 3) := by decide +kernel
theorem dX11_has_81 : decode cX11_has 81 = .ok (.ireturn, 1) := by decide +kernel
theorem dX11_has_82 : decode cX11_has 82 = .ok (.aload_n 0, 1) := by decide +kernel
theorem dX11_has_83 : decode cX11_has 83 = .ok (.getfield 42, 3) := by decide +kernel
theorem dX11_has_86 : decode cX11_has 86 = .ok (.getfield 114, 3) := by decide +kernel
theorem dX11_has_89 : decode cX11_has 89 = .ok (.ireturn, 1) := by decide +kernel
theorem dX11_has_90 : decode cX11_has 90 = .ok (.iconst (-1), 1) := by decide +kernel
theorem dX11_has_91 : decode cX11_has 91 = .ok (.ireturn, 1) := by decide +kernel
theorem dX11_letter_0 : decode cX11_letter 0 = .ok (.aload_n 0, 1) := by decide +kernel
theorem dX11_letter_1 : decode cX11_letter 1 = .ok (.getfield 60, 3) := by decide +kernel
theorem dX11_letter_4 : decode cX11_letter 4 = .ok (.iload_n 1, 1) := by decide +kernel
theorem dX11_letter_5 : decode cX11_letter 5 = .ok (.invokevirtual 115, 3) := by decide +kernel
theorem dX11_letter_8 : decode cX11_letter 8 = .ok (.ifCond .eq 13, 3) := by decide +kernel
theorem dX11_letter_11 : decode cX11_letter 11 = .ok (.iload_n 2, 1) := by decide +kernel
theorem dX11_letter_12 : decode cX11_letter 12 = .ok (.ifCond .lt 9, 3) := by decide +kernel
theorem dX11_letter_15 : decode cX11_letter 15 = .ok (.iload_n 2, 1) := by decide +kernel
theorem dX11_letter_16 : decode cX11_letter 16 = .ok (.bipush 6, 2) := by decide +kernel
theorem dX11_letter_18 : decode cX11_letter 18 = .ok (.if_icmp .lt 5, 3) := by decide +kernel
theorem dX11_letter_21 : decode cX11_letter 21 = .ok (.iconst (-1), 1) := by decide +kernel
theorem dX11_letter_22 : decode cX11_letter 22 = .ok (.ireturn, 1) := by decide +kernel
theorem dX11_letter_23 : decode cX11_letter 23 = .ok (.aload_n 0, 1) := by decide +kernel
theorem dX11_letter_24 : decode cX11_letter 24 = .ok (.getfield 60, 3) := by decide +kernel
theorem dX11_letter_27 : decode cX11_letter 27 = .ok (.iload_n 1, 1) := by decide +kernel
theorem dX11_letter_28 : decode cX11_letter 28 = .ok (.iload_n 2, 1) := by decide +kernel
theorem dX11_letter_29 : decode cX11_letter 29 = .ok (.invokevirtual 118, 3) := by decide +kernel
theorem dX11_letter_32 : decode cX11_letter 32 = .ok (.ireturn, 1) := by decide +kernel
theorem dX11_rule_0 : decode cX11_rule 0 = .ok (.aload_n 0, 1) := by decide +kernel
theorem dX11_rule_1 : decode cX11_rule 1 = .ok (.getfield 60, 3) := by decide +kernel
theorem dX11_rule_4 : decode cX11_rule 4 = .ok (.iload_n 1, 1) := by decide +kernel
theorem dX11_rule_5 : decode cX11_rule 5 = .ok (.invokevirtual 122, 3) := by decide +kernel
theorem dX11_rule_8 : decode cX11_rule 8 = .ok (.astore_n 3, 1) := by decide +kernel
theorem dX11_rule_9 : decode cX11_rule 9 = .ok (.aload_n 3, 1) := by decide +kernel
theorem dX11_rule_10 : decode cX11_rule 10 = .ok (.ifnonnull 7, 3) := by decide +kernel
theorem dX11_rule_13 : decode cX11_rule 13 = .ok (.iconst (-1), 1) := by decide +kernel
theorem dX11_rule_14 : decode cX11_rule 14 = .ok (.goto 8, 3) := by decide +kernel
theorem dX11_rule_17 : decode cX11_rule 17 = .ok (.aload_n 3, 1) := by decide +kernel
theorem dX11_rule_18 : decode cX11_rule 18 = .ok (.iload_n 2, 1) := by decide +kernel
theorem dX11_rule_19 : decode cX11_rule 19 = .ok (.invokevirtual 126, 3) := by decide +kernel
theorem dX11_rule_22 : decode cX11_rule 22 = .ok (.ireturn, 1) := by decide +kernel
theorem dX11_day_0 : decode cX11_day 0 = .ok (.iload_n 1, 1) := by decide +kernel
theorem dX11_day_1 : decode cX11_day 1 = .ok (.sipush 2000, 3) := by decide +kernel
theorem dX11_day_4 : decode cX11_day 4 = .ok (.if_icmp .lt 21, 3) := by decide +kernel
theorem dX11_day_7 : decode cX11_day 7 = .ok (.iload_n 1, 1) := by decide +kernel
theorem dX11_day_8 : decode cX11_day 8 = .ok (.sipush 2040, 3) := by decide +kernel
theorem dX11_day_11 : decode cX11_day 11 = .ok (.if_icmp .ge 14, 3) := by decide +kernel
theorem dX11_day_14 : decode cX11_day 14 = .ok (.iload_n 2, 1) := by decide +kernel
theorem dX11_day_15 : decode cX11_day 15 = .ok (.iconst 1, 1) := by decide +kernel
theorem dX11_day_16 : decode cX11_day 16 = .ok (.if_icmp .lt 9, 3) := by decide +kernel
theorem dX11_day_19 : decode cX11_day 19 = .ok (.iload_n 2, 1) := by decide +kernel
theorem dX11_day_20 : decode cX11_day 20 = .ok (.bipush 12, 2) := by decide +kernel
theorem dX11_day_22 : decode cX11_day 22 = .ok (.if_icmp .le 5, 3) := by decide +kernel
theorem dX11_day_25 : decode cX11_day 25 = .ok (.iconst (-1), 1) := by decide +kernel
theorem dX11_day_26 : decode cX11_day 26 = .ok (.ireturn, 1) := by decide +kernel
theorem dX11_day_27 : decode cX11_day 27 = .ok (.iload_n 3, 1) := by decide +kernel
theorem dX11_day_28 : decode cX11_day 28 = .ok (.iconst 1, 1) := by decide +kernel
theorem dX11_day_29 : decode cX11_day 29 = .ok (.if_icmp .lt 16, 3) := by decide +kernel
theorem dX11_day_32 : decode cX11_day 32 = .ok (.iload_n 3, 1) := by decide +kernel
theorem dX11_day_33 : decode cX11_day 33 = .ok (.iload_n 1, 1) := by decide +kernel
theorem dX11_day_34 : decode cX11_day 34 = .ok (.sipush 2000, 3) := by decide +kernel
theorem dX11_day_37 : decode cX11_day 37 = .ok (.isub, 1) := by decide +kernel
theorem dX11_day_38 : decode cX11_day 38 = .ok (.iload_n 2, 1) := by decide +kernel
theorem dX11_day_39 : decode cX11_day 39 = .ok (.invokestatic 131, 3) := by decide +kernel
theorem dX11_day_42 : decode cX11_day 42 = .ok (.if_icmp .le 5, 3) := by decide +kernel
theorem dX11_day_45 : decode cX11_day 45 = .ok (.iconst (-1), 1) := by decide +kernel
theorem dX11_day_46 : decode cX11_day 46 = .ok (.ireturn, 1) := by decide +kernel
theorem dX11_day_47 : decode cX11_day 47 = .ok (.iload_n 1, 1) := by decide +kernel
theorem dX11_day_48 : decode cX11_day 48 = .ok (.sipush 2000, 3) := by decide +kernel
theorem dX11_day_51 : decode cX11_day 51 = .ok (.isub, 1) := by decide +kernel
theorem dX11_day_52 : decode cX11_day 52 = .ok (.iload_n 2, 1) := by decide +kernel
theorem dX11_day_53 : decode cX11_day 53 = .ok (.invokestatic 136, 3) := by decide +kernel
theorem dX11_day_56 : decode cX11_day 56 = .ok (.iload_n 3, 1) := by decide +kernel
theorem dX11_day_57 : decode cX11_day 57 = .ok (.iadd, 1) := by decide +kernel
theorem dX11_day_58 : decode cX11_day 58 = .ok (.iconst 1, 1) := by decide +kernel
theorem dX11_day_59 : decode cX11_day 59 = .ok (.isub, 1) := by decide +kernel
theorem dX11_day_60 : decode cX11_day 60 = .ok (.ireturn, 1) := by decide +kernel
theorem dX11_date_0 : decode cX11_date 0 = .ok (.iload_n 1, 1) := by decide +kernel
theorem dX11_date_1 : decode cX11_date 1 = .ok (.invokestatic 139, 3) := by decide +kernel
theorem dX11_date_4 : decode cX11_date 4 = .ok (.ifCond .eq 15, 3) := by decide +kernel
theorem dX11_date_7 : decode cX11_date 7 = .ok (.aload_n 0, 1) := by decide +kernel
theorem dX11_date_8 : decode cX11_date 8 = .ok (.getfield 26, 3) := by decide +kernel
theorem dX11_date_11 : decode cX11_date 11 = .ok (.iload_n 1, 1) := by decide +kernel
theorem dX11_date_12 : decode cX11_date 12 = .ok (.iload_n 2, 1) := by decide +kernel
theorem dX11_date_13 : decode cX11_date 13 = .ok (.invokevirtual 142, 3) := by decide +kernel
theorem dX11_date_16 : decode cX11_date 16 = .ok (.goto 4, 3) := by decide +kernel
theorem dX11_date_19 : decode cX11_date 19 = .ok (.iconst (-1), 1) := by decide +kernel
theorem dX11_date_20 : decode cX11_date 20 = .ok (.ireturn, 1) := by decide +kernel
theorem dX11_on_0 : decode cX11_on 0 = .ok (.aload_n 0, 1) := by decide +kernel
theorem dX11_on_1 : decode cX11_on 1 = .ok (.getfield 35, 3) := by decide +kernel
theorem dX11_on_4 : decode cX11_on 4 = .ok (.iload_n 1, 1) := by decide +kernel
theorem dX11_on_5 : decode cX11_on 5 = .ok (.invokevirtual 145, 3) := by decide +kernel
theorem dX11_on_8 : decode cX11_on 8 = .ok (.astore_n 3, 1) := by decide +kernel
theorem dX11_on_9 : decode cX11_on 9 = .ok (.aload_n 3, 1) := by decide +kernel
theorem dX11_on_10 : decode cX11_on 10 = .ok (.ifnull 10, 3) := by decide +kernel
theorem dX11_on_13 : decode cX11_on 13 = .ok (.iload_n 2, 1) := by decide +kernel
theorem dX11_on_14 : decode cX11_on 14 = .ok (.invokestatic 139, 3) := by decide +kernel
theorem dX11_on_17 : decode cX11_on 17 = .ok (.ifCond .ne 5, 3) := by decide +kernel
theorem dX11_on_20 : decode cX11_on 20 = .ok (.iconst (-1), 1) := by decide +kernel
theorem dX11_on_21 : decode cX11_on 21 = .ok (.ireturn, 1) := by decide +kernel
theorem dX11_on_22 : decode cX11_on 22 = .ok (.aload_n 3, 1) := by decide +kernel
theorem dX11_on_23 : decode cX11_on 23 = .ok (.iload_n 2, 1) := by decide +kernel
theorem dX11_on_24 : decode cX11_on 24 = .ok (.invokevirtual 149, 3) := by decide +kernel
theorem dX11_on_27 : decode cX11_on 27 = .ok (.ifCond .eq 7, 3) := by decide +kernel
theorem dX11_on_30 : decode cX11_on 30 = .ok (.iconst 1, 1) := by decide +kernel
theorem dX11_on_31 : decode cX11_on 31 = .ok (.goto 4, 3) := by decide +kernel
theorem dX11_on_34 : decode cX11_on 34 = .ok (.iconst 0, 1) := by decide +kernel
theorem dX11_on_35 : decode cX11_on 35 = .ok (.ireturn, 1) := by decide +kernel
theorem dX11_next_0 : decode cX11_next 0 = .ok (.aload_n 0, 1) := by decide +kernel
theorem dX11_next_1 : decode cX11_next 1 = .ok (.getfield 35, 3) := by decide +kernel
theorem dX11_next_4 : decode cX11_next 4 = .ok (.iload_n 1, 1) := by decide +kernel
theorem dX11_next_5 : decode cX11_next 5 = .ok (.invokevirtual 145, 3) := by decide +kernel
theorem dX11_next_8 : decode cX11_next 8 = .ok (.astore_n 3, 1) := by decide +kernel
theorem dX11_next_9 : decode cX11_next 9 = .ok (.aload_n 3, 1) := by decide +kernel
theorem dX11_next_10 : decode cX11_next 10 = .ok (.ifnull 15, 3) := by decide +kernel
theorem dX11_next_13 : decode cX11_next 13 = .ok (.iload_n 2, 1) := by decide +kernel
theorem dX11_next_14 : decode cX11_next 14 = .ok (.iconst (-1), 1) := by decide +kernel
theorem dX11_next_15 : decode cX11_next 15 = .ok (.if_icmp .lt 10, 3) := by decide +kernel
theorem dX11_next_18 : decode cX11_next 18 = .ok (.iload_n 2, 1) := by decide +kernel
theorem dX11_next_19 : decode cX11_next 19 = .ok (.sipush 14610, 3) := by decide +kernel
theorem dX11_next_22 : decode cX11_next 22 = .ok (.if_icmp .lt 5, 3) := by decide +kernel
theorem dX11_next_25 : decode cX11_next 25 = .ok (.iconst (-1), 1) := by decide +kernel
theorem dX11_next_26 : decode cX11_next 26 = .ok (.ireturn, 1) := by decide +kernel
theorem dX11_next_27 : decode cX11_next 27 = .ok (.aload_n 3, 1) := by decide +kernel
theorem dX11_next_28 : decode cX11_next 28 = .ok (.iload_n 2, 1) := by decide +kernel
theorem dX11_next_29 : decode cX11_next 29 = .ok (.iconst 1, 1) := by decide +kernel
theorem dX11_next_30 : decode cX11_next 30 = .ok (.iadd, 1) := by decide +kernel
theorem dX11_next_31 : decode cX11_next 31 = .ok (.invokevirtual 154, 3) := by decide +kernel
theorem dX11_next_34 : decode cX11_next 34 = .ok (.ireturn, 1) := by decide +kernel
theorem dX11_ahead_0 : decode cX11_ahead 0 = .ok (.aload_n 0, 1) := by decide +kernel
theorem dX11_ahead_1 : decode cX11_ahead 1 = .ok (.getfield 35, 3) := by decide +kernel
theorem dX11_ahead_4 : decode cX11_ahead 4 = .ok (.iload_n 1, 1) := by decide +kernel
theorem dX11_ahead_5 : decode cX11_ahead 5 = .ok (.invokevirtual 145, 3) := by decide +kernel
theorem dX11_ahead_8 : decode cX11_ahead 8 = .ok (.astore_n 3, 1) := by decide +kernel
theorem dX11_ahead_9 : decode cX11_ahead 9 = .ok (.aload_n 3, 1) := by decide +kernel
theorem dX11_ahead_10 : decode cX11_ahead 10 = .ok (.ifnull 14, 3) := by decide +kernel
theorem dX11_ahead_13 : decode cX11_ahead 13 = .ok (.iload_n 2, 1) := by decide +kernel
theorem dX11_ahead_14 : decode cX11_ahead 14 = .ok (.ifCond .lt 10, 3) := by decide +kernel
theorem dX11_ahead_17 : decode cX11_ahead 17 = .ok (.iload_n 2, 1) := by decide +kernel
theorem dX11_ahead_18 : decode cX11_ahead 18 = .ok (.sipush 14610, 3) := by decide +kernel
theorem dX11_ahead_21 : decode cX11_ahead 21 = .ok (.if_icmp .le 5, 3) := by decide +kernel
theorem dX11_ahead_24 : decode cX11_ahead 24 = .ok (.iconst (-1), 1) := by decide +kernel
theorem dX11_ahead_25 : decode cX11_ahead 25 = .ok (.ireturn, 1) := by decide +kernel
theorem dX11_ahead_26 : decode cX11_ahead 26 = .ok (.aload_n 3, 1) := by decide +kernel
theorem dX11_ahead_27 : decode cX11_ahead 27 = .ok (.iload_n 2, 1) := by decide +kernel
theorem dX11_ahead_28 : decode cX11_ahead 28 = .ok (.iconst 1, 1) := by decide +kernel
theorem dX11_ahead_29 : decode cX11_ahead 29 = .ok (.isub, 1) := by decide +kernel
theorem dX11_ahead_30 : decode cX11_ahead 30 = .ok (.invokevirtual 157, 3) := by decide +kernel
theorem dX11_ahead_33 : decode cX11_ahead 33 = .ok (.ireturn, 1) := by decide +kernel
theorem dX11_nth_0 : decode cX11_nth 0 = .ok (.aload_n 0, 1) := by decide +kernel
theorem dX11_nth_1 : decode cX11_nth 1 = .ok (.getfield 35, 3) := by decide +kernel
theorem dX11_nth_4 : decode cX11_nth 4 = .ok (.iload_n 1, 1) := by decide +kernel
theorem dX11_nth_5 : decode cX11_nth 5 = .ok (.invokevirtual 145, 3) := by decide +kernel
theorem dX11_nth_8 : decode cX11_nth 8 = .ok (.astore_n 3, 1) := by decide +kernel
theorem dX11_nth_9 : decode cX11_nth 9 = .ok (.aload_n 3, 1) := by decide +kernel
theorem dX11_nth_10 : decode cX11_nth 10 = .ok (.ifnonnull 5, 3) := by decide +kernel
theorem dX11_nth_13 : decode cX11_nth 13 = .ok (.iconst (-1), 1) := by decide +kernel
theorem dX11_nth_14 : decode cX11_nth 14 = .ok (.ireturn, 1) := by decide +kernel
theorem dX11_nth_15 : decode cX11_nth 15 = .ok (.aload_n 3, 1) := by decide +kernel
theorem dX11_nth_16 : decode cX11_nth 16 = .ok (.iload_n 2, 1) := by decide +kernel
theorem dX11_nth_17 : decode cX11_nth 17 = .ok (.ifCond .ge 16, 3) := by decide +kernel
theorem dX11_nth_20 : decode cX11_nth 20 = .ok (.aload_n 3, 1) := by decide +kernel
theorem dX11_nth_21 : decode cX11_nth 21 = .ok (.iconst 0, 1) := by decide +kernel
theorem dX11_nth_22 : decode cX11_nth 22 = .ok (.sipush 14609, 3) := by decide +kernel
theorem dX11_nth_25 : decode cX11_nth 25 = .ok (.invokevirtual 160, 3) := by decide +kernel
theorem dX11_nth_28 : decode cX11_nth 28 = .ok (.iload_n 2, 1) := by decide +kernel
theorem dX11_nth_29 : decode cX11_nth 29 = .ok (.iadd, 1) := by decide +kernel
theorem dX11_nth_30 : decode cX11_nth 30 = .ok (.goto 4, 3) := by decide +kernel
theorem dX11_nth_33 : decode cX11_nth 33 = .ok (.iload_n 2, 1) := by decide +kernel
theorem dX11_nth_34 : decode cX11_nth 34 = .ok (.invokevirtual 163, 3) := by decide +kernel
theorem dX11_nth_37 : decode cX11_nth 37 = .ok (.ireturn, 1) := by decide +kernel
theorem dX11_many_0 : decode cX11_many 0 = .ok (.aload_n 0, 1) := by decide +kernel
theorem dX11_many_1 : decode cX11_many 1 = .ok (.getfield 35, 3) := by decide +kernel
theorem dX11_many_4 : decode cX11_many 4 = .ok (.iload_n 1, 1) := by decide +kernel
theorem dX11_many_5 : decode cX11_many 5 = .ok (.invokevirtual 145, 3) := by decide +kernel
theorem dX11_many_8 : decode cX11_many 8 = .ok (.astore 4, 2) := by decide +kernel
theorem dX11_many_10 : decode cX11_many 10 = .ok (.aload 4, 2) := by decide +kernel
theorem dX11_many_12 : decode cX11_many 12 = .ok (.ifnull 22, 3) := by decide +kernel
theorem dX11_many_15 : decode cX11_many 15 = .ok (.iload_n 2, 1) := by decide +kernel
theorem dX11_many_16 : decode cX11_many 16 = .ok (.invokestatic 139, 3) := by decide +kernel
theorem dX11_many_19 : decode cX11_many 19 = .ok (.ifCond .eq 15, 3) := by decide +kernel
theorem dX11_many_22 : decode cX11_many 22 = .ok (.iload_n 3, 1) := by decide +kernel
theorem dX11_many_23 : decode cX11_many 23 = .ok (.invokestatic 139, 3) := by decide +kernel
theorem dX11_many_26 : decode cX11_many 26 = .ok (.ifCond .eq 8, 3) := by decide +kernel
theorem dX11_many_29 : decode cX11_many 29 = .ok (.iload_n 2, 1) := by decide +kernel
theorem dX11_many_30 : decode cX11_many 30 = .ok (.iload_n 3, 1) := by decide +kernel
theorem dX11_many_31 : decode cX11_many 31 = .ok (.if_icmp .le 5, 3) := by decide +kernel
theorem dX11_many_34 : decode cX11_many 34 = .ok (.iconst (-1), 1) := by decide +kernel
theorem dX11_many_35 : decode cX11_many 35 = .ok (.ireturn, 1) := by decide +kernel
theorem dX11_many_36 : decode cX11_many 36 = .ok (.aload 4, 2) := by decide +kernel
theorem dX11_many_38 : decode cX11_many 38 = .ok (.iload_n 2, 1) := by decide +kernel
theorem dX11_many_39 : decode cX11_many 39 = .ok (.iload_n 3, 1) := by decide +kernel
theorem dX11_many_40 : decode cX11_many 40 = .ok (.invokevirtual 160, 3) := by decide +kernel
theorem dX11_many_43 : decode cX11_many 43 = .ok (.ireturn, 1) := by decide +kernel
theorem dX11_gap_0 : decode cX11_gap 0 = .ok (.aload_n 0, 1) := by decide +kernel
theorem dX11_gap_1 : decode cX11_gap 1 = .ok (.getfield 35, 3) := by decide +kernel
theorem dX11_gap_4 : decode cX11_gap 4 = .ok (.iload_n 1, 1) := by decide +kernel
theorem dX11_gap_5 : decode cX11_gap 5 = .ok (.invokevirtual 145, 3) := by decide +kernel
theorem dX11_gap_8 : decode cX11_gap 8 = .ok (.astore_n 3, 1) := by decide +kernel
theorem dX11_gap_9 : decode cX11_gap 9 = .ok (.aload_n 3, 1) := by decide +kernel
theorem dX11_gap_10 : decode cX11_gap 10 = .ok (.ifnull 12, 3) := by decide +kernel
theorem dX11_gap_13 : decode cX11_gap 13 = .ok (.iload_n 2, 1) := by decide +kernel
theorem dX11_gap_14 : decode cX11_gap 14 = .ok (.ifCond .lt 8, 3) := by decide +kernel
theorem dX11_gap_17 : decode cX11_gap 17 = .ok (.iload_n 2, 1) := by decide +kernel
theorem dX11_gap_18 : decode cX11_gap 18 = .ok (.iconst 1, 1) := by decide +kernel
theorem dX11_gap_19 : decode cX11_gap 19 = .ok (.if_icmp .le 5, 3) := by decide +kernel
theorem dX11_gap_22 : decode cX11_gap 22 = .ok (.iconst (-1), 1) := by decide +kernel
theorem dX11_gap_23 : decode cX11_gap 23 = .ok (.ireturn, 1) := by decide +kernel
theorem dX11_gap_24 : decode cX11_gap 24 = .ok (.iconst (-1), 1) := by decide +kernel
theorem dX11_gap_25 : decode cX11_gap 25 = .ok (.istore 4, 2) := by decide +kernel
theorem dX11_gap_27 : decode cX11_gap 27 = .ok (.iconst (-1), 1) := by decide +kernel
theorem dX11_gap_28 : decode cX11_gap 28 = .ok (.istore 5, 2) := by decide +kernel
theorem dX11_gap_30 : decode cX11_gap 30 = .ok (.aload_n 3, 1) := by decide +kernel
theorem dX11_gap_31 : decode cX11_gap 31 = .ok (.iconst 0, 1) := by decide +kernel
theorem dX11_gap_32 : decode cX11_gap 32 = .ok (.invokevirtual 154, 3) := by decide +kernel
theorem dX11_gap_35 : decode cX11_gap 35 = .ok (.istore 6, 2) := by decide +kernel
theorem dX11_gap_37 : decode cX11_gap 37 = .ok (.iconst 0, 1) := by decide +kernel
theorem dX11_gap_38 : decode cX11_gap 38 = .ok (.istore 7, 2) := by decide +kernel
theorem dX11_gap_40 : decode cX11_gap 40 = .ok (.iload 7, 2) := by decide +kernel
theorem dX11_gap_42 : decode cX11_gap 42 = .ok (.sipush 14610, 3) := by decide +kernel
theorem dX11_gap_45 : decode cX11_gap 45 = .ok (.if_icmp .ge 56, 3) := by decide +kernel
theorem dX11_gap_48 : decode cX11_gap 48 = .ok (.iload 6, 2) := by decide +kernel
theorem dX11_gap_50 : decode cX11_gap 50 = .ok (.iconst (-1), 1) := by decide +kernel
theorem dX11_gap_51 : decode cX11_gap 51 = .ok (.if_icmp .eq 50, 3) := by decide +kernel
theorem dX11_gap_54 : decode cX11_gap 54 = .ok (.aload_n 3, 1) := by decide +kernel
theorem dX11_gap_55 : decode cX11_gap 55 = .ok (.iload 6, 2) := by decide +kernel
theorem dX11_gap_57 : decode cX11_gap 57 = .ok (.iconst 1, 1) := by decide +kernel
theorem dX11_gap_58 : decode cX11_gap 58 = .ok (.iadd, 1) := by decide +kernel
theorem dX11_gap_59 : decode cX11_gap 59 = .ok (.invokevirtual 154, 3) := by decide +kernel
theorem dX11_gap_62 : decode cX11_gap 62 = .ok (.istore 8, 2) := by decide +kernel
theorem dX11_gap_64 : decode cX11_gap 64 = .ok (.iload 8, 2) := by decide +kernel
theorem dX11_gap_66 : decode cX11_gap 66 = .ok (.iconst (-1), 1) := by decide +kernel
theorem dX11_gap_67 : decode cX11_gap 67 = .ok (.if_icmp .eq 24, 3) := by decide +kernel
theorem dX11_gap_70 : decode cX11_gap 70 = .ok (.iload 8, 2) := by decide +kernel
theorem dX11_gap_72 : decode cX11_gap 72 = .ok (.iload 6, 2) := by decide +kernel
theorem dX11_gap_74 : decode cX11_gap 74 = .ok (.isub, 1) := by decide +kernel
theorem dX11_gap_75 : decode cX11_gap 75 = .ok (.iload 4, 2) := by decide +kernel
theorem dX11_gap_77 : decode cX11_gap 77 = .ok (.if_icmp .le 14, 3) := by decide +kernel
theorem dX11_gap_80 : decode cX11_gap 80 = .ok (.iload 8, 2) := by decide +kernel
theorem dX11_gap_82 : decode cX11_gap 82 = .ok (.iload 6, 2) := by decide +kernel
theorem dX11_gap_84 : decode cX11_gap 84 = .ok (.isub, 1) := by decide +kernel
theorem dX11_gap_85 : decode cX11_gap 85 = .ok (.istore 4, 2) := by decide +kernel
theorem dX11_gap_87 : decode cX11_gap 87 = .ok (.iload 6, 2) := by decide +kernel
theorem dX11_gap_89 : decode cX11_gap 89 = .ok (.istore 5, 2) := by decide +kernel
theorem dX11_gap_91 : decode cX11_gap 91 = .ok (.iload 8, 2) := by decide +kernel
theorem dX11_gap_93 : decode cX11_gap 93 = .ok (.istore 6, 2) := by decide +kernel
theorem dX11_gap_95 : decode cX11_gap 95 = .ok (.iinc 7 1, 3) := by decide +kernel
theorem dX11_gap_98 : decode cX11_gap 98 = .ok (.goto (-58), 3) := by decide +kernel
theorem dX11_gap_101 : decode cX11_gap 101 = .ok (.iload_n 2, 1) := by decide +kernel
theorem dX11_gap_102 : decode cX11_gap 102 = .ok (.ifCond .ne 8, 3) := by decide +kernel
theorem dX11_gap_105 : decode cX11_gap 105 = .ok (.iload 4, 2) := by decide +kernel
theorem dX11_gap_107 : decode cX11_gap 107 = .ok (.goto 5, 3) := by decide +kernel
theorem dX11_gap_110 : decode cX11_gap 110 = .ok (.iload 5, 2) := by decide +kernel
theorem dX11_gap_112 : decode cX11_gap 112 = .ok (.ireturn, 1) := by decide +kernel
theorem dX11_free_0 : decode cX11_free 0 = .ok (.aload_n 0, 1) := by decide +kernel
theorem dX11_free_1 : decode cX11_free 1 = .ok (.getfield 35, 3) := by decide +kernel
theorem dX11_free_4 : decode cX11_free 4 = .ok (.iload_n 1, 1) := by decide +kernel
theorem dX11_free_5 : decode cX11_free 5 = .ok (.invokevirtual 145, 3) := by decide +kernel
theorem dX11_free_8 : decode cX11_free 8 = .ok (.astore 4, 2) := by decide +kernel
theorem dX11_free_10 : decode cX11_free 10 = .ok (.aload 4, 2) := by decide +kernel
theorem dX11_free_12 : decode cX11_free 12 = .ok (.ifnull 22, 3) := by decide +kernel
theorem dX11_free_15 : decode cX11_free 15 = .ok (.iload_n 2, 1) := by decide +kernel
theorem dX11_free_16 : decode cX11_free 16 = .ok (.invokestatic 139, 3) := by decide +kernel
theorem dX11_free_19 : decode cX11_free 19 = .ok (.ifCond .eq 15, 3) := by decide +kernel
theorem dX11_free_22 : decode cX11_free 22 = .ok (.iload_n 3, 1) := by decide +kernel
theorem dX11_free_23 : decode cX11_free 23 = .ok (.iconst 1, 1) := by decide +kernel
theorem dX11_free_24 : decode cX11_free 24 = .ok (.if_icmp .lt 10, 3) := by decide +kernel
theorem dX11_free_27 : decode cX11_free 27 = .ok (.iload_n 3, 1) := by decide +kernel
theorem dX11_free_28 : decode cX11_free 28 = .ok (.sipush 999, 3) := by decide +kernel
theorem dX11_free_31 : decode cX11_free 31 = .ok (.if_icmp .le 5, 3) := by decide +kernel
theorem dX11_free_34 : decode cX11_free 34 = .ok (.iconst (-1), 1) := by decide +kernel
theorem dX11_free_35 : decode cX11_free 35 = .ok (.ireturn, 1) := by decide +kernel
theorem dX11_free_36 : decode cX11_free 36 = .ok (.aload 4, 2) := by decide +kernel
theorem dX11_free_38 : decode cX11_free 38 = .ok (.iload_n 2, 1) := by decide +kernel
theorem dX11_free_39 : decode cX11_free 39 = .ok (.invokevirtual 166, 3) := by decide +kernel
theorem dX11_free_42 : decode cX11_free 42 = .ok (.istore 5, 2) := by decide +kernel
theorem dX11_free_44 : decode cX11_free 44 = .ok (.iconst 0, 1) := by decide +kernel
theorem dX11_free_45 : decode cX11_free 45 = .ok (.istore 6, 2) := by decide +kernel
theorem dX11_free_47 : decode cX11_free 47 = .ok (.iload 6, 2) := by decide +kernel
theorem dX11_free_49 : decode cX11_free 49 = .ok (.sipush 14610, 3) := by decide +kernel
theorem dX11_free_52 : decode cX11_free 52 = .ok (.if_icmp .ge 61, 3) := by decide +kernel
theorem dX11_free_55 : decode cX11_free 55 = .ok (.iload 5, 2) := by decide +kernel
theorem dX11_free_57 : decode cX11_free 57 = .ok (.iconst (-1), 1) := by decide +kernel
theorem dX11_free_58 : decode cX11_free 58 = .ok (.if_icmp .eq 55, 3) := by decide +kernel
theorem dX11_free_61 : decode cX11_free 61 = .ok (.aload 4, 2) := by decide +kernel
theorem dX11_free_63 : decode cX11_free 63 = .ok (.iload 5, 2) := by decide +kernel
theorem dX11_free_65 : decode cX11_free 65 = .ok (.invokevirtual 154, 3) := by decide +kernel
theorem dX11_free_68 : decode cX11_free 68 = .ok (.istore 7, 2) := by decide +kernel
theorem dX11_free_70 : decode cX11_free 70 = .ok (.iload 7, 2) := by decide +kernel
theorem dX11_free_72 : decode cX11_free 72 = .ok (.iconst (-1), 1) := by decide +kernel
theorem dX11_free_73 : decode cX11_free 73 = .ok (.if_icmp .ne 9, 3) := by decide +kernel
theorem dX11_free_76 : decode cX11_free 76 = .ok (.sipush 14610, 3) := by decide +kernel
theorem dX11_free_79 : decode cX11_free 79 = .ok (.goto 5, 3) := by decide +kernel
theorem dX11_free_82 : decode cX11_free 82 = .ok (.iload 7, 2) := by decide +kernel
theorem dX11_free_84 : decode cX11_free 84 = .ok (.istore 8, 2) := by decide +kernel
theorem dX11_free_86 : decode cX11_free 86 = .ok (.iload 8, 2) := by decide +kernel
theorem dX11_free_88 : decode cX11_free 88 = .ok (.iload 5, 2) := by decide +kernel
theorem dX11_free_90 : decode cX11_free 90 = .ok (.isub, 1) := by decide +kernel
theorem dX11_free_91 : decode cX11_free 91 = .ok (.iload_n 3, 1) := by decide +kernel
theorem dX11_free_92 : decode cX11_free 92 = .ok (.if_icmp .lt 6, 3) := by decide +kernel
theorem dX11_free_95 : decode cX11_free 95 = .ok (.iload 5, 2) := by decide +kernel
theorem dX11_free_97 : decode cX11_free 97 = .ok (.ireturn, 1) := by decide +kernel
theorem dX11_free_98 : decode cX11_free 98 = .ok (.aload 4, 2) := by decide +kernel
theorem dX11_free_100 : decode cX11_free 100 = .ok (.iload 8, 2) := by decide +kernel
theorem dX11_free_102 : decode cX11_free 102 = .ok (.invokevirtual 166, 3) := by decide +kernel
theorem dX11_free_105 : decode cX11_free 105 = .ok (.istore 5, 2) := by decide +kernel
theorem dX11_free_107 : decode cX11_free 107 = .ok (.iinc 6 1, 3) := by decide +kernel
theorem dX11_free_110 : decode cX11_free 110 = .ok (.goto (-63), 3) := by decide +kernel
theorem dX11_free_113 : decode cX11_free 113 = .ok (.iconst (-1), 1) := by decide +kernel
theorem dX11_free_114 : decode cX11_free 114 = .ok (.ireturn, 1) := by decide +kernel
theorem dX11_meet_0 : decode cX11_meet 0 = .ok (.aload_n 0, 1) := by decide +kernel
theorem dX11_meet_1 : decode cX11_meet 1 = .ok (.getfield 35, 3) := by decide +kernel
theorem dX11_meet_4 : decode cX11_meet 4 = .ok (.iload_n 1, 1) := by decide +kernel
theorem dX11_meet_5 : decode cX11_meet 5 = .ok (.invokevirtual 145, 3) := by decide +kernel
theorem dX11_meet_8 : decode cX11_meet 8 = .ok (.astore 5, 2) := by decide +kernel
theorem dX11_meet_10 : decode cX11_meet 10 = .ok (.aload_n 0, 1) := by decide +kernel
theorem dX11_meet_11 : decode cX11_meet 11 = .ok (.getfield 35, 3) := by decide +kernel
theorem dX11_meet_14 : decode cX11_meet 14 = .ok (.iload_n 2, 1) := by decide +kernel
theorem dX11_meet_15 : decode cX11_meet 15 = .ok (.invokevirtual 145, 3) := by decide +kernel
theorem dX11_meet_18 : decode cX11_meet 18 = .ok (.astore 6, 2) := by decide +kernel
theorem dX11_meet_20 : decode cX11_meet 20 = .ok (.aload 5, 2) := by decide +kernel
theorem dX11_meet_22 : decode cX11_meet 22 = .ok (.ifnull 26, 3) := by decide +kernel
theorem dX11_meet_25 : decode cX11_meet 25 = .ok (.aload 6, 2) := by decide +kernel
theorem dX11_meet_27 : decode cX11_meet 27 = .ok (.ifnull 21, 3) := by decide +kernel
theorem dX11_meet_30 : decode cX11_meet 30 = .ok (.iload_n 3, 1) := by decide +kernel
theorem dX11_meet_31 : decode cX11_meet 31 = .ok (.invokestatic 139, 3) := by decide +kernel
theorem dX11_meet_34 : decode cX11_meet 34 = .ok (.ifCond .eq 14, 3) := by decide +kernel
theorem dX11_meet_37 : decode cX11_meet 37 = .ok (.iload 4, 2) := by decide +kernel
theorem dX11_meet_39 : decode cX11_meet 39 = .ok (.ifCond .lt 9, 3) := by decide +kernel
theorem dX11_meet_42 : decode cX11_meet 42 = .ok (.iload 4, 2) := by decide +kernel
theorem dX11_meet_44 : decode cX11_meet 44 = .ok (.iconst 1, 1) := by decide +kernel
theorem dX11_meet_45 : decode cX11_meet 45 = .ok (.if_icmp .le 5, 3) := by decide +kernel
theorem dX11_meet_48 : decode cX11_meet 48 = .ok (.iconst (-1), 1) := by decide +kernel
theorem dX11_meet_49 : decode cX11_meet 49 = .ok (.ireturn, 1) := by decide +kernel
theorem dX11_meet_50 : decode cX11_meet 50 = .ok (.aload 5, 2) := by decide +kernel
theorem dX11_meet_52 : decode cX11_meet 52 = .ok (.aload 6, 2) := by decide +kernel
theorem dX11_meet_54 : decode cX11_meet 54 = .ok (.iload_n 3, 1) := by decide +kernel
theorem dX11_meet_55 : decode cX11_meet 55 = .ok (.iload 4, 2) := by decide +kernel
theorem dX11_meet_57 : decode cX11_meet 57 = .ok (.ifCond .ne 7, 3) := by decide +kernel
theorem dX11_meet_60 : decode cX11_meet 60 = .ok (.iconst 0, 1) := by decide +kernel
theorem dX11_meet_61 : decode cX11_meet 61 = .ok (.goto 4, 3) := by decide +kernel
theorem dX11_meet_64 : decode cX11_meet 64 = .ok (.iconst 1, 1) := by decide +kernel
theorem dX11_meet_65 : decode cX11_meet 65 = .ok (.invokevirtual 169, 3) := by decide +kernel
theorem dX11_meet_68 : decode cX11_meet 68 = .ok (.ireturn, 1) := by decide +kernel
theorem dX11_fares_0 : decode cX11_fares 0 = .ok (.aload_n 0, 1) := by decide +kernel
theorem dX11_fares_1 : decode cX11_fares 1 = .ok (.getfield 35, 3) := by decide +kernel
theorem dX11_fares_4 : decode cX11_fares 4 = .ok (.iload_n 1, 1) := by decide +kernel
theorem dX11_fares_5 : decode cX11_fares 5 = .ok (.invokevirtual 145, 3) := by decide +kernel
theorem dX11_fares_8 : decode cX11_fares 8 = .ok (.astore_n 3, 1) := by decide +kernel
theorem dX11_fares_9 : decode cX11_fares 9 = .ok (.aload_n 3, 1) := by decide +kernel
theorem dX11_fares_10 : decode cX11_fares 10 = .ok (.ifnull 13, 3) := by decide +kernel
theorem dX11_fares_13 : decode cX11_fares 13 = .ok (.iload_n 2, 1) := by decide +kernel
theorem dX11_fares_14 : decode cX11_fares 14 = .ok (.ifCond .lt 9, 3) := by decide +kernel
theorem dX11_fares_17 : decode cX11_fares 17 = .ok (.iload_n 2, 1) := by decide +kernel
theorem dX11_fares_18 : decode cX11_fares 18 = .ok (.bipush 18, 2) := by decide +kernel
theorem dX11_fares_20 : decode cX11_fares 20 = .ok (.if_icmp .le 5, 3) := by decide +kernel
theorem dX11_fares_23 : decode cX11_fares 23 = .ok (.iconst (-1), 1) := by decide +kernel
theorem dX11_fares_24 : decode cX11_fares 24 = .ok (.ireturn, 1) := by decide +kernel
theorem dX11_fares_25 : decode cX11_fares 25 = .ok (.iconst 0, 1) := by decide +kernel
theorem dX11_fares_26 : decode cX11_fares 26 = .ok (.istore 4, 2) := by decide +kernel
theorem dX11_fares_28 : decode cX11_fares 28 = .ok (.aload_n 3, 1) := by decide +kernel
theorem dX11_fares_29 : decode cX11_fares 29 = .ok (.iconst 0, 1) := by decide +kernel
theorem dX11_fares_30 : decode cX11_fares 30 = .ok (.invokevirtual 154, 3) := by decide +kernel
theorem dX11_fares_33 : decode cX11_fares 33 = .ok (.istore 5, 2) := by decide +kernel
theorem dX11_fares_35 : decode cX11_fares 35 = .ok (.iconst 0, 1) := by decide +kernel
theorem dX11_fares_36 : decode cX11_fares 36 = .ok (.istore 6, 2) := by decide +kernel
theorem dX11_fares_38 : decode cX11_fares 38 = .ok (.iload 6, 2) := by decide +kernel
theorem dX11_fares_40 : decode cX11_fares 40 = .ok (.sipush 14610, 3) := by decide +kernel
theorem dX11_fares_43 : decode cX11_fares 43 = .ok (.if_icmp .ge 58, 3) := by decide +kernel
theorem dX11_fares_46 : decode cX11_fares 46 = .ok (.iload 5, 2) := by decide +kernel
theorem dX11_fares_48 : decode cX11_fares 48 = .ok (.iconst (-1), 1) := by decide +kernel
theorem dX11_fares_49 : decode cX11_fares 49 = .ok (.if_icmp .eq 52, 3) := by decide +kernel
theorem dX11_fares_52 : decode cX11_fares 52 = .ok (.iload_n 2, 1) := by decide +kernel
theorem dX11_fares_53 : decode cX11_fares 53 = .ok (.bipush 7, 2) := by decide +kernel
theorem dX11_fares_55 : decode cX11_fares 55 = .ok (.if_icmp .ge 11, 3) := by decide +kernel
theorem dX11_fares_58 : decode cX11_fares 58 = .ok (.iload 5, 2) := by decide +kernel
theorem dX11_fares_60 : decode cX11_fares 60 = .ok (.invokestatic 173, 3) := by decide +kernel
theorem dX11_fares_63 : decode cX11_fares 63 = .ok (.goto 11, 3) := by decide +kernel
theorem dX11_fares_66 : decode cX11_fares 66 = .ok (.iload 5, 2) := by decide +kernel
theorem dX11_fares_68 : decode cX11_fares 68 = .ok (.invokestatic 176, 3) := by decide +kernel
theorem dX11_fares_71 : decode cX11_fares 71 = .ok (.bipush 6, 2) := by decide +kernel
theorem dX11_fares_73 : decode cX11_fares 73 = .ok (.iadd, 1) := by decide +kernel
theorem dX11_fares_74 : decode cX11_fares 74 = .ok (.istore 7, 2) := by decide +kernel
theorem dX11_fares_76 : decode cX11_fares 76 = .ok (.iload 7, 2) := by decide +kernel
theorem dX11_fares_78 : decode cX11_fares 78 = .ok (.iload_n 2, 1) := by decide +kernel
theorem dX11_fares_79 : decode cX11_fares 79 = .ok (.if_icmp .ne 6, 3) := by decide +kernel
theorem dX11_fares_82 : decode cX11_fares 82 = .ok (.iinc 4 1, 3) := by decide +kernel
theorem dX11_fares_85 : decode cX11_fares 85 = .ok (.aload_n 3, 1) := by decide +kernel
theorem dX11_fares_86 : decode cX11_fares 86 = .ok (.iload 5, 2) := by decide +kernel
theorem dX11_fares_88 : decode cX11_fares 88 = .ok (.iconst 1, 1) := by decide +kernel
theorem dX11_fares_89 : decode cX11_fares 89 = .ok (.iadd, 1) := by decide +kernel
theorem dX11_fares_90 : decode cX11_fares 90 = .ok (.invokevirtual 154, 3) := by decide +kernel
theorem dX11_fares_93 : decode cX11_fares 93 = .ok (.istore 5, 2) := by decide +kernel
theorem dX11_fares_95 : decode cX11_fares 95 = .ok (.iinc 6 1, 3) := by decide +kernel
theorem dX11_fares_98 : decode cX11_fares 98 = .ok (.goto (-60), 3) := by decide +kernel
theorem dX11_fares_101 : decode cX11_fares 101 = .ok (.iload 4, 2) := by decide +kernel
theorem dX11_fares_103 : decode cX11_fares 103 = .ok (.ireturn, 1) := by decide +kernel
theorem dX11_period_0 : decode cX11_period 0 = .ok (.aload_n 0, 1) := by decide +kernel
theorem dX11_period_1 : decode cX11_period 1 = .ok (.getfield 60, 3) := by decide +kernel
theorem dX11_period_4 : decode cX11_period 4 = .ok (.iload_n 1, 1) := by decide +kernel
theorem dX11_period_5 : decode cX11_period 5 = .ok (.invokevirtual 122, 3) := by decide +kernel
theorem dX11_period_8 : decode cX11_period 8 = .ok (.astore 4, 2) := by decide +kernel
theorem dX11_period_10 : decode cX11_period 10 = .ok (.aload 4, 2) := by decide +kernel
theorem dX11_period_12 : decode cX11_period 12 = .ok (.ifnull 19, 3) := by decide +kernel
theorem dX11_period_15 : decode cX11_period 15 = .ok (.iload_n 2, 1) := by decide +kernel
theorem dX11_period_16 : decode cX11_period 16 = .ok (.invokestatic 139, 3) := by decide +kernel
theorem dX11_period_19 : decode cX11_period 19 = .ok (.ifCond .eq 12, 3) := by decide +kernel
theorem dX11_period_22 : decode cX11_period 22 = .ok (.iload_n 3, 1) := by decide +kernel
theorem dX11_period_23 : decode cX11_period 23 = .ok (.ifCond .lt 8, 3) := by decide +kernel
theorem dX11_period_26 : decode cX11_period 26 = .ok (.iload_n 3, 1) := by decide +kernel
theorem dX11_period_27 : decode cX11_period 27 = .ok (.iconst 2, 1) := by decide +kernel
theorem dX11_period_28 : decode cX11_period 28 = .ok (.if_icmp .le 5, 3) := by decide +kernel
theorem dX11_period_31 : decode cX11_period 31 = .ok (.iconst (-1), 1) := by decide +kernel
theorem dX11_period_32 : decode cX11_period 32 = .ok (.ireturn, 1) := by decide +kernel
theorem dX11_period_33 : decode cX11_period 33 = .ok (.aload 4, 2) := by decide +kernel
theorem dX11_period_35 : decode cX11_period 35 = .ok (.getfield 179, 3) := by decide +kernel
theorem dX11_period_38 : decode cX11_period 38 = .ok (.iload_n 2, 1) := by decide +kernel
theorem dX11_period_39 : decode cX11_period 39 = .ok (.invokestatic 182, 3) := by decide +kernel
theorem dX11_period_42 : decode cX11_period 42 = .ok (.istore 5, 2) := by decide +kernel
theorem dX11_period_44 : decode cX11_period 44 = .ok (.iload_n 3, 1) := by decide +kernel
theorem dX11_period_45 : decode cX11_period 45 = .ok (.iconst 2, 1) := by decide +kernel
theorem dX11_period_46 : decode cX11_period 46 = .ok (.if_icmp .ne 19, 3) := by decide +kernel
theorem dX11_period_49 : decode cX11_period 49 = .ok (.aload 4, 2) := by decide +kernel
theorem dX11_period_51 : decode cX11_period 51 = .ok (.iload 5, 2) := by decide +kernel
theorem dX11_period_53 : decode cX11_period 53 = .ok (.invokevirtual 185, 3) := by decide +kernel
theorem dX11_period_56 : decode cX11_period 56 = .ok (.ifCond .eq 7, 3) := by decide +kernel
theorem dX11_period_59 : decode cX11_period 59 = .ok (.iconst 1, 1) := by decide +kernel
theorem dX11_period_60 : decode cX11_period 60 = .ok (.goto 4, 3) := by decide +kernel
theorem dX11_period_63 : decode cX11_period 63 = .ok (.iconst 0, 1) := by decide +kernel
theorem dX11_period_64 : decode cX11_period 64 = .ok (.ireturn, 1) := by decide +kernel
theorem dX11_period_65 : decode cX11_period 65 = .ok (.aload_n 0, 1) := by decide +kernel
theorem dX11_period_66 : decode cX11_period 66 = .ok (.getfield 26, 3) := by decide +kernel
theorem dX11_period_69 : decode cX11_period 69 = .ok (.aload 4, 2) := by decide +kernel
theorem dX11_period_71 : decode cX11_period 71 = .ok (.iload 5, 2) := by decide +kernel
theorem dX11_period_73 : decode cX11_period 73 = .ok (.invokevirtual 188, 3) := by decide +kernel
theorem dX11_period_76 : decode cX11_period 76 = .ok (.iload_n 3, 1) := by decide +kernel
theorem dX11_period_77 : decode cX11_period 77 = .ok (.iconst 1, 1) := by decide +kernel
theorem dX11_period_78 : decode cX11_period 78 = .ok (.if_icmp .ne 12, 3) := by decide +kernel
theorem dX11_period_81 : decode cX11_period 81 = .ok (.aload_n 0, 1) := by decide +kernel
theorem dX11_period_82 : decode cX11_period 82 = .ok (.getfield 26, 3) := by decide +kernel
theorem dX11_period_85 : decode cX11_period 85 = .ok (.aload 4, 2) := by decide +kernel
theorem dX11_period_87 : decode cX11_period 87 = .ok (.invokevirtual 192, 3) := by decide +kernel
theorem dX11_period_90 : decode cX11_period 90 = .ok (.aload_n 0, 1) := by decide +kernel
theorem dX11_period_91 : decode cX11_period 91 = .ok (.getfield 26, 3) := by decide +kernel
theorem dX11_period_94 : decode cX11_period 94 = .ok (.getfield 196, 3) := by decide +kernel
theorem dX11_period_97 : decode cX11_period 97 = .ok (.ireturn, 1) := by decide +kernel
theorem dX11_sum_0 : decode cX11_sum 0 = .ok (.aload_n 0, 1) := by decide +kernel
theorem dX11_sum_1 : decode cX11_sum 1 = .ok (.getfield 35, 3) := by decide +kernel
theorem dX11_sum_4 : decode cX11_sum 4 = .ok (.iload_n 1, 1) := by decide +kernel
theorem dX11_sum_5 : decode cX11_sum 5 = .ok (.invokevirtual 145, 3) := by decide +kernel
theorem dX11_sum_8 : decode cX11_sum 8 = .ok (.astore_n 2, 1) := by decide +kernel
theorem dX11_sum_9 : decode cX11_sum 9 = .ok (.aload_n 2, 1) := by decide +kernel
theorem dX11_sum_10 : decode cX11_sum 10 = .ok (.ifnonnull 5, 3) := by decide +kernel
theorem dX11_sum_13 : decode cX11_sum 13 = .ok (.iconst (-1), 1) := by decide +kernel
theorem dX11_sum_14 : decode cX11_sum 14 = .ok (.ireturn, 1) := by decide +kernel
theorem dX11_sum_15 : decode cX11_sum 15 = .ok (.lconst 0, 1) := by decide +kernel
theorem dX11_sum_16 : decode cX11_sum 16 = .ok (.lstore_n 3, 1) := by decide +kernel
theorem dX11_sum_17 : decode cX11_sum 17 = .ok (.aload_n 2, 1) := by decide +kernel
theorem dX11_sum_18 : decode cX11_sum 18 = .ok (.iconst 0, 1) := by decide +kernel
theorem dX11_sum_19 : decode cX11_sum 19 = .ok (.invokevirtual 154, 3) := by decide +kernel
theorem dX11_sum_22 : decode cX11_sum 22 = .ok (.istore 5, 2) := by decide +kernel
theorem dX11_sum_24 : decode cX11_sum 24 = .ok (.iconst 1, 1) := by decide +kernel
theorem dX11_sum_25 : decode cX11_sum 25 = .ok (.istore 6, 2) := by decide +kernel
theorem dX11_sum_27 : decode cX11_sum 27 = .ok (.iload 6, 2) := by decide +kernel
theorem dX11_sum_29 : decode cX11_sum 29 = .ok (.sipush 14610, 3) := by decide +kernel
theorem dX11_sum_32 : decode cX11_sum 32 = .ok (.if_icmp .gt 39, 3) := by decide +kernel
theorem dX11_sum_35 : decode cX11_sum 35 = .ok (.iload 5, 2) := by decide +kernel
theorem dX11_sum_37 : decode cX11_sum 37 = .ok (.iconst (-1), 1) := by decide +kernel
theorem dX11_sum_38 : decode cX11_sum 38 = .ok (.if_icmp .eq 33, 3) := by decide +kernel
theorem dX11_sum_41 : decode cX11_sum 41 = .ok (.lload_n 3, 1) := by decide +kernel
theorem dX11_sum_42 : decode cX11_sum 42 = .ok (.iload 6, 2) := by decide +kernel
theorem dX11_sum_44 : decode cX11_sum 44 = .ok (.i2l, 1) := by decide +kernel
theorem dX11_sum_45 : decode cX11_sum 45 = .ok (.iload 5, 2) := by decide +kernel
theorem dX11_sum_47 : decode cX11_sum 47 = .ok (.i2l, 1) := by decide +kernel
theorem dX11_sum_48 : decode cX11_sum 48 = .ok (.lmul, 1) := by decide +kernel
theorem dX11_sum_49 : decode cX11_sum 49 = .ok (.ladd, 1) := by decide +kernel
theorem dX11_sum_50 : decode cX11_sum 50 = .ok (.ldc2_w 197, 3) := by decide +kernel
theorem dX11_sum_53 : decode cX11_sum 53 = .ok (.lrem, 1) := by decide +kernel
theorem dX11_sum_54 : decode cX11_sum 54 = .ok (.lstore_n 3, 1) := by decide +kernel
theorem dX11_sum_55 : decode cX11_sum 55 = .ok (.aload_n 2, 1) := by decide +kernel
theorem dX11_sum_56 : decode cX11_sum 56 = .ok (.iload 5, 2) := by decide +kernel
theorem dX11_sum_58 : decode cX11_sum 58 = .ok (.iconst 1, 1) := by decide +kernel
theorem dX11_sum_59 : decode cX11_sum 59 = .ok (.iadd, 1) := by decide +kernel
theorem dX11_sum_60 : decode cX11_sum 60 = .ok (.invokevirtual 154, 3) := by decide +kernel
theorem dX11_sum_63 : decode cX11_sum 63 = .ok (.istore 5, 2) := by decide +kernel
theorem dX11_sum_65 : decode cX11_sum 65 = .ok (.iinc 6 1, 3) := by decide +kernel
theorem dX11_sum_68 : decode cX11_sum 68 = .ok (.goto (-41), 3) := by decide +kernel
theorem dX11_sum_71 : decode cX11_sum 71 = .ok (.lload_n 3, 1) := by decide +kernel
theorem dX11_sum_72 : decode cX11_sum 72 = .ok (.l2i, 1) := by decide +kernel
theorem dX11_sum_73 : decode cX11_sum 73 = .ok (.ireturn, 1) := by decide +kernel
theorem dX11_see_0 : decode cX11_see 0 = .ok (.aload_n 0, 1) := by decide +kernel
theorem dX11_see_1 : decode cX11_see 1 = .ok (.getfield 60, 3) := by decide +kernel
theorem dX11_see_4 : decode cX11_see 4 = .ok (.iload_n 1, 1) := by decide +kernel
theorem dX11_see_5 : decode cX11_see 5 = .ok (.invokevirtual 122, 3) := by decide +kernel
theorem dX11_see_8 : decode cX11_see 8 = .ok (.astore_n 2, 1) := by decide +kernel
theorem dX11_see_9 : decode cX11_see 9 = .ok (.aload_n 2, 1) := by decide +kernel
theorem dX11_see_10 : decode cX11_see 10 = .ok (.ifnull 17, 3) := by decide +kernel
theorem dX11_see_13 : decode cX11_see 13 = .ok (.aload_n 0, 1) := by decide +kernel
theorem dX11_see_14 : decode cX11_see 14 = .ok (.getfield 10, 3) := by decide +kernel
theorem dX11_see_17 : decode cX11_see 17 = .ok (.invokestatic 199, 3) := by decide +kernel
theorem dX11_see_20 : decode cX11_see 20 = .ok (.ifCond .eq 7, 3) := by decide +kernel
theorem dX11_see_23 : decode cX11_see 23 = .ok (.iconst 1, 1) := by decide +kernel
theorem dX11_see_24 : decode cX11_see 24 = .ok (.goto 4, 3) := by decide +kernel
theorem dX11_see_27 : decode cX11_see 27 = .ok (.iconst 0, 1) := by decide +kernel
theorem dX11_see_28 : decode cX11_see 28 = .ok (.istore_n 3, 1) := by decide +kernel
theorem dX11_see_29 : decode cX11_see 29 = .ok (.iload_n 3, 1) := by decide +kernel
theorem dX11_see_30 : decode cX11_see 30 = .ok (.ifCond .eq 15, 3) := by decide +kernel
theorem dX11_see_33 : decode cX11_see 33 = .ok (.aload_n 0, 1) := by decide +kernel
theorem dX11_see_34 : decode cX11_see 34 = .ok (.getfield 49, 3) := by decide +kernel
theorem dX11_see_37 : decode cX11_see 37 = .ok (.aload_n 0, 1) := by decide +kernel
theorem dX11_see_38 : decode cX11_see 38 = .ok (.getfield 10, 3) := by decide +kernel
theorem dX11_see_41 : decode cX11_see 41 = .ok (.aload_n 2, 1) := by decide +kernel
theorem dX11_see_42 : decode cX11_see 42 = .ok (.invokevirtual 203, 3) := by decide +kernel
theorem dX11_see_45 : decode cX11_see 45 = .ok (.aload_n 0, 1) := by decide +kernel
theorem dX11_see_46 : decode cX11_see 46 = .ok (.getfield 10, 3) := by decide +kernel
theorem dX11_see_49 : decode cX11_see 49 = .ok (.iconst 0, 1) := by decide +kernel
theorem dX11_see_50 : decode cX11_see 50 = .ok (.putfield 75, 3) := by decide +kernel
theorem dX11_see_53 : decode cX11_see 53 = .ok (.iload_n 3, 1) := by decide +kernel
theorem dX11_see_54 : decode cX11_see 54 = .ok (.ifCond .eq 13, 3) := by decide +kernel
theorem dX11_see_57 : decode cX11_see 57 = .ok (.aload_n 0, 1) := by decide +kernel
theorem dX11_see_58 : decode cX11_see 58 = .ok (.getfield 49, 3) := by decide +kernel
theorem dX11_see_61 : decode cX11_see 61 = .ok (.getfield 113, 3) := by decide +kernel
theorem dX11_see_64 : decode cX11_see 64 = .ok (.goto 8, 3) := by decide +kernel
theorem dX11_see_67 : decode cX11_see 67 = .ok (.aload_n 0, 1) := by decide +kernel
theorem dX11_see_68 : decode cX11_see 68 = .ok (.iconst 1, 1) := by decide +kernel
theorem dX11_see_69 : decode cX11_see 69 = .ok (.invokevirtual 78, 3) := by decide +kernel
theorem dX11_see_72 : decode cX11_see 72 = .ok (.ireturn, 1) := by decide +kernel
theorem dX11_fits_0 : decode cX11_fits 0 = .ok (.aload_n 0, 1) := by decide +kernel
theorem dX11_fits_1 : decode cX11_fits 1 = .ok (.getfield 49, 3) := by decide +kernel
theorem dX11_fits_4 : decode cX11_fits 4 = .ok (.getfield 113, 3) := by decide +kernel
theorem dX11_fits_7 : decode cX11_fits 7 = .ok (.ifCond .ne 5, 3) := by decide +kernel
theorem dX11_fits_10 : decode cX11_fits 10 = .ok (.iconst (-1), 1) := by decide +kernel
theorem dX11_fits_11 : decode cX11_fits 11 = .ok (.ireturn, 1) := by decide +kernel
theorem dX11_fits_12 : decode cX11_fits 12 = .ok (.aload_n 0, 1) := by decide +kernel
theorem dX11_fits_13 : decode cX11_fits 13 = .ok (.getfield 49, 3) := by decide +kernel
theorem dX11_fits_16 : decode cX11_fits 16 = .ok (.invokevirtual 207, 3) := by decide +kernel
theorem dX11_fits_19 : decode cX11_fits 19 = .ok (.iload_n 1, 1) := by decide +kernel
theorem dX11_fits_20 : decode cX11_fits 20 = .ok (.iconst (-1), 1) := by decide +kernel
theorem dX11_fits_21 : decode cX11_fits 21 = .ok (.if_icmp .ne 13, 3) := by decide +kernel
theorem dX11_fits_24 : decode cX11_fits 24 = .ok (.aload_n 0, 1) := by decide +kernel
theorem dX11_fits_25 : decode cX11_fits 25 = .ok (.getfield 49, 3) := by decide +kernel
theorem dX11_fits_28 : decode cX11_fits 28 = .ok (.getfield 210, 3) := by decide +kernel
theorem dX11_fits_31 : decode cX11_fits 31 = .ok (.goto 11, 3) := by decide +kernel
theorem dX11_fits_34 : decode cX11_fits 34 = .ok (.aload_n 0, 1) := by decide +kernel
theorem dX11_fits_35 : decode cX11_fits 35 = .ok (.getfield 49, 3) := by decide +kernel
theorem dX11_fits_38 : decode cX11_fits 38 = .ok (.iload_n 1, 1) := by decide +kernel
theorem dX11_fits_39 : decode cX11_fits 39 = .ok (.invokevirtual 213, 3) := by decide +kernel
theorem dX11_fits_42 : decode cX11_fits 42 = .ok (.ireturn, 1) := by decide +kernel
theorem dX11_tells_0 : decode cX11_tells 0 = .ok (.aload_n 0, 1) := by decide +kernel
theorem dX11_tells_1 : decode cX11_tells 1 = .ok (.getfield 49, 3) := by decide +kernel
theorem dX11_tells_4 : decode cX11_tells 4 = .ok (.getfield 113, 3) := by decide +kernel
theorem dX11_tells_7 : decode cX11_tells 7 = .ok (.ifCond .eq 12, 3) := by decide +kernel
theorem dX11_tells_10 : decode cX11_tells 10 = .ok (.iload_n 1, 1) := by decide +kernel
theorem dX11_tells_11 : decode cX11_tells 11 = .ok (.ifCond .lt 8, 3) := by decide +kernel
theorem dX11_tells_14 : decode cX11_tells 14 = .ok (.iload_n 1, 1) := by decide +kernel
theorem dX11_tells_15 : decode cX11_tells 15 = .ok (.iconst 1, 1) := by decide +kernel
theorem dX11_tells_16 : decode cX11_tells 16 = .ok (.if_icmp .le 5, 3) := by decide +kernel
theorem dX11_tells_19 : decode cX11_tells 19 = .ok (.iconst (-1), 1) := by decide +kernel
theorem dX11_tells_20 : decode cX11_tells 20 = .ok (.ireturn, 1) := by decide +kernel
theorem dX11_tells_21 : decode cX11_tells 21 = .ok (.aload_n 0, 1) := by decide +kernel
theorem dX11_tells_22 : decode cX11_tells 22 = .ok (.getfield 49, 3) := by decide +kernel
theorem dX11_tells_25 : decode cX11_tells 25 = .ok (.invokevirtual 207, 3) := by decide +kernel
theorem dX11_tells_28 : decode cX11_tells 28 = .ok (.iload_n 1, 1) := by decide +kernel
theorem dX11_tells_29 : decode cX11_tells 29 = .ok (.ifCond .ne 13, 3) := by decide +kernel
theorem dX11_tells_32 : decode cX11_tells 32 = .ok (.aload_n 0, 1) := by decide +kernel
theorem dX11_tells_33 : decode cX11_tells 33 = .ok (.getfield 49, 3) := by decide +kernel
theorem dX11_tells_36 : decode cX11_tells 36 = .ok (.getfield 216, 3) := by decide +kernel
theorem dX11_tells_39 : decode cX11_tells 39 = .ok (.goto 10, 3) := by decide +kernel
theorem dX11_tells_42 : decode cX11_tells 42 = .ok (.aload_n 0, 1) := by decide +kernel
theorem dX11_tells_43 : decode cX11_tells 43 = .ok (.getfield 49, 3) := by decide +kernel
theorem dX11_tells_46 : decode cX11_tells 46 = .ok (.getfield 219, 3) := by decide +kernel
theorem dX11_tells_49 : decode cX11_tells 49 = .ok (.ireturn, 1) := by decide +kernel
theorem dX11_add_0 : decode cX11_add 0 = .ok (.aload_n 0, 1) := by decide +kernel
theorem dX11_add_1 : decode cX11_add 1 = .ok (.iload_n 1, 1) := by decide +kernel
theorem dX11_add_2 : decode cX11_add 2 = .ok (.iload_n 2, 1) := by decide +kernel
theorem dX11_add_3 : decode cX11_add 3 = .ok (.iconst 1, 1) := by decide +kernel
theorem dX11_add_4 : decode cX11_add 4 = .ok (.invokevirtual 222, 3) := by decide +kernel
theorem dX11_add_7 : decode cX11_add 7 = .ok (.ireturn, 1) := by decide +kernel
theorem dX11_leave_0 : decode cX11_leave 0 = .ok (.aload_n 0, 1) := by decide +kernel
theorem dX11_leave_1 : decode cX11_leave 1 = .ok (.iload_n 1, 1) := by decide +kernel
theorem dX11_leave_2 : decode cX11_leave 2 = .ok (.iload_n 2, 1) := by decide +kernel
theorem dX11_leave_3 : decode cX11_leave 3 = .ok (.iconst 2, 1) := by decide +kernel
theorem dX11_leave_4 : decode cX11_leave 4 = .ok (.invokevirtual 222, 3) := by decide +kernel
theorem dX11_leave_7 : decode cX11_leave 7 = .ok (.ireturn, 1) := by decide +kernel
theorem dX11_every_0 : decode cX11_every 0 = .ok (.aload_n 0, 1) := by decide +kernel
theorem dX11_every_1 : decode cX11_every 1 = .ok (.getfield 60, 3) := by decide +kernel
theorem dX11_every_4 : decode cX11_every 4 = .ok (.iload_n 1, 1) := by decide +kernel
theorem dX11_every_5 : decode cX11_every 5 = .ok (.invokevirtual 122, 3) := by decide +kernel
theorem dX11_every_8 : decode cX11_every 8 = .ok (.astore_n 3, 1) := by decide +kernel
theorem dX11_every_9 : decode cX11_every 9 = .ok (.aload_n 3, 1) := by decide +kernel
theorem dX11_every_10 : decode cX11_every 10 = .ok (.ifnull 22, 3) := by decide +kernel
theorem dX11_every_13 : decode cX11_every 13 = .ok (.iload_n 2, 1) := by decide +kernel
theorem dX11_every_14 : decode cX11_every 14 = .ok (.iconst 1, 1) := by decide +kernel
theorem dX11_every_15 : decode cX11_every 15 = .ok (.if_icmp .lt 17, 3) := by decide +kernel
theorem dX11_every_18 : decode cX11_every 18 = .ok (.iload_n 2, 1) := by decide +kernel
theorem dX11_every_19 : decode cX11_every 19 = .ok (.bipush 99, 2) := by decide +kernel
theorem dX11_every_21 : decode cX11_every 21 = .ok (.if_icmp .gt 11, 3) := by decide +kernel
theorem dX11_every_24 : decode cX11_every 24 = .ok (.iload_n 2, 1) := by decide +kernel
theorem dX11_every_25 : decode cX11_every 25 = .ok (.aload_n 3, 1) := by decide +kernel
theorem dX11_every_26 : decode cX11_every 26 = .ok (.getfield 226, 3) := by decide +kernel
theorem dX11_every_29 : decode cX11_every 29 = .ok (.if_icmp .ne 9, 3) := by decide +kernel
theorem dX11_every_32 : decode cX11_every 32 = .ok (.aload_n 0, 1) := by decide +kernel
theorem dX11_every_33 : decode cX11_every 33 = .ok (.iconst 3, 1) := by decide +kernel
theorem dX11_every_34 : decode cX11_every 34 = .ok (.invokevirtual 86, 3) := by decide +kernel
theorem dX11_every_37 : decode cX11_every 37 = .ok (.ireturn, 1) := by decide +kernel
theorem dX11_every_38 : decode cX11_every 38 = .ok (.aload_n 0, 1) := by decide +kernel
theorem dX11_every_39 : decode cX11_every 39 = .ok (.getfield 42, 3) := by decide +kernel
theorem dX11_every_42 : decode cX11_every 42 = .ok (.iconst 1, 1) := by decide +kernel
theorem dX11_every_43 : decode cX11_every 43 = .ok (.iload_n 1, 1) := by decide +kernel
theorem dX11_every_44 : decode cX11_every 44 = .ok (.aload_n 3, 1) := by decide +kernel
theorem dX11_every_45 : decode cX11_every 45 = .ok (.getfield 226, 3) := by decide +kernel
theorem dX11_every_48 : decode cX11_every 48 = .ok (.invokevirtual 229, 3) := by decide +kernel
theorem dX11_every_51 : decode cX11_every 51 = .ok (.aload_n 3, 1) := by decide +kernel
theorem dX11_every_52 : decode cX11_every 52 = .ok (.iload_n 2, 1) := by decide +kernel
theorem dX11_every_53 : decode cX11_every 53 = .ok (.putfield 226, 3) := by decide +kernel
theorem dX11_every_56 : decode cX11_every 56 = .ok (.aload_n 0, 1) := by decide +kernel
theorem dX11_every_57 : decode cX11_every 57 = .ok (.getfield 35, 3) := by decide +kernel
theorem dX11_every_60 : decode cX11_every 60 = .ok (.iload_n 1, 1) := by decide +kernel
theorem dX11_every_61 : decode cX11_every 61 = .ok (.invokevirtual 233, 3) := by decide +kernel
theorem dX11_every_64 : decode cX11_every 64 = .ok (.iconst 1, 1) := by decide +kernel
theorem dX11_every_65 : decode cX11_every 65 = .ok (.ireturn, 1) := by decide +kernel
theorem dX11_from_0 : decode cX11_from 0 = .ok (.aload_n 0, 1) := by decide +kernel
theorem dX11_from_1 : decode cX11_from 1 = .ok (.getfield 60, 3) := by decide +kernel
theorem dX11_from_4 : decode cX11_from 4 = .ok (.iload_n 1, 1) := by decide +kernel
theorem dX11_from_5 : decode cX11_from 5 = .ok (.invokevirtual 122, 3) := by decide +kernel
theorem dX11_from_8 : decode cX11_from 8 = .ok (.astore_n 3, 1) := by decide +kernel
theorem dX11_from_9 : decode cX11_from 9 = .ok (.aload_n 3, 1) := by decide +kernel
theorem dX11_from_10 : decode cX11_from 10 = .ok (.ifnull 18, 3) := by decide +kernel
theorem dX11_from_13 : decode cX11_from 13 = .ok (.iload_n 2, 1) := by decide +kernel
theorem dX11_from_14 : decode cX11_from 14 = .ok (.invokestatic 139, 3) := by decide +kernel
theorem dX11_from_17 : decode cX11_from 17 = .ok (.ifCond .eq 11, 3) := by decide +kernel
theorem dX11_from_20 : decode cX11_from 20 = .ok (.iload_n 2, 1) := by decide +kernel
theorem dX11_from_21 : decode cX11_from 21 = .ok (.aload_n 3, 1) := by decide +kernel
theorem dX11_from_22 : decode cX11_from 22 = .ok (.getfield 236, 3) := by decide +kernel
theorem dX11_from_25 : decode cX11_from 25 = .ok (.if_icmp .ne 9, 3) := by decide +kernel
theorem dX11_from_28 : decode cX11_from 28 = .ok (.aload_n 0, 1) := by decide +kernel
theorem dX11_from_29 : decode cX11_from 29 = .ok (.iconst 3, 1) := by decide +kernel
theorem dX11_from_30 : decode cX11_from 30 = .ok (.invokevirtual 86, 3) := by decide +kernel
theorem dX11_from_33 : decode cX11_from 33 = .ok (.ireturn, 1) := by decide +kernel
theorem dX11_from_34 : decode cX11_from 34 = .ok (.aload_n 0, 1) := by decide +kernel
theorem dX11_from_35 : decode cX11_from 35 = .ok (.getfield 42, 3) := by decide +kernel
theorem dX11_from_38 : decode cX11_from 38 = .ok (.iconst 2, 1) := by decide +kernel
theorem dX11_from_39 : decode cX11_from 39 = .ok (.iload_n 1, 1) := by decide +kernel
theorem dX11_from_40 : decode cX11_from 40 = .ok (.aload_n 3, 1) := by decide +kernel
theorem dX11_from_41 : decode cX11_from 41 = .ok (.getfield 236, 3) := by decide +kernel
theorem dX11_from_44 : decode cX11_from 44 = .ok (.invokevirtual 229, 3) := by decide +kernel
theorem dX11_from_47 : decode cX11_from 47 = .ok (.aload_n 3, 1) := by decide +kernel
theorem dX11_from_48 : decode cX11_from 48 = .ok (.iload_n 2, 1) := by decide +kernel
theorem dX11_from_49 : decode cX11_from 49 = .ok (.invokevirtual 239, 3) := by decide +kernel
theorem dX11_from_52 : decode cX11_from 52 = .ok (.aload_n 0, 1) := by decide +kernel
theorem dX11_from_53 : decode cX11_from 53 = .ok (.getfield 35, 3) := by decide +kernel
theorem dX11_from_56 : decode cX11_from 56 = .ok (.iload_n 1, 1) := by decide +kernel
theorem dX11_from_57 : decode cX11_from 57 = .ok (.invokevirtual 233, 3) := by decide +kernel
theorem dX11_from_60 : decode cX11_from 60 = .ok (.aload_n 0, 1) := by decide +kernel
theorem dX11_from_61 : decode cX11_from 61 = .ok (.getfield 49, 3) := by decide +kernel
theorem dX11_from_64 : decode cX11_from 64 = .ok (.invokevirtual 242, 3) := by decide +kernel
theorem dX11_from_67 : decode cX11_from 67 = .ok (.iconst 1, 1) := by decide +kernel
theorem dX11_from_68 : decode cX11_from 68 = .ok (.ireturn, 1) := by decide +kernel
theorem dX11_chance_0 : decode cX11_chance 0 = .ok (.iload_n 1, 1) := by decide +kernel
theorem dX11_chance_1 : decode cX11_chance 1 = .ok (.iconst 1, 1) := by decide +kernel
theorem dX11_chance_2 : decode cX11_chance 2 = .ok (.if_icmp .lt 19, 3) := by decide +kernel
theorem dX11_chance_5 : decode cX11_chance 5 = .ok (.iload_n 1, 1) := by decide +kernel
theorem dX11_chance_6 : decode cX11_chance 6 = .ok (.bipush 40, 2) := by decide +kernel
theorem dX11_chance_8 : decode cX11_chance 8 = .ok (.if_icmp .gt 13, 3) := by decide +kernel
theorem dX11_chance_11 : decode cX11_chance 11 = .ok (.aload_n 0, 1) := by decide +kernel
theorem dX11_chance_12 : decode cX11_chance 12 = .ok (.getfield 60, 3) := by decide +kernel
theorem dX11_chance_15 : decode cX11_chance 15 = .ok (.getfield 104, 3) := by decide +kernel
theorem dX11_chance_18 : decode cX11_chance 18 = .ok (.ifCond .ne 9, 3) := by decide +kernel
theorem dX11_chance_21 : decode cX11_chance 21 = .ok (.aload_n 0, 1) := by decide +kernel
theorem dX11_chance_22 : decode cX11_chance 22 = .ok (.iconst 2, 1) := by decide +kernel
theorem dX11_chance_23 : decode cX11_chance 23 = .ok (.invokevirtual 78, 3) := by decide +kernel
theorem dX11_chance_26 : decode cX11_chance 26 = .ok (.ireturn, 1) := by decide +kernel
theorem dX11_chance_27 : decode cX11_chance 27 = .ok (.aload_n 0, 1) := by decide +kernel
theorem dX11_chance_28 : decode cX11_chance 28 = .ok (.getfield 42, 3) := by decide +kernel
theorem dX11_chance_31 : decode cX11_chance 31 = .ok (.invokevirtual 245, 3) := by decide +kernel
theorem dX11_chance_34 : decode cX11_chance 34 = .ok (.aload_n 0, 1) := by decide +kernel
theorem dX11_chance_35 : decode cX11_chance 35 = .ok (.getfield 42, 3) := by decide +kernel
theorem dX11_chance_38 : decode cX11_chance 38 = .ok (.invokevirtual 248, 3) := by decide +kernel
theorem dX11_chance_41 : decode cX11_chance 41 = .ok (.astore_n 2, 1) := by decide +kernel
theorem dX11_chance_42 : decode cX11_chance 42 = .ok (.iconst 0, 1) := by decide +kernel
theorem dX11_chance_43 : decode cX11_chance 43 = .ok (.istore_n 3, 1) := by decide +kernel
theorem dX11_chance_44 : decode cX11_chance 44 = .ok (.iload_n 3, 1) := by decide +kernel
theorem dX11_chance_45 : decode cX11_chance 45 = .ok (.iload_n 1, 1) := by decide +kernel
theorem dX11_chance_46 : decode cX11_chance 46 = .ok (.if_icmp .ge 102, 3) := by decide +kernel
theorem dX11_chance_49 : decode cX11_chance 49 = .ok (.aload_n 0, 1) := by decide +kernel
theorem dX11_chance_50 : decode cX11_chance 50 = .ok (.aload_n 0, 1) := by decide +kernel
theorem dX11_chance_51 : decode cX11_chance 51 = .ok (.getfield 60, 3) := by decide +kernel
theorem dX11_chance_54 : decode cX11_chance 54 = .ok (.getfield 104, 3) := by decide +kernel
theorem dX11_chance_57 : decode cX11_chance 57 = .ok (.invokevirtual 252, 3) := by decide +kernel
theorem dX11_chance_60 : decode cX11_chance 60 = .ok (.istore 4, 2) := by decide +kernel
theorem dX11_chance_62 : decode cX11_chance 62 = .ok (.aload_n 0, 1) := by decide +kernel
theorem dX11_chance_63 : decode cX11_chance 63 = .ok (.sipush 14610, 3) := by decide +kernel
theorem dX11_chance_66 : decode cX11_chance 66 = .ok (.invokevirtual 252, 3) := by decide +kernel
theorem dX11_chance_69 : decode cX11_chance 69 = .ok (.istore 5, 2) := by decide +kernel
theorem dX11_chance_71 : decode cX11_chance 71 = .ok (.aload_n 0, 1) := by decide +kernel
theorem dX11_chance_72 : decode cX11_chance 72 = .ok (.getfield 35, 3) := by decide +kernel
theorem dX11_chance_75 : decode cX11_chance 75 = .ok (.bipush 6, 2) := by decide +kernel
theorem dX11_chance_77 : decode cX11_chance 77 = .ok (.iload 4, 2) := by decide +kernel
theorem dX11_chance_79 : decode cX11_chance 79 = .ok (.iadd, 1) := by decide +kernel
theorem dX11_chance_80 : decode cX11_chance 80 = .ok (.invokevirtual 145, 3) := by decide +kernel
theorem dX11_chance_83 : decode cX11_chance 83 = .ok (.astore 6, 2) := by decide +kernel
theorem dX11_chance_85 : decode cX11_chance 85 = .ok (.aload 6, 2) := by decide +kernel
theorem dX11_chance_87 : decode cX11_chance 87 = .ok (.ifnull 17, 3) := by decide +kernel
theorem dX11_chance_90 : decode cX11_chance 90 = .ok (.aload 6, 2) := by decide +kernel
theorem dX11_chance_92 : decode cX11_chance 92 = .ok (.iload 5, 2) := by decide +kernel
theorem dX11_chance_94 : decode cX11_chance 94 = .ok (.invokevirtual 149, 3) := by decide +kernel
theorem dX11_chance_97 : decode cX11_chance 97 = .ok (.ifCond .eq 7, 3) := by decide +kernel
theorem dX11_chance_100 : decode cX11_chance 100 = .ok (.iconst 1, 1) := by decide +kernel
theorem dX11_chance_101 : decode cX11_chance 101 = .ok (.goto 4, 3) := by decide +kernel
theorem dX11_chance_104 : decode cX11_chance 104 = .ok (.iconst 0, 1) := by decide +kernel
theorem dX11_chance_105 : decode cX11_chance 105 = .ok (.istore 7, 2) := by decide +kernel
theorem dX11_chance_107 : decode cX11_chance 107 = .ok (.aload_n 0, 1) := by decide +kernel
theorem dX11_chance_108 : decode cX11_chance 108 = .ok (.getfield 35, 3) := by decide +kernel
theorem dX11_chance_111 : decode cX11_chance 111 = .ok (.iload 4, 2) := by decide +kernel
theorem dX11_chance_113 : decode cX11_chance 113 = .ok (.iload 5, 2) := by decide +kernel
theorem dX11_chance_115 : decode cX11_chance 115 = .ok (.iload 7, 2) := by decide +kernel
theorem dX11_chance_117 : decode cX11_chance 117 = .ok (.ifCond .eq 7, 3) := by decide +kernel
theorem dX11_chance_120 : decode cX11_chance 120 = .ok (.iconst 2, 1) := by decide +kernel
theorem dX11_chance_121 : decode cX11_chance 121 = .ok (.goto 4, 3) := by decide +kernel
theorem dX11_chance_124 : decode cX11_chance 124 = .ok (.iconst 1, 1) := by decide +kernel
