theorem dX0_init_0 : decode cX0_init 0 = .ok (.aload_n 0, 1) := by decide +kernel
theorem dX0_init_1 : decode cX0_init 1 = .ok (.invokespecial 3, 3) := by decide +kernel
theorem dX0_init_4 : decode cX0_init 4 = .ok (.return_, 1) := by decide +kernel
theorem dX0_firstOfYear_0 : decode cX0_firstOfYear 0 = .ok (.iload_n 0, 1) := by decide +kernel
theorem dX0_firstOfYear_1 : decode cX0_firstOfYear 1 = .ok (.sipush 365, 3) := by decide +kernel
theorem dX0_firstOfYear_4 : decode cX0_firstOfYear 4 = .ok (.imul, 1) := by decide +kernel
theorem dX0_firstOfYear_5 : decode cX0_firstOfYear 5 = .ok (.iload_n 0, 1) := by decide +kernel
theorem dX0_firstOfYear_6 : decode cX0_firstOfYear 6 = .ok (.iconst 3, 1) := by decide +kernel
theorem dX0_firstOfYear_7 : decode cX0_firstOfYear 7 = .ok (.iadd, 1) := by decide +kernel
theorem dX0_firstOfYear_8 : decode cX0_firstOfYear 8 = .ok (.iconst 4, 1) := by decide +kernel
theorem dX0_firstOfYear_9 : decode cX0_firstOfYear 9 = .ok (.idiv, 1) := by decide +kernel
theorem dX0_firstOfYear_10 : decode cX0_firstOfYear 10 = .ok (.iadd, 1) := by decide +kernel
theorem dX0_firstOfYear_11 : decode cX0_firstOfYear 11 = .ok (.ireturn, 1) := by decide +kernel
theorem dX0_yearOf_0 : decode cX0_yearOf 0 = .ok (.iload_n 0, 1) := by decide +kernel
theorem dX0_yearOf_1 : decode cX0_yearOf 1 = .ok (.sipush 1461, 3) := by decide +kernel
theorem dX0_yearOf_4 : decode cX0_yearOf 4 = .ok (.irem, 1) := by decide +kernel
theorem dX0_yearOf_5 : decode cX0_yearOf 5 = .ok (.istore_n 1, 1) := by decide +kernel
theorem dX0_yearOf_6 : decode cX0_yearOf 6 = .ok (.iload_n 0, 1) := by decide +kernel
theorem dX0_yearOf_7 : decode cX0_yearOf 7 = .ok (.sipush 1461, 3) := by decide +kernel
theorem dX0_yearOf_10 : decode cX0_yearOf 10 = .ok (.idiv, 1) := by decide +kernel
theorem dX0_yearOf_11 : decode cX0_yearOf 11 = .ok (.iconst 4, 1) := by decide +kernel
theorem dX0_yearOf_12 : decode cX0_yearOf 12 = .ok (.imul, 1) := by decide +kernel
theorem dX0_yearOf_13 : decode cX0_yearOf 13 = .ok (.iload_n 1, 1) := by decide +kernel
theorem dX0_yearOf_14 : decode cX0_yearOf 14 = .ok (.sipush 366, 3) := by decide +kernel
theorem dX0_yearOf_17 : decode cX0_yearOf 17 = .ok (.if_icmp .ge 7, 3) := by decide +kernel
theorem dX0_yearOf_20 : decode cX0_yearOf 20 = .ok (.iconst 0, 1) := by decide +kernel
theorem dX0_yearOf_21 : decode cX0_yearOf 21 = .ok (.goto 10, 3) := by decide +kernel
theorem dX0_yearOf_24 : decode cX0_yearOf 24 = .ok (.iload_n 1, 1) := by decide +kernel
theorem dX0_yearOf_25 : decode cX0_yearOf 25 = .ok (.iconst 1, 1) := by decide +kernel
theorem dX0_yearOf_26 : decode cX0_yearOf 26 = .ok (.isub, 1) := by decide +kernel
theorem dX0_yearOf_27 : decode cX0_yearOf 27 = .ok (.sipush 365, 3) := by decide +kernel
theorem dX0_yearOf_30 : decode cX0_yearOf 30 = .ok (.idiv, 1) := by decide +kernel
theorem dX0_yearOf_31 : decode cX0_yearOf 31 = .ok (.iadd, 1) := by decide +kernel
theorem dX0_yearOf_32 : decode cX0_yearOf 32 = .ok (.ireturn, 1) := by decide +kernel
theorem dX0_daysAhead_0 : decode cX0_daysAhead 0 = .ok (.iload_n 1, 1) := by decide +kernel
theorem dX0_daysAhead_1 : decode cX0_daysAhead 1 = .ok (.iconst 1, 1) := by decide +kernel
theorem dX0_daysAhead_2 : decode cX0_daysAhead 2 = .ok (.if_icmp .lt 11, 3) := by decide +kernel
theorem dX0_daysAhead_5 : decode cX0_daysAhead 5 = .ok (.iload_n 1, 1) := by decide +kernel
theorem dX0_daysAhead_6 : decode cX0_daysAhead 6 = .ok (.getstatic 9, 3) := by decide +kernel
theorem dX0_daysAhead_9 : decode cX0_daysAhead 9 = .ok (.arraylength, 1) := by decide +kernel
theorem dX0_daysAhead_10 : decode cX0_daysAhead 10 = .ok (.if_icmp .le 5, 3) := by decide +kernel
theorem dX0_daysAhead_13 : decode cX0_daysAhead 13 = .ok (.iconst 0, 1) := by decide +kernel
theorem dX0_daysAhead_14 : decode cX0_daysAhead 14 = .ok (.ireturn, 1) := by decide +kernel
theorem dX0_daysAhead_15 : decode cX0_daysAhead 15 = .ok (.getstatic 9, 3) := by decide +kernel
theorem dX0_daysAhead_18 : decode cX0_daysAhead 18 = .ok (.iload_n 1, 1) := by decide +kernel
theorem dX0_daysAhead_19 : decode cX0_daysAhead 19 = .ok (.iconst 1, 1) := by decide +kernel
theorem dX0_daysAhead_20 : decode cX0_daysAhead 20 = .ok (.isub, 1) := by decide +kernel
theorem dX0_daysAhead_21 : decode cX0_daysAhead 21 = .ok (.iaload, 1) := by decide +kernel
theorem dX0_daysAhead_22 : decode cX0_daysAhead 22 = .ok (.iload_n 1, 1) := by decide +kernel
theorem dX0_daysAhead_23 : decode cX0_daysAhead 23 = .ok (.iconst 2, 1) := by decide +kernel
theorem dX0_daysAhead_24 : decode cX0_daysAhead 24 = .ok (.if_icmp .le 13, 3) := by decide +kernel
theorem dX0_daysAhead_27 : decode cX0_daysAhead 27 = .ok (.iload_n 0, 1) := by decide +kernel
theorem dX0_daysAhead_28 : decode cX0_daysAhead 28 = .ok (.iconst 4, 1) := by decide +kernel
theorem dX0_daysAhead_29 : decode cX0_daysAhead 29 = .ok (.irem, 1) := by decide +kernel
theorem dX0_daysAhead_30 : decode cX0_daysAhead 30 = .ok (.ifCond .ne 7, 3) := by decide +kernel
theorem dX0_daysAhead_33 : decode cX0_daysAhead 33 = .ok (.iconst 1, 1) := by decide +kernel
theorem dX0_daysAhead_34 : decode cX0_daysAhead 34 = .ok (.goto 4, 3) := by decide +kernel
theorem dX0_daysAhead_37 : decode cX0_daysAhead 37 = .ok (.iconst 0, 1) := by decide +kernel
theorem dX0_daysAhead_38 : decode cX0_daysAhead 38 = .ok (.iadd, 1) := by decide +kernel
theorem dX0_daysAhead_39 : decode cX0_daysAhead 39 = .ok (.ireturn, 1) := by decide +kernel
theorem dX0_firstOfMonth_0 : decode cX0_firstOfMonth 0 = .ok (.iload_n 0, 1) := by decide +kernel
theorem dX0_firstOfMonth_1 : decode cX0_firstOfMonth 1 = .ok (.invokestatic 15, 3) := by decide +kernel
theorem dX0_firstOfMonth_4 : decode cX0_firstOfMonth 4 = .ok (.iload_n 0, 1) := by decide +kernel
theorem dX0_firstOfMonth_5 : decode cX0_firstOfMonth 5 = .ok (.iload_n 1, 1) := by decide +kernel
theorem dX0_firstOfMonth_6 : decode cX0_firstOfMonth 6 = .ok (.invokestatic 19, 3) := by decide +kernel
theorem dX0_firstOfMonth_9 : decode cX0_firstOfMonth 9 = .ok (.iadd, 1) := by decide +kernel
theorem dX0_firstOfMonth_10 : decode cX0_firstOfMonth 10 = .ok (.ireturn, 1) := by decide +kernel
theorem dX0_monthLengthOf_0 : decode cX0_monthLengthOf 0 = .ok (.iload_n 0, 1) := by decide +kernel
theorem dX0_monthLengthOf_1 : decode cX0_monthLengthOf 1 = .ok (.iload_n 1, 1) := by decide +kernel
theorem dX0_monthLengthOf_2 : decode cX0_monthLengthOf 2 = .ok (.iconst 1, 1) := by decide +kernel
theorem dX0_monthLengthOf_3 : decode cX0_monthLengthOf 3 = .ok (.iadd, 1) := by decide +kernel
theorem dX0_monthLengthOf_4 : decode cX0_monthLengthOf 4 = .ok (.invokestatic 19, 3) := by decide +kernel
theorem dX0_monthLengthOf_7 : decode cX0_monthLengthOf 7 = .ok (.iload_n 0, 1) := by decide +kernel
theorem dX0_monthLengthOf_8 : decode cX0_monthLengthOf 8 = .ok (.iload_n 1, 1) := by decide +kernel
theorem dX0_monthLengthOf_9 : decode cX0_monthLengthOf 9 = .ok (.invokestatic 19, 3) := by decide +kernel
theorem dX0_monthLengthOf_12 : decode cX0_monthLengthOf 12 = .ok (.isub, 1) := by decide +kernel
theorem dX0_monthLengthOf_13 : decode cX0_monthLengthOf 13 = .ok (.ireturn, 1) := by decide +kernel
theorem dX0_monthOf_0 : decode cX0_monthOf 0 = .ok (.iload_n 0, 1) := by decide +kernel
theorem dX0_monthOf_1 : decode cX0_monthOf 1 = .ok (.invokestatic 23, 3) := by decide +kernel
theorem dX0_monthOf_4 : decode cX0_monthOf 4 = .ok (.istore_n 1, 1) := by decide +kernel
theorem dX0_monthOf_5 : decode cX0_monthOf 5 = .ok (.iload_n 0, 1) := by decide +kernel
theorem dX0_monthOf_6 : decode cX0_monthOf 6 = .ok (.iload_n 1, 1) := by decide +kernel
theorem dX0_monthOf_7 : decode cX0_monthOf 7 = .ok (.invokestatic 15, 3) := by decide +kernel
theorem dX0_monthOf_10 : decode cX0_monthOf 10 = .ok (.isub, 1) := by decide +kernel
theorem dX0_monthOf_11 : decode cX0_monthOf 11 = .ok (.istore_n 2, 1) := by decide +kernel
theorem dX0_monthOf_12 : decode cX0_monthOf 12 = .ok (.bipush 12, 2) := by decide +kernel
theorem dX0_monthOf_14 : decode cX0_monthOf 14 = .ok (.istore_n 3, 1) := by decide +kernel
theorem dX0_monthOf_15 : decode cX0_monthOf 15 = .ok (.iload_n 3, 1) := by decide +kernel
theorem dX0_monthOf_16 : decode cX0_monthOf 16 = .ok (.iconst 1, 1) := by decide +kernel
theorem dX0_monthOf_17 : decode cX0_monthOf 17 = .ok (.if_icmp .le 18, 3) := by decide +kernel
theorem dX0_monthOf_20 : decode cX0_monthOf 20 = .ok (.iload_n 1, 1) := by decide +kernel
theorem dX0_monthOf_21 : decode cX0_monthOf 21 = .ok (.iload_n 3, 1) := by decide +kernel
theorem dX0_monthOf_22 : decode cX0_monthOf 22 = .ok (.invokestatic 19, 3) := by decide +kernel
theorem dX0_monthOf_25 : decode cX0_monthOf 25 = .ok (.iload_n 2, 1) := by decide +kernel
theorem dX0_monthOf_26 : decode cX0_monthOf 26 = .ok (.if_icmp .le 9, 3) := by decide +kernel
theorem dX0_monthOf_29 : decode cX0_monthOf 29 = .ok (.iinc 3 (-1), 3) := by decide +kernel
theorem dX0_monthOf_32 : decode cX0_monthOf 32 = .ok (.goto (-17), 3) := by decide +kernel
theorem dX0_monthOf_35 : decode cX0_monthOf 35 = .ok (.iload_n 3, 1) := by decide +kernel
theorem dX0_monthOf_36 : decode cX0_monthOf 36 = .ok (.ireturn, 1) := by decide +kernel
theorem dX0_weekdayOf_0 : decode cX0_weekdayOf 0 = .ok (.iload_n 0, 1) := by decide +kernel
theorem dX0_weekdayOf_1 : decode cX0_weekdayOf 1 = .ok (.iconst 5, 1) := by decide +kernel
theorem dX0_weekdayOf_2 : decode cX0_weekdayOf 2 = .ok (.iadd, 1) := by decide +kernel
theorem dX0_weekdayOf_3 : decode cX0_weekdayOf 3 = .ok (.bipush 7, 2) := by decide +kernel
theorem dX0_weekdayOf_5 : decode cX0_weekdayOf 5 = .ok (.irem, 1) := by decide +kernel
theorem dX0_weekdayOf_6 : decode cX0_weekdayOf 6 = .ok (.ireturn, 1) := by decide +kernel
theorem dX0_periodOf_0 : decode cX0_periodOf 0 = .ok (.iload_n 0, 1) := by decide +kernel
theorem dX0_periodOf_1 : decode cX0_periodOf 1 = .ok (.tableswitch 54 1 3 #[27, 34, 49], 27) := by decide +kernel
theorem dX0_periodOf_28 : decode cX0_periodOf 28 = .ok (.iload_n 1, 1) := by decide +kernel
theorem dX0_periodOf_29 : decode cX0_periodOf 29 = .ok (.iconst 5, 1) := by decide +kernel
theorem dX0_periodOf_30 : decode cX0_periodOf 30 = .ok (.iadd, 1) := by decide +kernel
theorem dX0_periodOf_31 : decode cX0_periodOf 31 = .ok (.bipush 7, 2) := by decide +kernel
theorem dX0_periodOf_33 : decode cX0_periodOf 33 = .ok (.idiv, 1) := by decide +kernel
theorem dX0_periodOf_34 : decode cX0_periodOf 34 = .ok (.ireturn, 1) := by decide +kernel
theorem dX0_periodOf_35 : decode cX0_periodOf 35 = .ok (.iload_n 1, 1) := by decide +kernel
theorem dX0_periodOf_36 : decode cX0_periodOf 36 = .ok (.invokestatic 23, 3) := by decide +kernel
theorem dX0_periodOf_39 : decode cX0_periodOf 39 = .ok (.bipush 12, 2) := by decide +kernel
theorem dX0_periodOf_41 : decode cX0_periodOf 41 = .ok (.imul, 1) := by decide +kernel
theorem dX0_periodOf_42 : decode cX0_periodOf 42 = .ok (.iload_n 1, 1) := by decide +kernel
theorem dX0_periodOf_43 : decode cX0_periodOf 43 = .ok (.invokestatic 26, 3) := by decide +kernel
theorem dX0_periodOf_46 : decode cX0_periodOf 46 = .ok (.iadd, 1) := by decide +kernel
theorem dX0_periodOf_47 : decode cX0_periodOf 47 = .ok (.iconst 1, 1) := by decide +kernel
theorem dX0_periodOf_48 : decode cX0_periodOf 48 = .ok (.isub, 1) := by decide +kernel
theorem dX0_periodOf_49 : decode cX0_periodOf 49 = .ok (.ireturn, 1) := by decide +kernel
theorem dX0_periodOf_50 : decode cX0_periodOf 50 = .ok (.iload_n 1, 1) := by decide +kernel
theorem dX0_periodOf_51 : decode cX0_periodOf 51 = .ok (.invokestatic 23, 3) := by decide +kernel
theorem dX0_periodOf_54 : decode cX0_periodOf 54 = .ok (.ireturn, 1) := by decide +kernel
theorem dX0_periodOf_55 : decode cX0_periodOf 55 = .ok (.iload_n 1, 1) := by decide +kernel
theorem dX0_periodOf_56 : decode cX0_periodOf 56 = .ok (.ireturn, 1) := by decide +kernel
theorem dX0_firstOfPeriod_0 : decode cX0_firstOfPeriod 0 = .ok (.iload_n 0, 1) := by decide +kernel
theorem dX0_firstOfPeriod_1 : decode cX0_firstOfPeriod 1 = .ok (.tableswitch 57 1 3 #[27, 38, 52], 27) := by decide +kernel
theorem dX0_firstOfPeriod_28 : decode cX0_firstOfPeriod 28 = .ok (.iconst 0, 1) := by decide +kernel
theorem dX0_firstOfPeriod_29 : decode cX0_firstOfPeriod 29 = .ok (.iload_n 1, 1) := by decide +kernel
theorem dX0_firstOfPeriod_30 : decode cX0_firstOfPeriod 30 = .ok (.bipush 7, 2) := by decide +kernel
theorem dX0_firstOfPeriod_32 : decode cX0_firstOfPeriod 32 = .ok (.imul, 1) := by decide +kernel
theorem dX0_firstOfPeriod_33 : decode cX0_firstOfPeriod 33 = .ok (.iconst 5, 1) := by decide +kernel
theorem dX0_firstOfPeriod_34 : decode cX0_firstOfPeriod 34 = .ok (.isub, 1) := by decide +kernel
theorem dX0_firstOfPeriod_35 : decode cX0_firstOfPeriod 35 = .ok (.invokestatic 29, 3) := by decide +kernel
theorem dX0_firstOfPeriod_38 : decode cX0_firstOfPeriod 38 = .ok (.ireturn, 1) := by decide +kernel
theorem dX0_firstOfPeriod_39 : decode cX0_firstOfPeriod 39 = .ok (.iload_n 1, 1) := by decide +kernel
theorem dX0_firstOfPeriod_40 : decode cX0_firstOfPeriod 40 = .ok (.bipush 12, 2) := by decide +kernel
theorem dX0_firstOfPeriod_42 : decode cX0_firstOfPeriod 42 = .ok (.idiv, 1) := by decide +kernel
theorem dX0_firstOfPeriod_43 : decode cX0_firstOfPeriod 43 = .ok (.iload_n 1, 1) := by decide +kernel
theorem dX0_firstOfPeriod_44 : decode cX0_firstOfPeriod 44 = .ok (.bipush 12, 2) := by decide +kernel
theorem dX0_firstOfPeriod_46 : decode cX0_firstOfPeriod 46 = .ok (.irem, 1) := by decide +kernel
theorem dX0_firstOfPeriod_47 : decode cX0_firstOfPeriod 47 = .ok (.iconst 1, 1) := by decide +kernel
theorem dX0_firstOfPeriod_48 : decode cX0_firstOfPeriod 48 = .ok (.iadd, 1) := by decide +kernel
theorem dX0_firstOfPeriod_49 : decode cX0_firstOfPeriod 49 = .ok (.invokestatic 34, 3) := by decide +kernel
theorem dX0_firstOfPeriod_52 : decode cX0_firstOfPeriod 52 = .ok (.ireturn, 1) := by decide +kernel
theorem dX0_firstOfPeriod_53 : decode cX0_firstOfPeriod 53 = .ok (.iload_n 1, 1) := by decide +kernel
theorem dX0_firstOfPeriod_54 : decode cX0_firstOfPeriod 54 = .ok (.invokestatic 15, 3) := by decide +kernel
theorem dX0_firstOfPeriod_57 : decode cX0_firstOfPeriod 57 = .ok (.ireturn, 1) := by decide +kernel
theorem dX0_firstOfPeriod_58 : decode cX0_firstOfPeriod 58 = .ok (.iload_n 1, 1) := by decide +kernel
theorem dX0_firstOfPeriod_59 : decode cX0_firstOfPeriod 59 = .ok (.ireturn, 1) := by decide +kernel
theorem dX0_moveTo_0 : decode cX0_moveTo 0 = .ok (.iload_n 1, 1) := by decide +kernel
theorem dX0_moveTo_1 : decode cX0_moveTo 1 = .ok (.invokestatic 37, 3) := by decide +kernel
theorem dX0_moveTo_4 : decode cX0_moveTo 4 = .ok (.ifCond .ne 4, 3) := by decide +kernel
theorem dX0_moveTo_7 : decode cX0_moveTo 7 = .ok (.return_, 1) := by decide +kernel
theorem dX0_moveTo_8 : decode cX0_moveTo 8 = .ok (.aload_n 0, 1) := by decide +kernel
theorem dX0_moveTo_9 : decode cX0_moveTo 9 = .ok (.iload_n 1, 1) := by decide +kernel
theorem dX0_moveTo_10 : decode cX0_moveTo 10 = .ok (.putfield 41, 3) := by decide +kernel
theorem dX0_moveTo_13 : decode cX0_moveTo 13 = .ok (.aload_n 0, 1) := by decide +kernel
theorem dX0_moveTo_14 : decode cX0_moveTo 14 = .ok (.iload_n 1, 1) := by decide +kernel
theorem dX0_moveTo_15 : decode cX0_moveTo 15 = .ok (.invokestatic 45, 3) := by decide +kernel
theorem dX0_moveTo_18 : decode cX0_moveTo 18 = .ok (.putfield 48, 3) := by decide +kernel
theorem dX0_moveTo_21 : decode cX0_moveTo 21 = .ok (.aload_n 0, 1) := by decide +kernel
theorem dX0_moveTo_22 : decode cX0_moveTo 22 = .ok (.iload_n 1, 1) := by decide +kernel
theorem dX0_moveTo_23 : decode cX0_moveTo 23 = .ok (.invokestatic 23, 3) := by decide +kernel
theorem dX0_moveTo_26 : decode cX0_moveTo 26 = .ok (.putfield 51, 3) := by decide +kernel
theorem dX0_moveTo_29 : decode cX0_moveTo 29 = .ok (.aload_n 0, 1) := by decide +kernel
theorem dX0_moveTo_30 : decode cX0_moveTo 30 = .ok (.iload_n 1, 1) := by decide +kernel
theorem dX0_moveTo_31 : decode cX0_moveTo 31 = .ok (.aload_n 0, 1) := by decide +kernel
theorem dX0_moveTo_32 : decode cX0_moveTo 32 = .ok (.getfield 51, 3) := by decide +kernel
theorem dX0_moveTo_35 : decode cX0_moveTo 35 = .ok (.invokestatic 15, 3) := by decide +kernel
theorem dX0_moveTo_38 : decode cX0_moveTo 38 = .ok (.isub, 1) := by decide +kernel
theorem dX0_moveTo_39 : decode cX0_moveTo 39 = .ok (.iconst 1, 1) := by decide +kernel
theorem dX0_moveTo_40 : decode cX0_moveTo 40 = .ok (.iadd, 1) := by decide +kernel
theorem dX0_moveTo_41 : decode cX0_moveTo 41 = .ok (.putfield 54, 3) := by decide +kernel
theorem dX0_moveTo_44 : decode cX0_moveTo 44 = .ok (.aload_n 0, 1) := by decide +kernel
theorem dX0_moveTo_45 : decode cX0_moveTo 45 = .ok (.aload_n 0, 1) := by decide +kernel
theorem dX0_moveTo_46 : decode cX0_moveTo 46 = .ok (.getfield 51, 3) := by decide +kernel
theorem dX0_moveTo_49 : decode cX0_moveTo 49 = .ok (.iconst 1, 1) := by decide +kernel
theorem dX0_moveTo_50 : decode cX0_moveTo 50 = .ok (.iadd, 1) := by decide +kernel
theorem dX0_moveTo_51 : decode cX0_moveTo 51 = .ok (.invokestatic 15, 3) := by decide +kernel
theorem dX0_moveTo_54 : decode cX0_moveTo 54 = .ok (.aload_n 0, 1) := by decide +kernel
theorem dX0_moveTo_55 : decode cX0_moveTo 55 = .ok (.getfield 51, 3) := by decide +kernel
theorem dX0_moveTo_58 : decode cX0_moveTo 58 = .ok (.invokestatic 15, 3) := by decide +kernel
theorem dX0_moveTo_61 : decode cX0_moveTo 61 = .ok (.isub, 1) := by decide +kernel
theorem dX0_moveTo_62 : decode cX0_moveTo 62 = .ok (.putfield 57, 3) := by decide +kernel
theorem dX0_moveTo_65 : decode cX0_moveTo 65 = .ok (.aload_n 0, 1) := by decide +kernel
theorem dX0_moveTo_66 : decode cX0_moveTo 66 = .ok (.bipush 12, 2) := by decide +kernel
theorem dX0_moveTo_68 : decode cX0_moveTo 68 = .ok (.putfield 60, 3) := by decide +kernel
theorem dX0_moveTo_71 : decode cX0_moveTo 71 = .ok (.aload_n 0, 1) := by decide +kernel
theorem dX0_moveTo_72 : decode cX0_moveTo 72 = .ok (.getfield 60, 3) := by decide +kernel
theorem dX0_moveTo_75 : decode cX0_moveTo 75 = .ok (.iconst 1, 1) := by decide +kernel
theorem dX0_moveTo_76 : decode cX0_moveTo 76 = .ok (.if_icmp .le 34, 3) := by decide +kernel
theorem dX0_moveTo_79 : decode cX0_moveTo 79 = .ok (.aload_n 0, 1) := by decide +kernel
theorem dX0_moveTo_80 : decode cX0_moveTo 80 = .ok (.getfield 51, 3) := by decide +kernel
theorem dX0_moveTo_83 : decode cX0_moveTo 83 = .ok (.aload_n 0, 1) := by decide +kernel
theorem dX0_moveTo_84 : decode cX0_moveTo 84 = .ok (.getfield 60, 3) := by decide +kernel
theorem dX0_moveTo_87 : decode cX0_moveTo 87 = .ok (.invokestatic 19, 3) := by decide +kernel
theorem dX0_moveTo_90 : decode cX0_moveTo 90 = .ok (.aload_n 0, 1) := by decide +kernel
theorem dX0_moveTo_91 : decode cX0_moveTo 91 = .ok (.getfield 54, 3) := by decide +kernel
theorem dX0_moveTo_94 : decode cX0_moveTo 94 = .ok (.if_icmp .lt 16, 3) := by decide +kernel
theorem dX0_moveTo_97 : decode cX0_moveTo 97 = .ok (.aload_n 0, 1) := by decide +kernel
theorem dX0_moveTo_98 : decode cX0_moveTo 98 = .ok (.dup, 1) := by decide +kernel
theorem dX0_moveTo_99 : decode cX0_moveTo 99 = .ok (.getfield 60, 3) := by decide +kernel
theorem dX0_moveTo_102 : decode cX0_moveTo 102 = .ok (.iconst 1, 1) := by decide +kernel
theorem dX0_moveTo_103 : decode cX0_moveTo 103 = .ok (.isub, 1) := by decide +kernel
theorem dX0_moveTo_104 : decode cX0_moveTo 104 = .ok (.putfield 60, 3) := by decide +kernel
theorem dX0_moveTo_107 : decode cX0_moveTo 107 = .ok (.goto (-36), 3) := by decide +kernel
theorem dX0_moveTo_110 : decode cX0_moveTo 110 = .ok (.aload_n 0, 1) := by decide +kernel
theorem dX0_moveTo_111 : decode cX0_moveTo 111 = .ok (.aload_n 0, 1) := by decide +kernel
theorem dX0_moveTo_112 : decode cX0_moveTo 112 = .ok (.getfield 54, 3) := by decide +kernel
theorem dX0_moveTo_115 : decode cX0_moveTo 115 = .ok (.aload_n 0, 1) := by decide +kernel
theorem dX0_moveTo_116 : decode cX0_moveTo 116 = .ok (.getfield 51, 3) := by decide +kernel
theorem dX0_moveTo_119 : decode cX0_moveTo 119 = .ok (.aload_n 0, 1) := by decide +kernel
theorem dX0_moveTo_120 : decode cX0_moveTo 120 = .ok (.getfield 60, 3) := by decide +kernel
theorem dX0_moveTo_123 : decode cX0_moveTo 123 = .ok (.invokestatic 19, 3) := by decide +kernel
theorem dX0_moveTo_126 : decode cX0_moveTo 126 = .ok (.isub, 1) := by decide +kernel
theorem dX0_moveTo_127 : decode cX0_moveTo 127 = .ok (.putfield 63, 3) := by decide +kernel
theorem dX0_moveTo_130 : decode cX0_moveTo 130 = .ok (.aload_n 0, 1) := by decide +kernel
theorem dX0_moveTo_131 : decode cX0_moveTo 131 = .ok (.aload_n 0, 1) := by decide +kernel
theorem dX0_moveTo_132 : decode cX0_moveTo 132 = .ok (.getfield 51, 3) := by decide +kernel
theorem dX0_moveTo_135 : decode cX0_moveTo 135 = .ok (.aload_n 0, 1) := by decide +kernel
theorem dX0_moveTo_136 : decode cX0_moveTo 136 = .ok (.getfield 60, 3) := by decide +kernel
theorem dX0_moveTo_139 : decode cX0_moveTo 139 = .ok (.iconst 1, 1) := by decide +kernel
theorem dX0_moveTo_140 : decode cX0_moveTo 140 = .ok (.iadd, 1) := by decide +kernel
theorem dX0_moveTo_141 : decode cX0_moveTo 141 = .ok (.invokestatic 19, 3) := by decide +kernel
theorem dX0_moveTo_144 : decode cX0_moveTo 144 = .ok (.aload_n 0, 1) := by decide +kernel
theorem dX0_moveTo_145 : decode cX0_moveTo 145 = .ok (.getfield 51, 3) := by decide +kernel
theorem dX0_moveTo_148 : decode cX0_moveTo 148 = .ok (.aload_n 0, 1) := by decide +kernel
theorem dX0_moveTo_149 : decode cX0_moveTo 149 = .ok (.getfield 60, 3) := by decide +kernel
theorem dX0_moveTo_152 : decode cX0_moveTo 152 = .ok (.invokestatic 19, 3) := by decide +kernel
theorem dX0_moveTo_155 : decode cX0_moveTo 155 = .ok (.isub, 1) := by decide +kernel
theorem dX0_moveTo_156 : decode cX0_moveTo 156 = .ok (.putfield 66, 3) := by decide +kernel
theorem dX0_moveTo_159 : decode cX0_moveTo 159 = .ok (.return_, 1) := by decide +kernel
theorem dX0_forward_0 : decode cX0_forward 0 = .ok (.aload_n 0, 1) := by decide +kernel
theorem dX0_forward_1 : decode cX0_forward 1 = .ok (.getfield 63, 3) := by decide +kernel
theorem dX0_forward_4 : decode cX0_forward 4 = .ok (.aload_n 0, 1) := by decide +kernel
theorem dX0_forward_5 : decode cX0_forward 5 = .ok (.getfield 66, 3) := by decide +kernel
theorem dX0_forward_8 : decode cX0_forward 8 = .ok (.if_icmp .lt 14, 3) := by decide +kernel
theorem dX0_forward_11 : decode cX0_forward 11 = .ok (.aload_n 0, 1) := by decide +kernel
theorem dX0_forward_12 : decode cX0_forward 12 = .ok (.aload_n 0, 1) := by decide +kernel
theorem dX0_forward_13 : decode cX0_forward 13 = .ok (.getfield 41, 3) := by decide +kernel
theorem dX0_forward_16 : decode cX0_forward 16 = .ok (.iconst 1, 1) := by decide +kernel
theorem dX0_forward_17 : decode cX0_forward 17 = .ok (.iadd, 1) := by decide +kernel
theorem dX0_forward_18 : decode cX0_forward 18 = .ok (.invokevirtual 69, 3) := by decide +kernel
theorem dX0_forward_21 : decode cX0_forward 21 = .ok (.return_, 1) := by decide +kernel
theorem dX0_forward_22 : decode cX0_forward 22 = .ok (.aload_n 0, 1) := by decide +kernel
theorem dX0_forward_23 : decode cX0_forward 23 = .ok (.dup, 1) := by decide +kernel
theorem dX0_forward_24 : decode cX0_forward 24 = .ok (.getfield 41, 3) := by decide +kernel
theorem dX0_forward_27 : decode cX0_forward 27 = .ok (.iconst 1, 1) := by decide +kernel
theorem dX0_forward_28 : decode cX0_forward 28 = .ok (.iadd, 1) := by decide +kernel
theorem dX0_forward_29 : decode cX0_forward 29 = .ok (.putfield 41, 3) := by decide +kernel
theorem dX0_forward_32 : decode cX0_forward 32 = .ok (.aload_n 0, 1) := by decide +kernel
theorem dX0_forward_33 : decode cX0_forward 33 = .ok (.dup, 1) := by decide +kernel
theorem dX0_forward_34 : decode cX0_forward 34 = .ok (.getfield 63, 3) := by decide +kernel
theorem dX0_forward_37 : decode cX0_forward 37 = .ok (.iconst 1, 1) := by decide +kernel
theorem dX0_forward_38 : decode cX0_forward 38 = .ok (.iadd, 1) := by decide +kernel
theorem dX0_forward_39 : decode cX0_forward 39 = .ok (.putfield 63, 3) := by decide +kernel
theorem dX0_forward_42 : decode cX0_forward 42 = .ok (.aload_n 0, 1) := by decide +kernel
theorem dX0_forward_43 : decode cX0_forward 43 = .ok (.dup, 1) := by decide +kernel
theorem dX0_forward_44 : decode cX0_forward 44 = .ok (.getfield 54, 3) := by decide +kernel
theorem dX0_forward_47 : decode cX0_forward 47 = .ok (.iconst 1, 1) := by decide +kernel
theorem dX0_forward_48 : decode cX0_forward 48 = .ok (.iadd, 1) := by decide +kernel
theorem dX0_forward_49 : decode cX0_forward 49 = .ok (.putfield 54, 3) := by decide +kernel
theorem dX0_forward_52 : decode cX0_forward 52 = .ok (.aload_n 0, 1) := by decide +kernel
theorem dX0_forward_53 : decode cX0_forward 53 = .ok (.aload_n 0, 1) := by decide +kernel
theorem dX0_forward_54 : decode cX0_forward 54 = .ok (.getfield 48, 3) := by decide +kernel
theorem dX0_forward_57 : decode cX0_forward 57 = .ok (.bipush 6, 2) := by decide +kernel
theorem dX0_forward_59 : decode cX0_forward 59 = .ok (.if_icmp .ne 7, 3) := by decide +kernel
theorem dX0_forward_62 : decode cX0_forward 62 = .ok (.iconst 0, 1) := by decide +kernel
theorem dX0_forward_63 : decode cX0_forward 63 = .ok (.goto 9, 3) := by decide +kernel
theorem dX0_forward_66 : decode cX0_forward 66 = .ok (.aload_n 0, 1) := by decide +kernel
theorem dX0_forward_67 : decode cX0_forward 67 = .ok (.getfield 48, 3) := by decide +kernel
theorem dX0_forward_70 : decode cX0_forward 70 = .ok (.iconst 1, 1) := by decide +kernel
theorem dX0_forward_71 : decode cX0_forward 71 = .ok (.iadd, 1) := by decide +kernel
theorem dX0_forward_72 : decode cX0_forward 72 = .ok (.putfield 48, 3) := by decide +kernel
theorem dX0_forward_75 : decode cX0_forward 75 = .ok (.return_, 1) := by decide +kernel
theorem dX1_init_0 : decode cX1_init 0 = .ok (.aload_n 0, 1) := by decide +kernel
theorem dX1_init_1 : decode cX1_init 1 = .ok (.invokespecial 3, 3) := by decide +kernel
theorem dX1_init_4 : decode cX1_init 4 = .ok (.aload_n 0, 1) := by decide +kernel
theorem dX1_init_5 : decode cX1_init 5 = .ok (.bipush 6, 2) := by decide +kernel
theorem dX1_init_7 : decode cX1_init 7 = .ok (.anewarray 9, 3) := by decide +kernel
theorem dX1_init_10 : decode cX1_init 10 = .ok (.putfield 11, 3) := by decide +kernel
theorem dX1_init_13 : decode cX1_init 13 = .ok (.aload_n 0, 1) := by decide +kernel
theorem dX1_init_14 : decode cX1_init 14 = .ok (.bipush 12, 2) := by decide +kernel
theorem dX1_init_16 : decode cX1_init 16 = .ok (.newarray .int, 2) := by decide +kernel
theorem dX1_init_18 : decode cX1_init 18 = .ok (.putfield 17, 3) := by decide +kernel
theorem dX1_init_21 : decode cX1_init 21 = .ok (.aload_n 0, 1) := by decide +kernel
theorem dX1_init_22 : decode cX1_init 22 = .ok (.sipush 800, 3) := by decide +kernel
theorem dX1_init_25 : decode cX1_init 25 = .ok (.newarray .int, 2) := by decide +kernel
theorem dX1_init_27 : decode cX1_init 27 = .ok (.putfield 21, 3) := by decide +kernel
theorem dX1_init_30 : decode cX1_init 30 = .ok (.aload_n 0, 1) := by decide +kernel
theorem dX1_init_31 : decode cX1_init 31 = .ok (.bipush 6, 2) := by decide +kernel
theorem dX1_init_33 : decode cX1_init 33 = .ok (.newarray .int, 2) := by decide +kernel
theorem dX1_init_35 : decode cX1_init 35 = .ok (.putfield 24, 3) := by decide +kernel
theorem dX1_init_38 : decode cX1_init 38 = .ok (.iconst 0, 1) := by decide +kernel
theorem dX1_init_39 : decode cX1_init 39 = .ok (.istore_n 1, 1) := by decide +kernel
theorem dX1_init_40 : decode cX1_init 40 = .ok (.iload_n 1, 1) := by decide +kernel
theorem dX1_init_41 : decode cX1_init 41 = .ok (.bipush 6, 2) := by decide +kernel
theorem dX1_init_43 : decode cX1_init 43 = .ok (.if_icmp .ge 22, 3) := by decide +kernel
theorem dX1_init_46 : decode cX1_init 46 = .ok (.aload_n 0, 1) := by decide +kernel
theorem dX1_init_47 : decode cX1_init 47 = .ok (.getfield 11, 3) := by decide +kernel
theorem dX1_init_50 : decode cX1_init 50 = .ok (.iload_n 1, 1) := by decide +kernel
theorem dX1_init_51 : decode cX1_init 51 = .ok (.new 9, 3) := by decide +kernel
theorem dX1_init_54 : decode cX1_init 54 = .ok (.dup, 1) := by decide +kernel
theorem dX1_init_55 : decode cX1_init 55 = .ok (.invokespecial 27, 3) := by decide +kernel
theorem dX1_init_58 : decode cX1_init 58 = .ok (.aastore, 1) := by decide +kernel
theorem dX1_init_59 : decode cX1_init 59 = .ok (.iinc 1 1, 3) := by decide +kernel
theorem dX1_init_62 : decode cX1_init 62 = .ok (.goto (-22), 3) := by decide +kernel
theorem dX1_init_65 : decode cX1_init 65 = .ok (.return_, 1) := by decide +kernel
theorem dX1_clear_0 : decode cX1_clear 0 = .ok (.aload_n 0, 1) := by decide +kernel
theorem dX1_clear_1 : decode cX1_clear 1 = .ok (.iconst 0, 1) := by decide +kernel
theorem dX1_clear_2 : decode cX1_clear 2 = .ok (.putfield 28, 3) := by decide +kernel
theorem dX1_clear_5 : decode cX1_clear 5 = .ok (.aload_n 0, 1) := by decide +kernel
theorem dX1_clear_6 : decode cX1_clear 6 = .ok (.iconst 0, 1) := by decide +kernel
theorem dX1_clear_7 : decode cX1_clear 7 = .ok (.putfield 32, 3) := by decide +kernel
theorem dX1_clear_10 : decode cX1_clear 10 = .ok (.aload_n 0, 1) := by decide +kernel
theorem dX1_clear_11 : decode cX1_clear 11 = .ok (.iconst 0, 1) := by decide +kernel
theorem dX1_clear_12 : decode cX1_clear 12 = .ok (.putfield 35, 3) := by decide +kernel
theorem dX1_clear_15 : decode cX1_clear 15 = .ok (.return_, 1) := by decide +kernel
theorem dX1_isWhat_0 : decode cX1_isWhat 0 = .ok (.iload_n 1, 1) := by decide +kernel
theorem dX1_isWhat_1 : decode cX1_isWhat 1 = .ok (.ifCond .lt 11, 3) := by decide +kernel
theorem dX1_isWhat_4 : decode cX1_isWhat 4 = .ok (.iload_n 1, 1) := by decide +kernel
theorem dX1_isWhat_5 : decode cX1_isWhat 5 = .ok (.aload_n 0, 1) := by decide +kernel
theorem dX1_isWhat_6 : decode cX1_isWhat 6 = .ok (.getfield 28, 3) := by decide +kernel
theorem dX1_isWhat_9 : decode cX1_isWhat 9 = .ok (.if_icmp .lt 20, 3) := by decide +kernel
theorem dX1_isWhat_12 : decode cX1_isWhat 12 = .ok (.iload_n 1, 1) := by decide +kernel
theorem dX1_isWhat_13 : decode cX1_isWhat 13 = .ok (.bipush 6, 2) := by decide +kernel
theorem dX1_isWhat_15 : decode cX1_isWhat 15 = .ok (.if_icmp .lt 18, 3) := by decide +kernel
theorem dX1_isWhat_18 : decode cX1_isWhat 18 = .ok (.iload_n 1, 1) := by decide +kernel
theorem dX1_isWhat_19 : decode cX1_isWhat 19 = .ok (.bipush 6, 2) := by decide +kernel
theorem dX1_isWhat_21 : decode cX1_isWhat 21 = .ok (.aload_n 0, 1) := by decide +kernel
theorem dX1_isWhat_22 : decode cX1_isWhat 22 = .ok (.getfield 32, 3) := by decide +kernel
theorem dX1_isWhat_25 : decode cX1_isWhat 25 = .ok (.iadd, 1) := by decide +kernel
theorem dX1_isWhat_26 : decode cX1_isWhat 26 = .ok (.if_icmp .ge 7, 3) := by decide +kernel
theorem dX1_isWhat_29 : decode cX1_isWhat 29 = .ok (.iconst 1, 1) := by decide +kernel
theorem dX1_isWhat_30 : decode cX1_isWhat 30 = .ok (.goto 4, 3) := by decide +kernel
theorem dX1_isWhat_33 : decode cX1_isWhat 33 = .ok (.iconst 0, 1) := by decide +kernel
theorem dX1_isWhat_34 : decode cX1_isWhat 34 = .ok (.ireturn, 1) := by decide +kernel
theorem dX1_ruleAt_0 : decode cX1_ruleAt 0 = .ok (.iload_n 1, 1) := by decide +kernel
theorem dX1_ruleAt_1 : decode cX1_ruleAt 1 = .ok (.ifCond .lt 20, 3) := by decide +kernel
theorem dX1_ruleAt_4 : decode cX1_ruleAt 4 = .ok (.iload_n 1, 1) := by decide +kernel
theorem dX1_ruleAt_5 : decode cX1_ruleAt 5 = .ok (.aload_n 0, 1) := by decide +kernel
theorem dX1_ruleAt_6 : decode cX1_ruleAt 6 = .ok (.getfield 28, 3) := by decide +kernel
theorem dX1_ruleAt_9 : decode cX1_ruleAt 9 = .ok (.if_icmp .ge 12, 3) := by decide +kernel
theorem dX1_ruleAt_12 : decode cX1_ruleAt 12 = .ok (.iload_n 1, 1) := by decide +kernel
theorem dX1_ruleAt_13 : decode cX1_ruleAt 13 = .ok (.aload_n 0, 1) := by decide +kernel
theorem dX1_ruleAt_14 : decode cX1_ruleAt 14 = .ok (.getfield 11, 3) := by decide +kernel
theorem dX1_ruleAt_17 : decode cX1_ruleAt 17 = .ok (.arraylength, 1) := by decide +kernel
theorem dX1_ruleAt_18 : decode cX1_ruleAt 18 = .ok (.if_icmp .lt 7, 3) := by decide +kernel
theorem dX1_ruleAt_21 : decode cX1_ruleAt 21 = .ok (.aconst_null, 1) := by decide +kernel
theorem dX1_ruleAt_22 : decode cX1_ruleAt 22 = .ok (.goto 9, 3) := by decide +kernel
theorem dX1_ruleAt_25 : decode cX1_ruleAt 25 = .ok (.aload_n 0, 1) := by decide +kernel
theorem dX1_ruleAt_26 : decode cX1_ruleAt 26 = .ok (.getfield 11, 3) := by decide +kernel
theorem dX1_ruleAt_29 : decode cX1_ruleAt 29 = .ok (.iload_n 1, 1) := by decide +kernel
theorem dX1_ruleAt_30 : decode cX1_ruleAt 30 = .ok (.aaload, 1) := by decide +kernel
theorem dX1_ruleAt_31 : decode cX1_ruleAt 31 = .ok (.areturn, 1) := by decide +kernel
theorem dX1_openRule_0 : decode cX1_openRule 0 = .ok (.aload_n 0, 1) := by decide +kernel
theorem dX1_openRule_1 : decode cX1_openRule 1 = .ok (.getfield 11, 3) := by decide +kernel
theorem dX1_openRule_4 : decode cX1_openRule 4 = .ok (.aload_n 0, 1) := by decide +kernel
theorem dX1_openRule_5 : decode cX1_openRule 5 = .ok (.getfield 28, 3) := by decide +kernel
theorem dX1_openRule_8 : decode cX1_openRule 8 = .ok (.iconst 5, 1) := by decide +kernel
theorem dX1_openRule_9 : decode cX1_openRule 9 = .ok (.invokestatic 38, 3) := by decide +kernel
theorem dX1_openRule_12 : decode cX1_openRule 12 = .ok (.aaload, 1) := by decide +kernel
theorem dX1_openRule_13 : decode cX1_openRule 13 = .ok (.areturn, 1) := by decide +kernel
theorem dX1_closeRule_0 : decode cX1_closeRule 0 = .ok (.aload_n 0, 1) := by decide +kernel
theorem dX1_closeRule_1 : decode cX1_closeRule 1 = .ok (.getfield 28, 3) := by decide +kernel
theorem dX1_closeRule_4 : decode cX1_closeRule 4 = .ok (.bipush 6, 2) := by decide +kernel
theorem dX1_closeRule_6 : decode cX1_closeRule 6 = .ok (.if_icmp .ge 23, 3) := by decide +kernel
theorem dX1_closeRule_9 : decode cX1_closeRule 9 = .ok (.aload_n 0, 1) := by decide +kernel
theorem dX1_closeRule_10 : decode cX1_closeRule 10 = .ok (.getfield 17, 3) := by decide +kernel
theorem dX1_closeRule_13 : decode cX1_closeRule 13 = .ok (.aload_n 0, 1) := by decide +kernel
theorem dX1_closeRule_14 : decode cX1_closeRule 14 = .ok (.getfield 28, 3) := by decide +kernel
theorem dX1_closeRule_17 : decode cX1_closeRule 17 = .ok (.iload_n 1, 1) := by decide +kernel
theorem dX1_closeRule_18 : decode cX1_closeRule 18 = .ok (.iastore, 1) := by decide +kernel
theorem dX1_closeRule_19 : decode cX1_closeRule 19 = .ok (.aload_n 0, 1) := by decide +kernel
theorem dX1_closeRule_20 : decode cX1_closeRule 20 = .ok (.dup, 1) := by decide +kernel
theorem dX1_closeRule_21 : decode cX1_closeRule 21 = .ok (.getfield 28, 3) := by decide +kernel
theorem dX1_closeRule_24 : decode cX1_closeRule 24 = .ok (.iconst 1, 1) := by decide +kernel
theorem dX1_closeRule_25 : decode cX1_closeRule 25 = .ok (.iadd, 1) := by decide +kernel
theorem dX1_closeRule_26 : decode cX1_closeRule 26 = .ok (.putfield 28, 3) := by decide +kernel
theorem dX1_closeRule_29 : decode cX1_closeRule 29 = .ok (.return_, 1) := by decide +kernel
theorem dX1_closeSet_0 : decode cX1_closeSet 0 = .ok (.aload_n 0, 1) := by decide +kernel
theorem dX1_closeSet_1 : decode cX1_closeSet 1 = .ok (.getfield 32, 3) := by decide +kernel
theorem dX1_closeSet_4 : decode cX1_closeSet 4 = .ok (.bipush 6, 2) := by decide +kernel
theorem dX1_closeSet_6 : decode cX1_closeSet 6 = .ok (.if_icmp .ge 39, 3) := by decide +kernel
theorem dX1_closeSet_9 : decode cX1_closeSet 9 = .ok (.aload_n 0, 1) := by decide +kernel
theorem dX1_closeSet_10 : decode cX1_closeSet 10 = .ok (.getfield 17, 3) := by decide +kernel
theorem dX1_closeSet_13 : decode cX1_closeSet 13 = .ok (.bipush 6, 2) := by decide +kernel
theorem dX1_closeSet_15 : decode cX1_closeSet 15 = .ok (.aload_n 0, 1) := by decide +kernel
theorem dX1_closeSet_16 : decode cX1_closeSet 16 = .ok (.getfield 32, 3) := by decide +kernel
theorem dX1_closeSet_19 : decode cX1_closeSet 19 = .ok (.iadd, 1) := by decide +kernel
theorem dX1_closeSet_20 : decode cX1_closeSet 20 = .ok (.iload_n 1, 1) := by decide +kernel
theorem dX1_closeSet_21 : decode cX1_closeSet 21 = .ok (.iastore, 1) := by decide +kernel
theorem dX1_closeSet_22 : decode cX1_closeSet 22 = .ok (.aload_n 0, 1) := by decide +kernel
theorem dX1_closeSet_23 : decode cX1_closeSet 23 = .ok (.getfield 24, 3) := by decide +kernel
theorem dX1_closeSet_26 : decode cX1_closeSet 26 = .ok (.aload_n 0, 1) := by decide +kernel
theorem dX1_closeSet_27 : decode cX1_closeSet 27 = .ok (.getfield 32, 3) := by decide +kernel
theorem dX1_closeSet_30 : decode cX1_closeSet 30 = .ok (.aload_n 0, 1) := by decide +kernel
theorem dX1_closeSet_31 : decode cX1_closeSet 31 = .ok (.getfield 35, 3) := by decide +kernel
theorem dX1_closeSet_34 : decode cX1_closeSet 34 = .ok (.iastore, 1) := by decide +kernel
theorem dX1_closeSet_35 : decode cX1_closeSet 35 = .ok (.aload_n 0, 1) := by decide +kernel
theorem dX1_closeSet_36 : decode cX1_closeSet 36 = .ok (.dup, 1) := by decide +kernel
theorem dX1_closeSet_37 : decode cX1_closeSet 37 = .ok (.getfield 32, 3) := by decide +kernel
theorem dX1_closeSet_40 : decode cX1_closeSet 40 = .ok (.iconst 1, 1) := by decide +kernel
theorem dX1_closeSet_41 : decode cX1_closeSet 41 = .ok (.iadd, 1) := by decide +kernel
theorem dX1_closeSet_42 : decode cX1_closeSet 42 = .ok (.putfield 32, 3) := by decide +kernel
theorem dX1_closeSet_45 : decode cX1_closeSet 45 = .ok (.return_, 1) := by decide +kernel
theorem dX1_find_0 : decode cX1_find 0 = .ok (.iconst 0, 1) := by decide +kernel
theorem dX1_find_1 : decode cX1_find 1 = .ok (.istore_n 2, 1) := by decide +kernel
theorem dX1_find_2 : decode cX1_find 2 = .ok (.iload_n 2, 1) := by decide +kernel
theorem dX1_find_3 : decode cX1_find 3 = .ok (.aload_n 0, 1) := by decide +kernel
theorem dX1_find_4 : decode cX1_find 4 = .ok (.getfield 17, 3) := by decide +kernel
theorem dX1_find_7 : decode cX1_find 7 = .ok (.arraylength, 1) := by decide +kernel
theorem dX1_find_8 : decode cX1_find 8 = .ok (.if_icmp .ge 29, 3) := by decide +kernel
theorem dX1_find_11 : decode cX1_find 11 = .ok (.aload_n 0, 1) := by decide +kernel
theorem dX1_find_12 : decode cX1_find 12 = .ok (.iload_n 2, 1) := by decide +kernel
theorem dX1_find_13 : decode cX1_find 13 = .ok (.invokevirtual 44, 3) := by decide +kernel
theorem dX1_find_16 : decode cX1_find 16 = .ok (.ifCond .eq 15, 3) := by decide +kernel
theorem dX1_find_19 : decode cX1_find 19 = .ok (.aload_n 0, 1) := by decide +kernel
theorem dX1_find_20 : decode cX1_find 20 = .ok (.getfield 17, 3) := by decide +kernel
theorem dX1_find_23 : decode cX1_find 23 = .ok (.iload_n 2, 1) := by decide +kernel
theorem dX1_find_24 : decode cX1_find 24 = .ok (.iaload, 1) := by decide +kernel
theorem dX1_find_25 : decode cX1_find 25 = .ok (.iload_n 1, 1) := by decide +kernel
theorem dX1_find_26 : decode cX1_find 26 = .ok (.if_icmp .ne 5, 3) := by decide +kernel
theorem dX1_find_29 : decode cX1_find 29 = .ok (.iload_n 2, 1) := by decide +kernel
theorem dX1_find_30 : decode cX1_find 30 = .ok (.ireturn, 1) := by decide +kernel
theorem dX1_find_31 : decode cX1_find 31 = .ok (.iinc 2 1, 3) := by decide +kernel
theorem dX1_find_34 : decode cX1_find 34 = .ok (.goto (-32), 3) := by decide +kernel
theorem dX1_find_37 : decode cX1_find 37 = .ok (.iconst (-1), 1) := by decide +kernel
theorem dX1_find_38 : decode cX1_find 38 = .ok (.ireturn, 1) := by decide +kernel
theorem dX1_letterOf_0 : decode cX1_letterOf 0 = .ok (.iload_n 1, 1) := by decide +kernel
theorem dX1_letterOf_1 : decode cX1_letterOf 1 = .ok (.ifCond .lt 12, 3) := by decide +kernel
theorem dX1_letterOf_4 : decode cX1_letterOf 4 = .ok (.iload_n 1, 1) := by decide +kernel
theorem dX1_letterOf_5 : decode cX1_letterOf 5 = .ok (.aload_n 0, 1) := by decide +kernel
theorem dX1_letterOf_6 : decode cX1_letterOf 6 = .ok (.getfield 17, 3) := by decide +kernel
theorem dX1_letterOf_9 : decode cX1_letterOf 9 = .ok (.arraylength, 1) := by decide +kernel
theorem dX1_letterOf_10 : decode cX1_letterOf 10 = .ok (.if_icmp .lt 5, 3) := by decide +kernel
theorem dX1_letterOf_13 : decode cX1_letterOf 13 = .ok (.iconst 0, 1) := by decide +kernel
theorem dX1_letterOf_14 : decode cX1_letterOf 14 = .ok (.ireturn, 1) := by decide +kernel
theorem dX1_letterOf_15 : decode cX1_letterOf 15 = .ok (.aload_n 0, 1) := by decide +kernel
theorem dX1_letterOf_16 : decode cX1_letterOf 16 = .ok (.getfield 17, 3) := by decide +kernel
theorem dX1_letterOf_19 : decode cX1_letterOf 19 = .ok (.iload_n 1, 1) := by decide +kernel
theorem dX1_letterOf_20 : decode cX1_letterOf 20 = .ok (.iaload, 1) := by decide +kernel
theorem dX1_letterOf_21 : decode cX1_letterOf 21 = .ok (.iconst 5, 1) := by decide +kernel
theorem dX1_letterOf_22 : decode cX1_letterOf 22 = .ok (.iconst 5, 1) := by decide +kernel
theorem dX1_letterOf_23 : decode cX1_letterOf 23 = .ok (.iload_n 2, 1) := by decide +kernel
theorem dX1_letterOf_24 : decode cX1_letterOf 24 = .ok (.isub, 1) := by decide +kernel
theorem dX1_letterOf_25 : decode cX1_letterOf 25 = .ok (.imul, 1) := by decide +kernel
theorem dX1_letterOf_26 : decode cX1_letterOf 26 = .ok (.ishr, 1) := by decide +kernel
theorem dX1_letterOf_27 : decode cX1_letterOf 27 = .ok (.bipush 31, 2) := by decide +kernel
theorem dX1_letterOf_29 : decode cX1_letterOf 29 = .ok (.iand, 1) := by decide +kernel
theorem dX1_letterOf_30 : decode cX1_letterOf 30 = .ok (.ireturn, 1) := by decide +kernel
theorem dX1_append_0 : decode cX1_append 0 = .ok (.aload_n 0, 1) := by decide +kernel
theorem dX1_append_1 : decode cX1_append 1 = .ok (.getfield 35, 3) := by decide +kernel
theorem dX1_append_4 : decode cX1_append 4 = .ok (.aload_n 0, 1) := by decide +kernel
theorem dX1_append_5 : decode cX1_append 5 = .ok (.getfield 21, 3) := by decide +kernel
theorem dX1_append_8 : decode cX1_append 8 = .ok (.arraylength, 1) := by decide +kernel
theorem dX1_append_9 : decode cX1_append 9 = .ok (.if_icmp .ge 28, 3) := by decide +kernel
theorem dX1_append_12 : decode cX1_append 12 = .ok (.aload_n 0, 1) := by decide +kernel
theorem dX1_append_13 : decode cX1_append 13 = .ok (.getfield 21, 3) := by decide +kernel
theorem dX1_append_16 : decode cX1_append 16 = .ok (.aload_n 0, 1) := by decide +kernel
theorem dX1_append_17 : decode cX1_append 17 = .ok (.getfield 35, 3) := by decide +kernel
theorem dX1_append_20 : decode cX1_append 20 = .ok (.iload_n 1, 1) := by decide +kernel
theorem dX1_append_21 : decode cX1_append 21 = .ok (.bipush 14, 2) := by decide +kernel
theorem dX1_append_23 : decode cX1_append 23 = .ok (.ishl, 1) := by decide +kernel
theorem dX1_append_24 : decode cX1_append 24 = .ok (.iload_n 2, 1) := by decide +kernel
theorem dX1_append_25 : decode cX1_append 25 = .ok (.ior, 1) := by decide +kernel
theorem dX1_append_26 : decode cX1_append 26 = .ok (.iastore, 1) := by decide +kernel
theorem dX1_append_27 : decode cX1_append 27 = .ok (.aload_n 0, 1) := by decide +kernel
theorem dX1_append_28 : decode cX1_append 28 = .ok (.dup, 1) := by decide +kernel
theorem dX1_append_29 : decode cX1_append 29 = .ok (.getfield 35, 3) := by decide +kernel
theorem dX1_append_32 : decode cX1_append 32 = .ok (.iconst 1, 1) := by decide +kernel
theorem dX1_append_33 : decode cX1_append 33 = .ok (.iadd, 1) := by decide +kernel
theorem dX1_append_34 : decode cX1_append 34 = .ok (.putfield 35, 3) := by decide +kernel
theorem dX1_append_37 : decode cX1_append 37 = .ok (.return_, 1) := by decide +kernel
theorem dX1_codeStart_0 : decode cX1_codeStart 0 = .ok (.iload_n 1, 1) := by decide +kernel
theorem dX1_codeStart_1 : decode cX1_codeStart 1 = .ok (.iconst 1, 1) := by decide +kernel
theorem dX1_codeStart_2 : decode cX1_codeStart 2 = .ok (.if_icmp .lt 12, 3) := by decide +kernel
theorem dX1_codeStart_5 : decode cX1_codeStart 5 = .ok (.iload_n 1, 1) := by decide +kernel
theorem dX1_codeStart_6 : decode cX1_codeStart 6 = .ok (.aload_n 0, 1) := by decide +kernel
theorem dX1_codeStart_7 : decode cX1_codeStart 7 = .ok (.getfield 24, 3) := by decide +kernel
theorem dX1_codeStart_10 : decode cX1_codeStart 10 = .ok (.arraylength, 1) := by decide +kernel
theorem dX1_codeStart_11 : decode cX1_codeStart 11 = .ok (.if_icmp .le 7, 3) := by decide +kernel
theorem dX1_codeStart_14 : decode cX1_codeStart 14 = .ok (.iconst 0, 1) := by decide +kernel
theorem dX1_codeStart_15 : decode cX1_codeStart 15 = .ok (.goto 11, 3) := by decide +kernel
theorem dX1_codeStart_18 : decode cX1_codeStart 18 = .ok (.aload_n 0, 1) := by decide +kernel
theorem dX1_codeStart_19 : decode cX1_codeStart 19 = .ok (.getfield 24, 3) := by decide +kernel
theorem dX1_codeStart_22 : decode cX1_codeStart 22 = .ok (.iload_n 1, 1) := by decide +kernel
theorem dX1_codeStart_23 : decode cX1_codeStart 23 = .ok (.iconst 1, 1) := by decide +kernel
theorem dX1_codeStart_24 : decode cX1_codeStart 24 = .ok (.isub, 1) := by decide +kernel
theorem dX1_codeStart_25 : decode cX1_codeStart 25 = .ok (.iaload, 1) := by decide +kernel
theorem dX1_codeStart_26 : decode cX1_codeStart 26 = .ok (.ireturn, 1) := by decide +kernel
theorem dX1_codeEnd_0 : decode cX1_codeEnd 0 = .ok (.iload_n 1, 1) := by decide +kernel
theorem dX1_codeEnd_1 : decode cX1_codeEnd 1 = .ok (.ifCond .lt 12, 3) := by decide +kernel
theorem dX1_codeEnd_4 : decode cX1_codeEnd 4 = .ok (.iload_n 1, 1) := by decide +kernel
theorem dX1_codeEnd_5 : decode cX1_codeEnd 5 = .ok (.aload_n 0, 1) := by decide +kernel
theorem dX1_codeEnd_6 : decode cX1_codeEnd 6 = .ok (.getfield 24, 3) := by decide +kernel
theorem dX1_codeEnd_9 : decode cX1_codeEnd 9 = .ok (.arraylength, 1) := by decide +kernel
theorem dX1_codeEnd_10 : decode cX1_codeEnd 10 = .ok (.if_icmp .lt 7, 3) := by decide +kernel
theorem dX1_codeEnd_13 : decode cX1_codeEnd 13 = .ok (.iconst 0, 1) := by decide +kernel
theorem dX1_codeEnd_14 : decode cX1_codeEnd 14 = .ok (.goto 9, 3) := by decide +kernel
theorem dX1_codeEnd_17 : decode cX1_codeEnd 17 = .ok (.aload_n 0, 1) := by decide +kernel
theorem dX1_codeEnd_18 : decode cX1_codeEnd 18 = .ok (.getfield 24, 3) := by decide +kernel
theorem dX1_codeEnd_21 : decode cX1_codeEnd 21 = .ok (.iload_n 1, 1) := by decide +kernel
theorem dX1_codeEnd_22 : decode cX1_codeEnd 22 = .ok (.iaload, 1) := by decide +kernel
theorem dX1_codeEnd_23 : decode cX1_codeEnd 23 = .ok (.ireturn, 1) := by decide +kernel
theorem dX1_opAt_0 : decode cX1_opAt 0 = .ok (.iload_n 1, 1) := by decide +kernel
theorem dX1_opAt_1 : decode cX1_opAt 1 = .ok (.ifCond .lt 12, 3) := by decide +kernel
theorem dX1_opAt_4 : decode cX1_opAt 4 = .ok (.iload_n 1, 1) := by decide +kernel
theorem dX1_opAt_5 : decode cX1_opAt 5 = .ok (.aload_n 0, 1) := by decide +kernel
theorem dX1_opAt_6 : decode cX1_opAt 6 = .ok (.getfield 21, 3) := by decide +kernel
theorem dX1_opAt_9 : decode cX1_opAt 9 = .ok (.arraylength, 1) := by decide +kernel
theorem dX1_opAt_10 : decode cX1_opAt 10 = .ok (.if_icmp .lt 7, 3) := by decide +kernel
theorem dX1_opAt_13 : decode cX1_opAt 13 = .ok (.iconst 0, 1) := by decide +kernel
theorem dX1_opAt_14 : decode cX1_opAt 14 = .ok (.goto 12, 3) := by decide +kernel
theorem dX1_opAt_17 : decode cX1_opAt 17 = .ok (.aload_n 0, 1) := by decide +kernel
theorem dX1_opAt_18 : decode cX1_opAt 18 = .ok (.getfield 21, 3) := by decide +kernel
theorem dX1_opAt_21 : decode cX1_opAt 21 = .ok (.iload_n 1, 1) := by decide +kernel
theorem dX1_opAt_22 : decode cX1_opAt 22 = .ok (.iaload, 1) := by decide +kernel
theorem dX1_opAt_23 : decode cX1_opAt 23 = .ok (.bipush 14, 2) := by decide +kernel
theorem dX1_opAt_25 : decode cX1_opAt 25 = .ok (.ishr, 1) := by decide +kernel
theorem dX1_opAt_26 : decode cX1_opAt 26 = .ok (.ireturn, 1) := by decide +kernel
theorem dX1_argumentAt_0 : decode cX1_argumentAt 0 = .ok (.iload_n 1, 1) := by decide +kernel
theorem dX1_argumentAt_1 : decode cX1_argumentAt 1 = .ok (.ifCond .lt 12, 3) := by decide +kernel
theorem dX1_argumentAt_4 : decode cX1_argumentAt 4 = .ok (.iload_n 1, 1) := by decide +kernel
theorem dX1_argumentAt_5 : decode cX1_argumentAt 5 = .ok (.aload_n 0, 1) := by decide +kernel
theorem dX1_argumentAt_6 : decode cX1_argumentAt 6 = .ok (.getfield 21, 3) := by decide +kernel
theorem dX1_argumentAt_9 : decode cX1_argumentAt 9 = .ok (.arraylength, 1) := by decide +kernel
theorem dX1_argumentAt_10 : decode cX1_argumentAt 10 = .ok (.if_icmp .lt 7, 3) := by decide +kernel
theorem dX1_argumentAt_13 : decode cX1_argumentAt 13 = .ok (.iconst 0, 1) := by decide +kernel
theorem dX1_argumentAt_14 : decode cX1_argumentAt 14 = .ok (.goto 13, 3) := by decide +kernel
theorem dX1_argumentAt_17 : decode cX1_argumentAt 17 = .ok (.aload_n 0, 1) := by decide +kernel
theorem dX1_argumentAt_18 : decode cX1_argumentAt 18 = .ok (.getfield 21, 3) := by decide +kernel
theorem dX1_argumentAt_21 : decode cX1_argumentAt 21 = .ok (.iload_n 1, 1) := by decide +kernel
theorem dX1_argumentAt_22 : decode cX1_argumentAt 22 = .ok (.iaload, 1) := by decide +kernel
theorem dX1_argumentAt_23 : decode cX1_argumentAt 23 = .ok (.sipush 16383, 3) := by decide +kernel
theorem dX1_argumentAt_26 : decode cX1_argumentAt 26 = .ok (.iand, 1) := by decide +kernel
theorem dX1_argumentAt_27 : decode cX1_argumentAt 27 = .ok (.ireturn, 1) := by decide +kernel
theorem dX2_init_0 : decode cX2_init 0 = .ok (.aload_n 0, 1) := by decide +kernel
theorem dX2_init_1 : decode cX2_init 1 = .ok (.invokespecial 3, 3) := by decide +kernel
theorem dX2_init_4 : decode cX2_init 4 = .ok (.aload_n 0, 1) := by decide +kernel
theorem dX2_init_5 : decode cX2_init 5 = .ok (.sipush 229, 3) := by decide +kernel
theorem dX2_init_8 : decode cX2_init 8 = .ok (.newarray .long, 2) := by decide +kernel
theorem dX2_init_10 : decode cX2_init 10 = .ok (.putfield 11, 3) := by decide +kernel
theorem dX2_init_13 : decode cX2_init 13 = .ok (.return_, 1) := by decide +kernel
theorem dX2_clear_0 : decode cX2_clear 0 = .ok (.aload_n 0, 1) := by decide +kernel
theorem dX2_clear_1 : decode cX2_clear 1 = .ok (.getfield 11, 3) := by decide +kernel
theorem dX2_clear_4 : decode cX2_clear 4 = .ok (.lconst 0, 1) := by decide +kernel
theorem dX2_clear_5 : decode cX2_clear 5 = .ok (.invokestatic 15, 3) := by decide +kernel
theorem dX2_clear_8 : decode cX2_clear 8 = .ok (.return_, 1) := by decide +kernel
theorem dX2_copy_0 : decode cX2_copy 0 = .ok (.aload_n 1, 1) := by decide +kernel
theorem dX2_copy_1 : decode cX2_copy 1 = .ok (.getfield 11, 3) := by decide +kernel
theorem dX2_copy_4 : decode cX2_copy 4 = .ok (.iconst 0, 1) := by decide +kernel
theorem dX2_copy_5 : decode cX2_copy 5 = .ok (.aload_n 0, 1) := by decide +kernel
theorem dX2_copy_6 : decode cX2_copy 6 = .ok (.getfield 11, 3) := by decide +kernel
theorem dX2_copy_9 : decode cX2_copy 9 = .ok (.iconst 0, 1) := by decide +kernel
theorem dX2_copy_10 : decode cX2_copy 10 = .ok (.sipush 229, 3) := by decide +kernel
theorem dX2_copy_13 : decode cX2_copy 13 = .ok (.invokestatic 21, 3) := by decide +kernel
theorem dX2_copy_16 : decode cX2_copy 16 = .ok (.return_, 1) := by decide +kernel
theorem dX2_holds_0 : decode cX2_holds 0 = .ok (.iload_n 1, 1) := by decide +kernel
theorem dX2_holds_1 : decode cX2_holds 1 = .ok (.invokestatic 27, 3) := by decide +kernel
theorem dX2_holds_4 : decode cX2_holds 4 = .ok (.ifCond .eq 28, 3) := by decide +kernel
theorem dX2_holds_7 : decode cX2_holds 7 = .ok (.aload_n 0, 1) := by decide +kernel
theorem dX2_holds_8 : decode cX2_holds 8 = .ok (.getfield 11, 3) := by decide +kernel
theorem dX2_holds_11 : decode cX2_holds 11 = .ok (.iload_n 1, 1) := by decide +kernel
theorem dX2_holds_12 : decode cX2_holds 12 = .ok (.bipush 6, 2) := by decide +kernel
theorem dX2_holds_14 : decode cX2_holds 14 = .ok (.ishr, 1) := by decide +kernel
theorem dX2_holds_15 : decode cX2_holds 15 = .ok (.laload, 1) := by decide +kernel
theorem dX2_holds_16 : decode cX2_holds 16 = .ok (.iload_n 1, 1) := by decide +kernel
theorem dX2_holds_17 : decode cX2_holds 17 = .ok (.bipush 63, 2) := by decide +kernel
theorem dX2_holds_19 : decode cX2_holds 19 = .ok (.iand, 1) := by decide +kernel
theorem dX2_holds_20 : decode cX2_holds 20 = .ok (.lushr, 1) := by decide +kernel
theorem dX2_holds_21 : decode cX2_holds 21 = .ok (.lconst 1, 1) := by decide +kernel
theorem dX2_holds_22 : decode cX2_holds 22 = .ok (.land, 1) := by decide +kernel
theorem dX2_holds_23 : decode cX2_holds 23 = .ok (.lconst 0, 1) := by decide +kernel
theorem dX2_holds_24 : decode cX2_holds 24 = .ok (.lcmp, 1) := by decide +kernel
theorem dX2_holds_25 : decode cX2_holds 25 = .ok (.ifCond .eq 7, 3) := by decide +kernel
theorem dX2_holds_28 : decode cX2_holds 28 = .ok (.iconst 1, 1) := by decide +kernel
theorem dX2_holds_29 : decode cX2_holds 29 = .ok (.goto 4, 3) := by decide +kernel
theorem dX2_holds_32 : decode cX2_holds 32 = .ok (.iconst 0, 1) := by decide +kernel
theorem dX2_holds_33 : decode cX2_holds 33 = .ok (.ireturn, 1) := by decide +kernel
theorem dX2_put_0 : decode cX2_put 0 = .ok (.iload_n 1, 1) := by decide +kernel
theorem dX2_put_1 : decode cX2_put 1 = .ok (.invokestatic 27, 3) := by decide +kernel
theorem dX2_put_4 : decode cX2_put 4 = .ok (.ifCond .eq 21, 3) := by decide +kernel
theorem dX2_put_7 : decode cX2_put 7 = .ok (.aload_n 0, 1) := by decide +kernel
theorem dX2_put_8 : decode cX2_put 8 = .ok (.getfield 11, 3) := by decide +kernel
theorem dX2_put_11 : decode cX2_put 11 = .ok (.iload_n 1, 1) := by decide +kernel
theorem dX2_put_12 : decode cX2_put 12 = .ok (.bipush 6, 2) := by decide +kernel
theorem dX2_put_14 : decode cX2_put 14 = .ok (.ishr, 1) := by decide +kernel
theorem dX2_put_15 : decode cX2_put 15 = .ok (.dup2, 1) := by decide +kernel
theorem dX2_put_16 : decode cX2_put 16 = .ok (.laload, 1) := by decide +kernel
theorem dX2_put_17 : decode cX2_put 17 = .ok (.lconst 1, 1) := by decide +kernel
theorem dX2_put_18 : decode cX2_put 18 = .ok (.iload_n 1, 1) := by decide +kernel
theorem dX2_put_19 : decode cX2_put 19 = .ok (.bipush 63, 2) := by decide +kernel
theorem dX2_put_21 : decode cX2_put 21 = .ok (.iand, 1) := by decide +kernel
theorem dX2_put_22 : decode cX2_put 22 = .ok (.lshl, 1) := by decide +kernel
theorem dX2_put_23 : decode cX2_put 23 = .ok (.lor, 1) := by decide +kernel
theorem dX2_put_24 : decode cX2_put 24 = .ok (.lastore, 1) := by decide +kernel
theorem dX2_put_25 : decode cX2_put 25 = .ok (.return_, 1) := by decide +kernel
theorem dX2_take_0 : decode cX2_take 0 = .ok (.iload_n 1, 1) := by decide +kernel
theorem dX2_take_1 : decode cX2_take 1 = .ok (.invokestatic 27, 3) := by decide +kernel
theorem dX2_take_4 : decode cX2_take 4 = .ok (.ifCond .eq 25, 3) := by decide +kernel
theorem dX2_take_7 : decode cX2_take 7 = .ok (.aload_n 0, 1) := by decide +kernel
theorem dX2_take_8 : decode cX2_take 8 = .ok (.getfield 11, 3) := by decide +kernel
theorem dX2_take_11 : decode cX2_take 11 = .ok (.iload_n 1, 1) := by decide +kernel
theorem dX2_take_12 : decode cX2_take 12 = .ok (.bipush 6, 2) := by decide +kernel
theorem dX2_take_14 : decode cX2_take 14 = .ok (.ishr, 1) := by decide +kernel
theorem dX2_take_15 : decode cX2_take 15 = .ok (.dup2, 1) := by decide +kernel
theorem dX2_take_16 : decode cX2_take 16 = .ok (.laload, 1) := by decide +kernel
theorem dX2_take_17 : decode cX2_take 17 = .ok (.lconst 1, 1) := by decide +kernel
theorem dX2_take_18 : decode cX2_take 18 = .ok (.iload_n 1, 1) := by decide +kernel
theorem dX2_take_19 : decode cX2_take 19 = .ok (.bipush 63, 2) := by decide +kernel
theorem dX2_take_21 : decode cX2_take 21 = .ok (.iand, 1) := by decide +kernel
theorem dX2_take_22 : decode cX2_take 22 = .ok (.lshl, 1) := by decide +kernel
theorem dX2_take_23 : decode cX2_take 23 = .ok (.ldc2_w 31, 3) := by decide +kernel
theorem dX2_take_26 : decode cX2_take 26 = .ok (.lxor, 1) := by decide +kernel
theorem dX2_take_27 : decode cX2_take 27 = .ok (.land, 1) := by decide +kernel
theorem dX2_take_28 : decode cX2_take 28 = .ok (.lastore, 1) := by decide +kernel
theorem dX2_take_29 : decode cX2_take 29 = .ok (.return_, 1) := by decide +kernel
theorem dX2_unite_0 : decode cX2_unite 0 = .ok (.iconst 0, 1) := by decide +kernel
theorem dX2_unite_1 : decode cX2_unite 1 = .ok (.istore_n 2, 1) := by decide +kernel
theorem dX2_unite_2 : decode cX2_unite 2 = .ok (.iload_n 2, 1) := by decide +kernel
theorem dX2_unite_3 : decode cX2_unite 3 = .ok (.sipush 229, 3) := by decide +kernel
theorem dX2_unite_6 : decode cX2_unite 6 = .ok (.if_icmp .ge 24, 3) := by decide +kernel
theorem dX2_unite_9 : decode cX2_unite 9 = .ok (.aload_n 0, 1) := by decide +kernel
theorem dX2_unite_10 : decode cX2_unite 10 = .ok (.getfield 11, 3) := by decide +kernel
theorem dX2_unite_13 : decode cX2_unite 13 = .ok (.iload_n 2, 1) := by decide +kernel
theorem dX2_unite_14 : decode cX2_unite 14 = .ok (.dup2, 1) := by decide +kernel
theorem dX2_unite_15 : decode cX2_unite 15 = .ok (.laload, 1) := by decide +kernel
theorem dX2_unite_16 : decode cX2_unite 16 = .ok (.aload_n 1, 1) := by decide +kernel
theorem dX2_unite_17 : decode cX2_unite 17 = .ok (.getfield 11, 3) := by decide +kernel
theorem dX2_unite_20 : decode cX2_unite 20 = .ok (.iload_n 2, 1) := by decide +kernel
theorem dX2_unite_21 : decode cX2_unite 21 = .ok (.laload, 1) := by decide +kernel
theorem dX2_unite_22 : decode cX2_unite 22 = .ok (.lor, 1) := by decide +kernel
theorem dX2_unite_23 : decode cX2_unite 23 = .ok (.lastore, 1) := by decide +kernel
theorem dX2_unite_24 : decode cX2_unite 24 = .ok (.iinc 2 1, 3) := by decide +kernel
theorem dX2_unite_27 : decode cX2_unite 27 = .ok (.goto (-25), 3) := by decide +kernel
theorem dX2_unite_30 : decode cX2_unite 30 = .ok (.return_, 1) := by decide +kernel
theorem dX2_limit_0 : decode cX2_limit 0 = .ok (.iconst 0, 1) := by decide +kernel
theorem dX2_limit_1 : decode cX2_limit 1 = .ok (.istore_n 2, 1) := by decide +kernel
theorem dX2_limit_2 : decode cX2_limit 2 = .ok (.iload_n 2, 1) := by decide +kernel
theorem dX2_limit_3 : decode cX2_limit 3 = .ok (.sipush 229, 3) := by decide +kernel
theorem dX2_limit_6 : decode cX2_limit 6 = .ok (.if_icmp .ge 24, 3) := by decide +kernel
theorem dX2_limit_9 : decode cX2_limit 9 = .ok (.aload_n 0, 1) := by decide +kernel
theorem dX2_limit_10 : decode cX2_limit 10 = .ok (.getfield 11, 3) := by decide +kernel
theorem dX2_limit_13 : decode cX2_limit 13 = .ok (.iload_n 2, 1) := by decide +kernel
theorem dX2_limit_14 : decode cX2_limit 14 = .ok (.dup2, 1) := by decide +kernel
theorem dX2_limit_15 : decode cX2_limit 15 = .ok (.laload, 1) := by decide +kernel
theorem dX2_limit_16 : decode cX2_limit 16 = .ok (.aload_n 1, 1) := by decide +kernel
theorem dX2_limit_17 : decode cX2_limit 17 = .ok (.getfield 11, 3) := by decide +kernel
theorem dX2_limit_20 : decode cX2_limit 20 = .ok (.iload_n 2, 1) := by decide +kernel
theorem dX2_limit_21 : decode cX2_limit 21 = .ok (.laload, 1) := by decide +kernel
theorem dX2_limit_22 : decode cX2_limit 22 = .ok (.land, 1) := by decide +kernel
theorem dX2_limit_23 : decode cX2_limit 23 = .ok (.lastore, 1) := by decide +kernel
theorem dX2_limit_24 : decode cX2_limit 24 = .ok (.iinc 2 1, 3) := by decide +kernel
theorem dX2_limit_27 : decode cX2_limit 27 = .ok (.goto (-25), 3) := by decide +kernel
theorem dX2_limit_30 : decode cX2_limit 30 = .ok (.return_, 1) := by decide +kernel
theorem dX2_without_0 : decode cX2_without 0 = .ok (.iconst 0, 1) := by decide +kernel
theorem dX2_without_1 : decode cX2_without 1 = .ok (.istore_n 2, 1) := by decide +kernel
theorem dX2_without_2 : decode cX2_without 2 = .ok (.iload_n 2, 1) := by decide +kernel
theorem dX2_without_3 : decode cX2_without 3 = .ok (.sipush 229, 3) := by decide +kernel
theorem dX2_without_6 : decode cX2_without 6 = .ok (.if_icmp .ge 28, 3) := by decide +kernel
theorem dX2_without_9 : decode cX2_without 9 = .ok (.aload_n 0, 1) := by decide +kernel
theorem dX2_without_10 : decode cX2_without 10 = .ok (.getfield 11, 3) := by decide +kernel
theorem dX2_without_13 : decode cX2_without 13 = .ok (.iload_n 2, 1) := by decide +kernel
theorem dX2_without_14 : decode cX2_without 14 = .ok (.dup2, 1) := by decide +kernel
theorem dX2_without_15 : decode cX2_without 15 = .ok (.laload, 1) := by decide +kernel
theorem dX2_without_16 : decode cX2_without 16 = .ok (.aload_n 1, 1) := by decide +kernel
theorem dX2_without_17 : decode cX2_without 17 = .ok (.getfield 11, 3) := by decide +kernel
theorem dX2_without_20 : decode cX2_without 20 = .ok (.iload_n 2, 1) := by decide +kernel
theorem dX2_without_21 : decode cX2_without 21 = .ok (.laload, 1) := by decide +kernel
theorem dX2_without_22 : decode cX2_without 22 = .ok (.ldc2_w 31, 3) := by decide +kernel
theorem dX2_without_25 : decode cX2_without 25 = .ok (.lxor, 1) := by decide +kernel
theorem dX2_without_26 : decode cX2_without 26 = .ok (.land, 1) := by decide +kernel
theorem dX2_without_27 : decode cX2_without 27 = .ok (.lastore, 1) := by decide +kernel
theorem dX2_without_28 : decode cX2_without 28 = .ok (.iinc 2 1, 3) := by decide +kernel
theorem dX2_without_31 : decode cX2_without 31 = .ok (.goto (-29), 3) := by decide +kernel
theorem dX2_without_34 : decode cX2_without 34 = .ok (.return_, 1) := by decide +kernel
theorem dX2_shiftLater_0 : decode cX2_shiftLater 0 = .ok (.iload_n 1, 1) := by decide +kernel
theorem dX2_shiftLater_1 : decode cX2_shiftLater 1 = .ok (.bipush 6, 2) := by decide +kernel
theorem dX2_shiftLater_3 : decode cX2_shiftLater 3 = .ok (.ishr, 1) := by decide +kernel
theorem dX2_shiftLater_4 : decode cX2_shiftLater 4 = .ok (.istore_n 2, 1) := by decide +kernel
theorem dX2_shiftLater_5 : decode cX2_shiftLater 5 = .ok (.iload_n 1, 1) := by decide +kernel
theorem dX2_shiftLater_6 : decode cX2_shiftLater 6 = .ok (.bipush 63, 2) := by decide +kernel
theorem dX2_shiftLater_8 : decode cX2_shiftLater 8 = .ok (.iand, 1) := by decide +kernel
theorem dX2_shiftLater_9 : decode cX2_shiftLater 9 = .ok (.istore_n 3, 1) := by decide +kernel
theorem dX2_shiftLater_10 : decode cX2_shiftLater 10 = .ok (.sipush 228, 3) := by decide +kernel
theorem dX2_shiftLater_13 : decode cX2_shiftLater 13 = .ok (.istore 4, 2) := by decide +kernel
theorem dX2_shiftLater_15 : decode cX2_shiftLater 15 = .ok (.iload 4, 2) := by decide +kernel
theorem dX2_shiftLater_17 : decode cX2_shiftLater 17 = .ok (.ifCond .lt 54, 3) := by decide +kernel
theorem dX2_shiftLater_20 : decode cX2_shiftLater 20 = .ok (.iload_n 3, 1) := by decide +kernel
theorem dX2_shiftLater_21 : decode cX2_shiftLater 21 = .ok (.ifCond .ne 7, 3) := by decide +kernel
theorem dX2_shiftLater_24 : decode cX2_shiftLater 24 = .ok (.lconst 0, 1) := by decide +kernel
theorem dX2_shiftLater_25 : decode cX2_shiftLater 25 = .ok (.goto 18, 3) := by decide +kernel
theorem dX2_shiftLater_28 : decode cX2_shiftLater 28 = .ok (.aload_n 0, 1) := by decide +kernel
theorem dX2_shiftLater_29 : decode cX2_shiftLater 29 = .ok (.iload 4, 2) := by decide +kernel
theorem dX2_shiftLater_31 : decode cX2_shiftLater 31 = .ok (.iload_n 2, 1) := by decide +kernel
theorem dX2_shiftLater_32 : decode cX2_shiftLater 32 = .ok (.isub, 1) := by decide +kernel
theorem dX2_shiftLater_33 : decode cX2_shiftLater 33 = .ok (.iconst 1, 1) := by decide +kernel
theorem dX2_shiftLater_34 : decode cX2_shiftLater 34 = .ok (.isub, 1) := by decide +kernel
theorem dX2_shiftLater_35 : decode cX2_shiftLater 35 = .ok (.invokevirtual 33, 3) := by decide +kernel
theorem dX2_shiftLater_38 : decode cX2_shiftLater 38 = .ok (.bipush 64, 2) := by decide +kernel
theorem dX2_shiftLater_40 : decode cX2_shiftLater 40 = .ok (.iload_n 3, 1) := by decide +kernel
theorem dX2_shiftLater_41 : decode cX2_shiftLater 41 = .ok (.isub, 1) := by decide +kernel
theorem dX2_shiftLater_42 : decode cX2_shiftLater 42 = .ok (.lushr, 1) := by decide +kernel
theorem dX2_shiftLater_43 : decode cX2_shiftLater 43 = .ok (.lstore 5, 2) := by decide +kernel
theorem dX2_shiftLater_45 : decode cX2_shiftLater 45 = .ok (.aload_n 0, 1) := by decide +kernel
theorem dX2_shiftLater_46 : decode cX2_shiftLater 46 = .ok (.getfield 11, 3) := by decide +kernel
theorem dX2_shiftLater_49 : decode cX2_shiftLater 49 = .ok (.iload 4, 2) := by decide +kernel
theorem dX2_shiftLater_51 : decode cX2_shiftLater 51 = .ok (.aload_n 0, 1) := by decide +kernel
theorem dX2_shiftLater_52 : decode cX2_shiftLater 52 = .ok (.iload 4, 2) := by decide +kernel
theorem dX2_shiftLater_54 : decode cX2_shiftLater 54 = .ok (.iload_n 2, 1) := by decide +kernel
theorem dX2_shiftLater_55 : decode cX2_shiftLater 55 = .ok (.isub, 1) := by decide +kernel
theorem dX2_shiftLater_56 : decode cX2_shiftLater 56 = .ok (.invokevirtual 33, 3) := by decide +kernel
theorem dX2_shiftLater_59 : decode cX2_shiftLater 59 = .ok (.iload_n 3, 1) := by decide +kernel
theorem dX2_shiftLater_60 : decode cX2_shiftLater 60 = .ok (.lshl, 1) := by decide +kernel
theorem dX2_shiftLater_61 : decode cX2_shiftLater 61 = .ok (.lload 5, 2) := by decide +kernel
theorem dX2_shiftLater_63 : decode cX2_shiftLater 63 = .ok (.lor, 1) := by decide +kernel
theorem dX2_shiftLater_64 : decode cX2_shiftLater 64 = .ok (.lastore, 1) := by decide +kernel
theorem dX2_shiftLater_65 : decode cX2_shiftLater 65 = .ok (.iinc 4 (-1), 3) := by decide +kernel
theorem dX2_shiftLater_68 : decode cX2_shiftLater 68 = .ok (.goto (-53), 3) := by decide +kernel
theorem dX2_shiftLater_71 : decode cX2_shiftLater 71 = .ok (.aload_n 0, 1) := by decide +kernel
theorem dX2_shiftLater_72 : decode cX2_shiftLater 72 = .ok (.getfield 11, 3) := by decide +kernel
theorem dX2_shiftLater_75 : decode cX2_shiftLater 75 = .ok (.sipush 228, 3) := by decide +kernel
theorem dX2_shiftLater_78 : decode cX2_shiftLater 78 = .ok (.dup2, 1) := by decide +kernel
theorem dX2_shiftLater_79 : decode cX2_shiftLater 79 = .ok (.laload, 1) := by decide +kernel
theorem dX2_shiftLater_80 : decode cX2_shiftLater 80 = .ok (.ldc2_w 37, 3) := by decide +kernel
theorem dX2_shiftLater_83 : decode cX2_shiftLater 83 = .ok (.land, 1) := by decide +kernel
theorem dX2_shiftLater_84 : decode cX2_shiftLater 84 = .ok (.lastore, 1) := by decide +kernel
theorem dX2_shiftLater_85 : decode cX2_shiftLater 85 = .ok (.return_, 1) := by decide +kernel
theorem dX2_shiftSooner_0 : decode cX2_shiftSooner 0 = .ok (.iload_n 1, 1) := by decide +kernel
theorem dX2_shiftSooner_1 : decode cX2_shiftSooner 1 = .ok (.bipush 6, 2) := by decide +kernel
theorem dX2_shiftSooner_3 : decode cX2_shiftSooner 3 = .ok (.ishr, 1) := by decide +kernel
theorem dX2_shiftSooner_4 : decode cX2_shiftSooner 4 = .ok (.istore_n 2, 1) := by decide +kernel
theorem dX2_shiftSooner_5 : decode cX2_shiftSooner 5 = .ok (.iload_n 1, 1) := by decide +kernel
theorem dX2_shiftSooner_6 : decode cX2_shiftSooner 6 = .ok (.bipush 63, 2) := by decide +kernel
theorem dX2_shiftSooner_8 : decode cX2_shiftSooner 8 = .ok (.iand, 1) := by decide +kernel
theorem dX2_shiftSooner_9 : decode cX2_shiftSooner 9 = .ok (.istore_n 3, 1) := by decide +kernel
theorem dX2_shiftSooner_10 : decode cX2_shiftSooner 10 = .ok (.iconst 0, 1) := by decide +kernel
theorem dX2_shiftSooner_11 : decode cX2_shiftSooner 11 = .ok (.istore 4, 2) := by decide +kernel
theorem dX2_shiftSooner_13 : decode cX2_shiftSooner 13 = .ok (.iload 4, 2) := by decide +kernel
theorem dX2_shiftSooner_15 : decode cX2_shiftSooner 15 = .ok (.sipush 229, 3) := by decide +kernel
theorem dX2_shiftSooner_18 : decode cX2_shiftSooner 18 = .ok (.if_icmp .ge 54, 3) := by decide +kernel
theorem dX2_shiftSooner_21 : decode cX2_shiftSooner 21 = .ok (.iload_n 3, 1) := by decide +kernel
theorem dX2_shiftSooner_22 : decode cX2_shiftSooner 22 = .ok (.ifCond .ne 7, 3) := by decide +kernel
theorem dX2_shiftSooner_25 : decode cX2_shiftSooner 25 = .ok (.lconst 0, 1) := by decide +kernel
theorem dX2_shiftSooner_26 : decode cX2_shiftSooner 26 = .ok (.goto 18, 3) := by decide +kernel
theorem dX2_shiftSooner_29 : decode cX2_shiftSooner 29 = .ok (.aload_n 0, 1) := by decide +kernel
theorem dX2_shiftSooner_30 : decode cX2_shiftSooner 30 = .ok (.iload 4, 2) := by decide +kernel
theorem dX2_shiftSooner_32 : decode cX2_shiftSooner 32 = .ok (.iload_n 2, 1) := by decide +kernel
theorem dX2_shiftSooner_33 : decode cX2_shiftSooner 33 = .ok (.iadd, 1) := by decide +kernel
theorem dX2_shiftSooner_34 : decode cX2_shiftSooner 34 = .ok (.iconst 1, 1) := by decide +kernel
theorem dX2_shiftSooner_35 : decode cX2_shiftSooner 35 = .ok (.iadd, 1) := by decide +kernel
theorem dX2_shiftSooner_36 : decode cX2_shiftSooner 36 = .ok (.invokevirtual 33, 3) := by decide +kernel
theorem dX2_shiftSooner_39 : decode cX2_shiftSooner 39 = .ok (.bipush 64, 2) := by decide +kernel
theorem dX2_shiftSooner_41 : decode cX2_shiftSooner 41 = .ok (.iload_n 3, 1) := by decide +kernel
theorem dX2_shiftSooner_42 : decode cX2_shiftSooner 42 = .ok (.isub, 1) := by decide +kernel
theorem dX2_shiftSooner_43 : decode cX2_shiftSooner 43 = .ok (.lshl, 1) := by decide +kernel
theorem dX2_shiftSooner_44 : decode cX2_shiftSooner 44 = .ok (.lstore 5, 2) := by decide +kernel
theorem dX2_shiftSooner_46 : decode cX2_shiftSooner 46 = .ok (.aload_n 0, 1) := by decide +kernel
theorem dX2_shiftSooner_47 : decode cX2_shiftSooner 47 = .ok (.getfield 11, 3) := by decide +kernel
theorem dX2_shiftSooner_50 : decode cX2_shiftSooner 50 = .ok (.iload 4, 2) := by decide +kernel
theorem dX2_shiftSooner_52 : decode cX2_shiftSooner 52 = .ok (.aload_n 0, 1) := by decide +kernel
theorem dX2_shiftSooner_53 : decode cX2_shiftSooner 53 = .ok (.iload 4, 2) := by decide +kernel
theorem dX2_shiftSooner_55 : decode cX2_shiftSooner 55 = .ok (.iload_n 2, 1) := by decide +kernel
theorem dX2_shiftSooner_56 : decode cX2_shiftSooner 56 = .ok (.iadd, 1) := by decide +kernel
theorem dX2_shiftSooner_57 : decode cX2_shiftSooner 57 = .ok (.invokevirtual 33, 3) := by decide +kernel
theorem dX2_shiftSooner_60 : decode cX2_shiftSooner 60 = .ok (.iload_n 3, 1) := by decide +kernel
theorem dX2_shiftSooner_61 : decode cX2_shiftSooner 61 = .ok (.lushr, 1) := by decide +kernel
theorem dX2_shiftSooner_62 : decode cX2_shiftSooner 62 = .ok (.lload 5, 2) := by decide +kernel
theorem dX2_shiftSooner_64 : decode cX2_shiftSooner 64 = .ok (.lor, 1) := by decide +kernel
theorem dX2_shiftSooner_65 : decode cX2_shiftSooner 65 = .ok (.lastore, 1) := by decide +kernel
theorem dX2_shiftSooner_66 : decode cX2_shiftSooner 66 = .ok (.iinc 4 1, 3) := by decide +kernel
theorem dX2_shiftSooner_69 : decode cX2_shiftSooner 69 = .ok (.goto (-56), 3) := by decide +kernel
theorem dX2_shiftSooner_72 : decode cX2_shiftSooner 72 = .ok (.return_, 1) := by decide +kernel
theorem dX2_moveOff_0 : decode cX2_moveOff 0 = .ok (.aload_n 0, 1) := by decide +kernel
theorem dX2_moveOff_1 : decode cX2_moveOff 1 = .ok (.aload_n 1, 1) := by decide +kernel
theorem dX2_moveOff_2 : decode cX2_moveOff 2 = .ok (.iconst 0, 1) := by decide +kernel
theorem dX2_moveOff_3 : decode cX2_moveOff 3 = .ok (.iconst 0, 1) := by decide +kernel
theorem dX2_moveOff_4 : decode cX2_moveOff 4 = .ok (.invokevirtual 39, 3) := by decide +kernel
theorem dX2_moveOff_7 : decode cX2_moveOff 7 = .ok (.istore_n 2, 1) := by decide +kernel
theorem dX2_moveOff_8 : decode cX2_moveOff 8 = .ok (.iconst 0, 1) := by decide +kernel
theorem dX2_moveOff_9 : decode cX2_moveOff 9 = .ok (.istore_n 3, 1) := by decide +kernel
theorem dX2_moveOff_10 : decode cX2_moveOff 10 = .ok (.iload_n 3, 1) := by decide +kernel
theorem dX2_moveOff_11 : decode cX2_moveOff 11 = .ok (.sipush 14610, 3) := by decide +kernel
theorem dX2_moveOff_14 : decode cX2_moveOff 14 = .ok (.if_icmp .ge 48, 3) := by decide +kernel
theorem dX2_moveOff_17 : decode cX2_moveOff 17 = .ok (.iload_n 2, 1) := by decide +kernel
theorem dX2_moveOff_18 : decode cX2_moveOff 18 = .ok (.iconst (-1), 1) := by decide +kernel
theorem dX2_moveOff_19 : decode cX2_moveOff 19 = .ok (.if_icmp .eq 43, 3) := by decide +kernel
theorem dX2_moveOff_22 : decode cX2_moveOff 22 = .ok (.aload_n 1, 1) := by decide +kernel
theorem dX2_moveOff_23 : decode cX2_moveOff 23 = .ok (.aload_n 1, 1) := by decide +kernel
theorem dX2_moveOff_24 : decode cX2_moveOff 24 = .ok (.iload_n 2, 1) := by decide +kernel
theorem dX2_moveOff_25 : decode cX2_moveOff 25 = .ok (.iconst 2, 1) := by decide +kernel
theorem dX2_moveOff_26 : decode cX2_moveOff 26 = .ok (.invokevirtual 39, 3) := by decide +kernel
theorem dX2_moveOff_29 : decode cX2_moveOff 29 = .ok (.istore 4, 2) := by decide +kernel
theorem dX2_moveOff_31 : decode cX2_moveOff 31 = .ok (.aload_n 0, 1) := by decide +kernel
theorem dX2_moveOff_32 : decode cX2_moveOff 32 = .ok (.iload 4, 2) := by decide +kernel
theorem dX2_moveOff_34 : decode cX2_moveOff 34 = .ok (.invokevirtual 43, 3) := by decide +kernel
theorem dX2_moveOff_37 : decode cX2_moveOff 37 = .ok (.iload 4, 2) := by decide +kernel
theorem dX2_moveOff_39 : decode cX2_moveOff 39 = .ok (.iconst (-1), 1) := by decide +kernel
theorem dX2_moveOff_40 : decode cX2_moveOff 40 = .ok (.if_icmp .ne 7, 3) := by decide +kernel
theorem dX2_moveOff_43 : decode cX2_moveOff 43 = .ok (.iconst (-1), 1) := by decide +kernel
theorem dX2_moveOff_44 : decode cX2_moveOff 44 = .ok (.goto 11, 3) := by decide +kernel
theorem dX2_moveOff_47 : decode cX2_moveOff 47 = .ok (.aload_n 0, 1) := by decide +kernel
theorem dX2_moveOff_48 : decode cX2_moveOff 48 = .ok (.aload_n 1, 1) := by decide +kernel
theorem dX2_moveOff_49 : decode cX2_moveOff 49 = .ok (.iload 4, 2) := by decide +kernel
theorem dX2_moveOff_51 : decode cX2_moveOff 51 = .ok (.iconst 0, 1) := by decide +kernel
theorem dX2_moveOff_52 : decode cX2_moveOff 52 = .ok (.invokevirtual 39, 3) := by decide +kernel
theorem dX2_moveOff_55 : decode cX2_moveOff 55 = .ok (.istore_n 2, 1) := by decide +kernel
theorem dX2_moveOff_56 : decode cX2_moveOff 56 = .ok (.iinc 3 1, 3) := by decide +kernel
theorem dX2_moveOff_59 : decode cX2_moveOff 59 = .ok (.goto (-49), 3) := by decide +kernel
theorem dX2_moveOff_62 : decode cX2_moveOff 62 = .ok (.aload_n 0, 1) := by decide +kernel
theorem dX2_moveOff_63 : decode cX2_moveOff 63 = .ok (.aload_n 1, 1) := by decide +kernel
theorem dX2_moveOff_64 : decode cX2_moveOff 64 = .ok (.invokevirtual 47, 3) := by decide +kernel
theorem dX2_moveOff_67 : decode cX2_moveOff 67 = .ok (.return_, 1) := by decide +kernel
theorem dX2_firstFrom_0 : decode cX2_firstFrom 0 = .ok (.aload_n 0, 1) := by decide +kernel
theorem dX2_firstFrom_1 : decode cX2_firstFrom 1 = .ok (.aload_n 0, 1) := by decide +kernel
theorem dX2_firstFrom_2 : decode cX2_firstFrom 2 = .ok (.iload_n 1, 1) := by decide +kernel
theorem dX2_firstFrom_3 : decode cX2_firstFrom 3 = .ok (.iconst 0, 1) := by decide +kernel
theorem dX2_firstFrom_4 : decode cX2_firstFrom 4 = .ok (.invokevirtual 39, 3) := by decide +kernel
theorem dX2_firstFrom_7 : decode cX2_firstFrom 7 = .ok (.ireturn, 1) := by decide +kernel
theorem dX2_firstMissingFrom_0 : decode cX2_firstMissingFrom 0 = .ok (.aload_n 0, 1) := by decide +kernel
theorem dX2_firstMissingFrom_1 : decode cX2_firstMissingFrom 1 = .ok (.aload_n 0, 1) := by decide +kernel
theorem dX2_firstMissingFrom_2 : decode cX2_firstMissingFrom 2 = .ok (.iload_n 1, 1) := by decide +kernel
theorem dX2_firstMissingFrom_3 : decode cX2_firstMissingFrom 3 = .ok (.iconst 2, 1) := by decide +kernel
theorem dX2_firstMissingFrom_4 : decode cX2_firstMissingFrom 4 = .ok (.invokevirtual 39, 3) := by decide +kernel
theorem dX2_firstMissingFrom_7 : decode cX2_firstMissingFrom 7 = .ok (.ireturn, 1) := by decide +kernel
theorem dX2_search_0 : decode cX2_search 0 = .ok (.iload_n 2, 1) := by decide +kernel
theorem dX2_search_1 : decode cX2_search 1 = .ok (.ifCond .lt 10, 3) := by decide +kernel
theorem dX2_search_4 : decode cX2_search 4 = .ok (.iload_n 2, 1) := by decide +kernel
theorem dX2_search_5 : decode cX2_search 5 = .ok (.sipush 14610, 3) := by decide +kernel
theorem dX2_search_8 : decode cX2_search 8 = .ok (.if_icmp .lt 5, 3) := by decide +kernel
theorem dX2_search_11 : decode cX2_search 11 = .ok (.iconst (-1), 1) := by decide +kernel
theorem dX2_search_12 : decode cX2_search 12 = .ok (.ireturn, 1) := by decide +kernel
theorem dX2_search_13 : decode cX2_search 13 = .ok (.lconst 0, 1) := by decide +kernel
theorem dX2_search_14 : decode cX2_search 14 = .ok (.lstore 4, 2) := by decide +kernel
theorem dX2_search_16 : decode cX2_search 16 = .ok (.iload_n 2, 1) := by decide +kernel
theorem dX2_search_17 : decode cX2_search 17 = .ok (.bipush 6, 2) := by decide +kernel
theorem dX2_search_19 : decode cX2_search 19 = .ok (.ishr, 1) := by decide +kernel
theorem dX2_search_20 : decode cX2_search 20 = .ok (.istore 6, 2) := by decide +kernel
theorem dX2_search_22 : decode cX2_search 22 = .ok (.ldc2_w 31, 3) := by decide +kernel
theorem dX2_search_25 : decode cX2_search 25 = .ok (.iload_n 2, 1) := by decide +kernel
theorem dX2_search_26 : decode cX2_search 26 = .ok (.bipush 63, 2) := by decide +kernel
theorem dX2_search_28 : decode cX2_search 28 = .ok (.iand, 1) := by decide +kernel
theorem dX2_search_29 : decode cX2_search 29 = .ok (.lshl, 1) := by decide +kernel
theorem dX2_search_30 : decode cX2_search 30 = .ok (.lstore 7, 2) := by decide +kernel
theorem dX2_search_32 : decode cX2_search 32 = .ok (.lload 4, 2) := by decide +kernel
theorem dX2_search_34 : decode cX2_search 34 = .ok (.lconst 0, 1) := by decide +kernel
theorem dX2_search_35 : decode cX2_search 35 = .ok (.lcmp, 1) := by decide +kernel
theorem dX2_search_36 : decode cX2_search 36 = .ok (.ifCond .ne 100, 3) := by decide +kernel
theorem dX2_search_39 : decode cX2_search 39 = .ok (.iload 6, 2) := by decide +kernel
theorem dX2_search_41 : decode cX2_search 41 = .ok (.sipush 229, 3) := by decide +kernel
theorem dX2_search_44 : decode cX2_search 44 = .ok (.if_icmp .ge 92, 3) := by decide +kernel
theorem dX2_search_47 : decode cX2_search 47 = .ok (.aload_n 0, 1) := by decide +kernel
theorem dX2_search_48 : decode cX2_search 48 = .ok (.getfield 11, 3) := by decide +kernel
theorem dX2_search_51 : decode cX2_search 51 = .ok (.iload 6, 2) := by decide +kernel
theorem dX2_search_53 : decode cX2_search 53 = .ok (.laload, 1) := by decide +kernel
theorem dX2_search_54 : decode cX2_search 54 = .ok (.lstore 9, 2) := by decide +kernel
theorem dX2_search_56 : decode cX2_search 56 = .ok (.aload_n 1, 1) := by decide +kernel
theorem dX2_search_57 : decode cX2_search 57 = .ok (.getfield 11, 3) := by decide +kernel
theorem dX2_search_60 : decode cX2_search 60 = .ok (.iload 6, 2) := by decide +kernel
theorem dX2_search_62 : decode cX2_search 62 = .ok (.laload, 1) := by decide +kernel
theorem dX2_search_63 : decode cX2_search 63 = .ok (.lstore 11, 2) := by decide +kernel
theorem dX2_search_65 : decode cX2_search 65 = .ok (.iload_n 3, 1) := by decide +kernel
theorem dX2_search_66 : decode cX2_search 66 = .ok (.ifCond .ne 11, 3) := by decide +kernel
theorem dX2_search_69 : decode cX2_search 69 = .ok (.lload 9, 2) := by decide +kernel
theorem dX2_search_71 : decode cX2_search 71 = .ok (.lload 11, 2) := by decide +kernel
theorem dX2_search_73 : decode cX2_search 73 = .ok (.land, 1) := by decide +kernel
theorem dX2_search_74 : decode cX2_search 74 = .ok (.goto 25, 3) := by decide +kernel
theorem dX2_search_77 : decode cX2_search 77 = .ok (.iload_n 3, 1) := by decide +kernel
theorem dX2_search_78 : decode cX2_search 78 = .ok (.iconst 1, 1) := by decide +kernel
theorem dX2_search_79 : decode cX2_search 79 = .ok (.if_icmp .ne 11, 3) := by decide +kernel
theorem dX2_search_82 : decode cX2_search 82 = .ok (.lload 9, 2) := by decide +kernel
theorem dX2_search_84 : decode cX2_search 84 = .ok (.lload 11, 2) := by decide +kernel
theorem dX2_search_86 : decode cX2_search 86 = .ok (.lxor, 1) := by decide +kernel
theorem dX2_search_87 : decode cX2_search 87 = .ok (.goto 12, 3) := by decide +kernel
theorem dX2_search_90 : decode cX2_search 90 = .ok (.lload 9, 2) := by decide +kernel
theorem dX2_search_92 : decode cX2_search 92 = .ok (.lload 11, 2) := by decide +kernel
theorem dX2_search_94 : decode cX2_search 94 = .ok (.lor, 1) := by decide +kernel
theorem dX2_search_95 : decode cX2_search 95 = .ok (.ldc2_w 31, 3) := by decide +kernel
theorem dX2_search_98 : decode cX2_search 98 = .ok (.lxor, 1) := by decide +kernel
theorem dX2_search_99 : decode cX2_search 99 = .ok (.lstore 4, 2) := by decide +kernel
theorem dX2_search_101 : decode cX2_search 101 = .ok (.lload 4, 2) := by decide +kernel
theorem dX2_search_103 : decode cX2_search 103 = .ok (.iload 6, 2) := by decide +kernel
theorem dX2_search_105 : decode cX2_search 105 = .ok (.sipush 228, 3) := by decide +kernel
theorem dX2_search_108 : decode cX2_search 108 = .ok (.if_icmp .ne 12, 3) := by decide +kernel
theorem dX2_search_111 : decode cX2_search 111 = .ok (.lload 7, 2) := by decide +kernel
theorem dX2_search_113 : decode cX2_search 113 = .ok (.ldc2_w 37, 3) := by decide +kernel
theorem dX2_search_116 : decode cX2_search 116 = .ok (.land, 1) := by decide +kernel
theorem dX2_search_117 : decode cX2_search 117 = .ok (.goto 5, 3) := by decide +kernel
theorem dX2_search_120 : decode cX2_search 120 = .ok (.lload 7, 2) := by decide +kernel
theorem dX2_search_122 : decode cX2_search 122 = .ok (.land, 1) := by decide +kernel
theorem dX2_search_123 : decode cX2_search 123 = .ok (.lstore 4, 2) := by decide +kernel
theorem dX2_search_125 : decode cX2_search 125 = .ok (.ldc2_w 31, 3) := by decide +kernel
theorem dX2_search_128 : decode cX2_search 128 = .ok (.lstore 7, 2) := by decide +kernel
theorem dX2_search_130 : decode cX2_search 130 = .ok (.iinc 6 1, 3) := by decide +kernel
theorem dX2_search_133 : decode cX2_search 133 = .ok (.goto (-101), 3) := by decide +kernel
theorem dX2_search_136 : decode cX2_search 136 = .ok (.lload 4, 2) := by decide +kernel
theorem dX2_search_138 : decode cX2_search 138 = .ok (.lconst 0, 1) := by decide +kernel
theorem dX2_search_139 : decode cX2_search 139 = .ok (.lcmp, 1) := by decide +kernel
theorem dX2_search_140 : decode cX2_search 140 = .ok (.ifCond .ne 7, 3) := by decide +kernel
theorem dX2_search_143 : decode cX2_search 143 = .ok (.iconst (-1), 1) := by decide +kernel
theorem dX2_search_144 : decode cX2_search 144 = .ok (.goto 22, 3) := by decide +kernel
theorem dX2_search_147 : decode cX2_search 147 = .ok (.iload 6, 2) := by decide +kernel
theorem dX2_search_149 : decode cX2_search 149 = .ok (.iconst 1, 1) := by decide +kernel
theorem dX2_search_150 : decode cX2_search 150 = .ok (.isub, 1) := by decide +kernel
theorem dX2_search_151 : decode cX2_search 151 = .ok (.bipush 64, 2) := by decide +kernel
theorem dX2_search_153 : decode cX2_search 153 = .ok (.imul, 1) := by decide +kernel
theorem dX2_search_154 : decode cX2_search 154 = .ok (.lload 4, 2) := by decide +kernel
theorem dX2_search_156 : decode cX2_search 156 = .ok (.lload 4, 2) := by decide +kernel
theorem dX2_search_158 : decode cX2_search 158 = .ok (.lneg, 1) := by decide +kernel
theorem dX2_search_159 : decode cX2_search 159 = .ok (.land, 1) := by decide +kernel
theorem dX2_search_160 : decode cX2_search 160 = .ok (.lconst 1, 1) := by decide +kernel
theorem dX2_search_161 : decode cX2_search 161 = .ok (.lsub, 1) := by decide +kernel
theorem dX2_search_162 : decode cX2_search 162 = .ok (.invokestatic 51, 3) := by decide +kernel
theorem dX2_search_165 : decode cX2_search 165 = .ok (.iadd, 1) := by decide +kernel
theorem dX2_search_166 : decode cX2_search 166 = .ok (.ireturn, 1) := by decide +kernel
theorem dX2_lastUpTo_0 : decode cX2_lastUpTo 0 = .ok (.iload_n 1, 1) := by decide +kernel
theorem dX2_lastUpTo_1 : decode cX2_lastUpTo 1 = .ok (.invokestatic 27, 3) := by decide +kernel
theorem dX2_lastUpTo_4 : decode cX2_lastUpTo 4 = .ok (.ifCond .ne 5, 3) := by decide +kernel
theorem dX2_lastUpTo_7 : decode cX2_lastUpTo 7 = .ok (.iconst (-1), 1) := by decide +kernel
theorem dX2_lastUpTo_8 : decode cX2_lastUpTo 8 = .ok (.ireturn, 1) := by decide +kernel
theorem dX2_lastUpTo_9 : decode cX2_lastUpTo 9 = .ok (.iload_n 1, 1) := by decide +kernel
theorem dX2_lastUpTo_10 : decode cX2_lastUpTo 10 = .ok (.bipush 6, 2) := by decide +kernel
theorem dX2_lastUpTo_12 : decode cX2_lastUpTo 12 = .ok (.ishr, 1) := by decide +kernel
theorem dX2_lastUpTo_13 : decode cX2_lastUpTo 13 = .ok (.istore_n 2, 1) := by decide +kernel
theorem dX2_lastUpTo_14 : decode cX2_lastUpTo 14 = .ok (.aload_n 0, 1) := by decide +kernel
theorem dX2_lastUpTo_15 : decode cX2_lastUpTo 15 = .ok (.getfield 11, 3) := by decide +kernel
theorem dX2_lastUpTo_18 : decode cX2_lastUpTo 18 = .ok (.iload_n 2, 1) := by decide +kernel
theorem dX2_lastUpTo_19 : decode cX2_lastUpTo 19 = .ok (.laload, 1) := by decide +kernel
theorem dX2_lastUpTo_20 : decode cX2_lastUpTo 20 = .ok (.ldc2_w 31, 3) := by decide +kernel
theorem dX2_lastUpTo_23 : decode cX2_lastUpTo 23 = .ok (.bipush 63, 2) := by decide +kernel
theorem dX2_lastUpTo_25 : decode cX2_lastUpTo 25 = .ok (.iload_n 1, 1) := by decide +kernel
theorem dX2_lastUpTo_26 : decode cX2_lastUpTo 26 = .ok (.bipush 63, 2) := by decide +kernel
theorem dX2_lastUpTo_28 : decode cX2_lastUpTo 28 = .ok (.iand, 1) := by decide +kernel
theorem dX2_lastUpTo_29 : decode cX2_lastUpTo 29 = .ok (.isub, 1) := by decide +kernel
theorem dX2_lastUpTo_30 : decode cX2_lastUpTo 30 = .ok (.lushr, 1) := by decide +kernel
theorem dX2_lastUpTo_31 : decode cX2_lastUpTo 31 = .ok (.land, 1) := by decide +kernel
theorem dX2_lastUpTo_32 : decode cX2_lastUpTo 32 = .ok (.lstore_n 3, 1) := by decide +kernel
theorem dX2_lastUpTo_33 : decode cX2_lastUpTo 33 = .ok (.lload_n 3, 1) := by decide +kernel
theorem dX2_lastUpTo_34 : decode cX2_lastUpTo 34 = .ok (.lconst 0, 1) := by decide +kernel
theorem dX2_lastUpTo_35 : decode cX2_lastUpTo 35 = .ok (.lcmp, 1) := by decide +kernel
theorem dX2_lastUpTo_36 : decode cX2_lastUpTo 36 = .ok (.ifCond .ne 20, 3) := by decide +kernel
theorem dX2_lastUpTo_39 : decode cX2_lastUpTo 39 = .ok (.iload_n 2, 1) := by decide +kernel
theorem dX2_lastUpTo_40 : decode cX2_lastUpTo 40 = .ok (.ifCond .le 16, 3) := by decide +kernel
theorem dX2_lastUpTo_43 : decode cX2_lastUpTo 43 = .ok (.iinc 2 (-1), 3) := by decide +kernel
theorem dX2_lastUpTo_46 : decode cX2_lastUpTo 46 = .ok (.aload_n 0, 1) := by decide +kernel
theorem dX2_lastUpTo_47 : decode cX2_lastUpTo 47 = .ok (.getfield 11, 3) := by decide +kernel
theorem dX2_lastUpTo_50 : decode cX2_lastUpTo 50 = .ok (.iload_n 2, 1) := by decide +kernel
theorem dX2_lastUpTo_51 : decode cX2_lastUpTo 51 = .ok (.laload, 1) := by decide +kernel
theorem dX2_lastUpTo_52 : decode cX2_lastUpTo 52 = .ok (.lstore_n 3, 1) := by decide +kernel
theorem dX2_lastUpTo_53 : decode cX2_lastUpTo 53 = .ok (.goto (-20), 3) := by decide +kernel
theorem dX2_lastUpTo_56 : decode cX2_lastUpTo 56 = .ok (.lload_n 3, 1) := by decide +kernel
theorem dX2_lastUpTo_57 : decode cX2_lastUpTo 57 = .ok (.lconst 0, 1) := by decide +kernel
theorem dX2_lastUpTo_58 : decode cX2_lastUpTo 58 = .ok (.lcmp, 1) := by decide +kernel
theorem dX2_lastUpTo_59 : decode cX2_lastUpTo 59 = .ok (.ifCond .ne 5, 3) := by decide +kernel
theorem dX2_lastUpTo_62 : decode cX2_lastUpTo 62 = .ok (.iconst (-1), 1) := by decide +kernel
theorem dX2_lastUpTo_63 : decode cX2_lastUpTo 63 = .ok (.ireturn, 1) := by decide +kernel
theorem dX2_lastUpTo_64 : decode cX2_lastUpTo 64 = .ok (.iconst 1, 1) := by decide +kernel
theorem dX2_lastUpTo_65 : decode cX2_lastUpTo 65 = .ok (.istore 5, 2) := by decide +kernel
theorem dX2_lastUpTo_67 : decode cX2_lastUpTo 67 = .ok (.iload 5, 2) := by decide +kernel
theorem dX2_lastUpTo_69 : decode cX2_lastUpTo 69 = .ok (.bipush 64, 2) := by decide +kernel
theorem dX2_lastUpTo_71 : decode cX2_lastUpTo 71 = .ok (.if_icmp .ge 19, 3) := by decide +kernel
theorem dX2_lastUpTo_74 : decode cX2_lastUpTo 74 = .ok (.lload_n 3, 1) := by decide +kernel
theorem dX2_lastUpTo_75 : decode cX2_lastUpTo 75 = .ok (.lload_n 3, 1) := by decide +kernel
theorem dX2_lastUpTo_76 : decode cX2_lastUpTo 76 = .ok (.iload 5, 2) := by decide +kernel
theorem dX2_lastUpTo_78 : decode cX2_lastUpTo 78 = .ok (.lushr, 1) := by decide +kernel
theorem dX2_lastUpTo_79 : decode cX2_lastUpTo 79 = .ok (.lor, 1) := by decide +kernel
theorem dX2_lastUpTo_80 : decode cX2_lastUpTo 80 = .ok (.lstore_n 3, 1) := by decide +kernel
theorem dX2_lastUpTo_81 : decode cX2_lastUpTo 81 = .ok (.iload 5, 2) := by decide +kernel
theorem dX2_lastUpTo_83 : decode cX2_lastUpTo 83 = .ok (.iconst 2, 1) := by decide +kernel
theorem dX2_lastUpTo_84 : decode cX2_lastUpTo 84 = .ok (.imul, 1) := by decide +kernel
theorem dX2_lastUpTo_85 : decode cX2_lastUpTo 85 = .ok (.istore 5, 2) := by decide +kernel
theorem dX2_lastUpTo_87 : decode cX2_lastUpTo 87 = .ok (.goto (-20), 3) := by decide +kernel
theorem dX2_lastUpTo_90 : decode cX2_lastUpTo 90 = .ok (.iload_n 2, 1) := by decide +kernel
theorem dX2_lastUpTo_91 : decode cX2_lastUpTo 91 = .ok (.bipush 64, 2) := by decide +kernel
theorem dX2_lastUpTo_93 : decode cX2_lastUpTo 93 = .ok (.imul, 1) := by decide +kernel
theorem dX2_lastUpTo_94 : decode cX2_lastUpTo 94 = .ok (.lload_n 3, 1) := by decide +kernel
theorem dX2_lastUpTo_95 : decode cX2_lastUpTo 95 = .ok (.invokestatic 51, 3) := by decide +kernel
theorem dX2_lastUpTo_98 : decode cX2_lastUpTo 98 = .ok (.iadd, 1) := by decide +kernel
theorem dX2_lastUpTo_99 : decode cX2_lastUpTo 99 = .ok (.iconst 1, 1) := by decide +kernel
theorem dX2_lastUpTo_100 : decode cX2_lastUpTo 100 = .ok (.isub, 1) := by decide +kernel
theorem dX2_lastUpTo_101 : decode cX2_lastUpTo 101 = .ok (.ireturn, 1) := by decide +kernel
theorem dX2_between_0 : decode cX2_between 0 = .ok (.iload_n 1, 1) := by decide +kernel
theorem dX2_between_1 : decode cX2_between 1 = .ok (.invokestatic 27, 3) := by decide +kernel
theorem dX2_between_4 : decode cX2_between 4 = .ok (.ifCond .eq 15, 3) := by decide +kernel
theorem dX2_between_7 : decode cX2_between 7 = .ok (.iload_n 2, 1) := by decide +kernel
theorem dX2_between_8 : decode cX2_between 8 = .ok (.invokestatic 27, 3) := by decide +kernel
theorem dX2_between_11 : decode cX2_between 11 = .ok (.ifCond .eq 8, 3) := by decide +kernel
theorem dX2_between_14 : decode cX2_between 14 = .ok (.iload_n 1, 1) := by decide +kernel
theorem dX2_between_15 : decode cX2_between 15 = .ok (.iload_n 2, 1) := by decide +kernel
theorem dX2_between_16 : decode cX2_between 16 = .ok (.if_icmp .le 5, 3) := by decide +kernel
theorem dX2_between_19 : decode cX2_between 19 = .ok (.iconst 0, 1) := by decide +kernel
theorem dX2_between_20 : decode cX2_between 20 = .ok (.ireturn, 1) := by decide +kernel
theorem dX2_between_21 : decode cX2_between 21 = .ok (.iload_n 1, 1) := by decide +kernel
theorem dX2_between_22 : decode cX2_between 22 = .ok (.bipush 6, 2) := by decide +kernel
theorem dX2_between_24 : decode cX2_between 24 = .ok (.ishr, 1) := by decide +kernel
theorem dX2_between_25 : decode cX2_between 25 = .ok (.istore_n 3, 1) := by decide +kernel
theorem dX2_between_26 : decode cX2_between 26 = .ok (.iload_n 2, 1) := by decide +kernel
theorem dX2_between_27 : decode cX2_between 27 = .ok (.bipush 6, 2) := by decide +kernel
theorem dX2_between_29 : decode cX2_between 29 = .ok (.ishr, 1) := by decide +kernel
theorem dX2_between_30 : decode cX2_between 30 = .ok (.istore 4, 2) := by decide +kernel
theorem dX2_between_32 : decode cX2_between 32 = .ok (.iconst 0, 1) := by decide +kernel
theorem dX2_between_33 : decode cX2_between 33 = .ok (.istore 5, 2) := by decide +kernel
theorem dX2_between_35 : decode cX2_between 35 = .ok (.iload_n 3, 1) := by decide +kernel
theorem dX2_between_36 : decode cX2_between 36 = .ok (.istore 6, 2) := by decide +kernel
theorem dX2_between_38 : decode cX2_between 38 = .ok (.iload 6, 2) := by decide +kernel
theorem dX2_between_40 : decode cX2_between 40 = .ok (.iload 4, 2) := by decide +kernel
theorem dX2_between_42 : decode cX2_between 42 = .ok (.if_icmp .gt 78, 3) := by decide +kernel
theorem dX2_between_45 : decode cX2_between 45 = .ok (.iload 6, 2) := by decide +kernel
theorem dX2_between_47 : decode cX2_between 47 = .ok (.iload_n 3, 1) := by decide +kernel
theorem dX2_between_48 : decode cX2_between 48 = .ok (.if_icmp .ne 14, 3) := by decide +kernel
theorem dX2_between_51 : decode cX2_between 51 = .ok (.ldc2_w 31, 3) := by decide +kernel
theorem dX2_between_54 : decode cX2_between 54 = .ok (.iload_n 1, 1) := by decide +kernel
theorem dX2_between_55 : decode cX2_between 55 = .ok (.bipush 63, 2) := by decide +kernel
theorem dX2_between_57 : decode cX2_between 57 = .ok (.iand, 1) := by decide +kernel
theorem dX2_between_58 : decode cX2_between 58 = .ok (.lshl, 1) := by decide +kernel
theorem dX2_between_59 : decode cX2_between 59 = .ok (.goto 6, 3) := by decide +kernel
theorem dX2_between_62 : decode cX2_between 62 = .ok (.ldc2_w 31, 3) := by decide +kernel
theorem dX2_between_65 : decode cX2_between 65 = .ok (.lstore 7, 2) := by decide +kernel
theorem dX2_between_67 : decode cX2_between 67 = .ok (.iload 6, 2) := by decide +kernel
theorem dX2_between_69 : decode cX2_between 69 = .ok (.iload 4, 2) := by decide +kernel
theorem dX2_between_71 : decode cX2_between 71 = .ok (.if_icmp .ne 17, 3) := by decide +kernel
theorem dX2_between_74 : decode cX2_between 74 = .ok (.ldc2_w 31, 3) := by decide +kernel
theorem dX2_between_77 : decode cX2_between 77 = .ok (.bipush 63, 2) := by decide +kernel
theorem dX2_between_79 : decode cX2_between 79 = .ok (.iload_n 2, 1) := by decide +kernel
theorem dX2_between_80 : decode cX2_between 80 = .ok (.bipush 63, 2) := by decide +kernel
theorem dX2_between_82 : decode cX2_between 82 = .ok (.iand, 1) := by decide +kernel
theorem dX2_between_83 : decode cX2_between 83 = .ok (.isub, 1) := by decide +kernel
theorem dX2_between_84 : decode cX2_between 84 = .ok (.lushr, 1) := by decide +kernel
theorem dX2_between_85 : decode cX2_between 85 = .ok (.goto 6, 3) := by decide +kernel
theorem dX2_between_88 : decode cX2_between 88 = .ok (.ldc2_w 31, 3) := by decide +kernel
theorem dX2_between_91 : decode cX2_between 91 = .ok (.lstore 9, 2) := by decide +kernel
theorem dX2_between_93 : decode cX2_between 93 = .ok (.iload 5, 2) := by decide +kernel
theorem dX2_between_95 : decode cX2_between 95 = .ok (.aload_n 0, 1) := by decide +kernel
theorem dX2_between_96 : decode cX2_between 96 = .ok (.getfield 11, 3) := by decide +kernel
theorem dX2_between_99 : decode cX2_between 99 = .ok (.iload 6, 2) := by decide +kernel
theorem dX2_between_101 : decode cX2_between 101 = .ok (.laload, 1) := by decide +kernel
theorem dX2_between_102 : decode cX2_between 102 = .ok (.lload 7, 2) := by decide +kernel
theorem dX2_between_104 : decode cX2_between 104 = .ok (.land, 1) := by decide +kernel
theorem dX2_between_105 : decode cX2_between 105 = .ok (.lload 9, 2) := by decide +kernel
theorem dX2_between_107 : decode cX2_between 107 = .ok (.land, 1) := by decide +kernel
theorem dX2_between_108 : decode cX2_between 108 = .ok (.invokestatic 51, 3) := by decide +kernel
theorem dX2_between_111 : decode cX2_between 111 = .ok (.iadd, 1) := by decide +kernel
theorem dX2_between_112 : decode cX2_between 112 = .ok (.istore 5, 2) := by decide +kernel
theorem dX2_between_114 : decode cX2_between 114 = .ok (.iinc 6 1, 3) := by decide +kernel
theorem dX2_between_117 : decode cX2_between 117 = .ok (.goto (-79), 3) := by decide +kernel
theorem dX2_between_120 : decode cX2_between 120 = .ok (.iload 5, 2) := by decide +kernel
theorem dX2_between_122 : decode cX2_between 122 = .ok (.ireturn, 1) := by decide +kernel
theorem dX2_atPlace_0 : decode cX2_atPlace 0 = .ok (.iload_n 1, 1) := by decide +kernel
theorem dX2_atPlace_1 : decode cX2_atPlace 1 = .ok (.ifCond .ge 5, 3) := by decide +kernel
theorem dX2_atPlace_4 : decode cX2_atPlace 4 = .ok (.iconst (-1), 1) := by decide +kernel
theorem dX2_atPlace_5 : decode cX2_atPlace 5 = .ok (.ireturn, 1) := by decide +kernel
theorem dX2_atPlace_6 : decode cX2_atPlace 6 = .ok (.iload_n 1, 1) := by decide +kernel
theorem dX2_atPlace_7 : decode cX2_atPlace 7 = .ok (.istore_n 2, 1) := by decide +kernel
theorem dX2_atPlace_8 : decode cX2_atPlace 8 = .ok (.iconst 0, 1) := by decide +kernel
theorem dX2_atPlace_9 : decode cX2_atPlace 9 = .ok (.istore_n 3, 1) := by decide +kernel
theorem dX2_atPlace_10 : decode cX2_atPlace 10 = .ok (.iload_n 3, 1) := by decide +kernel
theorem dX2_atPlace_11 : decode cX2_atPlace 11 = .ok (.sipush 229, 3) := by decide +kernel
theorem dX2_atPlace_14 : decode cX2_atPlace 14 = .ok (.if_icmp .ge 34, 3) := by decide +kernel
theorem dX2_atPlace_17 : decode cX2_atPlace 17 = .ok (.aload_n 0, 1) := by decide +kernel
theorem dX2_atPlace_18 : decode cX2_atPlace 18 = .ok (.getfield 11, 3) := by decide +kernel
theorem dX2_atPlace_21 : decode cX2_atPlace 21 = .ok (.iload_n 3, 1) := by decide +kernel
theorem dX2_atPlace_22 : decode cX2_atPlace 22 = .ok (.laload, 1) := by decide +kernel
theorem dX2_atPlace_23 : decode cX2_atPlace 23 = .ok (.invokestatic 51, 3) := by decide +kernel
theorem dX2_atPlace_26 : decode cX2_atPlace 26 = .ok (.iload_n 2, 1) := by decide +kernel
theorem dX2_atPlace_27 : decode cX2_atPlace 27 = .ok (.if_icmp .gt 21, 3) := by decide +kernel
theorem dX2_atPlace_30 : decode cX2_atPlace 30 = .ok (.iload_n 2, 1) := by decide +kernel
theorem dX2_atPlace_31 : decode cX2_atPlace 31 = .ok (.aload_n 0, 1) := by decide +kernel
theorem dX2_atPlace_32 : decode cX2_atPlace 32 = .ok (.getfield 11, 3) := by decide +kernel
theorem dX2_atPlace_35 : decode cX2_atPlace 35 = .ok (.iload_n 3, 1) := by decide +kernel
theorem dX2_atPlace_36 : decode cX2_atPlace 36 = .ok (.laload, 1) := by decide +kernel
theorem dX2_atPlace_37 : decode cX2_atPlace 37 = .ok (.invokestatic 51, 3) := by decide +kernel
theorem dX2_atPlace_40 : decode cX2_atPlace 40 = .ok (.isub, 1) := by decide +kernel
theorem dX2_atPlace_41 : decode cX2_atPlace 41 = .ok (.istore_n 2, 1) := by decide +kernel
theorem dX2_atPlace_42 : decode cX2_atPlace 42 = .ok (.iinc 3 1, 3) := by decide +kernel
theorem dX2_atPlace_45 : decode cX2_atPlace 45 = .ok (.goto (-35), 3) := by decide +kernel
theorem dX2_atPlace_48 : decode cX2_atPlace 48 = .ok (.iload_n 3, 1) := by decide +kernel
theorem dX2_atPlace_49 : decode cX2_atPlace 49 = .ok (.sipush 229, 3) := by decide +kernel
theorem dX2_atPlace_52 : decode cX2_atPlace 52 = .ok (.if_icmp .lt 5, 3) := by decide +kernel
theorem dX2_atPlace_55 : decode cX2_atPlace 55 = .ok (.iconst (-1), 1) := by decide +kernel
theorem dX2_atPlace_56 : decode cX2_atPlace 56 = .ok (.ireturn, 1) := by decide +kernel
theorem dX2_atPlace_57 : decode cX2_atPlace 57 = .ok (.aload_n 0, 1) := by decide +kernel
theorem dX2_atPlace_58 : decode cX2_atPlace 58 = .ok (.getfield 11, 3) := by decide +kernel
theorem dX2_atPlace_61 : decode cX2_atPlace 61 = .ok (.iload_n 3, 1) := by decide +kernel
theorem dX2_atPlace_62 : decode cX2_atPlace 62 = .ok (.laload, 1) := by decide +kernel
theorem dX2_atPlace_63 : decode cX2_atPlace 63 = .ok (.lstore 4, 2) := by decide +kernel
theorem dX2_atPlace_65 : decode cX2_atPlace 65 = .ok (.iconst 0, 1) := by decide +kernel
theorem dX2_atPlace_66 : decode cX2_atPlace 66 = .ok (.istore 6, 2) := by decide +kernel
theorem dX2_atPlace_68 : decode cX2_atPlace 68 = .ok (.iload 6, 2) := by decide +kernel
theorem dX2_atPlace_70 : decode cX2_atPlace 70 = .ok (.iload_n 2, 1) := by decide +kernel
theorem dX2_atPlace_71 : decode cX2_atPlace 71 = .ok (.if_icmp .ge 18, 3) := by decide +kernel
theorem dX2_atPlace_74 : decode cX2_atPlace 74 = .ok (.lload 4, 2) := by decide +kernel
theorem dX2_atPlace_76 : decode cX2_atPlace 76 = .ok (.lload 4, 2) := by decide +kernel
theorem dX2_atPlace_78 : decode cX2_atPlace 78 = .ok (.lconst 1, 1) := by decide +kernel
theorem dX2_atPlace_79 : decode cX2_atPlace 79 = .ok (.lsub, 1) := by decide +kernel
theorem dX2_atPlace_80 : decode cX2_atPlace 80 = .ok (.land, 1) := by decide +kernel
theorem dX2_atPlace_81 : decode cX2_atPlace 81 = .ok (.lstore 4, 2) := by decide +kernel
theorem dX2_atPlace_83 : decode cX2_atPlace 83 = .ok (.iinc 6 1, 3) := by decide +kernel
theorem dX2_atPlace_86 : decode cX2_atPlace 86 = .ok (.goto (-18), 3) := by decide +kernel
theorem dX2_atPlace_89 : decode cX2_atPlace 89 = .ok (.iload_n 3, 1) := by decide +kernel
theorem dX2_atPlace_90 : decode cX2_atPlace 90 = .ok (.bipush 64, 2) := by decide +kernel
theorem dX2_atPlace_92 : decode cX2_atPlace 92 = .ok (.imul, 1) := by decide +kernel
theorem dX2_atPlace_93 : decode cX2_atPlace 93 = .ok (.lload 4, 2) := by decide +kernel
theorem dX2_atPlace_95 : decode cX2_atPlace 95 = .ok (.lload 4, 2) := by decide +kernel
theorem dX2_atPlace_97 : decode cX2_atPlace 97 = .ok (.lneg, 1) := by decide +kernel
theorem dX2_atPlace_98 : decode cX2_atPlace 98 = .ok (.land, 1) := by decide +kernel
theorem dX2_atPlace_99 : decode cX2_atPlace 99 = .ok (.lconst 1, 1) := by decide +kernel
theorem dX2_atPlace_100 : decode cX2_atPlace 100 = .ok (.lsub, 1) := by decide +kernel
theorem dX2_atPlace_101 : decode cX2_atPlace 101 = .ok (.invokestatic 51, 3) := by decide +kernel
theorem dX2_atPlace_104 : decode cX2_atPlace 104 = .ok (.iadd, 1) := by decide +kernel
theorem dX2_atPlace_105 : decode cX2_atPlace 105 = .ok (.ireturn, 1) := by decide +kernel
theorem dX2_word_0 : decode cX2_word 0 = .ok (.iload_n 1, 1) := by decide +kernel
theorem dX2_word_1 : decode cX2_word 1 = .ok (.ifCond .lt 10, 3) := by decide +kernel
theorem dX2_word_4 : decode cX2_word 4 = .ok (.iload_n 1, 1) := by decide +kernel
theorem dX2_word_5 : decode cX2_word 5 = .ok (.sipush 229, 3) := by decide +kernel
theorem dX2_word_8 : decode cX2_word 8 = .ok (.if_icmp .lt 7, 3) := by decide +kernel
theorem dX2_word_11 : decode cX2_word 11 = .ok (.lconst 0, 1) := by decide +kernel
theorem dX2_word_12 : decode cX2_word 12 = .ok (.goto 9, 3) := by decide +kernel
theorem dX2_word_15 : decode cX2_word 15 = .ok (.aload_n 0, 1) := by decide +kernel
theorem dX2_word_16 : decode cX2_word 16 = .ok (.getfield 11, 3) := by decide +kernel
theorem dX2_word_19 : decode cX2_word 19 = .ok (.iload_n 1, 1) := by decide +kernel
theorem dX2_word_20 : decode cX2_word 20 = .ok (.laload, 1) := by decide +kernel
theorem dX2_word_21 : decode cX2_word 21 = .ok (.lreturn, 1) := by decide +kernel
theorem dX3_init_0 : decode cX3_init 0 = .ok (.aload_n 0, 1) := by decide +kernel
theorem dX3_init_1 : decode cX3_init 1 = .ok (.invokespecial 3, 3) := by decide +kernel
theorem dX3_init_4 : decode cX3_init 4 = .ok (.aload_n 0, 1) := by decide +kernel
theorem dX3_init_5 : decode cX3_init 5 = .ok (.new 9, 3) := by decide +kernel
theorem dX3_init_8 : decode cX3_init 8 = .ok (.dup, 1) := by decide +kernel
theorem dX3_init_9 : decode cX3_init 9 = .ok (.invokespecial 11, 3) := by decide +kernel
theorem dX3_init_12 : decode cX3_init 12 = .ok (.putfield 12, 3) := by decide +kernel
theorem dX3_init_15 : decode cX3_init 15 = .ok (.aload_n 0, 1) := by decide +kernel
theorem dX3_init_16 : decode cX3_init 16 = .ok (.sipush 366, 3) := by decide +kernel
theorem dX3_init_19 : decode cX3_init 19 = .ok (.newarray .int, 2) := by decide +kernel
theorem dX3_init_21 : decode cX3_init 21 = .ok (.putfield 18, 3) := by decide +kernel
theorem dX3_init_24 : decode cX3_init 24 = .ok (.return_, 1) := by decide +kernel
theorem dX3_calendarOf_0 : decode cX3_calendarOf 0 = .ok (.aload_n 0, 1) := by decide +kernel
theorem dX3_calendarOf_1 : decode cX3_calendarOf 1 = .ok (.getfield 12, 3) := by decide +kernel
theorem dX3_calendarOf_4 : decode cX3_calendarOf 4 = .ok (.iload_n 1, 1) := by decide +kernel
theorem dX3_calendarOf_5 : decode cX3_calendarOf 5 = .ok (.invokevirtual 22, 3) := by decide +kernel
theorem dX3_calendarOf_8 : decode cX3_calendarOf 8 = .ok (.iload_n 2, 1) := by decide +kernel
theorem dX3_calendarOf_9 : decode cX3_calendarOf 9 = .ok (.tableswitch 91 0 5 #[39, 51, 59, 67, 75, 83], 39) := by decide +kernel
theorem dX3_calendarOf_48 : decode cX3_calendarOf 48 = .ok (.sipush 2000, 3) := by decide +kernel
theorem dX3_calendarOf_51 : decode cX3_calendarOf 51 = .ok (.aload_n 0, 1) := by decide +kernel
theorem dX3_calendarOf_52 : decode cX3_calendarOf 52 = .ok (.getfield 12, 3) := by decide +kernel
theorem dX3_calendarOf_55 : decode cX3_calendarOf 55 = .ok (.getfield 26, 3) := by decide +kernel
theorem dX3_calendarOf_58 : decode cX3_calendarOf 58 = .ok (.iadd, 1) := by decide +kernel
theorem dX3_calendarOf_59 : decode cX3_calendarOf 59 = .ok (.ireturn, 1) := by decide +kernel
theorem dX3_calendarOf_60 : decode cX3_calendarOf 60 = .ok (.aload_n 0, 1) := by decide +kernel
theorem dX3_calendarOf_61 : decode cX3_calendarOf 61 = .ok (.getfield 12, 3) := by decide +kernel
theorem dX3_calendarOf_64 : decode cX3_calendarOf 64 = .ok (.getfield 30, 3) := by decide +kernel
theorem dX3_calendarOf_67 : decode cX3_calendarOf 67 = .ok (.ireturn, 1) := by decide +kernel
theorem dX3_calendarOf_68 : decode cX3_calendarOf 68 = .ok (.aload_n 0, 1) := by decide +kernel
theorem dX3_calendarOf_69 : decode cX3_calendarOf 69 = .ok (.getfield 12, 3) := by decide +kernel
theorem dX3_calendarOf_72 : decode cX3_calendarOf 72 = .ok (.getfield 33, 3) := by decide +kernel
theorem dX3_calendarOf_75 : decode cX3_calendarOf 75 = .ok (.ireturn, 1) := by decide +kernel
theorem dX3_calendarOf_76 : decode cX3_calendarOf 76 = .ok (.aload_n 0, 1) := by decide +kernel
theorem dX3_calendarOf_77 : decode cX3_calendarOf 77 = .ok (.getfield 12, 3) := by decide +kernel
theorem dX3_calendarOf_80 : decode cX3_calendarOf 80 = .ok (.getfield 36, 3) := by decide +kernel
theorem dX3_calendarOf_83 : decode cX3_calendarOf 83 = .ok (.ireturn, 1) := by decide +kernel
theorem dX3_calendarOf_84 : decode cX3_calendarOf 84 = .ok (.aload_n 0, 1) := by decide +kernel
theorem dX3_calendarOf_85 : decode cX3_calendarOf 85 = .ok (.getfield 12, 3) := by decide +kernel
theorem dX3_calendarOf_88 : decode cX3_calendarOf 88 = .ok (.getfield 39, 3) := by decide +kernel
theorem dX3_calendarOf_91 : decode cX3_calendarOf 91 = .ok (.ireturn, 1) := by decide +kernel
theorem dX3_calendarOf_92 : decode cX3_calendarOf 92 = .ok (.aload_n 0, 1) := by decide +kernel
theorem dX3_calendarOf_93 : decode cX3_calendarOf 93 = .ok (.getfield 12, 3) := by decide +kernel
theorem dX3_calendarOf_96 : decode cX3_calendarOf 96 = .ok (.getfield 42, 3) := by decide +kernel
theorem dX3_calendarOf_99 : decode cX3_calendarOf 99 = .ok (.ireturn, 1) := by decide +kernel
theorem dX3_calendarOf_100 : decode cX3_calendarOf 100 = .ok (.iconst (-1), 1) := by decide +kernel
theorem dX3_calendarOf_101 : decode cX3_calendarOf 101 = .ok (.ireturn, 1) := by decide +kernel
theorem dX3_gather_0 : decode cX3_gather 0 = .ok (.aload_n 1, 1) := by decide +kernel
theorem dX3_gather_1 : decode cX3_gather 1 = .ok (.getfield 45, 3) := by decide +kernel
theorem dX3_gather_4 : decode cX3_gather 4 = .ok (.iload_n 2, 1) := by decide +kernel
theorem dX3_gather_5 : decode cX3_gather 5 = .ok (.invokestatic 50, 3) := by decide +kernel
theorem dX3_gather_8 : decode cX3_gather 8 = .ok (.istore_n 3, 1) := by decide +kernel
theorem dX3_gather_9 : decode cX3_gather 9 = .ok (.sipush 14610, 3) := by decide +kernel
theorem dX3_gather_12 : decode cX3_gather 12 = .ok (.aload_n 1, 1) := by decide +kernel
theorem dX3_gather_13 : decode cX3_gather 13 = .ok (.getfield 45, 3) := by decide +kernel
theorem dX3_gather_16 : decode cX3_gather 16 = .ok (.iload_n 2, 1) := by decide +kernel
theorem dX3_gather_17 : decode cX3_gather 17 = .ok (.iconst 1, 1) := by decide +kernel
theorem dX3_gather_18 : decode cX3_gather 18 = .ok (.iadd, 1) := by decide +kernel
theorem dX3_gather_19 : decode cX3_gather 19 = .ok (.invokestatic 50, 3) := by decide +kernel
theorem dX3_gather_22 : decode cX3_gather 22 = .ok (.invokestatic 54, 3) := by decide +kernel
theorem dX3_gather_25 : decode cX3_gather 25 = .ok (.iconst 1, 1) := by decide +kernel
theorem dX3_gather_26 : decode cX3_gather 26 = .ok (.isub, 1) := by decide +kernel
theorem dX3_gather_27 : decode cX3_gather 27 = .ok (.istore 4, 2) := by decide +kernel
theorem dX3_gather_29 : decode cX3_gather 29 = .ok (.aload_n 0, 1) := by decide +kernel
theorem dX3_gather_30 : decode cX3_gather 30 = .ok (.iconst 0, 1) := by decide +kernel
theorem dX3_gather_31 : decode cX3_gather 31 = .ok (.putfield 59, 3) := by decide +kernel
theorem dX3_gather_34 : decode cX3_gather 34 = .ok (.aload_n 0, 1) := by decide +kernel
theorem dX3_gather_35 : decode cX3_gather 35 = .ok (.getfield 12, 3) := by decide +kernel
theorem dX3_gather_38 : decode cX3_gather 38 = .ok (.iload_n 3, 1) := by decide +kernel
theorem dX3_gather_39 : decode cX3_gather 39 = .ok (.invokevirtual 22, 3) := by decide +kernel
theorem dX3_gather_42 : decode cX3_gather 42 = .ok (.iload_n 3, 1) := by decide +kernel
theorem dX3_gather_43 : decode cX3_gather 43 = .ok (.istore 5, 2) := by decide +kernel
theorem dX3_gather_45 : decode cX3_gather 45 = .ok (.iload 5, 2) := by decide +kernel
theorem dX3_gather_47 : decode cX3_gather 47 = .ok (.iload 4, 2) := by decide +kernel
theorem dX3_gather_49 : decode cX3_gather 49 = .ok (.if_icmp .gt 60, 3) := by decide +kernel
theorem dX3_gather_52 : decode cX3_gather 52 = .ok (.aload_n 0, 1) := by decide +kernel
theorem dX3_gather_53 : decode cX3_gather 53 = .ok (.getfield 59, 3) := by decide +kernel
theorem dX3_gather_56 : decode cX3_gather 56 = .ok (.aload_n 0, 1) := by decide +kernel
theorem dX3_gather_57 : decode cX3_gather 57 = .ok (.getfield 18, 3) := by decide +kernel
theorem dX3_gather_60 : decode cX3_gather 60 = .ok (.arraylength, 1) := by decide +kernel
theorem dX3_gather_61 : decode cX3_gather 61 = .ok (.if_icmp .ge 48, 3) := by decide +kernel
theorem dX3_gather_64 : decode cX3_gather 64 = .ok (.aload_n 1, 1) := by decide +kernel
theorem dX3_gather_65 : decode cX3_gather 65 = .ok (.aload_n 0, 1) := by decide +kernel
theorem dX3_gather_66 : decode cX3_gather 66 = .ok (.getfield 12, 3) := by decide +kernel
theorem dX3_gather_69 : decode cX3_gather 69 = .ok (.invokevirtual 62, 3) := by decide +kernel
theorem dX3_gather_72 : decode cX3_gather 72 = .ok (.ifCond .eq 24, 3) := by decide +kernel
theorem dX3_gather_75 : decode cX3_gather 75 = .ok (.aload_n 0, 1) := by decide +kernel
theorem dX3_gather_76 : decode cX3_gather 76 = .ok (.getfield 18, 3) := by decide +kernel
theorem dX3_gather_79 : decode cX3_gather 79 = .ok (.aload_n 0, 1) := by decide +kernel
theorem dX3_gather_80 : decode cX3_gather 80 = .ok (.getfield 59, 3) := by decide +kernel
theorem dX3_gather_83 : decode cX3_gather 83 = .ok (.iload 5, 2) := by decide +kernel
theorem dX3_gather_85 : decode cX3_gather 85 = .ok (.iastore, 1) := by decide +kernel
theorem dX3_gather_86 : decode cX3_gather 86 = .ok (.aload_n 0, 1) := by decide +kernel
theorem dX3_gather_87 : decode cX3_gather 87 = .ok (.dup, 1) := by decide +kernel
theorem dX3_gather_88 : decode cX3_gather 88 = .ok (.getfield 59, 3) := by decide +kernel
theorem dX3_gather_91 : decode cX3_gather 91 = .ok (.iconst 1, 1) := by decide +kernel
theorem dX3_gather_92 : decode cX3_gather 92 = .ok (.iadd, 1) := by decide +kernel
theorem dX3_gather_93 : decode cX3_gather 93 = .ok (.putfield 59, 3) := by decide +kernel
theorem dX3_gather_96 : decode cX3_gather 96 = .ok (.aload_n 0, 1) := by decide +kernel
theorem dX3_gather_97 : decode cX3_gather 97 = .ok (.getfield 12, 3) := by decide +kernel
theorem dX3_gather_100 : decode cX3_gather 100 = .ok (.invokevirtual 66, 3) := by decide +kernel
theorem dX3_gather_103 : decode cX3_gather 103 = .ok (.iinc 5 1, 3) := by decide +kernel
theorem dX3_gather_106 : decode cX3_gather 106 = .ok (.goto (-61), 3) := by decide +kernel
theorem dX3_gather_109 : decode cX3_gather 109 = .ok (.return_, 1) := by decide +kernel
theorem dX3_keepPlaces_0 : decode cX3_keepPlaces 0 = .ok (.aload_n 1, 1) := by decide +kernel
theorem dX3_keepPlaces_1 : decode cX3_keepPlaces 1 = .ok (.getfield 69, 3) := by decide +kernel
theorem dX3_keepPlaces_4 : decode cX3_keepPlaces 4 = .ok (.getfield 73, 3) := by decide +kernel
theorem dX3_keepPlaces_7 : decode cX3_keepPlaces 7 = .ok (.ifCond .ne 4, 3) := by decide +kernel
theorem dX3_keepPlaces_10 : decode cX3_keepPlaces 10 = .ok (.return_, 1) := by decide +kernel
theorem dX3_keepPlaces_11 : decode cX3_keepPlaces 11 = .ok (.iconst 0, 1) := by decide +kernel
theorem dX3_keepPlaces_12 : decode cX3_keepPlaces 12 = .ok (.istore_n 2, 1) := by decide +kernel
theorem dX3_keepPlaces_13 : decode cX3_keepPlaces 13 = .ok (.iconst 0, 1) := by decide +kernel
theorem dX3_keepPlaces_14 : decode cX3_keepPlaces 14 = .ok (.istore_n 3, 1) := by decide +kernel
theorem dX3_keepPlaces_15 : decode cX3_keepPlaces 15 = .ok (.iload_n 3, 1) := by decide +kernel
theorem dX3_keepPlaces_16 : decode cX3_keepPlaces 16 = .ok (.aload_n 0, 1) := by decide +kernel
theorem dX3_keepPlaces_17 : decode cX3_keepPlaces 17 = .ok (.getfield 59, 3) := by decide +kernel
theorem dX3_keepPlaces_20 : decode cX3_keepPlaces 20 = .ok (.if_icmp .ge 64, 3) := by decide +kernel
theorem dX3_keepPlaces_23 : decode cX3_keepPlaces 23 = .ok (.iload_n 3, 1) := by decide +kernel
theorem dX3_keepPlaces_24 : decode cX3_keepPlaces 24 = .ok (.aload_n 0, 1) := by decide +kernel
theorem dX3_keepPlaces_25 : decode cX3_keepPlaces 25 = .ok (.getfield 18, 3) := by decide +kernel
theorem dX3_keepPlaces_28 : decode cX3_keepPlaces 28 = .ok (.arraylength, 1) := by decide +kernel
theorem dX3_keepPlaces_29 : decode cX3_keepPlaces 29 = .ok (.if_icmp .ge 55, 3) := by decide +kernel
theorem dX3_keepPlaces_32 : decode cX3_keepPlaces 32 = .ok (.aload_n 1, 1) := by decide +kernel
theorem dX3_keepPlaces_33 : decode cX3_keepPlaces 33 = .ok (.getfield 69, 3) := by decide +kernel
theorem dX3_keepPlaces_36 : decode cX3_keepPlaces 36 = .ok (.iload_n 3, 1) := by decide +kernel
theorem dX3_keepPlaces_37 : decode cX3_keepPlaces 37 = .ok (.iconst 1, 1) := by decide +kernel
theorem dX3_keepPlaces_38 : decode cX3_keepPlaces 38 = .ok (.iadd, 1) := by decide +kernel
theorem dX3_keepPlaces_39 : decode cX3_keepPlaces 39 = .ok (.invokevirtual 76, 3) := by decide +kernel
theorem dX3_keepPlaces_42 : decode cX3_keepPlaces 42 = .ok (.iconst (-1), 1) := by decide +kernel
theorem dX3_keepPlaces_43 : decode cX3_keepPlaces 43 = .ok (.if_icmp .ne 20, 3) := by decide +kernel
theorem dX3_keepPlaces_46 : decode cX3_keepPlaces 46 = .ok (.aload_n 1, 1) := by decide +kernel
theorem dX3_keepPlaces_47 : decode cX3_keepPlaces 47 = .ok (.getfield 69, 3) := by decide +kernel
theorem dX3_keepPlaces_50 : decode cX3_keepPlaces 50 = .ok (.iload_n 3, 1) := by decide +kernel
theorem dX3_keepPlaces_51 : decode cX3_keepPlaces 51 = .ok (.aload_n 0, 1) := by decide +kernel
theorem dX3_keepPlaces_52 : decode cX3_keepPlaces 52 = .ok (.getfield 59, 3) := by decide +kernel
theorem dX3_keepPlaces_55 : decode cX3_keepPlaces 55 = .ok (.isub, 1) := by decide +kernel
theorem dX3_keepPlaces_56 : decode cX3_keepPlaces 56 = .ok (.invokevirtual 76, 3) := by decide +kernel
theorem dX3_keepPlaces_59 : decode cX3_keepPlaces 59 = .ok (.iconst (-1), 1) := by decide +kernel
theorem dX3_keepPlaces_60 : decode cX3_keepPlaces 60 = .ok (.if_icmp .eq 18, 3) := by decide +kernel
theorem dX3_keepPlaces_63 : decode cX3_keepPlaces 63 = .ok (.aload_n 0, 1) := by decide +kernel
theorem dX3_keepPlaces_64 : decode cX3_keepPlaces 64 = .ok (.getfield 18, 3) := by decide +kernel
theorem dX3_keepPlaces_67 : decode cX3_keepPlaces 67 = .ok (.iload_n 2, 1) := by decide +kernel
theorem dX3_keepPlaces_68 : decode cX3_keepPlaces 68 = .ok (.aload_n 0, 1) := by decide +kernel
theorem dX3_keepPlaces_69 : decode cX3_keepPlaces 69 = .ok (.getfield 18, 3) := by decide +kernel
theorem dX3_keepPlaces_72 : decode cX3_keepPlaces 72 = .ok (.iload_n 3, 1) := by decide +kernel
theorem dX3_keepPlaces_73 : decode cX3_keepPlaces 73 = .ok (.iaload, 1) := by decide +kernel
theorem dX3_keepPlaces_74 : decode cX3_keepPlaces 74 = .ok (.iastore, 1) := by decide +kernel
theorem dX3_keepPlaces_75 : decode cX3_keepPlaces 75 = .ok (.iinc 2 1, 3) := by decide +kernel
theorem dX3_keepPlaces_78 : decode cX3_keepPlaces 78 = .ok (.iinc 3 1, 3) := by decide +kernel
theorem dX3_keepPlaces_81 : decode cX3_keepPlaces 81 = .ok (.goto (-66), 3) := by decide +kernel
theorem dX3_keepPlaces_84 : decode cX3_keepPlaces 84 = .ok (.aload_n 0, 1) := by decide +kernel
theorem dX3_keepPlaces_85 : decode cX3_keepPlaces 85 = .ok (.iload_n 2, 1) := by decide +kernel
theorem dX3_keepPlaces_86 : decode cX3_keepPlaces 86 = .ok (.putfield 59, 3) := by decide +kernel
theorem dX3_keepPlaces_89 : decode cX3_keepPlaces 89 = .ok (.return_, 1) := by decide +kernel
theorem dX3_fill_0 : decode cX3_fill 0 = .ok (.aload_n 1, 1) := by decide +kernel
theorem dX3_fill_1 : decode cX3_fill 1 = .ok (.getfield 80, 3) := by decide +kernel
theorem dX3_fill_4 : decode cX3_fill 4 = .ok (.iconst (-1), 1) := by decide +kernel
theorem dX3_fill_5 : decode cX3_fill 5 = .ok (.if_icmp .ne 9, 3) := by decide +kernel
theorem dX3_fill_8 : decode cX3_fill 8 = .ok (.sipush 14609, 3) := by decide +kernel
theorem dX3_fill_11 : decode cX3_fill 11 = .ok (.goto 7, 3) := by decide +kernel
theorem dX3_fill_14 : decode cX3_fill 14 = .ok (.aload_n 1, 1) := by decide +kernel
theorem dX3_fill_15 : decode cX3_fill 15 = .ok (.getfield 80, 3) := by decide +kernel
theorem dX3_fill_18 : decode cX3_fill 18 = .ok (.istore 4, 2) := by decide +kernel
theorem dX3_fill_20 : decode cX3_fill 20 = .ok (.aload_n 1, 1) := by decide +kernel
theorem dX3_fill_21 : decode cX3_fill 21 = .ok (.getfield 83, 3) := by decide +kernel
theorem dX3_fill_24 : decode cX3_fill 24 = .ok (.iconst (-1), 1) := by decide +kernel
theorem dX3_fill_25 : decode cX3_fill 25 = .ok (.if_icmp .ne 9, 3) := by decide +kernel
theorem dX3_fill_28 : decode cX3_fill 28 = .ok (.sipush 14610, 3) := by decide +kernel
theorem dX3_fill_31 : decode cX3_fill 31 = .ok (.goto 7, 3) := by decide +kernel
theorem dX3_fill_34 : decode cX3_fill 34 = .ok (.aload_n 1, 1) := by decide +kernel
theorem dX3_fill_35 : decode cX3_fill 35 = .ok (.getfield 83, 3) := by decide +kernel
theorem dX3_fill_38 : decode cX3_fill 38 = .ok (.istore 5, 2) := by decide +kernel
theorem dX3_fill_40 : decode cX3_fill 40 = .ok (.aload_n 1, 1) := by decide +kernel
theorem dX3_fill_41 : decode cX3_fill 41 = .ok (.getfield 45, 3) := by decide +kernel
theorem dX3_fill_44 : decode cX3_fill 44 = .ok (.aload_n 1, 1) := by decide +kernel
theorem dX3_fill_45 : decode cX3_fill 45 = .ok (.getfield 86, 3) := by decide +kernel
theorem dX3_fill_48 : decode cX3_fill 48 = .ok (.invokestatic 89, 3) := by decide +kernel
theorem dX3_fill_51 : decode cX3_fill 51 = .ok (.istore 6, 2) := by decide +kernel
theorem dX3_fill_53 : decode cX3_fill 53 = .ok (.aload_n 3, 1) := by decide +kernel
theorem dX3_fill_54 : decode cX3_fill 54 = .ok (.invokevirtual 92, 3) := by decide +kernel
theorem dX3_fill_57 : decode cX3_fill 57 = .ok (.iconst 0, 1) := by decide +kernel
theorem dX3_fill_58 : decode cX3_fill 58 = .ok (.istore 7, 2) := by decide +kernel
theorem dX3_fill_60 : decode cX3_fill 60 = .ok (.iload 7, 2) := by decide +kernel
theorem dX3_fill_62 : decode cX3_fill 62 = .ok (.sipush 14610, 3) := by decide +kernel
theorem dX3_fill_65 : decode cX3_fill 65 = .ok (.if_icmp .ge 119, 3) := by decide +kernel
theorem dX3_fill_68 : decode cX3_fill 68 = .ok (.iload 5, 2) := by decide +kernel
theorem dX3_fill_70 : decode cX3_fill 70 = .ok (.ifCond .le 114, 3) := by decide +kernel
theorem dX3_fill_73 : decode cX3_fill 73 = .ok (.aload_n 1, 1) := by decide +kernel
theorem dX3_fill_74 : decode cX3_fill 74 = .ok (.getfield 45, 3) := by decide +kernel
theorem dX3_fill_77 : decode cX3_fill 77 = .ok (.iload 6, 2) := by decide +kernel
theorem dX3_fill_79 : decode cX3_fill 79 = .ok (.invokestatic 50, 3) := by decide +kernel
theorem dX3_fill_82 : decode cX3_fill 82 = .ok (.iload 4, 2) := by decide +kernel
theorem dX3_fill_84 : decode cX3_fill 84 = .ok (.if_icmp .gt 100, 3) := by decide +kernel
theorem dX3_fill_87 : decode cX3_fill 87 = .ok (.aload_n 0, 1) := by decide +kernel
theorem dX3_fill_88 : decode cX3_fill 88 = .ok (.aload_n 1, 1) := by decide +kernel
theorem dX3_fill_89 : decode cX3_fill 89 = .ok (.iload 6, 2) := by decide +kernel
theorem dX3_fill_91 : decode cX3_fill 91 = .ok (.invokevirtual 97, 3) := by decide +kernel
theorem dX3_fill_94 : decode cX3_fill 94 = .ok (.aload_n 0, 1) := by decide +kernel
theorem dX3_fill_95 : decode cX3_fill 95 = .ok (.aload_n 1, 1) := by decide +kernel
theorem dX3_fill_96 : decode cX3_fill 96 = .ok (.invokevirtual 101, 3) := by decide +kernel
theorem dX3_fill_99 : decode cX3_fill 99 = .ok (.iconst 0, 1) := by decide +kernel
theorem dX3_fill_100 : decode cX3_fill 100 = .ok (.istore 8, 2) := by decide +kernel
theorem dX3_fill_102 : decode cX3_fill 102 = .ok (.iload 8, 2) := by decide +kernel
theorem dX3_fill_104 : decode cX3_fill 104 = .ok (.aload_n 0, 1) := by decide +kernel
theorem dX3_fill_105 : decode cX3_fill 105 = .ok (.getfield 59, 3) := by decide +kernel
theorem dX3_fill_108 : decode cX3_fill 108 = .ok (.if_icmp .ge 64, 3) := by decide +kernel
theorem dX3_fill_111 : decode cX3_fill 111 = .ok (.iload 8, 2) := by decide +kernel
theorem dX3_fill_113 : decode cX3_fill 113 = .ok (.aload_n 0, 1) := by decide +kernel
theorem dX3_fill_114 : decode cX3_fill 114 = .ok (.getfield 18, 3) := by decide +kernel
theorem dX3_fill_117 : decode cX3_fill 117 = .ok (.arraylength, 1) := by decide +kernel
theorem dX3_fill_118 : decode cX3_fill 118 = .ok (.if_icmp .ge 54, 3) := by decide +kernel
theorem dX3_fill_121 : decode cX3_fill 121 = .ok (.iload 5, 2) := by decide +kernel
theorem dX3_fill_123 : decode cX3_fill 123 = .ok (.ifCond .le 49, 3) := by decide +kernel
theorem dX3_fill_126 : decode cX3_fill 126 = .ok (.aload_n 0, 1) := by decide +kernel
theorem dX3_fill_127 : decode cX3_fill 127 = .ok (.getfield 18, 3) := by decide +kernel
theorem dX3_fill_130 : decode cX3_fill 130 = .ok (.iload 8, 2) := by decide +kernel
theorem dX3_fill_132 : decode cX3_fill 132 = .ok (.iaload, 1) := by decide +kernel
theorem dX3_fill_133 : decode cX3_fill 133 = .ok (.aload_n 1, 1) := by decide +kernel
theorem dX3_fill_134 : decode cX3_fill 134 = .ok (.getfield 86, 3) := by decide +kernel
theorem dX3_fill_137 : decode cX3_fill 137 = .ok (.if_icmp .lt 29, 3) := by decide +kernel
theorem dX3_fill_140 : decode cX3_fill 140 = .ok (.aload_n 0, 1) := by decide +kernel
theorem dX3_fill_141 : decode cX3_fill 141 = .ok (.getfield 18, 3) := by decide +kernel
theorem dX3_fill_144 : decode cX3_fill 144 = .ok (.iload 8, 2) := by decide +kernel
theorem dX3_fill_146 : decode cX3_fill 146 = .ok (.iaload, 1) := by decide +kernel
theorem dX3_fill_147 : decode cX3_fill 147 = .ok (.iload 4, 2) := by decide +kernel
theorem dX3_fill_149 : decode cX3_fill 149 = .ok (.if_icmp .gt 17, 3) := by decide +kernel
theorem dX3_fill_152 : decode cX3_fill 152 = .ok (.aload_n 3, 1) := by decide +kernel
theorem dX3_fill_153 : decode cX3_fill 153 = .ok (.aload_n 0, 1) := by decide +kernel
theorem dX3_fill_154 : decode cX3_fill 154 = .ok (.getfield 18, 3) := by decide +kernel
theorem dX3_fill_157 : decode cX3_fill 157 = .ok (.iload 8, 2) := by decide +kernel
theorem dX3_fill_159 : decode cX3_fill 159 = .ok (.iaload, 1) := by decide +kernel
theorem dX3_fill_160 : decode cX3_fill 160 = .ok (.invokevirtual 105, 3) := by decide +kernel
theorem dX3_fill_163 : decode cX3_fill 163 = .ok (.iinc 5 (-1), 3) := by decide +kernel
theorem dX3_fill_166 : decode cX3_fill 166 = .ok (.iinc 8 1, 3) := by decide +kernel
theorem dX3_fill_169 : decode cX3_fill 169 = .ok (.goto (-67), 3) := by decide +kernel
theorem dX3_fill_172 : decode cX3_fill 172 = .ok (.iload 6, 2) := by decide +kernel
theorem dX3_fill_174 : decode cX3_fill 174 = .ok (.iload_n 2, 1) := by decide +kernel
theorem dX3_fill_175 : decode cX3_fill 175 = .ok (.iadd, 1) := by decide +kernel
theorem dX3_fill_176 : decode cX3_fill 176 = .ok (.istore 6, 2) := by decide +kernel
theorem dX3_fill_178 : decode cX3_fill 178 = .ok (.iinc 7 1, 3) := by decide +kernel
theorem dX3_fill_181 : decode cX3_fill 181 = .ok (.goto (-121), 3) := by decide +kernel
theorem dX3_fill_184 : decode cX3_fill 184 = .ok (.return_, 1) := by decide +kernel
theorem dX4_init_0 : decode cX4_init 0 = .ok (.aload_n 0, 1) := by decide +kernel
theorem dX4_init_1 : decode cX4_init 1 = .ok (.invokespecial 3, 3) := by decide +kernel
theorem dX4_init_4 : decode cX4_init 4 = .ok (.aload_n 0, 1) := by decide +kernel
theorem dX4_init_5 : decode cX4_init 5 = .ok (.bipush 20, 2) := by decide +kernel
theorem dX4_init_7 : decode cX4_init 7 = .ok (.newarray .int, 2) := by decide +kernel
theorem dX4_init_9 : decode cX4_init 9 = .ok (.putfield 9, 3) := by decide +kernel
theorem dX4_init_12 : decode cX4_init 12 = .ok (.aload_n 0, 1) := by decide +kernel
theorem dX4_init_13 : decode cX4_init 13 = .ok (.bipush 20, 2) := by decide +kernel
theorem dX4_init_15 : decode cX4_init 15 = .ok (.newarray .int, 2) := by decide +kernel
theorem dX4_init_17 : decode cX4_init 17 = .ok (.putfield 15, 3) := by decide +kernel
theorem dX4_init_20 : decode cX4_init 20 = .ok (.aload_n 0, 1) := by decide +kernel
theorem dX4_init_21 : decode cX4_init 21 = .ok (.bipush 20, 2) := by decide +kernel
theorem dX4_init_23 : decode cX4_init 23 = .ok (.newarray .int, 2) := by decide +kernel
theorem dX4_init_25 : decode cX4_init 25 = .ok (.putfield 18, 3) := by decide +kernel
theorem dX4_init_28 : decode cX4_init 28 = .ok (.aload_n 0, 1) := by decide +kernel
theorem dX4_init_29 : decode cX4_init 29 = .ok (.bipush 20, 2) := by decide +kernel
theorem dX4_init_31 : decode cX4_init 31 = .ok (.anewarray 21, 3) := by decide +kernel
theorem dX4_init_34 : decode cX4_init 34 = .ok (.putfield 23, 3) := by decide +kernel
theorem dX4_init_37 : decode cX4_init 37 = .ok (.iconst 0, 1) := by decide +kernel
theorem dX4_init_38 : decode cX4_init 38 = .ok (.istore_n 1, 1) := by decide +kernel
theorem dX4_init_39 : decode cX4_init 39 = .ok (.iload_n 1, 1) := by decide +kernel
theorem dX4_init_40 : decode cX4_init 40 = .ok (.bipush 20, 2) := by decide +kernel
theorem dX4_init_42 : decode cX4_init 42 = .ok (.if_icmp .ge 24, 3) := by decide +kernel
theorem dX4_init_45 : decode cX4_init 45 = .ok (.aload_n 0, 1) := by decide +kernel
theorem dX4_init_46 : decode cX4_init 46 = .ok (.getfield 23, 3) := by decide +kernel
theorem dX4_init_49 : decode cX4_init 49 = .ok (.iload_n 1, 1) := by decide +kernel
theorem dX4_init_50 : decode cX4_init 50 = .ok (.new 21, 3) := by decide +kernel
theorem dX4_init_53 : decode cX4_init 53 = .ok (.dup, 1) := by decide +kernel
theorem dX4_init_54 : decode cX4_init 54 = .ok (.bipush 40, 2) := by decide +kernel
theorem dX4_init_56 : decode cX4_init 56 = .ok (.invokespecial 27, 3) := by decide +kernel
theorem dX4_init_59 : decode cX4_init 59 = .ok (.aastore, 1) := by decide +kernel
theorem dX4_init_60 : decode cX4_init 60 = .ok (.iinc 1 1, 3) := by decide +kernel
theorem dX4_init_63 : decode cX4_init 63 = .ok (.goto (-24), 3) := by decide +kernel
theorem dX4_init_66 : decode cX4_init 66 = .ok (.return_, 1) := by decide +kernel
theorem dX4_clear_0 : decode cX4_clear 0 = .ok (.aload_n 0, 1) := by decide +kernel
theorem dX4_clear_1 : decode cX4_clear 1 = .ok (.iconst 0, 1) := by decide +kernel
theorem dX4_clear_2 : decode cX4_clear 2 = .ok (.putfield 30, 3) := by decide +kernel
theorem dX4_clear_5 : decode cX4_clear 5 = .ok (.return_, 1) := by decide +kernel
theorem dX4_openMarks_0 : decode cX4_openMarks 0 = .ok (.aload_n 0, 1) := by decide +kernel
theorem dX4_openMarks_1 : decode cX4_openMarks 1 = .ok (.iconst 0, 1) := by decide +kernel
theorem dX4_openMarks_2 : decode cX4_openMarks 2 = .ok (.iconst (-1), 1) := by decide +kernel
theorem dX4_openMarks_3 : decode cX4_openMarks 3 = .ok (.iconst (-1), 1) := by decide +kernel
theorem dX4_openMarks_4 : decode cX4_openMarks 4 = .ok (.invokevirtual 34, 3) := by decide +kernel
theorem dX4_openMarks_7 : decode cX4_openMarks 7 = .ok (.return_, 1) := by decide +kernel
theorem dX4_openRule_0 : decode cX4_openRule 0 = .ok (.aload_n 0, 1) := by decide +kernel
theorem dX4_openRule_1 : decode cX4_openRule 1 = .ok (.aload_n 0, 1) := by decide +kernel
theorem dX4_openRule_2 : decode cX4_openRule 2 = .ok (.getfield 38, 3) := by decide +kernel
theorem dX4_openRule_5 : decode cX4_openRule 5 = .ok (.iconst 1, 1) := by decide +kernel
theorem dX4_openRule_6 : decode cX4_openRule 6 = .ok (.iadd, 1) := by decide +kernel
theorem dX4_openRule_7 : decode cX4_openRule 7 = .ok (.bipush 20, 2) := by decide +kernel
theorem dX4_openRule_9 : decode cX4_openRule 9 = .ok (.irem, 1) := by decide +kernel
theorem dX4_openRule_10 : decode cX4_openRule 10 = .ok (.putfield 38, 3) := by decide +kernel
theorem dX4_openRule_13 : decode cX4_openRule 13 = .ok (.aload_n 0, 1) := by decide +kernel
theorem dX4_openRule_14 : decode cX4_openRule 14 = .ok (.bipush 20, 2) := by decide +kernel
theorem dX4_openRule_16 : decode cX4_openRule 16 = .ok (.aload_n 0, 1) := by decide +kernel
theorem dX4_openRule_17 : decode cX4_openRule 17 = .ok (.getfield 30, 3) := by decide +kernel
theorem dX4_openRule_20 : decode cX4_openRule 20 = .ok (.iconst 1, 1) := by decide +kernel
theorem dX4_openRule_21 : decode cX4_openRule 21 = .ok (.iadd, 1) := by decide +kernel
theorem dX4_openRule_22 : decode cX4_openRule 22 = .ok (.invokestatic 41, 3) := by decide +kernel
theorem dX4_openRule_25 : decode cX4_openRule 25 = .ok (.putfield 30, 3) := by decide +kernel
theorem dX4_openRule_28 : decode cX4_openRule 28 = .ok (.aload_n 0, 1) := by decide +kernel
theorem dX4_openRule_29 : decode cX4_openRule 29 = .ok (.getfield 9, 3) := by decide +kernel
theorem dX4_openRule_32 : decode cX4_openRule 32 = .ok (.aload_n 0, 1) := by decide +kernel
theorem dX4_openRule_33 : decode cX4_openRule 33 = .ok (.getfield 38, 3) := by decide +kernel
theorem dX4_openRule_36 : decode cX4_openRule 36 = .ok (.iload_n 1, 1) := by decide +kernel
theorem dX4_openRule_37 : decode cX4_openRule 37 = .ok (.iastore, 1) := by decide +kernel
theorem dX4_openRule_38 : decode cX4_openRule 38 = .ok (.aload_n 0, 1) := by decide +kernel
theorem dX4_openRule_39 : decode cX4_openRule 39 = .ok (.getfield 15, 3) := by decide +kernel
theorem dX4_openRule_42 : decode cX4_openRule 42 = .ok (.aload_n 0, 1) := by decide +kernel
theorem dX4_openRule_43 : decode cX4_openRule 43 = .ok (.getfield 38, 3) := by decide +kernel
theorem dX4_openRule_46 : decode cX4_openRule 46 = .ok (.iload_n 2, 1) := by decide +kernel
theorem dX4_openRule_47 : decode cX4_openRule 47 = .ok (.iastore, 1) := by decide +kernel
theorem dX4_openRule_48 : decode cX4_openRule 48 = .ok (.aload_n 0, 1) := by decide +kernel
theorem dX4_openRule_49 : decode cX4_openRule 49 = .ok (.getfield 18, 3) := by decide +kernel
theorem dX4_openRule_52 : decode cX4_openRule 52 = .ok (.aload_n 0, 1) := by decide +kernel
theorem dX4_openRule_53 : decode cX4_openRule 53 = .ok (.getfield 38, 3) := by decide +kernel
theorem dX4_openRule_56 : decode cX4_openRule 56 = .ok (.iload_n 3, 1) := by decide +kernel
theorem dX4_openRule_57 : decode cX4_openRule 57 = .ok (.iastore, 1) := by decide +kernel
theorem dX4_openRule_58 : decode cX4_openRule 58 = .ok (.aload_n 0, 1) := by decide +kernel
theorem dX4_openRule_59 : decode cX4_openRule 59 = .ok (.getfield 23, 3) := by decide +kernel
theorem dX4_openRule_62 : decode cX4_openRule 62 = .ok (.aload_n 0, 1) := by decide +kernel
theorem dX4_openRule_63 : decode cX4_openRule 63 = .ok (.getfield 38, 3) := by decide +kernel
theorem dX4_openRule_66 : decode cX4_openRule 66 = .ok (.aaload, 1) := by decide +kernel
theorem dX4_openRule_67 : decode cX4_openRule 67 = .ok (.invokevirtual 47, 3) := by decide +kernel
theorem dX4_openRule_70 : decode cX4_openRule 70 = .ok (.return_, 1) := by decide +kernel
theorem dX4_latestKind_0 : decode cX4_latestKind 0 = .ok (.aload_n 0, 1) := by decide +kernel
theorem dX4_latestKind_1 : decode cX4_latestKind 1 = .ok (.getfield 9, 3) := by decide +kernel
theorem dX4_latestKind_4 : decode cX4_latestKind 4 = .ok (.aload_n 0, 1) := by decide +kernel
theorem dX4_latestKind_5 : decode cX4_latestKind 5 = .ok (.getfield 38, 3) := by decide +kernel
theorem dX4_latestKind_8 : decode cX4_latestKind 8 = .ok (.iaload, 1) := by decide +kernel
theorem dX4_latestKind_9 : decode cX4_latestKind 9 = .ok (.ireturn, 1) := by decide +kernel
theorem dX4_latestRule_0 : decode cX4_latestRule 0 = .ok (.aload_n 0, 1) := by decide +kernel
theorem dX4_latestRule_1 : decode cX4_latestRule 1 = .ok (.getfield 15, 3) := by decide +kernel
theorem dX4_latestRule_4 : decode cX4_latestRule 4 = .ok (.aload_n 0, 1) := by decide +kernel
theorem dX4_latestRule_5 : decode cX4_latestRule 5 = .ok (.getfield 38, 3) := by decide +kernel
theorem dX4_latestRule_8 : decode cX4_latestRule 8 = .ok (.iaload, 1) := by decide +kernel
theorem dX4_latestRule_9 : decode cX4_latestRule 9 = .ok (.ireturn, 1) := by decide +kernel
theorem dX4_latestBefore_0 : decode cX4_latestBefore 0 = .ok (.aload_n 0, 1) := by decide +kernel
theorem dX4_latestBefore_1 : decode cX4_latestBefore 1 = .ok (.getfield 18, 3) := by decide +kernel
theorem dX4_latestBefore_4 : decode cX4_latestBefore 4 = .ok (.aload_n 0, 1) := by decide +kernel
theorem dX4_latestBefore_5 : decode cX4_latestBefore 5 = .ok (.getfield 38, 3) := by decide +kernel
theorem dX4_latestBefore_8 : decode cX4_latestBefore 8 = .ok (.iaload, 1) := by decide +kernel
theorem dX4_latestBefore_9 : decode cX4_latestBefore 9 = .ok (.ireturn, 1) := by decide +kernel
theorem dX4_latestChanges_0 : decode cX4_latestChanges 0 = .ok (.aload_n 0, 1) := by decide +kernel
theorem dX4_latestChanges_1 : decode cX4_latestChanges 1 = .ok (.getfield 23, 3) := by decide +kernel
theorem dX4_latestChanges_4 : decode cX4_latestChanges 4 = .ok (.aload_n 0, 1) := by decide +kernel
theorem dX4_latestChanges_5 : decode cX4_latestChanges 5 = .ok (.getfield 38, 3) := by decide +kernel
theorem dX4_latestChanges_8 : decode cX4_latestChanges 8 = .ok (.aaload, 1) := by decide +kernel
theorem dX4_latestChanges_9 : decode cX4_latestChanges 9 = .ok (.areturn, 1) := by decide +kernel
theorem dX4_drop_0 : decode cX4_drop 0 = .ok (.aload_n 0, 1) := by decide +kernel
theorem dX4_drop_1 : decode cX4_drop 1 = .ok (.aload_n 0, 1) := by decide +kernel
theorem dX4_drop_2 : decode cX4_drop 2 = .ok (.getfield 38, 3) := by decide +kernel
theorem dX4_drop_5 : decode cX4_drop 5 = .ok (.bipush 20, 2) := by decide +kernel
theorem dX4_drop_7 : decode cX4_drop 7 = .ok (.iadd, 1) := by decide +kernel
theorem dX4_drop_8 : decode cX4_drop 8 = .ok (.iconst 1, 1) := by decide +kernel
theorem dX4_drop_9 : decode cX4_drop 9 = .ok (.isub, 1) := by decide +kernel
theorem dX4_drop_10 : decode cX4_drop 10 = .ok (.bipush 20, 2) := by decide +kernel
theorem dX4_drop_12 : decode cX4_drop 12 = .ok (.irem, 1) := by decide +kernel
theorem dX4_drop_13 : decode cX4_drop 13 = .ok (.putfield 38, 3) := by decide +kernel
theorem dX4_drop_16 : decode cX4_drop 16 = .ok (.aload_n 0, 1) := by decide +kernel
theorem dX4_drop_17 : decode cX4_drop 17 = .ok (.iconst 0, 1) := by decide +kernel
theorem dX4_drop_18 : decode cX4_drop 18 = .ok (.aload_n 0, 1) := by decide +kernel
theorem dX4_drop_19 : decode cX4_drop 19 = .ok (.getfield 30, 3) := by decide +kernel
theorem dX4_drop_22 : decode cX4_drop 22 = .ok (.iconst 1, 1) := by decide +kernel
theorem dX4_drop_23 : decode cX4_drop 23 = .ok (.isub, 1) := by decide +kernel
theorem dX4_drop_24 : decode cX4_drop 24 = .ok (.invokestatic 50, 3) := by decide +kernel
theorem dX4_drop_27 : decode cX4_drop 27 = .ok (.putfield 30, 3) := by decide +kernel
theorem dX4_drop_30 : decode cX4_drop 30 = .ok (.return_, 1) := by decide +kernel
theorem dX5_init_0 : decode cX5_init 0 = .ok (.aload_n 0, 1) := by decide +kernel
theorem dX5_init_1 : decode cX5_init 1 = .ok (.invokespecial 3, 3) := by decide +kernel
theorem dX5_init_4 : decode cX5_init 4 = .ok (.aload_n 0, 1) := by decide +kernel
theorem dX5_init_5 : decode cX5_init 5 = .ok (.bipush 12, 2) := by decide +kernel
theorem dX5_init_7 : decode cX5_init 7 = .ok (.anewarray 9, 3) := by decide +kernel
theorem dX5_init_10 : decode cX5_init 10 = .ok (.putfield 11, 3) := by decide +kernel
theorem dX5_init_13 : decode cX5_init 13 = .ok (.aload_n 0, 1) := by decide +kernel
theorem dX5_init_14 : decode cX5_init 14 = .ok (.bipush 15, 2) := by decide +kernel
theorem dX5_init_16 : decode cX5_init 16 = .ok (.anewarray 9, 3) := by decide +kernel
theorem dX5_init_19 : decode cX5_init 19 = .ok (.putfield 17, 3) := by decide +kernel
theorem dX5_init_22 : decode cX5_init 22 = .ok (.aload_n 0, 1) := by decide +kernel
theorem dX5_init_23 : decode cX5_init 23 = .ok (.bipush 6, 2) := by decide +kernel
theorem dX5_init_25 : decode cX5_init 25 = .ok (.anewarray 20, 3) := by decide +kernel
theorem dX5_init_28 : decode cX5_init 28 = .ok (.putfield 22, 3) := by decide +kernel
theorem dX5_init_31 : decode cX5_init 31 = .ok (.aload_n 0, 1) := by decide +kernel
theorem dX5_init_32 : decode cX5_init 32 = .ok (.bipush 6, 2) := by decide +kernel
theorem dX5_init_34 : decode cX5_init 34 = .ok (.anewarray 20, 3) := by decide +kernel
theorem dX5_init_37 : decode cX5_init 37 = .ok (.putfield 26, 3) := by decide +kernel
theorem dX5_init_40 : decode cX5_init 40 = .ok (.aload_n 0, 1) := by decide +kernel
theorem dX5_init_41 : decode cX5_init 41 = .ok (.aload_n 1, 1) := by decide +kernel
theorem dX5_init_42 : decode cX5_init 42 = .ok (.putfield 29, 3) := by decide +kernel
theorem dX5_init_45 : decode cX5_init 45 = .ok (.iconst 0, 1) := by decide +kernel
theorem dX5_init_46 : decode cX5_init 46 = .ok (.istore_n 2, 1) := by decide +kernel
theorem dX5_init_47 : decode cX5_init 47 = .ok (.iload_n 2, 1) := by decide +kernel
theorem dX5_init_48 : decode cX5_init 48 = .ok (.aload_n 0, 1) := by decide +kernel
theorem dX5_init_49 : decode cX5_init 49 = .ok (.getfield 11, 3) := by decide +kernel
theorem dX5_init_52 : decode cX5_init 52 = .ok (.arraylength, 1) := by decide +kernel
theorem dX5_init_53 : decode cX5_init 53 = .ok (.if_icmp .ge 22, 3) := by decide +kernel
theorem dX5_init_56 : decode cX5_init 56 = .ok (.aload_n 0, 1) := by decide +kernel
theorem dX5_init_57 : decode cX5_init 57 = .ok (.getfield 11, 3) := by decide +kernel
theorem dX5_init_60 : decode cX5_init 60 = .ok (.iload_n 2, 1) := by decide +kernel
theorem dX5_init_61 : decode cX5_init 61 = .ok (.new 9, 3) := by decide +kernel
theorem dX5_init_64 : decode cX5_init 64 = .ok (.dup, 1) := by decide +kernel
theorem dX5_init_65 : decode cX5_init 65 = .ok (.invokespecial 33, 3) := by decide +kernel
theorem dX5_init_68 : decode cX5_init 68 = .ok (.aastore, 1) := by decide +kernel
theorem dX5_init_69 : decode cX5_init 69 = .ok (.iinc 2 1, 3) := by decide +kernel
theorem dX5_init_72 : decode cX5_init 72 = .ok (.goto (-25), 3) := by decide +kernel
theorem dX5_init_75 : decode cX5_init 75 = .ok (.iconst 0, 1) := by decide +kernel
theorem dX5_init_76 : decode cX5_init 76 = .ok (.istore_n 2, 1) := by decide +kernel
theorem dX5_init_77 : decode cX5_init 77 = .ok (.iload_n 2, 1) := by decide +kernel
theorem dX5_init_78 : decode cX5_init 78 = .ok (.aload_n 0, 1) := by decide +kernel
theorem dX5_init_79 : decode cX5_init 79 = .ok (.getfield 17, 3) := by decide +kernel
theorem dX5_init_82 : decode cX5_init 82 = .ok (.arraylength, 1) := by decide +kernel
theorem dX5_init_83 : decode cX5_init 83 = .ok (.if_icmp .ge 22, 3) := by decide +kernel
theorem dX5_init_86 : decode cX5_init 86 = .ok (.aload_n 0, 1) := by decide +kernel
theorem dX5_init_87 : decode cX5_init 87 = .ok (.getfield 17, 3) := by decide +kernel
theorem dX5_init_90 : decode cX5_init 90 = .ok (.iload_n 2, 1) := by decide +kernel
theorem dX5_init_91 : decode cX5_init 91 = .ok (.new 9, 3) := by decide +kernel
theorem dX5_init_94 : decode cX5_init 94 = .ok (.dup, 1) := by decide +kernel
theorem dX5_init_95 : decode cX5_init 95 = .ok (.invokespecial 33, 3) := by decide +kernel
theorem dX5_init_98 : decode cX5_init 98 = .ok (.aastore, 1) := by decide +kernel
theorem dX5_init_99 : decode cX5_init 99 = .ok (.iinc 2 1, 3) := by decide +kernel
theorem dX5_init_102 : decode cX5_init 102 = .ok (.goto (-25), 3) := by decide +kernel
theorem dX5_init_105 : decode cX5_init 105 = .ok (.iconst 0, 1) := by decide +kernel
theorem dX5_init_106 : decode cX5_init 106 = .ok (.istore_n 2, 1) := by decide +kernel
theorem dX5_init_107 : decode cX5_init 107 = .ok (.iload_n 2, 1) := by decide +kernel
theorem dX5_init_108 : decode cX5_init 108 = .ok (.bipush 6, 2) := by decide +kernel
theorem dX5_init_110 : decode cX5_init 110 = .ok (.if_icmp .ge 39, 3) := by decide +kernel
theorem dX5_init_113 : decode cX5_init 113 = .ok (.aload_n 0, 1) := by decide +kernel
theorem dX5_init_114 : decode cX5_init 114 = .ok (.getfield 22, 3) := by decide +kernel
theorem dX5_init_117 : decode cX5_init 117 = .ok (.iload_n 2, 1) := by decide +kernel
theorem dX5_init_118 : decode cX5_init 118 = .ok (.new 20, 3) := by decide +kernel
theorem dX5_init_121 : decode cX5_init 121 = .ok (.dup, 1) := by decide +kernel
theorem dX5_init_122 : decode cX5_init 122 = .ok (.bipush 20, 2) := by decide +kernel
theorem dX5_init_124 : decode cX5_init 124 = .ok (.invokespecial 34, 3) := by decide +kernel
theorem dX5_init_127 : decode cX5_init 127 = .ok (.aastore, 1) := by decide +kernel
theorem dX5_init_128 : decode cX5_init 128 = .ok (.aload_n 0, 1) := by decide +kernel
theorem dX5_init_129 : decode cX5_init 129 = .ok (.getfield 26, 3) := by decide +kernel
theorem dX5_init_132 : decode cX5_init 132 = .ok (.iload_n 2, 1) := by decide +kernel
theorem dX5_init_133 : decode cX5_init 133 = .ok (.new 20, 3) := by decide +kernel
theorem dX5_init_136 : decode cX5_init 136 = .ok (.dup, 1) := by decide +kernel
theorem dX5_init_137 : decode cX5_init 137 = .ok (.bipush 20, 2) := by decide +kernel
theorem dX5_init_139 : decode cX5_init 139 = .ok (.invokespecial 34, 3) := by decide +kernel
theorem dX5_init_142 : decode cX5_init 142 = .ok (.aastore, 1) := by decide +kernel
theorem dX5_init_143 : decode cX5_init 143 = .ok (.iinc 2 1, 3) := by decide +kernel
theorem dX5_init_146 : decode cX5_init 146 = .ok (.goto (-39), 3) := by decide +kernel
theorem dX5_init_149 : decode cX5_init 149 = .ok (.return_, 1) := by decide +kernel
theorem dX5_open_0 : decode cX5_open 0 = .ok (.aload_n 0, 1) := by decide +kernel
theorem dX5_open_1 : decode cX5_open 1 = .ok (.aload_n 1, 1) := by decide +kernel
theorem dX5_open_2 : decode cX5_open 2 = .ok (.putfield 37, 3) := by decide +kernel
theorem dX5_open_5 : decode cX5_open 5 = .ok (.iconst 0, 1) := by decide +kernel
theorem dX5_open_6 : decode cX5_open 6 = .ok (.istore_n 2, 1) := by decide +kernel
theorem dX5_open_7 : decode cX5_open 7 = .ok (.iload_n 2, 1) := by decide +kernel
theorem dX5_open_8 : decode cX5_open 8 = .ok (.bipush 6, 2) := by decide +kernel
theorem dX5_open_10 : decode cX5_open 10 = .ok (.if_icmp .ge 27, 3) := by decide +kernel
theorem dX5_open_13 : decode cX5_open 13 = .ok (.aload_n 0, 1) := by decide +kernel
theorem dX5_open_14 : decode cX5_open 14 = .ok (.getfield 22, 3) := by decide +kernel
theorem dX5_open_17 : decode cX5_open 17 = .ok (.iload_n 2, 1) := by decide +kernel
theorem dX5_open_18 : decode cX5_open 18 = .ok (.aaload, 1) := by decide +kernel
theorem dX5_open_19 : decode cX5_open 19 = .ok (.invokevirtual 41, 3) := by decide +kernel
theorem dX5_open_22 : decode cX5_open 22 = .ok (.aload_n 0, 1) := by decide +kernel
theorem dX5_open_23 : decode cX5_open 23 = .ok (.getfield 26, 3) := by decide +kernel
theorem dX5_open_26 : decode cX5_open 26 = .ok (.iload_n 2, 1) := by decide +kernel
theorem dX5_open_27 : decode cX5_open 27 = .ok (.aaload, 1) := by decide +kernel
theorem dX5_open_28 : decode cX5_open 28 = .ok (.invokevirtual 41, 3) := by decide +kernel
theorem dX5_open_31 : decode cX5_open 31 = .ok (.iinc 2 1, 3) := by decide +kernel
theorem dX5_open_34 : decode cX5_open 34 = .ok (.goto (-27), 3) := by decide +kernel
theorem dX5_open_37 : decode cX5_open 37 = .ok (.iconst 0, 1) := by decide +kernel
theorem dX5_open_38 : decode cX5_open 38 = .ok (.istore_n 2, 1) := by decide +kernel
theorem dX5_open_39 : decode cX5_open 39 = .ok (.iload_n 2, 1) := by decide +kernel
theorem dX5_open_40 : decode cX5_open 40 = .ok (.aload_n 0, 1) := by decide +kernel
theorem dX5_open_41 : decode cX5_open 41 = .ok (.getfield 37, 3) := by decide +kernel
theorem dX5_open_44 : decode cX5_open 44 = .ok (.getfield 44, 3) := by decide +kernel
theorem dX5_open_47 : decode cX5_open 47 = .ok (.if_icmp .ge 14, 3) := by decide +kernel
theorem dX5_open_50 : decode cX5_open 50 = .ok (.aload_n 0, 1) := by decide +kernel
theorem dX5_open_51 : decode cX5_open 51 = .ok (.iload_n 2, 1) := by decide +kernel
theorem dX5_open_52 : decode cX5_open 52 = .ok (.invokevirtual 50, 3) := by decide +kernel
theorem dX5_open_55 : decode cX5_open 55 = .ok (.iinc 2 1, 3) := by decide +kernel
theorem dX5_open_58 : decode cX5_open 58 = .ok (.goto (-19), 3) := by decide +kernel
theorem dX5_open_61 : decode cX5_open 61 = .ok (.aload_n 0, 1) := by decide +kernel
theorem dX5_open_62 : decode cX5_open 62 = .ok (.iconst 0, 1) := by decide +kernel
theorem dX5_open_63 : decode cX5_open 63 = .ok (.putfield 53, 3) := by decide +kernel
theorem dX5_open_66 : decode cX5_open 66 = .ok (.return_, 1) := by decide +kernel
theorem dX5_ruleChanged_0 : decode cX5_ruleChanged 0 = .ok (.aload_n 0, 1) := by decide +kernel
theorem dX5_ruleChanged_1 : decode cX5_ruleChanged 1 = .ok (.getfield 37, 3) := by decide +kernel
theorem dX5_ruleChanged_4 : decode cX5_ruleChanged 4 = .ok (.ifnonnull 7, 3) := by decide +kernel
theorem dX5_ruleChanged_7 : decode cX5_ruleChanged 7 = .ok (.aconst_null, 1) := by decide +kernel
theorem dX5_ruleChanged_8 : decode cX5_ruleChanged 8 = .ok (.goto 11, 3) := by decide +kernel
theorem dX5_ruleChanged_11 : decode cX5_ruleChanged 11 = .ok (.aload_n 0, 1) := by decide +kernel
theorem dX5_ruleChanged_12 : decode cX5_ruleChanged 12 = .ok (.getfield 37, 3) := by decide +kernel
theorem dX5_ruleChanged_15 : decode cX5_ruleChanged 15 = .ok (.iload_n 1, 1) := by decide +kernel
theorem dX5_ruleChanged_16 : decode cX5_ruleChanged 16 = .ok (.invokevirtual 56, 3) := by decide +kernel
theorem dX5_ruleChanged_19 : decode cX5_ruleChanged 19 = .ok (.astore_n 2, 1) := by decide +kernel
theorem dX5_ruleChanged_20 : decode cX5_ruleChanged 20 = .ok (.aload_n 2, 1) := by decide +kernel
theorem dX5_ruleChanged_21 : decode cX5_ruleChanged 21 = .ok (.ifnull 35, 3) := by decide +kernel
theorem dX5_ruleChanged_24 : decode cX5_ruleChanged 24 = .ok (.iload_n 1, 1) := by decide +kernel
theorem dX5_ruleChanged_25 : decode cX5_ruleChanged 25 = .ok (.aload_n 0, 1) := by decide +kernel
theorem dX5_ruleChanged_26 : decode cX5_ruleChanged 26 = .ok (.getfield 11, 3) := by decide +kernel
theorem dX5_ruleChanged_29 : decode cX5_ruleChanged 29 = .ok (.arraylength, 1) := by decide +kernel
theorem dX5_ruleChanged_30 : decode cX5_ruleChanged 30 = .ok (.if_icmp .ge 26, 3) := by decide +kernel
theorem dX5_ruleChanged_33 : decode cX5_ruleChanged 33 = .ok (.aload_n 0, 1) := by decide +kernel
theorem dX5_ruleChanged_34 : decode cX5_ruleChanged 34 = .ok (.getfield 29, 3) := by decide +kernel
theorem dX5_ruleChanged_37 : decode cX5_ruleChanged 37 = .ok (.aload_n 2, 1) := by decide +kernel
theorem dX5_ruleChanged_38 : decode cX5_ruleChanged 38 = .ok (.aload_n 2, 1) := by decide +kernel
theorem dX5_ruleChanged_39 : decode cX5_ruleChanged 39 = .ok (.getfield 60, 3) := by decide +kernel
theorem dX5_ruleChanged_42 : decode cX5_ruleChanged 42 = .ok (.aload_n 0, 1) := by decide +kernel
theorem dX5_ruleChanged_43 : decode cX5_ruleChanged 43 = .ok (.getfield 11, 3) := by decide +kernel
theorem dX5_ruleChanged_46 : decode cX5_ruleChanged 46 = .ok (.iload_n 1, 1) := by decide +kernel
theorem dX5_ruleChanged_47 : decode cX5_ruleChanged 47 = .ok (.aaload, 1) := by decide +kernel
theorem dX5_ruleChanged_48 : decode cX5_ruleChanged 48 = .ok (.invokevirtual 65, 3) := by decide +kernel
theorem dX5_ruleChanged_51 : decode cX5_ruleChanged 51 = .ok (.aload_n 0, 1) := by decide +kernel
theorem dX5_ruleChanged_52 : decode cX5_ruleChanged 52 = .ok (.iconst 0, 1) := by decide +kernel
theorem dX5_ruleChanged_53 : decode cX5_ruleChanged 53 = .ok (.putfield 53, 3) := by decide +kernel
theorem dX5_ruleChanged_56 : decode cX5_ruleChanged 56 = .ok (.return_, 1) := by decide +kernel
theorem dX5_daysOf_0 : decode cX5_daysOf 0 = .ok (.aload_n 0, 1) := by decide +kernel
theorem dX5_daysOf_1 : decode cX5_daysOf 1 = .ok (.getfield 37, 3) := by decide +kernel
theorem dX5_daysOf_4 : decode cX5_daysOf 4 = .ok (.ifnull 23, 3) := by decide +kernel
theorem dX5_daysOf_7 : decode cX5_daysOf 7 = .ok (.aload_n 0, 1) := by decide +kernel
theorem dX5_daysOf_8 : decode cX5_daysOf 8 = .ok (.getfield 37, 3) := by decide +kernel
theorem dX5_daysOf_11 : decode cX5_daysOf 11 = .ok (.iload_n 1, 1) := by decide +kernel
theorem dX5_daysOf_12 : decode cX5_daysOf 12 = .ok (.invokevirtual 71, 3) := by decide +kernel
theorem dX5_daysOf_15 : decode cX5_daysOf 15 = .ok (.ifCond .eq 12, 3) := by decide +kernel
theorem dX5_daysOf_18 : decode cX5_daysOf 18 = .ok (.iload_n 1, 1) := by decide +kernel
theorem dX5_daysOf_19 : decode cX5_daysOf 19 = .ok (.aload_n 0, 1) := by decide +kernel
theorem dX5_daysOf_20 : decode cX5_daysOf 20 = .ok (.getfield 11, 3) := by decide +kernel
theorem dX5_daysOf_23 : decode cX5_daysOf 23 = .ok (.arraylength, 1) := by decide +kernel
theorem dX5_daysOf_24 : decode cX5_daysOf 24 = .ok (.if_icmp .lt 5, 3) := by decide +kernel
theorem dX5_daysOf_27 : decode cX5_daysOf 27 = .ok (.aconst_null, 1) := by decide +kernel
theorem dX5_daysOf_28 : decode cX5_daysOf 28 = .ok (.areturn, 1) := by decide +kernel
theorem dX5_daysOf_29 : decode cX5_daysOf 29 = .ok (.iconst 0, 1) := by decide +kernel
theorem dX5_daysOf_30 : decode cX5_daysOf 30 = .ok (.istore_n 2, 1) := by decide +kernel
theorem dX5_daysOf_31 : decode cX5_daysOf 31 = .ok (.iload_n 2, 1) := by decide +kernel
theorem dX5_daysOf_32 : decode cX5_daysOf 32 = .ok (.bipush 6, 2) := by decide +kernel
theorem dX5_daysOf_34 : decode cX5_daysOf 34 = .ok (.if_icmp .ge 38, 3) := by decide +kernel
theorem dX5_daysOf_37 : decode cX5_daysOf 37 = .ok (.aload_n 0, 1) := by decide +kernel
theorem dX5_daysOf_38 : decode cX5_daysOf 38 = .ok (.getfield 53, 3) := by decide +kernel
theorem dX5_daysOf_41 : decode cX5_daysOf 41 = .ok (.iload_n 1, 1) := by decide +kernel
theorem dX5_daysOf_42 : decode cX5_daysOf 42 = .ok (.bipush 6, 2) := by decide +kernel
theorem dX5_daysOf_44 : decode cX5_daysOf 44 = .ok (.isub, 1) := by decide +kernel
theorem dX5_daysOf_45 : decode cX5_daysOf 45 = .ok (.if_icmp .gt 27, 3) := by decide +kernel
theorem dX5_daysOf_48 : decode cX5_daysOf 48 = .ok (.aload_n 0, 1) := by decide +kernel
theorem dX5_daysOf_49 : decode cX5_daysOf 49 = .ok (.aload_n 0, 1) := by decide +kernel
theorem dX5_daysOf_50 : decode cX5_daysOf 50 = .ok (.getfield 53, 3) := by decide +kernel
theorem dX5_daysOf_53 : decode cX5_daysOf 53 = .ok (.invokevirtual 75, 3) := by decide +kernel
theorem dX5_daysOf_56 : decode cX5_daysOf 56 = .ok (.aload_n 0, 1) := by decide +kernel
theorem dX5_daysOf_57 : decode cX5_daysOf 57 = .ok (.dup, 1) := by decide +kernel
theorem dX5_daysOf_58 : decode cX5_daysOf 58 = .ok (.getfield 53, 3) := by decide +kernel
theorem dX5_daysOf_61 : decode cX5_daysOf 61 = .ok (.iconst 1, 1) := by decide +kernel
theorem dX5_daysOf_62 : decode cX5_daysOf 62 = .ok (.iadd, 1) := by decide +kernel
theorem dX5_daysOf_63 : decode cX5_daysOf 63 = .ok (.putfield 53, 3) := by decide +kernel
theorem dX5_daysOf_66 : decode cX5_daysOf 66 = .ok (.iinc 2 1, 3) := by decide +kernel
theorem dX5_daysOf_69 : decode cX5_daysOf 69 = .ok (.goto (-38), 3) := by decide +kernel
theorem dX5_daysOf_72 : decode cX5_daysOf 72 = .ok (.aload_n 0, 1) := by decide +kernel
theorem dX5_daysOf_73 : decode cX5_daysOf 73 = .ok (.getfield 11, 3) := by decide +kernel
theorem dX5_daysOf_76 : decode cX5_daysOf 76 = .ok (.iload_n 1, 1) := by decide +kernel
theorem dX5_daysOf_77 : decode cX5_daysOf 77 = .ok (.aaload, 1) := by decide +kernel
theorem dX5_daysOf_78 : decode cX5_daysOf 78 = .ok (.areturn, 1) := by decide +kernel
theorem dX5_marked_0 : decode cX5_marked 0 = .ok (.iconst 0, 1) := by decide +kernel
theorem dX5_marked_1 : decode cX5_marked 1 = .ok (.istore_n 2, 1) := by decide +kernel
theorem dX5_marked_2 : decode cX5_marked 2 = .ok (.iconst 0, 1) := by decide +kernel
theorem dX5_marked_3 : decode cX5_marked 3 = .ok (.istore_n 3, 1) := by decide +kernel
theorem dX5_marked_4 : decode cX5_marked 4 = .ok (.iload_n 3, 1) := by decide +kernel
theorem dX5_marked_5 : decode cX5_marked 5 = .ok (.bipush 6, 2) := by decide +kernel
theorem dX5_marked_7 : decode cX5_marked 7 = .ok (.if_icmp .ge 21, 3) := by decide +kernel
theorem dX5_marked_10 : decode cX5_marked 10 = .ok (.iload_n 2, 1) := by decide +kernel
theorem dX5_marked_11 : decode cX5_marked 11 = .ok (.aload_n 0, 1) := by decide +kernel
theorem dX5_marked_12 : decode cX5_marked 12 = .ok (.iload_n 3, 1) := by decide +kernel
theorem dX5_marked_13 : decode cX5_marked 13 = .ok (.iload_n 1, 1) := by decide +kernel
theorem dX5_marked_14 : decode cX5_marked 14 = .ok (.invokevirtual 78, 3) := by decide +kernel
theorem dX5_marked_17 : decode cX5_marked 17 = .ok (.getfield 82, 3) := by decide +kernel
theorem dX5_marked_20 : decode cX5_marked 20 = .ok (.iadd, 1) := by decide +kernel
theorem dX5_marked_21 : decode cX5_marked 21 = .ok (.istore_n 2, 1) := by decide +kernel
theorem dX5_marked_22 : decode cX5_marked 22 = .ok (.iinc 3 1, 3) := by decide +kernel
theorem dX5_marked_25 : decode cX5_marked 25 = .ok (.goto (-21), 3) := by decide +kernel
