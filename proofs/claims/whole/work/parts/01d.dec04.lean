theorem dX12_joins_22 : decode cX12_joins 22 = .ok (.ifCond .ne 18, 3) := by decide +kernel
theorem dX12_joins_25 : decode cX12_joins 25 = .ok (.aload_n 0, 1) := by decide +kernel
theorem dX12_joins_26 : decode cX12_joins 26 = .ok (.getfield 48, 3) := by decide +kernel
theorem dX12_joins_29 : decode cX12_joins 29 = .ok (.aload_n 0, 1) := by decide +kernel
theorem dX12_joins_30 : decode cX12_joins 30 = .ok (.getfield 256, 3) := by decide +kernel
theorem dX12_joins_33 : decode cX12_joins 33 = .ok (.iconst 1, 1) := by decide +kernel
theorem dX12_joins_34 : decode cX12_joins 34 = .ok (.isub, 1) := by decide +kernel
theorem dX12_joins_35 : decode cX12_joins 35 = .ok (.iaload, 1) := by decide +kernel
theorem dX12_joins_36 : decode cX12_joins 36 = .ok (.iconst 3, 1) := by decide +kernel
theorem dX12_joins_37 : decode cX12_joins 37 = .ok (.if_icmp .eq 56, 3) := by decide +kernel
theorem dX12_joins_40 : decode cX12_joins 40 = .ok (.aload_n 0, 1) := by decide +kernel
theorem dX12_joins_41 : decode cX12_joins 41 = .ok (.dup, 1) := by decide +kernel
theorem dX12_joins_42 : decode cX12_joins 42 = .ok (.getfield 256, 3) := by decide +kernel
theorem dX12_joins_45 : decode cX12_joins 45 = .ok (.iconst 1, 1) := by decide +kernel
theorem dX12_joins_46 : decode cX12_joins 46 = .ok (.isub, 1) := by decide +kernel
theorem dX12_joins_47 : decode cX12_joins 47 = .ok (.putfield 256, 3) := by decide +kernel
theorem dX12_joins_50 : decode cX12_joins 50 = .ok (.aload_n 0, 1) := by decide +kernel
theorem dX12_joins_51 : decode cX12_joins 51 = .ok (.aload_n 0, 1) := by decide +kernel
theorem dX12_joins_52 : decode cX12_joins 52 = .ok (.getfield 48, 3) := by decide +kernel
theorem dX12_joins_55 : decode cX12_joins 55 = .ok (.aload_n 0, 1) := by decide +kernel
theorem dX12_joins_56 : decode cX12_joins 56 = .ok (.getfield 256, 3) := by decide +kernel
theorem dX12_joins_59 : decode cX12_joins 59 = .ok (.iaload, 1) := by decide +kernel
theorem dX12_joins_60 : decode cX12_joins 60 = .ok (.iconst 3, 1) := by decide +kernel
theorem dX12_joins_61 : decode cX12_joins 61 = .ok (.if_icmp .ne 7, 3) := by decide +kernel
theorem dX12_joins_64 : decode cX12_joins 64 = .ok (.iconst 3, 1) := by decide +kernel
theorem dX12_joins_65 : decode cX12_joins 65 = .ok (.goto 21, 3) := by decide +kernel
theorem dX12_joins_68 : decode cX12_joins 68 = .ok (.aload_n 0, 1) := by decide +kernel
theorem dX12_joins_69 : decode cX12_joins 69 = .ok (.getfield 48, 3) := by decide +kernel
theorem dX12_joins_72 : decode cX12_joins 72 = .ok (.aload_n 0, 1) := by decide +kernel
theorem dX12_joins_73 : decode cX12_joins 73 = .ok (.getfield 256, 3) := by decide +kernel
theorem dX12_joins_76 : decode cX12_joins 76 = .ok (.iaload, 1) := by decide +kernel
theorem dX12_joins_77 : decode cX12_joins 77 = .ok (.iconst 1, 1) := by decide +kernel
theorem dX12_joins_78 : decode cX12_joins 78 = .ok (.if_icmp .ne 7, 3) := by decide +kernel
theorem dX12_joins_81 : decode cX12_joins 81 = .ok (.iconst 4, 1) := by decide +kernel
theorem dX12_joins_82 : decode cX12_joins 82 = .ok (.goto 4, 3) := by decide +kernel
theorem dX12_joins_85 : decode cX12_joins 85 = .ok (.iconst 5, 1) := by decide +kernel
theorem dX12_joins_86 : decode cX12_joins 86 = .ok (.iconst 0, 1) := by decide +kernel
theorem dX12_joins_87 : decode cX12_joins 87 = .ok (.invokevirtual 259, 3) := by decide +kernel
theorem dX12_joins_90 : decode cX12_joins 90 = .ok (.goto (-90), 3) := by decide +kernel
theorem dX12_joins_93 : decode cX12_joins 93 = .ok (.return_, 1) := by decide +kernel
theorem dX12_daysTold_0 : decode cX12_daysTold 0 = .ok (.iconst 0, 1) := by decide +kernel
theorem dX12_daysTold_1 : decode cX12_daysTold 1 = .ok (.istore_n 1, 1) := by decide +kernel
theorem dX12_daysTold_2 : decode cX12_daysTold 2 = .ok (.aload_n 0, 1) := by decide +kernel
theorem dX12_daysTold_3 : decode cX12_daysTold 3 = .ok (.getfield 117, 3) := by decide +kernel
theorem dX12_daysTold_6 : decode cX12_daysTold 6 = .ok (.ifCond .ne 7, 3) := by decide +kernel
theorem dX12_daysTold_9 : decode cX12_daysTold 9 = .ok (.iconst 1, 1) := by decide +kernel
theorem dX12_daysTold_10 : decode cX12_daysTold 10 = .ok (.goto 4, 3) := by decide +kernel
theorem dX12_daysTold_13 : decode cX12_daysTold 13 = .ok (.iconst 0, 1) := by decide +kernel
theorem dX12_daysTold_14 : decode cX12_daysTold 14 = .ok (.istore_n 2, 1) := by decide +kernel
theorem dX12_daysTold_15 : decode cX12_daysTold 15 = .ok (.iload_n 2, 1) := by decide +kernel
theorem dX12_daysTold_16 : decode cX12_daysTold 16 = .ok (.ifCond .eq 102, 3) := by decide +kernel
theorem dX12_daysTold_19 : decode cX12_daysTold 19 = .ok (.aload_n 0, 1) := by decide +kernel
theorem dX12_daysTold_20 : decode cX12_daysTold 20 = .ok (.iload_n 1, 1) := by decide +kernel
theorem dX12_daysTold_21 : decode cX12_daysTold 21 = .ok (.invokevirtual 209, 3) := by decide +kernel
theorem dX12_daysTold_24 : decode cX12_daysTold 24 = .ok (.aload_n 0, 1) := by decide +kernel
theorem dX12_daysTold_25 : decode cX12_daysTold 25 = .ok (.getfield 123, 3) := by decide +kernel
theorem dX12_daysTold_28 : decode cX12_daysTold 28 = .ok (.istore_n 3, 1) := by decide +kernel
theorem dX12_daysTold_29 : decode cX12_daysTold 29 = .ok (.aload_n 0, 1) := by decide +kernel
theorem dX12_daysTold_30 : decode cX12_daysTold 30 = .ok (.invokevirtual 235, 3) := by decide +kernel
theorem dX12_daysTold_33 : decode cX12_daysTold 33 = .ok (.istore 4, 2) := by decide +kernel
theorem dX12_daysTold_35 : decode cX12_daysTold 35 = .ok (.iconst 0, 1) := by decide +kernel
theorem dX12_daysTold_36 : decode cX12_daysTold 36 = .ok (.istore 5, 2) := by decide +kernel
theorem dX12_daysTold_38 : decode cX12_daysTold 38 = .ok (.iload 5, 2) := by decide +kernel
theorem dX12_daysTold_40 : decode cX12_daysTold 40 = .ok (.iload_n 1, 1) := by decide +kernel
theorem dX12_daysTold_41 : decode cX12_daysTold 41 = .ok (.if_icmp .ge 34, 3) := by decide +kernel
theorem dX12_daysTold_44 : decode cX12_daysTold 44 = .ok (.aload_n 0, 1) := by decide +kernel
theorem dX12_daysTold_45 : decode cX12_daysTold 45 = .ok (.getfield 117, 3) := by decide +kernel
theorem dX12_daysTold_48 : decode cX12_daysTold 48 = .ok (.ifCond .ne 27, 3) := by decide +kernel
theorem dX12_daysTold_51 : decode cX12_daysTold 51 = .ok (.aload_n 0, 1) := by decide +kernel
theorem dX12_daysTold_52 : decode cX12_daysTold 52 = .ok (.getfield 51, 3) := by decide +kernel
theorem dX12_daysTold_55 : decode cX12_daysTold 55 = .ok (.iload 5, 2) := by decide +kernel
theorem dX12_daysTold_57 : decode cX12_daysTold 57 = .ok (.iaload, 1) := by decide +kernel
theorem dX12_daysTold_58 : decode cX12_daysTold 58 = .ok (.iload 4, 2) := by decide +kernel
theorem dX12_daysTold_60 : decode cX12_daysTold 60 = .ok (.if_icmp .ne 9, 3) := by decide +kernel
theorem dX12_daysTold_63 : decode cX12_daysTold 63 = .ok (.aload_n 0, 1) := by decide +kernel
theorem dX12_daysTold_64 : decode cX12_daysTold 64 = .ok (.iconst 4, 1) := by decide +kernel
theorem dX12_daysTold_65 : decode cX12_daysTold 65 = .ok (.iload_n 3, 1) := by decide +kernel
theorem dX12_daysTold_66 : decode cX12_daysTold 66 = .ok (.invokevirtual 142, 3) := by decide +kernel
theorem dX12_daysTold_69 : decode cX12_daysTold 69 = .ok (.iinc 5 1, 3) := by decide +kernel
theorem dX12_daysTold_72 : decode cX12_daysTold 72 = .ok (.goto (-34), 3) := by decide +kernel
theorem dX12_daysTold_75 : decode cX12_daysTold 75 = .ok (.aload_n 0, 1) := by decide +kernel
theorem dX12_daysTold_76 : decode cX12_daysTold 76 = .ok (.getfield 117, 3) := by decide +kernel
theorem dX12_daysTold_79 : decode cX12_daysTold 79 = .ok (.ifCond .ne 29, 3) := by decide +kernel
theorem dX12_daysTold_82 : decode cX12_daysTold 82 = .ok (.aload_n 0, 1) := by decide +kernel
theorem dX12_daysTold_83 : decode cX12_daysTold 83 = .ok (.getfield 51, 3) := by decide +kernel
theorem dX12_daysTold_86 : decode cX12_daysTold 86 = .ok (.iload_n 1, 1) := by decide +kernel
theorem dX12_daysTold_87 : decode cX12_daysTold 87 = .ok (.iload 4, 2) := by decide +kernel
theorem dX12_daysTold_89 : decode cX12_daysTold 89 = .ok (.iastore, 1) := by decide +kernel
theorem dX12_daysTold_90 : decode cX12_daysTold 90 = .ok (.aload_n 0, 1) := by decide +kernel
theorem dX12_daysTold_91 : decode cX12_daysTold 91 = .ok (.iload_n 1, 1) := by decide +kernel
theorem dX12_daysTold_92 : decode cX12_daysTold 92 = .ok (.ifCond .ne 7, 3) := by decide +kernel
theorem dX12_daysTold_95 : decode cX12_daysTold 95 = .ok (.iconst 1, 1) := by decide +kernel
theorem dX12_daysTold_96 : decode cX12_daysTold 96 = .ok (.goto 4, 3) := by decide +kernel
theorem dX12_daysTold_99 : decode cX12_daysTold 99 = .ok (.iconst 2, 1) := by decide +kernel
theorem dX12_daysTold_100 : decode cX12_daysTold 100 = .ok (.iload 4, 2) := by decide +kernel
theorem dX12_daysTold_102 : decode cX12_daysTold 102 = .ok (.invokevirtual 259, 3) := by decide +kernel
theorem dX12_daysTold_105 : decode cX12_daysTold 105 = .ok (.iinc 1 1, 3) := by decide +kernel
theorem dX12_daysTold_108 : decode cX12_daysTold 108 = .ok (.aload_n 0, 1) := by decide +kernel
theorem dX12_daysTold_109 : decode cX12_daysTold 109 = .ok (.bipush 44, 2) := by decide +kernel
theorem dX12_daysTold_111 : decode cX12_daysTold 111 = .ok (.invokevirtual 139, 3) := by decide +kernel
theorem dX12_daysTold_114 : decode cX12_daysTold 114 = .ok (.istore_n 2, 1) := by decide +kernel
theorem dX12_daysTold_115 : decode cX12_daysTold 115 = .ok (.goto (-100), 3) := by decide +kernel
theorem dX12_daysTold_118 : decode cX12_daysTold 118 = .ok (.return_, 1) := by decide +kernel
theorem dX12_movesTold_0 : decode cX12_movesTold 0 = .ok (.aload_n 0, 1) := by decide +kernel
theorem dX12_movesTold_1 : decode cX12_movesTold 1 = .ok (.getfield 117, 3) := by decide +kernel
theorem dX12_movesTold_4 : decode cX12_movesTold 4 = .ok (.ifCond .ne 7, 3) := by decide +kernel
theorem dX12_movesTold_7 : decode cX12_movesTold 7 = .ok (.iconst 1, 1) := by decide +kernel
theorem dX12_movesTold_8 : decode cX12_movesTold 8 = .ok (.goto 4, 3) := by decide +kernel
theorem dX12_movesTold_11 : decode cX12_movesTold 11 = .ok (.iconst 0, 1) := by decide +kernel
theorem dX12_movesTold_12 : decode cX12_movesTold 12 = .ok (.istore_n 1, 1) := by decide +kernel
theorem dX12_movesTold_13 : decode cX12_movesTold 13 = .ok (.iload_n 1, 1) := by decide +kernel
theorem dX12_movesTold_14 : decode cX12_movesTold 14 = .ok (.ifCond .eq 80, 3) := by decide +kernel
theorem dX12_movesTold_17 : decode cX12_movesTold 17 = .ok (.aload_n 0, 1) := by decide +kernel
theorem dX12_movesTold_18 : decode cX12_movesTold 18 = .ok (.bipush 25, 2) := by decide +kernel
theorem dX12_movesTold_20 : decode cX12_movesTold 20 = .ok (.invokevirtual 166, 3) := by decide +kernel
theorem dX12_movesTold_23 : decode cX12_movesTold 23 = .ok (.ifCond .eq 19, 3) := by decide +kernel
theorem dX12_movesTold_26 : decode cX12_movesTold 26 = .ok (.aload_n 0, 1) := by decide +kernel
theorem dX12_movesTold_27 : decode cX12_movesTold 27 = .ok (.bipush 6, 2) := by decide +kernel
theorem dX12_movesTold_29 : decode cX12_movesTold 29 = .ok (.aload_n 0, 1) := by decide +kernel
theorem dX12_movesTold_30 : decode cX12_movesTold 30 = .ok (.iconst 1, 1) := by decide +kernel
theorem dX12_movesTold_31 : decode cX12_movesTold 31 = .ok (.bipush 99, 2) := by decide +kernel
theorem dX12_movesTold_33 : decode cX12_movesTold 33 = .ok (.invokevirtual 198, 3) := by decide +kernel
theorem dX12_movesTold_36 : decode cX12_movesTold 36 = .ok (.invokevirtual 259, 3) := by decide +kernel
theorem dX12_movesTold_39 : decode cX12_movesTold 39 = .ok (.goto (-26), 3) := by decide +kernel
theorem dX12_movesTold_42 : decode cX12_movesTold 42 = .ok (.aload_n 0, 1) := by decide +kernel
theorem dX12_movesTold_43 : decode cX12_movesTold 43 = .ok (.bipush 26, 2) := by decide +kernel
theorem dX12_movesTold_45 : decode cX12_movesTold 45 = .ok (.invokevirtual 166, 3) := by decide +kernel
theorem dX12_movesTold_48 : decode cX12_movesTold 48 = .ok (.ifCond .eq 19, 3) := by decide +kernel
theorem dX12_movesTold_51 : decode cX12_movesTold 51 = .ok (.aload_n 0, 1) := by decide +kernel
theorem dX12_movesTold_52 : decode cX12_movesTold 52 = .ok (.bipush 7, 2) := by decide +kernel
theorem dX12_movesTold_54 : decode cX12_movesTold 54 = .ok (.aload_n 0, 1) := by decide +kernel
theorem dX12_movesTold_55 : decode cX12_movesTold 55 = .ok (.iconst 1, 1) := by decide +kernel
theorem dX12_movesTold_56 : decode cX12_movesTold 56 = .ok (.bipush 99, 2) := by decide +kernel
theorem dX12_movesTold_58 : decode cX12_movesTold 58 = .ok (.invokevirtual 198, 3) := by decide +kernel
theorem dX12_movesTold_61 : decode cX12_movesTold 61 = .ok (.invokevirtual 259, 3) := by decide +kernel
theorem dX12_movesTold_64 : decode cX12_movesTold 64 = .ok (.goto (-51), 3) := by decide +kernel
theorem dX12_movesTold_67 : decode cX12_movesTold 67 = .ok (.aload_n 0, 1) := by decide +kernel
theorem dX12_movesTold_68 : decode cX12_movesTold 68 = .ok (.bipush 27, 2) := by decide +kernel
theorem dX12_movesTold_70 : decode cX12_movesTold 70 = .ok (.invokevirtual 166, 3) := by decide +kernel
theorem dX12_movesTold_73 : decode cX12_movesTold 73 = .ok (.ifCond .eq 16, 3) := by decide +kernel
theorem dX12_movesTold_76 : decode cX12_movesTold 76 = .ok (.aload_n 0, 1) := by decide +kernel
theorem dX12_movesTold_77 : decode cX12_movesTold 77 = .ok (.bipush 8, 2) := by decide +kernel
theorem dX12_movesTold_79 : decode cX12_movesTold 79 = .ok (.aload_n 0, 1) := by decide +kernel
theorem dX12_movesTold_80 : decode cX12_movesTold 80 = .ok (.invokevirtual 261, 3) := by decide +kernel
theorem dX12_movesTold_83 : decode cX12_movesTold 83 = .ok (.invokevirtual 259, 3) := by decide +kernel
theorem dX12_movesTold_86 : decode cX12_movesTold 86 = .ok (.goto (-73), 3) := by decide +kernel
theorem dX12_movesTold_89 : decode cX12_movesTold 89 = .ok (.iconst 0, 1) := by decide +kernel
theorem dX12_movesTold_90 : decode cX12_movesTold 90 = .ok (.istore_n 1, 1) := by decide +kernel
theorem dX12_movesTold_91 : decode cX12_movesTold 91 = .ok (.goto (-78), 3) := by decide +kernel
theorem dX12_movesTold_94 : decode cX12_movesTold 94 = .ok (.return_, 1) := by decide +kernel
theorem dX12_goesOn_0 : decode cX12_goesOn 0 = .ok (.aload_n 0, 1) := by decide +kernel
theorem dX12_goesOn_1 : decode cX12_goesOn 1 = .ok (.getfield 117, 3) := by decide +kernel
theorem dX12_goesOn_4 : decode cX12_goesOn 4 = .ok (.ifCond .ne 113, 3) := by decide +kernel
theorem dX12_goesOn_7 : decode cX12_goesOn 7 = .ok (.aload_n 0, 1) := by decide +kernel
theorem dX12_goesOn_8 : decode cX12_goesOn 8 = .ok (.invokevirtual 264, 3) := by decide +kernel
theorem dX12_goesOn_11 : decode cX12_goesOn 11 = .ok (.aload_n 0, 1) := by decide +kernel
theorem dX12_goesOn_12 : decode cX12_goesOn 12 = .ok (.bipush 23, 2) := by decide +kernel
theorem dX12_goesOn_14 : decode cX12_goesOn 14 = .ok (.invokevirtual 166, 3) := by decide +kernel
theorem dX12_goesOn_17 : decode cX12_goesOn 17 = .ok (.ifCond .eq 15, 3) := by decide +kernel
theorem dX12_goesOn_20 : decode cX12_goesOn 20 = .ok (.aload_n 0, 1) := by decide +kernel
theorem dX12_goesOn_21 : decode cX12_goesOn 21 = .ok (.iconst 0, 1) := by decide +kernel
theorem dX12_goesOn_22 : decode cX12_goesOn 22 = .ok (.invokevirtual 267, 3) := by decide +kernel
theorem dX12_goesOn_25 : decode cX12_goesOn 25 = .ok (.aload_n 0, 1) := by decide +kernel
theorem dX12_goesOn_26 : decode cX12_goesOn 26 = .ok (.iconst 1, 1) := by decide +kernel
theorem dX12_goesOn_27 : decode cX12_goesOn 27 = .ok (.invokevirtual 271, 3) := by decide +kernel
theorem dX12_goesOn_30 : decode cX12_goesOn 30 = .ok (.iconst 1, 1) := by decide +kernel
theorem dX12_goesOn_31 : decode cX12_goesOn 31 = .ok (.ireturn, 1) := by decide +kernel
theorem dX12_goesOn_32 : decode cX12_goesOn 32 = .ok (.aload_n 0, 1) := by decide +kernel
theorem dX12_goesOn_33 : decode cX12_goesOn 33 = .ok (.bipush 24, 2) := by decide +kernel
theorem dX12_goesOn_35 : decode cX12_goesOn 35 = .ok (.invokevirtual 166, 3) := by decide +kernel
theorem dX12_goesOn_38 : decode cX12_goesOn 38 = .ok (.ifCond .eq 15, 3) := by decide +kernel
theorem dX12_goesOn_41 : decode cX12_goesOn 41 = .ok (.aload_n 0, 1) := by decide +kernel
theorem dX12_goesOn_42 : decode cX12_goesOn 42 = .ok (.iconst 0, 1) := by decide +kernel
theorem dX12_goesOn_43 : decode cX12_goesOn 43 = .ok (.invokevirtual 267, 3) := by decide +kernel
theorem dX12_goesOn_46 : decode cX12_goesOn 46 = .ok (.aload_n 0, 1) := by decide +kernel
theorem dX12_goesOn_47 : decode cX12_goesOn 47 = .ok (.iconst 2, 1) := by decide +kernel
theorem dX12_goesOn_48 : decode cX12_goesOn 48 = .ok (.invokevirtual 271, 3) := by decide +kernel
theorem dX12_goesOn_51 : decode cX12_goesOn 51 = .ok (.iconst 1, 1) := by decide +kernel
theorem dX12_goesOn_52 : decode cX12_goesOn 52 = .ok (.ireturn, 1) := by decide +kernel
theorem dX12_goesOn_53 : decode cX12_goesOn 53 = .ok (.aload_n 0, 1) := by decide +kernel
theorem dX12_goesOn_54 : decode cX12_goesOn 54 = .ok (.bipush 22, 2) := by decide +kernel
theorem dX12_goesOn_56 : decode cX12_goesOn 56 = .ok (.invokevirtual 166, 3) := by decide +kernel
theorem dX12_goesOn_59 : decode cX12_goesOn 59 = .ok (.ifCond .eq 15, 3) := by decide +kernel
theorem dX12_goesOn_62 : decode cX12_goesOn 62 = .ok (.aload_n 0, 1) := by decide +kernel
theorem dX12_goesOn_63 : decode cX12_goesOn 63 = .ok (.iconst 1, 1) := by decide +kernel
theorem dX12_goesOn_64 : decode cX12_goesOn 64 = .ok (.invokevirtual 267, 3) := by decide +kernel
theorem dX12_goesOn_67 : decode cX12_goesOn 67 = .ok (.aload_n 0, 1) := by decide +kernel
theorem dX12_goesOn_68 : decode cX12_goesOn 68 = .ok (.iconst 3, 1) := by decide +kernel
theorem dX12_goesOn_69 : decode cX12_goesOn 69 = .ok (.invokevirtual 271, 3) := by decide +kernel
theorem dX12_goesOn_72 : decode cX12_goesOn 72 = .ok (.iconst 1, 1) := by decide +kernel
theorem dX12_goesOn_73 : decode cX12_goesOn 73 = .ok (.ireturn, 1) := by decide +kernel
theorem dX12_goesOn_74 : decode cX12_goesOn 74 = .ok (.aload_n 0, 1) := by decide +kernel
theorem dX12_goesOn_75 : decode cX12_goesOn 75 = .ok (.iconst 1, 1) := by decide +kernel
theorem dX12_goesOn_76 : decode cX12_goesOn 76 = .ok (.invokevirtual 267, 3) := by decide +kernel
theorem dX12_goesOn_79 : decode cX12_goesOn 79 = .ok (.aload_n 0, 1) := by decide +kernel
theorem dX12_goesOn_80 : decode cX12_goesOn 80 = .ok (.getfield 256, 3) := by decide +kernel
theorem dX12_goesOn_83 : decode cX12_goesOn 83 = .ok (.ifCond .ne 5, 3) := by decide +kernel
theorem dX12_goesOn_86 : decode cX12_goesOn 86 = .ok (.iconst 0, 1) := by decide +kernel
theorem dX12_goesOn_87 : decode cX12_goesOn 87 = .ok (.ireturn, 1) := by decide +kernel
theorem dX12_goesOn_88 : decode cX12_goesOn 88 = .ok (.aload_n 0, 1) := by decide +kernel
theorem dX12_goesOn_89 : decode cX12_goesOn 89 = .ok (.bipush 41, 2) := by decide +kernel
theorem dX12_goesOn_91 : decode cX12_goesOn 91 = .ok (.invokevirtual 201, 3) := by decide +kernel
theorem dX12_goesOn_94 : decode cX12_goesOn 94 = .ok (.aload_n 0, 1) := by decide +kernel
theorem dX12_goesOn_95 : decode cX12_goesOn 95 = .ok (.dup, 1) := by decide +kernel
theorem dX12_goesOn_96 : decode cX12_goesOn 96 = .ok (.getfield 256, 3) := by decide +kernel
theorem dX12_goesOn_99 : decode cX12_goesOn 99 = .ok (.iconst 1, 1) := by decide +kernel
theorem dX12_goesOn_100 : decode cX12_goesOn 100 = .ok (.isub, 1) := by decide +kernel
theorem dX12_goesOn_101 : decode cX12_goesOn 101 = .ok (.putfield 256, 3) := by decide +kernel
theorem dX12_goesOn_104 : decode cX12_goesOn 104 = .ok (.aload_n 0, 1) := by decide +kernel
theorem dX12_goesOn_105 : decode cX12_goesOn 105 = .ok (.dup, 1) := by decide +kernel
theorem dX12_goesOn_106 : decode cX12_goesOn 106 = .ok (.getfield 274, 3) := by decide +kernel
theorem dX12_goesOn_109 : decode cX12_goesOn 109 = .ok (.iconst 1, 1) := by decide +kernel
theorem dX12_goesOn_110 : decode cX12_goesOn 110 = .ok (.isub, 1) := by decide +kernel
theorem dX12_goesOn_111 : decode cX12_goesOn 111 = .ok (.putfield 274, 3) := by decide +kernel
theorem dX12_goesOn_114 : decode cX12_goesOn 114 = .ok (.goto (-114), 3) := by decide +kernel
theorem dX12_goesOn_117 : decode cX12_goesOn 117 = .ok (.iconst 0, 1) := by decide +kernel
theorem dX12_goesOn_118 : decode cX12_goesOn 118 = .ok (.ireturn, 1) := by decide +kernel
theorem dX12_sumTold_0 : decode cX12_sumTold 0 = .ok (.aload_n 0, 1) := by decide +kernel
theorem dX12_sumTold_1 : decode cX12_sumTold 1 = .ok (.iconst 0, 1) := by decide +kernel
theorem dX12_sumTold_2 : decode cX12_sumTold 2 = .ok (.putfield 256, 3) := by decide +kernel
theorem dX12_sumTold_5 : decode cX12_sumTold 5 = .ok (.aload_n 0, 1) := by decide +kernel
theorem dX12_sumTold_6 : decode cX12_sumTold 6 = .ok (.iconst 0, 1) := by decide +kernel
theorem dX12_sumTold_7 : decode cX12_sumTold 7 = .ok (.putfield 274, 3) := by decide +kernel
theorem dX12_sumTold_10 : decode cX12_sumTold 10 = .ok (.aload_n 0, 1) := by decide +kernel
theorem dX12_sumTold_11 : decode cX12_sumTold 11 = .ok (.getfield 117, 3) := by decide +kernel
theorem dX12_sumTold_14 : decode cX12_sumTold 14 = .ok (.ifCond .ne 7, 3) := by decide +kernel
theorem dX12_sumTold_17 : decode cX12_sumTold 17 = .ok (.iconst 1, 1) := by decide +kernel
theorem dX12_sumTold_18 : decode cX12_sumTold 18 = .ok (.goto 4, 3) := by decide +kernel
theorem dX12_sumTold_21 : decode cX12_sumTold 21 = .ok (.iconst 0, 1) := by decide +kernel
theorem dX12_sumTold_22 : decode cX12_sumTold 22 = .ok (.istore_n 1, 1) := by decide +kernel
theorem dX12_sumTold_23 : decode cX12_sumTold 23 = .ok (.iload_n 1, 1) := by decide +kernel
theorem dX12_sumTold_24 : decode cX12_sumTold 24 = .ok (.ifCond .eq 98, 3) := by decide +kernel
theorem dX12_sumTold_27 : decode cX12_sumTold 27 = .ok (.aload_n 0, 1) := by decide +kernel
theorem dX12_sumTold_28 : decode cX12_sumTold 28 = .ok (.getfield 117, 3) := by decide +kernel
theorem dX12_sumTold_31 : decode cX12_sumTold 31 = .ok (.ifCond .ne 91, 3) := by decide +kernel
theorem dX12_sumTold_34 : decode cX12_sumTold 34 = .ok (.aload_n 0, 1) := by decide +kernel
theorem dX12_sumTold_35 : decode cX12_sumTold 35 = .ok (.invokevirtual 129, 3) := by decide +kernel
theorem dX12_sumTold_38 : decode cX12_sumTold 38 = .ok (.bipush 40, 2) := by decide +kernel
theorem dX12_sumTold_40 : decode cX12_sumTold 40 = .ok (.if_icmp .ne 49, 3) := by decide +kernel
theorem dX12_sumTold_43 : decode cX12_sumTold 43 = .ok (.aload_n 0, 1) := by decide +kernel
theorem dX12_sumTold_44 : decode cX12_sumTold 44 = .ok (.getfield 274, 3) := by decide +kernel
theorem dX12_sumTold_47 : decode cX12_sumTold 47 = .ok (.bipush 6, 2) := by decide +kernel
theorem dX12_sumTold_49 : decode cX12_sumTold 49 = .ok (.if_icmp .ne 12, 3) := by decide +kernel
theorem dX12_sumTold_52 : decode cX12_sumTold 52 = .ok (.aload_n 0, 1) := by decide +kernel
theorem dX12_sumTold_53 : decode cX12_sumTold 53 = .ok (.iconst 5, 1) := by decide +kernel
theorem dX12_sumTold_54 : decode cX12_sumTold 54 = .ok (.aload_n 0, 1) := by decide +kernel
theorem dX12_sumTold_55 : decode cX12_sumTold 55 = .ok (.getfield 123, 3) := by decide +kernel
theorem dX12_sumTold_58 : decode cX12_sumTold 58 = .ok (.invokevirtual 142, 3) := by decide +kernel
theorem dX12_sumTold_61 : decode cX12_sumTold 61 = .ok (.aload_n 0, 1) := by decide +kernel
theorem dX12_sumTold_62 : decode cX12_sumTold 62 = .ok (.dup, 1) := by decide +kernel
theorem dX12_sumTold_63 : decode cX12_sumTold 63 = .ok (.getfield 274, 3) := by decide +kernel
theorem dX12_sumTold_66 : decode cX12_sumTold 66 = .ok (.iconst 1, 1) := by decide +kernel
theorem dX12_sumTold_67 : decode cX12_sumTold 67 = .ok (.iadd, 1) := by decide +kernel
theorem dX12_sumTold_68 : decode cX12_sumTold 68 = .ok (.putfield 274, 3) := by decide +kernel
theorem dX12_sumTold_71 : decode cX12_sumTold 71 = .ok (.aload_n 0, 1) := by decide +kernel
theorem dX12_sumTold_72 : decode cX12_sumTold 72 = .ok (.iconst 0, 1) := by decide +kernel
theorem dX12_sumTold_73 : decode cX12_sumTold 73 = .ok (.invokevirtual 271, 3) := by decide +kernel
theorem dX12_sumTold_76 : decode cX12_sumTold 76 = .ok (.aload_n 0, 1) := by decide +kernel
theorem dX12_sumTold_77 : decode cX12_sumTold 77 = .ok (.dup, 1) := by decide +kernel
theorem dX12_sumTold_78 : decode cX12_sumTold 78 = .ok (.getfield 123, 3) := by decide +kernel
theorem dX12_sumTold_81 : decode cX12_sumTold 81 = .ok (.iconst 1, 1) := by decide +kernel
theorem dX12_sumTold_82 : decode cX12_sumTold 82 = .ok (.iadd, 1) := by decide +kernel
theorem dX12_sumTold_83 : decode cX12_sumTold 83 = .ok (.putfield 123, 3) := by decide +kernel
theorem dX12_sumTold_86 : decode cX12_sumTold 86 = .ok (.goto (-63), 3) := by decide +kernel
theorem dX12_sumTold_89 : decode cX12_sumTold 89 = .ok (.aload_n 0, 1) := by decide +kernel
theorem dX12_sumTold_90 : decode cX12_sumTold 90 = .ok (.bipush 28, 2) := by decide +kernel
theorem dX12_sumTold_92 : decode cX12_sumTold 92 = .ok (.invokevirtual 166, 3) := by decide +kernel
theorem dX12_sumTold_95 : decode cX12_sumTold 95 = .ok (.ifCond .eq 10, 3) := by decide +kernel
theorem dX12_sumTold_98 : decode cX12_sumTold 98 = .ok (.aload_n 0, 1) := by decide +kernel
theorem dX12_sumTold_99 : decode cX12_sumTold 99 = .ok (.invokevirtual 277, 3) := by decide +kernel
theorem dX12_sumTold_102 : decode cX12_sumTold 102 = .ok (.goto 12, 3) := by decide +kernel
theorem dX12_sumTold_105 : decode cX12_sumTold 105 = .ok (.aload_n 0, 1) := by decide +kernel
theorem dX12_sumTold_106 : decode cX12_sumTold 106 = .ok (.iconst 0, 1) := by decide +kernel
theorem dX12_sumTold_107 : decode cX12_sumTold 107 = .ok (.aload_n 0, 1) := by decide +kernel
theorem dX12_sumTold_108 : decode cX12_sumTold 108 = .ok (.invokevirtual 261, 3) := by decide +kernel
theorem dX12_sumTold_111 : decode cX12_sumTold 111 = .ok (.invokevirtual 259, 3) := by decide +kernel
theorem dX12_sumTold_114 : decode cX12_sumTold 114 = .ok (.aload_n 0, 1) := by decide +kernel
theorem dX12_sumTold_115 : decode cX12_sumTold 115 = .ok (.invokevirtual 280, 3) := by decide +kernel
theorem dX12_sumTold_118 : decode cX12_sumTold 118 = .ok (.istore_n 1, 1) := by decide +kernel
theorem dX12_sumTold_119 : decode cX12_sumTold 119 = .ok (.goto (-96), 3) := by decide +kernel
theorem dX12_sumTold_122 : decode cX12_sumTold 122 = .ok (.return_, 1) := by decide +kernel
theorem dX12_setTold_0 : decode cX12_setTold 0 = .ok (.aload_n 0, 1) := by decide +kernel
theorem dX12_setTold_1 : decode cX12_setTold 1 = .ok (.getfield 36, 3) := by decide +kernel
theorem dX12_setTold_4 : decode cX12_setTold 4 = .ok (.iconst 1, 1) := by decide +kernel
theorem dX12_setTold_5 : decode cX12_setTold 5 = .ok (.iaload, 1) := by decide +kernel
theorem dX12_setTold_6 : decode cX12_setTold 6 = .ok (.istore_n 2, 1) := by decide +kernel
theorem dX12_setTold_7 : decode cX12_setTold 7 = .ok (.iload_n 2, 1) := by decide +kernel
theorem dX12_setTold_8 : decode cX12_setTold 8 = .ok (.bipush 6, 2) := by decide +kernel
theorem dX12_setTold_10 : decode cX12_setTold 10 = .ok (.if_icmp .ne 9, 3) := by decide +kernel
theorem dX12_setTold_13 : decode cX12_setTold 13 = .ok (.aload_n 0, 1) := by decide +kernel
theorem dX12_setTold_14 : decode cX12_setTold 14 = .ok (.iconst 5, 1) := by decide +kernel
theorem dX12_setTold_15 : decode cX12_setTold 15 = .ok (.iload_n 1, 1) := by decide +kernel
theorem dX12_setTold_16 : decode cX12_setTold 16 = .ok (.invokevirtual 142, 3) := by decide +kernel
theorem dX12_setTold_19 : decode cX12_setTold 19 = .ok (.aload_n 0, 1) := by decide +kernel
theorem dX12_setTold_20 : decode cX12_setTold 20 = .ok (.getfield 117, 3) := by decide +kernel
theorem dX12_setTold_23 : decode cX12_setTold 23 = .ok (.ifCond .eq 4, 3) := by decide +kernel
theorem dX12_setTold_26 : decode cX12_setTold 26 = .ok (.return_, 1) := by decide +kernel
theorem dX12_setTold_27 : decode cX12_setTold 27 = .ok (.aload_n 0, 1) := by decide +kernel
theorem dX12_setTold_28 : decode cX12_setTold 28 = .ok (.invokevirtual 238, 3) := by decide +kernel
theorem dX12_setTold_31 : decode cX12_setTold 31 = .ok (.istore_n 3, 1) := by decide +kernel
theorem dX12_setTold_32 : decode cX12_setTold 32 = .ok (.aload_n 0, 1) := by decide +kernel
theorem dX12_setTold_33 : decode cX12_setTold 33 = .ok (.bipush 21, 2) := by decide +kernel
theorem dX12_setTold_35 : decode cX12_setTold 35 = .ok (.invokevirtual 241, 3) := by decide +kernel
theorem dX12_setTold_38 : decode cX12_setTold 38 = .ok (.aload_n 0, 1) := by decide +kernel
theorem dX12_setTold_39 : decode cX12_setTold 39 = .ok (.getfield 36, 3) := by decide +kernel
theorem dX12_setTold_42 : decode cX12_setTold 42 = .ok (.iload_n 2, 1) := by decide +kernel
theorem dX12_setTold_43 : decode cX12_setTold 43 = .ok (.iconst 1, 1) := by decide +kernel
theorem dX12_setTold_44 : decode cX12_setTold 44 = .ok (.invokestatic 189, 3) := by decide +kernel
theorem dX12_setTold_47 : decode cX12_setTold 47 = .ok (.aload_n 0, 1) := by decide +kernel
theorem dX12_setTold_48 : decode cX12_setTold 48 = .ok (.getfield 253, 3) := by decide +kernel
theorem dX12_setTold_51 : decode cX12_setTold 51 = .ok (.iastore, 1) := by decide +kernel
theorem dX12_setTold_52 : decode cX12_setTold 52 = .ok (.aload_n 0, 1) := by decide +kernel
theorem dX12_setTold_53 : decode cX12_setTold 53 = .ok (.invokevirtual 283, 3) := by decide +kernel
theorem dX12_setTold_56 : decode cX12_setTold 56 = .ok (.aload_n 0, 1) := by decide +kernel
theorem dX12_setTold_57 : decode cX12_setTold 57 = .ok (.getfield 117, 3) := by decide +kernel
theorem dX12_setTold_60 : decode cX12_setTold 60 = .ok (.ifCond .eq 4, 3) := by decide +kernel
theorem dX12_setTold_63 : decode cX12_setTold 63 = .ok (.return_, 1) := by decide +kernel
theorem dX12_setTold_64 : decode cX12_setTold 64 = .ok (.aload_n 0, 1) := by decide +kernel
theorem dX12_setTold_65 : decode cX12_setTold 65 = .ok (.getfield 36, 3) := by decide +kernel
theorem dX12_setTold_68 : decode cX12_setTold 68 = .ok (.iload_n 2, 1) := by decide +kernel
theorem dX12_setTold_69 : decode cX12_setTold 69 = .ok (.iconst 0, 1) := by decide +kernel
theorem dX12_setTold_70 : decode cX12_setTold 70 = .ok (.invokestatic 189, 3) := by decide +kernel
theorem dX12_setTold_73 : decode cX12_setTold 73 = .ok (.iload_n 3, 1) := by decide +kernel
theorem dX12_setTold_74 : decode cX12_setTold 74 = .ok (.iastore, 1) := by decide +kernel
theorem dX12_setTold_75 : decode cX12_setTold 75 = .ok (.aload_n 0, 1) := by decide +kernel
theorem dX12_setTold_76 : decode cX12_setTold 76 = .ok (.getfield 36, 3) := by decide +kernel
theorem dX12_setTold_79 : decode cX12_setTold 79 = .ok (.iload_n 2, 1) := by decide +kernel
theorem dX12_setTold_80 : decode cX12_setTold 80 = .ok (.iconst 2, 1) := by decide +kernel
theorem dX12_setTold_81 : decode cX12_setTold 81 = .ok (.invokestatic 189, 3) := by decide +kernel
theorem dX12_setTold_84 : decode cX12_setTold 84 = .ok (.aload_n 0, 1) := by decide +kernel
theorem dX12_setTold_85 : decode cX12_setTold 85 = .ok (.getfield 253, 3) := by decide +kernel
theorem dX12_setTold_88 : decode cX12_setTold 88 = .ok (.iastore, 1) := by decide +kernel
theorem dX12_setTold_89 : decode cX12_setTold 89 = .ok (.aload_n 0, 1) := by decide +kernel
theorem dX12_setTold_90 : decode cX12_setTold 90 = .ok (.getfield 36, 3) := by decide +kernel
theorem dX12_setTold_93 : decode cX12_setTold 93 = .ok (.iconst 1, 1) := by decide +kernel
theorem dX12_setTold_94 : decode cX12_setTold 94 = .ok (.dup2, 1) := by decide +kernel
theorem dX12_setTold_95 : decode cX12_setTold 95 = .ok (.iaload, 1) := by decide +kernel
theorem dX12_setTold_96 : decode cX12_setTold 96 = .ok (.iconst 1, 1) := by decide +kernel
theorem dX12_setTold_97 : decode cX12_setTold 97 = .ok (.iadd, 1) := by decide +kernel
theorem dX12_setTold_98 : decode cX12_setTold 98 = .ok (.iastore, 1) := by decide +kernel
theorem dX12_setTold_99 : decode cX12_setTold 99 = .ok (.return_, 1) := by decide +kernel
theorem dX12_statementTold_0 : decode cX12_statementTold 0 = .ok (.aload_n 0, 1) := by decide +kernel
theorem dX12_statementTold_1 : decode cX12_statementTold 1 = .ok (.getfield 123, 3) := by decide +kernel
theorem dX12_statementTold_4 : decode cX12_statementTold 4 = .ok (.istore_n 1, 1) := by decide +kernel
theorem dX12_statementTold_5 : decode cX12_statementTold 5 = .ok (.aload_n 0, 1) := by decide +kernel
theorem dX12_statementTold_6 : decode cX12_statementTold 6 = .ok (.bipush 17, 2) := by decide +kernel
theorem dX12_statementTold_8 : decode cX12_statementTold 8 = .ok (.invokevirtual 166, 3) := by decide +kernel
theorem dX12_statementTold_11 : decode cX12_statementTold 11 = .ok (.ifCond .eq 11, 3) := by decide +kernel
theorem dX12_statementTold_14 : decode cX12_statementTold 14 = .ok (.aload_n 0, 1) := by decide +kernel
theorem dX12_statementTold_15 : decode cX12_statementTold 15 = .ok (.iload_n 1, 1) := by decide +kernel
theorem dX12_statementTold_16 : decode cX12_statementTold 16 = .ok (.invokevirtual 286, 3) := by decide +kernel
theorem dX12_statementTold_19 : decode cX12_statementTold 19 = .ok (.goto 26, 3) := by decide +kernel
theorem dX12_statementTold_22 : decode cX12_statementTold 22 = .ok (.aload_n 0, 1) := by decide +kernel
theorem dX12_statementTold_23 : decode cX12_statementTold 23 = .ok (.bipush 20, 2) := by decide +kernel
theorem dX12_statementTold_25 : decode cX12_statementTold 25 = .ok (.invokevirtual 166, 3) := by decide +kernel
theorem dX12_statementTold_28 : decode cX12_statementTold 28 = .ok (.ifCond .eq 11, 3) := by decide +kernel
theorem dX12_statementTold_31 : decode cX12_statementTold 31 = .ok (.aload_n 0, 1) := by decide +kernel
theorem dX12_statementTold_32 : decode cX12_statementTold 32 = .ok (.iload_n 1, 1) := by decide +kernel
theorem dX12_statementTold_33 : decode cX12_statementTold 33 = .ok (.invokevirtual 289, 3) := by decide +kernel
theorem dX12_statementTold_36 : decode cX12_statementTold 36 = .ok (.goto 9, 3) := by decide +kernel
theorem dX12_statementTold_39 : decode cX12_statementTold 39 = .ok (.aload_n 0, 1) := by decide +kernel
theorem dX12_statementTold_40 : decode cX12_statementTold 40 = .ok (.iconst 1, 1) := by decide +kernel
theorem dX12_statementTold_41 : decode cX12_statementTold 41 = .ok (.iload_n 1, 1) := by decide +kernel
theorem dX12_statementTold_42 : decode cX12_statementTold 42 = .ok (.invokevirtual 142, 3) := by decide +kernel
theorem dX12_statementTold_45 : decode cX12_statementTold 45 = .ok (.aload_n 0, 1) := by decide +kernel
theorem dX12_statementTold_46 : decode cX12_statementTold 46 = .ok (.bipush 59, 2) := by decide +kernel
theorem dX12_statementTold_48 : decode cX12_statementTold 48 = .ok (.invokevirtual 201, 3) := by decide +kernel
theorem dX12_statementTold_51 : decode cX12_statementTold 51 = .ok (.aload_n 0, 1) := by decide +kernel
theorem dX12_statementTold_52 : decode cX12_statementTold 52 = .ok (.dup, 1) := by decide +kernel
theorem dX12_statementTold_53 : decode cX12_statementTold 53 = .ok (.getfield 292, 3) := by decide +kernel
theorem dX12_statementTold_56 : decode cX12_statementTold 56 = .ok (.iconst 1, 1) := by decide +kernel
theorem dX12_statementTold_57 : decode cX12_statementTold 57 = .ok (.iadd, 1) := by decide +kernel
theorem dX12_statementTold_58 : decode cX12_statementTold 58 = .ok (.putfield 292, 3) := by decide +kernel
theorem dX12_statementTold_61 : decode cX12_statementTold 61 = .ok (.return_, 1) := by decide +kernel
theorem dX12_book_0 : decode cX12_book 0 = .ok (.aload_n 0, 1) := by decide +kernel
theorem dX12_book_1 : decode cX12_book 1 = .ok (.aload_n 0, 1) := by decide +kernel
theorem dX12_book_2 : decode cX12_book 2 = .ok (.getfield 97, 3) := by decide +kernel
theorem dX12_book_5 : decode cX12_book 5 = .ok (.putfield 126, 3) := by decide +kernel
theorem dX12_book_8 : decode cX12_book 8 = .ok (.aload_n 0, 1) := by decide +kernel
theorem dX12_book_9 : decode cX12_book 9 = .ok (.iconst 0, 1) := by decide +kernel
theorem dX12_book_10 : decode cX12_book 10 = .ok (.putfield 97, 3) := by decide +kernel
theorem dX12_book_13 : decode cX12_book 13 = .ok (.aload_n 0, 1) := by decide +kernel
theorem dX12_book_14 : decode cX12_book 14 = .ok (.iconst 0, 1) := by decide +kernel
theorem dX12_book_15 : decode cX12_book 15 = .ok (.putfield 123, 3) := by decide +kernel
theorem dX12_book_18 : decode cX12_book 18 = .ok (.aload_n 0, 1) := by decide +kernel
theorem dX12_book_19 : decode cX12_book 19 = .ok (.iconst (-1), 1) := by decide +kernel
theorem dX12_book_20 : decode cX12_book 20 = .ok (.putfield 136, 3) := by decide +kernel
theorem dX12_book_23 : decode cX12_book 23 = .ok (.aload_n 0, 1) := by decide +kernel
theorem dX12_book_24 : decode cX12_book 24 = .ok (.iconst 0, 1) := by decide +kernel
theorem dX12_book_25 : decode cX12_book 25 = .ok (.putfield 117, 3) := by decide +kernel
theorem dX12_book_28 : decode cX12_book 28 = .ok (.aload_n 0, 1) := by decide +kernel
theorem dX12_book_29 : decode cX12_book 29 = .ok (.iconst (-1), 1) := by decide +kernel
theorem dX12_book_30 : decode cX12_book 30 = .ok (.putfield 120, 3) := by decide +kernel
theorem dX12_book_33 : decode cX12_book 33 = .ok (.aload_n 0, 1) := by decide +kernel
theorem dX12_book_34 : decode cX12_book 34 = .ok (.iconst 0, 1) := by decide +kernel
theorem dX12_book_35 : decode cX12_book 35 = .ok (.putfield 292, 3) := by decide +kernel
theorem dX12_book_38 : decode cX12_book 38 = .ok (.aload_n 0, 1) := by decide +kernel
theorem dX12_book_39 : decode cX12_book 39 = .ok (.iconst 0, 1) := by decide +kernel
theorem dX12_book_40 : decode cX12_book 40 = .ok (.putfield 253, 3) := by decide +kernel
theorem dX12_book_43 : decode cX12_book 43 = .ok (.aload_n 0, 1) := by decide +kernel
theorem dX12_book_44 : decode cX12_book 44 = .ok (.invokevirtual 183, 3) := by decide +kernel
theorem dX12_book_47 : decode cX12_book 47 = .ok (.iconst 0, 1) := by decide +kernel
theorem dX12_book_48 : decode cX12_book 48 = .ok (.istore_n 1, 1) := by decide +kernel
theorem dX12_book_49 : decode cX12_book 49 = .ok (.iload_n 1, 1) := by decide +kernel
theorem dX12_book_50 : decode cX12_book 50 = .ok (.sipush 272, 3) := by decide +kernel
theorem dX12_book_53 : decode cX12_book 53 = .ok (.if_icmp .ge 16, 3) := by decide +kernel
theorem dX12_book_56 : decode cX12_book 56 = .ok (.aload_n 0, 1) := by decide +kernel
theorem dX12_book_57 : decode cX12_book 57 = .ok (.getfield 36, 3) := by decide +kernel
theorem dX12_book_60 : decode cX12_book 60 = .ok (.iload_n 1, 1) := by decide +kernel
theorem dX12_book_61 : decode cX12_book 61 = .ok (.iconst 0, 1) := by decide +kernel
theorem dX12_book_62 : decode cX12_book 62 = .ok (.iastore, 1) := by decide +kernel
theorem dX12_book_63 : decode cX12_book 63 = .ok (.iinc 1 1, 3) := by decide +kernel
theorem dX12_book_66 : decode cX12_book 66 = .ok (.goto (-17), 3) := by decide +kernel
theorem dX12_book_69 : decode cX12_book 69 = .ok (.aload_n 0, 1) := by decide +kernel
theorem dX12_book_70 : decode cX12_book 70 = .ok (.invokevirtual 129, 3) := by decide +kernel
theorem dX12_book_73 : decode cX12_book 73 = .ok (.iconst (-1), 1) := by decide +kernel
theorem dX12_book_74 : decode cX12_book 74 = .ok (.if_icmp .ne 12, 3) := by decide +kernel
theorem dX12_book_77 : decode cX12_book 77 = .ok (.aload_n 0, 1) := by decide +kernel
theorem dX12_book_78 : decode cX12_book 78 = .ok (.iconst 1, 1) := by decide +kernel
theorem dX12_book_79 : decode cX12_book 79 = .ok (.aload_n 0, 1) := by decide +kernel
theorem dX12_book_80 : decode cX12_book 80 = .ok (.getfield 126, 3) := by decide +kernel
theorem dX12_book_83 : decode cX12_book 83 = .ok (.invokevirtual 142, 3) := by decide +kernel
theorem dX12_book_86 : decode cX12_book 86 = .ok (.aload_n 0, 1) := by decide +kernel
theorem dX12_book_87 : decode cX12_book 87 = .ok (.getfield 117, 3) := by decide +kernel
theorem dX12_book_90 : decode cX12_book 90 = .ok (.ifCond .ne 18, 3) := by decide +kernel
theorem dX12_book_93 : decode cX12_book 93 = .ok (.aload_n 0, 1) := by decide +kernel
theorem dX12_book_94 : decode cX12_book 94 = .ok (.invokevirtual 129, 3) := by decide +kernel
theorem dX12_book_97 : decode cX12_book 97 = .ok (.iconst (-1), 1) := by decide +kernel
theorem dX12_book_98 : decode cX12_book 98 = .ok (.if_icmp .eq 10, 3) := by decide +kernel
theorem dX12_book_101 : decode cX12_book 101 = .ok (.aload_n 0, 1) := by decide +kernel
theorem dX12_book_102 : decode cX12_book 102 = .ok (.invokevirtual 295, 3) := by decide +kernel
theorem dX12_book_105 : decode cX12_book 105 = .ok (.goto (-19), 3) := by decide +kernel
theorem dX12_book_108 : decode cX12_book 108 = .ok (.aload_n 0, 1) := by decide +kernel
theorem dX12_book_109 : decode cX12_book 109 = .ok (.aload_n 0, 1) := by decide +kernel
theorem dX12_book_110 : decode cX12_book 110 = .ok (.getfield 117, 3) := by decide +kernel
theorem dX12_book_113 : decode cX12_book 113 = .ok (.putfield 114, 3) := by decide +kernel
theorem dX12_book_116 : decode cX12_book 116 = .ok (.aload_n 0, 1) := by decide +kernel
theorem dX12_book_117 : decode cX12_book 117 = .ok (.aload_n 0, 1) := by decide +kernel
theorem dX12_book_118 : decode cX12_book 118 = .ok (.getfield 120, 3) := by decide +kernel
theorem dX12_book_121 : decode cX12_book 121 = .ok (.putfield 13, 3) := by decide +kernel
theorem dX12_book_124 : decode cX12_book 124 = .ok (.aload_n 0, 1) := by decide +kernel
theorem dX12_book_125 : decode cX12_book 125 = .ok (.getfield 117, 3) := by decide +kernel
theorem dX12_book_128 : decode cX12_book 128 = .ok (.ifCond .eq 9, 3) := by decide +kernel
theorem dX12_book_131 : decode cX12_book 131 = .ok (.aload_n 0, 1) := by decide +kernel
theorem dX12_book_132 : decode cX12_book 132 = .ok (.iconst 1, 1) := by decide +kernel
theorem dX12_book_133 : decode cX12_book 133 = .ok (.invokevirtual 100, 3) := by decide +kernel
theorem dX12_book_136 : decode cX12_book 136 = .ok (.ireturn, 1) := by decide +kernel
theorem dX12_book_137 : decode cX12_book 137 = .ok (.iconst 0, 1) := by decide +kernel
theorem dX12_book_138 : decode cX12_book 138 = .ok (.istore_n 1, 1) := by decide +kernel
theorem dX12_book_139 : decode cX12_book 139 = .ok (.iload_n 1, 1) := by decide +kernel
theorem dX12_book_140 : decode cX12_book 140 = .ok (.sipush 272, 3) := by decide +kernel
theorem dX12_book_143 : decode cX12_book 143 = .ok (.if_icmp .ge 21, 3) := by decide +kernel
theorem dX12_book_146 : decode cX12_book 146 = .ok (.aload_n 0, 1) := by decide +kernel
theorem dX12_book_147 : decode cX12_book 147 = .ok (.getfield 39, 3) := by decide +kernel
theorem dX12_book_150 : decode cX12_book 150 = .ok (.iload_n 1, 1) := by decide +kernel
theorem dX12_book_151 : decode cX12_book 151 = .ok (.aload_n 0, 1) := by decide +kernel
theorem dX12_book_152 : decode cX12_book 152 = .ok (.getfield 36, 3) := by decide +kernel
theorem dX12_book_155 : decode cX12_book 155 = .ok (.iload_n 1, 1) := by decide +kernel
theorem dX12_book_156 : decode cX12_book 156 = .ok (.iaload, 1) := by decide +kernel
theorem dX12_book_157 : decode cX12_book 157 = .ok (.iastore, 1) := by decide +kernel
theorem dX12_book_158 : decode cX12_book 158 = .ok (.iinc 1 1, 3) := by decide +kernel
theorem dX12_book_161 : decode cX12_book 161 = .ok (.goto (-22), 3) := by decide +kernel
theorem dX12_book_164 : decode cX12_book 164 = .ok (.iconst 0, 1) := by decide +kernel
theorem dX12_book_165 : decode cX12_book 165 = .ok (.istore_n 1, 1) := by decide +kernel
theorem dX12_book_166 : decode cX12_book 166 = .ok (.iload_n 1, 1) := by decide +kernel
theorem dX12_book_167 : decode cX12_book 167 = .ok (.iconst 2, 1) := by decide +kernel
theorem dX12_book_168 : decode cX12_book 168 = .ok (.aload_n 0, 1) := by decide +kernel
theorem dX12_book_169 : decode cX12_book 169 = .ok (.getfield 253, 3) := by decide +kernel
theorem dX12_book_172 : decode cX12_book 172 = .ok (.imul, 1) := by decide +kernel
theorem dX12_book_173 : decode cX12_book 173 = .ok (.if_icmp .ge 21, 3) := by decide +kernel
theorem dX12_book_176 : decode cX12_book 176 = .ok (.aload_n 0, 1) := by decide +kernel
theorem dX12_book_177 : decode cX12_book 177 = .ok (.getfield 45, 3) := by decide +kernel
theorem dX12_book_180 : decode cX12_book 180 = .ok (.iload_n 1, 1) := by decide +kernel
theorem dX12_book_181 : decode cX12_book 181 = .ok (.aload_n 0, 1) := by decide +kernel
theorem dX12_book_182 : decode cX12_book 182 = .ok (.getfield 42, 3) := by decide +kernel
theorem dX12_book_185 : decode cX12_book 185 = .ok (.iload_n 1, 1) := by decide +kernel
theorem dX12_book_186 : decode cX12_book 186 = .ok (.iaload, 1) := by decide +kernel
theorem dX12_book_187 : decode cX12_book 187 = .ok (.iastore, 1) := by decide +kernel
theorem dX12_book_188 : decode cX12_book 188 = .ok (.iinc 1 1, 3) := by decide +kernel
theorem dX12_book_191 : decode cX12_book 191 = .ok (.goto (-25), 3) := by decide +kernel
theorem dX12_book_194 : decode cX12_book 194 = .ok (.aload_n 0, 1) := by decide +kernel
theorem dX12_book_195 : decode cX12_book 195 = .ok (.iconst 1, 1) := by decide +kernel
theorem dX12_book_196 : decode cX12_book 196 = .ok (.putfield 298, 3) := by decide +kernel
theorem dX12_book_199 : decode cX12_book 199 = .ok (.aload_n 0, 1) := by decide +kernel
theorem dX12_book_200 : decode cX12_book 200 = .ok (.invokevirtual 301, 3) := by decide +kernel
theorem dX12_book_203 : decode cX12_book 203 = .ok (.aload_n 0, 1) := by decide +kernel
theorem dX12_book_204 : decode cX12_book 204 = .ok (.getfield 292, 3) := by decide +kernel
theorem dX12_book_207 : decode cX12_book 207 = .ok (.ireturn, 1) := by decide +kernel
theorem dX12_handAt_0 : decode cX12_handAt 0 = .ok (.bipush 12, 2) := by decide +kernel
theorem dX12_handAt_2 : decode cX12_handAt 2 = .ok (.bipush 42, 2) := by decide +kernel
theorem dX12_handAt_4 : decode cX12_handAt 4 = .ok (.iload_n 0, 1) := by decide +kernel
theorem dX12_handAt_5 : decode cX12_handAt 5 = .ok (.imul, 1) := by decide +kernel
theorem dX12_handAt_6 : decode cX12_handAt 6 = .ok (.iadd, 1) := by decide +kernel
theorem dX12_handAt_7 : decode cX12_handAt 7 = .ok (.iload_n 1, 1) := by decide +kernel
theorem dX12_handAt_8 : decode cX12_handAt 8 = .ok (.ifCond .eq 8, 3) := by decide +kernel
theorem dX12_handAt_11 : decode cX12_handAt 11 = .ok (.bipush 21, 2) := by decide +kernel
theorem dX12_handAt_13 : decode cX12_handAt 13 = .ok (.goto 4, 3) := by decide +kernel
theorem dX12_handAt_16 : decode cX12_handAt 16 = .ok (.iconst 0, 1) := by decide +kernel
theorem dX12_handAt_17 : decode cX12_handAt 17 = .ok (.iadd, 1) := by decide +kernel
theorem dX12_handAt_18 : decode cX12_handAt 18 = .ok (.ireturn, 1) := by decide +kernel
theorem dX12_begins_0 : decode cX12_begins 0 = .ok (.iconst 0, 1) := by decide +kernel
theorem dX12_begins_1 : decode cX12_begins 1 = .ok (.istore_n 1, 1) := by decide +kernel
theorem dX12_begins_2 : decode cX12_begins 2 = .ok (.iload_n 1, 1) := by decide +kernel
theorem dX12_begins_3 : decode cX12_begins 3 = .ok (.sipush 264, 3) := by decide +kernel
theorem dX12_begins_6 : decode cX12_begins 6 = .ok (.if_icmp .ge 16, 3) := by decide +kernel
theorem dX12_begins_9 : decode cX12_begins 9 = .ok (.aload_n 0, 1) := by decide +kernel
theorem dX12_begins_10 : decode cX12_begins 10 = .ok (.getfield 54, 3) := by decide +kernel
theorem dX12_begins_13 : decode cX12_begins 13 = .ok (.iload_n 1, 1) := by decide +kernel
theorem dX12_begins_14 : decode cX12_begins 14 = .ok (.iconst 0, 1) := by decide +kernel
theorem dX12_begins_15 : decode cX12_begins 15 = .ok (.iastore, 1) := by decide +kernel
theorem dX12_begins_16 : decode cX12_begins 16 = .ok (.iinc 1 1, 3) := by decide +kernel
theorem dX12_begins_19 : decode cX12_begins 19 = .ok (.goto (-17), 3) := by decide +kernel
theorem dX12_begins_22 : decode cX12_begins 22 = .ok (.iconst 0, 1) := by decide +kernel
theorem dX12_begins_23 : decode cX12_begins 23 = .ok (.istore_n 1, 1) := by decide +kernel
theorem dX12_begins_24 : decode cX12_begins 24 = .ok (.iload_n 1, 1) := by decide +kernel
theorem dX12_begins_25 : decode cX12_begins 25 = .ok (.aload_n 0, 1) := by decide +kernel
theorem dX12_begins_26 : decode cX12_begins 26 = .ok (.getfield 39, 3) := by decide +kernel
theorem dX12_begins_29 : decode cX12_begins 29 = .ok (.iconst 0, 1) := by decide +kernel
theorem dX12_begins_30 : decode cX12_begins 30 = .ok (.iaload, 1) := by decide +kernel
theorem dX12_begins_31 : decode cX12_begins 31 = .ok (.if_icmp .ge 47, 3) := by decide +kernel
theorem dX12_begins_34 : decode cX12_begins 34 = .ok (.aload_n 0, 1) := by decide +kernel
theorem dX12_begins_35 : decode cX12_begins 35 = .ok (.getfield 54, 3) := by decide +kernel
theorem dX12_begins_38 : decode cX12_begins 38 = .ok (.iconst 2, 1) := by decide +kernel
theorem dX12_begins_39 : decode cX12_begins 39 = .ok (.iload_n 1, 1) := by decide +kernel
theorem dX12_begins_40 : decode cX12_begins 40 = .ok (.imul, 1) := by decide +kernel
theorem dX12_begins_41 : decode cX12_begins 41 = .ok (.aload_n 0, 1) := by decide +kernel
theorem dX12_begins_42 : decode cX12_begins 42 = .ok (.getfield 39, 3) := by decide +kernel
theorem dX12_begins_45 : decode cX12_begins 45 = .ok (.iload_n 1, 1) := by decide +kernel
theorem dX12_begins_46 : decode cX12_begins 46 = .ok (.iconst 1, 1) := by decide +kernel
theorem dX12_begins_47 : decode cX12_begins 47 = .ok (.invokestatic 186, 3) := by decide +kernel
theorem dX12_begins_50 : decode cX12_begins 50 = .ok (.iaload, 1) := by decide +kernel
theorem dX12_begins_51 : decode cX12_begins 51 = .ok (.iastore, 1) := by decide +kernel
theorem dX12_begins_52 : decode cX12_begins 52 = .ok (.aload_n 0, 1) := by decide +kernel
theorem dX12_begins_53 : decode cX12_begins 53 = .ok (.getfield 54, 3) := by decide +kernel
theorem dX12_begins_56 : decode cX12_begins 56 = .ok (.iconst 2, 1) := by decide +kernel
theorem dX12_begins_57 : decode cX12_begins 57 = .ok (.iload_n 1, 1) := by decide +kernel
theorem dX12_begins_58 : decode cX12_begins 58 = .ok (.imul, 1) := by decide +kernel
theorem dX12_begins_59 : decode cX12_begins 59 = .ok (.iconst 1, 1) := by decide +kernel
theorem dX12_begins_60 : decode cX12_begins 60 = .ok (.iadd, 1) := by decide +kernel
theorem dX12_begins_61 : decode cX12_begins 61 = .ok (.aload_n 0, 1) := by decide +kernel
theorem dX12_begins_62 : decode cX12_begins 62 = .ok (.getfield 39, 3) := by decide +kernel
theorem dX12_begins_65 : decode cX12_begins 65 = .ok (.iload_n 1, 1) := by decide +kernel
theorem dX12_begins_66 : decode cX12_begins 66 = .ok (.iconst 3, 1) := by decide +kernel
theorem dX12_begins_67 : decode cX12_begins 67 = .ok (.invokestatic 186, 3) := by decide +kernel
theorem dX12_begins_70 : decode cX12_begins 70 = .ok (.iaload, 1) := by decide +kernel
theorem dX12_begins_71 : decode cX12_begins 71 = .ok (.iastore, 1) := by decide +kernel
theorem dX12_begins_72 : decode cX12_begins 72 = .ok (.iinc 1 1, 3) := by decide +kernel
theorem dX12_begins_75 : decode cX12_begins 75 = .ok (.goto (-51), 3) := by decide +kernel
theorem dX12_begins_78 : decode cX12_begins 78 = .ok (.aload_n 0, 1) := by decide +kernel
theorem dX12_begins_79 : decode cX12_begins 79 = .ok (.iconst 0, 1) := by decide +kernel
theorem dX12_begins_80 : decode cX12_begins 80 = .ok (.putfield 304, 3) := by decide +kernel
theorem dX12_begins_83 : decode cX12_begins 83 = .ok (.aload_n 0, 1) := by decide +kernel
theorem dX12_begins_84 : decode cX12_begins 84 = .ok (.iconst 0, 1) := by decide +kernel
theorem dX12_begins_85 : decode cX12_begins 85 = .ok (.putfield 307, 3) := by decide +kernel
theorem dX12_begins_88 : decode cX12_begins 88 = .ok (.aload_n 0, 1) := by decide +kernel
theorem dX12_begins_89 : decode cX12_begins 89 = .ok (.invokevirtual 310, 3) := by decide +kernel
theorem dX12_begins_92 : decode cX12_begins 92 = .ok (.return_, 1) := by decide +kernel
theorem dX12_allAnew_0 : decode cX12_allAnew 0 = .ok (.iconst 0, 1) := by decide +kernel
theorem dX12_allAnew_1 : decode cX12_allAnew 1 = .ok (.istore_n 1, 1) := by decide +kernel
theorem dX12_allAnew_2 : decode cX12_allAnew 2 = .ok (.iload_n 1, 1) := by decide +kernel
theorem dX12_allAnew_3 : decode cX12_allAnew 3 = .ok (.bipush 12, 2) := by decide +kernel
theorem dX12_allAnew_5 : decode cX12_allAnew 5 = .ok (.if_icmp .ge 16, 3) := by decide +kernel
theorem dX12_allAnew_8 : decode cX12_allAnew 8 = .ok (.aload_n 0, 1) := by decide +kernel
theorem dX12_allAnew_9 : decode cX12_allAnew 9 = .ok (.getfield 62, 3) := by decide +kernel
theorem dX12_allAnew_12 : decode cX12_allAnew 12 = .ok (.iload_n 1, 1) := by decide +kernel
theorem dX12_allAnew_13 : decode cX12_allAnew 13 = .ok (.iconst 0, 1) := by decide +kernel
theorem dX12_allAnew_14 : decode cX12_allAnew 14 = .ok (.bastore, 1) := by decide +kernel
theorem dX12_allAnew_15 : decode cX12_allAnew 15 = .ok (.iinc 1 1, 3) := by decide +kernel
theorem dX12_allAnew_18 : decode cX12_allAnew 18 = .ok (.goto (-16), 3) := by decide +kernel
theorem dX12_allAnew_21 : decode cX12_allAnew 21 = .ok (.return_, 1) := by decide +kernel
theorem dX12_isRule_0 : decode cX12_isRule 0 = .ok (.aload_n 0, 1) := by decide +kernel
theorem dX12_isRule_1 : decode cX12_isRule 1 = .ok (.getfield 298, 3) := by decide +kernel
theorem dX12_isRule_4 : decode cX12_isRule 4 = .ok (.ifCond .eq 25, 3) := by decide +kernel
theorem dX12_isRule_7 : decode cX12_isRule 7 = .ok (.iload_n 1, 1) := by decide +kernel
theorem dX12_isRule_8 : decode cX12_isRule 8 = .ok (.i2l, 1) := by decide +kernel
theorem dX12_isRule_9 : decode cX12_isRule 9 = .ok (.lconst 0, 1) := by decide +kernel
theorem dX12_isRule_10 : decode cX12_isRule 10 = .ok (.aload_n 0, 1) := by decide +kernel
theorem dX12_isRule_11 : decode cX12_isRule 11 = .ok (.getfield 39, 3) := by decide +kernel
theorem dX12_isRule_14 : decode cX12_isRule 14 = .ok (.iconst 0, 1) := by decide +kernel
theorem dX12_isRule_15 : decode cX12_isRule 15 = .ok (.iaload, 1) := by decide +kernel
theorem dX12_isRule_16 : decode cX12_isRule 16 = .ok (.iconst 1, 1) := by decide +kernel
theorem dX12_isRule_17 : decode cX12_isRule 17 = .ok (.isub, 1) := by decide +kernel
theorem dX12_isRule_18 : decode cX12_isRule 18 = .ok (.i2l, 1) := by decide +kernel
theorem dX12_isRule_19 : decode cX12_isRule 19 = .ok (.invokestatic 110, 3) := by decide +kernel
theorem dX12_isRule_22 : decode cX12_isRule 22 = .ok (.ifCond .eq 7, 3) := by decide +kernel
theorem dX12_isRule_25 : decode cX12_isRule 25 = .ok (.iconst 1, 1) := by decide +kernel
theorem dX12_isRule_26 : decode cX12_isRule 26 = .ok (.goto 4, 3) := by decide +kernel
theorem dX12_isRule_29 : decode cX12_isRule 29 = .ok (.iconst 0, 1) := by decide +kernel
theorem dX12_isRule_30 : decode cX12_isRule 30 = .ok (.ireturn, 1) := by decide +kernel
theorem dX12_isSet_0 : decode cX12_isSet 0 = .ok (.aload_n 0, 1) := by decide +kernel
theorem dX12_isSet_1 : decode cX12_isSet 1 = .ok (.getfield 298, 3) := by decide +kernel
theorem dX12_isSet_4 : decode cX12_isSet 4 = .ok (.ifCond .eq 25, 3) := by decide +kernel
theorem dX12_isSet_7 : decode cX12_isSet 7 = .ok (.iload_n 1, 1) := by decide +kernel
theorem dX12_isSet_8 : decode cX12_isSet 8 = .ok (.i2l, 1) := by decide +kernel
theorem dX12_isSet_9 : decode cX12_isSet 9 = .ok (.lconst 0, 1) := by decide +kernel
theorem dX12_isSet_10 : decode cX12_isSet 10 = .ok (.aload_n 0, 1) := by decide +kernel
theorem dX12_isSet_11 : decode cX12_isSet 11 = .ok (.getfield 39, 3) := by decide +kernel
theorem dX12_isSet_14 : decode cX12_isSet 14 = .ok (.iconst 1, 1) := by decide +kernel
theorem dX12_isSet_15 : decode cX12_isSet 15 = .ok (.iaload, 1) := by decide +kernel
theorem dX12_isSet_16 : decode cX12_isSet 16 = .ok (.iconst 1, 1) := by decide +kernel
theorem dX12_isSet_17 : decode cX12_isSet 17 = .ok (.isub, 1) := by decide +kernel
theorem dX12_isSet_18 : decode cX12_isSet 18 = .ok (.i2l, 1) := by decide +kernel
theorem dX12_isSet_19 : decode cX12_isSet 19 = .ok (.invokestatic 110, 3) := by decide +kernel
theorem dX12_isSet_22 : decode cX12_isSet 22 = .ok (.ifCond .eq 7, 3) := by decide +kernel
theorem dX12_isSet_25 : decode cX12_isSet 25 = .ok (.iconst 1, 1) := by decide +kernel
theorem dX12_isSet_26 : decode cX12_isSet 26 = .ok (.goto 4, 3) := by decide +kernel
theorem dX12_isSet_29 : decode cX12_isSet 29 = .ok (.iconst 0, 1) := by decide +kernel
theorem dX12_isSet_30 : decode cX12_isSet 30 = .ok (.ireturn, 1) := by decide +kernel
theorem dX12_isWhat_0 : decode cX12_isWhat 0 = .ok (.iload_n 1, 1) := by decide +kernel
theorem dX12_isWhat_1 : decode cX12_isWhat 1 = .ok (.i2l, 1) := by decide +kernel
theorem dX12_isWhat_2 : decode cX12_isWhat 2 = .ok (.lconst 0, 1) := by decide +kernel
theorem dX12_isWhat_3 : decode cX12_isWhat 3 = .ok (.ldc2_w 108, 3) := by decide +kernel
theorem dX12_isWhat_6 : decode cX12_isWhat 6 = .ok (.invokestatic 110, 3) := by decide +kernel
theorem dX12_isWhat_9 : decode cX12_isWhat 9 = .ok (.ifCond .eq 11, 3) := by decide +kernel
theorem dX12_isWhat_12 : decode cX12_isWhat 12 = .ok (.aload_n 0, 1) := by decide +kernel
theorem dX12_isWhat_13 : decode cX12_isWhat 13 = .ok (.iload_n 1, 1) := by decide +kernel
theorem dX12_isWhat_14 : decode cX12_isWhat 14 = .ok (.invokevirtual 313, 3) := by decide +kernel
theorem dX12_isWhat_17 : decode cX12_isWhat 17 = .ok (.goto 11, 3) := by decide +kernel
theorem dX12_isWhat_20 : decode cX12_isWhat 20 = .ok (.aload_n 0, 1) := by decide +kernel
theorem dX12_isWhat_21 : decode cX12_isWhat 21 = .ok (.iload_n 1, 1) := by decide +kernel
theorem dX12_isWhat_22 : decode cX12_isWhat 22 = .ok (.bipush 6, 2) := by decide +kernel
theorem dX12_isWhat_24 : decode cX12_isWhat 24 = .ok (.isub, 1) := by decide +kernel
theorem dX12_isWhat_25 : decode cX12_isWhat 25 = .ok (.invokevirtual 316, 3) := by decide +kernel
theorem dX12_isWhat_28 : decode cX12_isWhat 28 = .ok (.ireturn, 1) := by decide +kernel
theorem dX12_isDay_0 : decode cX12_isDay 0 = .ok (.iload_n 0, 1) := by decide +kernel
theorem dX12_isDay_1 : decode cX12_isDay 1 = .ok (.i2l, 1) := by decide +kernel
theorem dX12_isDay_2 : decode cX12_isDay 2 = .ok (.lconst 0, 1) := by decide +kernel
theorem dX12_isDay_3 : decode cX12_isDay 3 = .ok (.ldc2_w 319, 3) := by decide +kernel
theorem dX12_isDay_6 : decode cX12_isDay 6 = .ok (.invokestatic 110, 3) := by decide +kernel
theorem dX12_isDay_9 : decode cX12_isDay 9 = .ok (.ireturn, 1) := by decide +kernel
theorem dX12_ruleHas_0 : decode cX12_ruleHas 0 = .ok (.aload_n 0, 1) := by decide +kernel
theorem dX12_ruleHas_1 : decode cX12_ruleHas 1 = .ok (.getfield 39, 3) := by decide +kernel
theorem dX12_ruleHas_4 : decode cX12_ruleHas 4 = .ok (.iload_n 1, 1) := by decide +kernel
theorem dX12_ruleHas_5 : decode cX12_ruleHas 5 = .ok (.iload_n 2, 1) := by decide +kernel
theorem dX12_ruleHas_6 : decode cX12_ruleHas 6 = .ok (.invokestatic 186, 3) := by decide +kernel
theorem dX12_ruleHas_9 : decode cX12_ruleHas 9 = .ok (.iaload, 1) := by decide +kernel
theorem dX12_ruleHas_10 : decode cX12_ruleHas 10 = .ok (.ireturn, 1) := by decide +kernel
theorem dX12_fromOf_0 : decode cX12_fromOf 0 = .ok (.aload_n 0, 1) := by decide +kernel
theorem dX12_fromOf_1 : decode cX12_fromOf 1 = .ok (.getfield 54, 3) := by decide +kernel
theorem dX12_fromOf_4 : decode cX12_fromOf 4 = .ok (.iconst 2, 1) := by decide +kernel
theorem dX12_fromOf_5 : decode cX12_fromOf 5 = .ok (.iload_n 1, 1) := by decide +kernel
theorem dX12_fromOf_6 : decode cX12_fromOf 6 = .ok (.imul, 1) := by decide +kernel
theorem dX12_fromOf_7 : decode cX12_fromOf 7 = .ok (.iconst 1, 1) := by decide +kernel
theorem dX12_fromOf_8 : decode cX12_fromOf 8 = .ok (.iadd, 1) := by decide +kernel
theorem dX12_fromOf_9 : decode cX12_fromOf 9 = .ok (.iaload, 1) := by decide +kernel
theorem dX12_fromOf_10 : decode cX12_fromOf 10 = .ok (.ireturn, 1) := by decide +kernel
theorem dX12_periodOf_0 : decode cX12_periodOf 0 = .ok (.aload_n 0, 1) := by decide +kernel
theorem dX12_periodOf_1 : decode cX12_periodOf 1 = .ok (.iload_n 1, 1) := by decide +kernel
theorem dX12_periodOf_2 : decode cX12_periodOf 2 = .ok (.iconst 2, 1) := by decide +kernel
theorem dX12_periodOf_3 : decode cX12_periodOf 3 = .ok (.invokevirtual 321, 3) := by decide +kernel
theorem dX12_periodOf_6 : decode cX12_periodOf 6 = .ok (.tableswitch 58 0 2 #[26, 28, 35], 26) := by decide +kernel
theorem dX12_periodOf_32 : decode cX12_periodOf 32 = .ok (.iload_n 2, 1) := by decide +kernel
theorem dX12_periodOf_33 : decode cX12_periodOf 33 = .ok (.ireturn, 1) := by decide +kernel
theorem dX12_periodOf_34 : decode cX12_periodOf 34 = .ok (.iload_n 2, 1) := by decide +kernel
theorem dX12_periodOf_35 : decode cX12_periodOf 35 = .ok (.iconst 5, 1) := by decide +kernel
theorem dX12_periodOf_36 : decode cX12_periodOf 36 = .ok (.iadd, 1) := by decide +kernel
theorem dX12_periodOf_37 : decode cX12_periodOf 37 = .ok (.bipush 7, 2) := by decide +kernel
theorem dX12_periodOf_39 : decode cX12_periodOf 39 = .ok (.idiv, 1) := by decide +kernel
theorem dX12_periodOf_40 : decode cX12_periodOf 40 = .ok (.ireturn, 1) := by decide +kernel
theorem dX12_periodOf_41 : decode cX12_periodOf 41 = .ok (.bipush 12, 2) := by decide +kernel
theorem dX12_periodOf_43 : decode cX12_periodOf 43 = .ok (.aload_n 0, 1) := by decide +kernel
theorem dX12_periodOf_44 : decode cX12_periodOf 44 = .ok (.getfield 24, 3) := by decide +kernel
theorem dX12_periodOf_47 : decode cX12_periodOf 47 = .ok (.iload_n 2, 1) := by decide +kernel
theorem dX12_periodOf_48 : decode cX12_periodOf 48 = .ok (.iaload, 1) := by decide +kernel
theorem dX12_periodOf_49 : decode cX12_periodOf 49 = .ok (.sipush 2000, 3) := by decide +kernel
theorem dX12_periodOf_52 : decode cX12_periodOf 52 = .ok (.isub, 1) := by decide +kernel
theorem dX12_periodOf_53 : decode cX12_periodOf 53 = .ok (.imul, 1) := by decide +kernel
theorem dX12_periodOf_54 : decode cX12_periodOf 54 = .ok (.aload_n 0, 1) := by decide +kernel
theorem dX12_periodOf_55 : decode cX12_periodOf 55 = .ok (.getfield 27, 3) := by decide +kernel
theorem dX12_periodOf_58 : decode cX12_periodOf 58 = .ok (.iload_n 2, 1) := by decide +kernel
theorem dX12_periodOf_59 : decode cX12_periodOf 59 = .ok (.iaload, 1) := by decide +kernel
theorem dX12_periodOf_60 : decode cX12_periodOf 60 = .ok (.iadd, 1) := by decide +kernel
theorem dX12_periodOf_61 : decode cX12_periodOf 61 = .ok (.iconst 1, 1) := by decide +kernel
theorem dX12_periodOf_62 : decode cX12_periodOf 62 = .ok (.isub, 1) := by decide +kernel
theorem dX12_periodOf_63 : decode cX12_periodOf 63 = .ok (.ireturn, 1) := by decide +kernel
theorem dX12_periodOf_64 : decode cX12_periodOf 64 = .ok (.aload_n 0, 1) := by decide +kernel
theorem dX12_periodOf_65 : decode cX12_periodOf 65 = .ok (.getfield 24, 3) := by decide +kernel
theorem dX12_periodOf_68 : decode cX12_periodOf 68 = .ok (.iload_n 2, 1) := by decide +kernel
theorem dX12_periodOf_69 : decode cX12_periodOf 69 = .ok (.iaload, 1) := by decide +kernel
theorem dX12_periodOf_70 : decode cX12_periodOf 70 = .ok (.sipush 2000, 3) := by decide +kernel
theorem dX12_periodOf_73 : decode cX12_periodOf 73 = .ok (.isub, 1) := by decide +kernel
theorem dX12_periodOf_74 : decode cX12_periodOf 74 = .ok (.ireturn, 1) := by decide +kernel
theorem dX12_longMonthOf_0 : decode cX12_longMonthOf 0 = .ok (.aload_n 0, 1) := by decide +kernel
theorem dX12_longMonthOf_1 : decode cX12_longMonthOf 1 = .ok (.getfield 24, 3) := by decide +kernel
theorem dX12_longMonthOf_4 : decode cX12_longMonthOf 4 = .ok (.iload_n 1, 1) := by decide +kernel
theorem dX12_longMonthOf_5 : decode cX12_longMonthOf 5 = .ok (.iaload, 1) := by decide +kernel
theorem dX12_longMonthOf_6 : decode cX12_longMonthOf 6 = .ok (.aload_n 0, 1) := by decide +kernel
theorem dX12_longMonthOf_7 : decode cX12_longMonthOf 7 = .ok (.getfield 27, 3) := by decide +kernel
theorem dX12_longMonthOf_10 : decode cX12_longMonthOf 10 = .ok (.iload_n 1, 1) := by decide +kernel
theorem dX12_longMonthOf_11 : decode cX12_longMonthOf 11 = .ok (.iaload, 1) := by decide +kernel
theorem dX12_longMonthOf_12 : decode cX12_longMonthOf 12 = .ok (.invokestatic 179, 3) := by decide +kernel
theorem dX12_longMonthOf_15 : decode cX12_longMonthOf 15 = .ok (.ireturn, 1) := by decide +kernel
theorem dX12_isDated_0 : decode cX12_isDated 0 = .ok (.iconst 0, 1) := by decide +kernel
theorem dX12_isDated_1 : decode cX12_isDated 1 = .ok (.istore_n 3, 1) := by decide +kernel
theorem dX12_isDated_2 : decode cX12_isDated 2 = .ok (.iload_n 3, 1) := by decide +kernel
theorem dX12_isDated_3 : decode cX12_isDated 3 = .ok (.aload_n 0, 1) := by decide +kernel
theorem dX12_isDated_4 : decode cX12_isDated 4 = .ok (.iload_n 1, 1) := by decide +kernel
theorem dX12_isDated_5 : decode cX12_isDated 5 = .ok (.iconst 5, 1) := by decide +kernel
theorem dX12_isDated_6 : decode cX12_isDated 6 = .ok (.invokevirtual 321, 3) := by decide +kernel
theorem dX12_isDated_9 : decode cX12_isDated 9 = .ok (.if_icmp .ge 51, 3) := by decide +kernel
theorem dX12_isDated_12 : decode cX12_isDated 12 = .ok (.aload_n 0, 1) := by decide +kernel
theorem dX12_isDated_13 : decode cX12_isDated 13 = .ok (.iload_n 1, 1) := by decide +kernel
theorem dX12_isDated_14 : decode cX12_isDated 14 = .ok (.bipush 6, 2) := by decide +kernel
theorem dX12_isDated_16 : decode cX12_isDated 16 = .ok (.iload_n 3, 1) := by decide +kernel
theorem dX12_isDated_17 : decode cX12_isDated 17 = .ok (.iadd, 1) := by decide +kernel
theorem dX12_isDated_18 : decode cX12_isDated 18 = .ok (.invokevirtual 321, 3) := by decide +kernel
theorem dX12_isDated_21 : decode cX12_isDated 21 = .ok (.istore 4, 2) := by decide +kernel
theorem dX12_isDated_23 : decode cX12_isDated 23 = .ok (.aload_n 0, 1) := by decide +kernel
theorem dX12_isDated_24 : decode cX12_isDated 24 = .ok (.getfield 30, 3) := by decide +kernel
theorem dX12_isDated_27 : decode cX12_isDated 27 = .ok (.iload_n 2, 1) := by decide +kernel
theorem dX12_isDated_28 : decode cX12_isDated 28 = .ok (.iaload, 1) := by decide +kernel
theorem dX12_isDated_29 : decode cX12_isDated 29 = .ok (.iload 4, 2) := by decide +kernel
theorem dX12_isDated_31 : decode cX12_isDated 31 = .ok (.ifCond .le 8, 3) := by decide +kernel
theorem dX12_isDated_34 : decode cX12_isDated 34 = .ok (.iload 4, 2) := by decide +kernel
theorem dX12_isDated_36 : decode cX12_isDated 36 = .ok (.goto 13, 3) := by decide +kernel
theorem dX12_isDated_39 : decode cX12_isDated 39 = .ok (.aload_n 0, 1) := by decide +kernel
theorem dX12_isDated_40 : decode cX12_isDated 40 = .ok (.iload_n 2, 1) := by decide +kernel
theorem dX12_isDated_41 : decode cX12_isDated 41 = .ok (.invokevirtual 324, 3) := by decide +kernel
theorem dX12_isDated_44 : decode cX12_isDated 44 = .ok (.iconst 1, 1) := by decide +kernel
theorem dX12_isDated_45 : decode cX12_isDated 45 = .ok (.iadd, 1) := by decide +kernel
theorem dX12_isDated_46 : decode cX12_isDated 46 = .ok (.iload 4, 2) := by decide +kernel
theorem dX12_isDated_48 : decode cX12_isDated 48 = .ok (.iadd, 1) := by decide +kernel
theorem dX12_isDated_49 : decode cX12_isDated 49 = .ok (.if_icmp .ne 5, 3) := by decide +kernel
theorem dX12_isDated_52 : decode cX12_isDated 52 = .ok (.iconst 1, 1) := by decide +kernel
theorem dX12_isDated_53 : decode cX12_isDated 53 = .ok (.ireturn, 1) := by decide +kernel
theorem dX12_isDated_54 : decode cX12_isDated 54 = .ok (.iinc 3 1, 3) := by decide +kernel
theorem dX12_isDated_57 : decode cX12_isDated 57 = .ok (.goto (-55), 3) := by decide +kernel
theorem dX12_isDated_60 : decode cX12_isDated 60 = .ok (.iconst 0, 1) := by decide +kernel
theorem dX12_isDated_61 : decode cX12_isDated 61 = .ok (.ireturn, 1) := by decide +kernel
theorem dX12_isWeekday_0 : decode cX12_isWeekday 0 = .ok (.iconst 0, 1) := by decide +kernel
theorem dX12_isWeekday_1 : decode cX12_isWeekday 1 = .ok (.istore_n 3, 1) := by decide +kernel
theorem dX12_isWeekday_2 : decode cX12_isWeekday 2 = .ok (.iload_n 3, 1) := by decide +kernel
theorem dX12_isWeekday_3 : decode cX12_isWeekday 3 = .ok (.aload_n 0, 1) := by decide +kernel
theorem dX12_isWeekday_4 : decode cX12_isWeekday 4 = .ok (.iload_n 1, 1) := by decide +kernel
theorem dX12_isWeekday_5 : decode cX12_isWeekday 5 = .ok (.bipush 14, 2) := by decide +kernel
theorem dX12_isWeekday_7 : decode cX12_isWeekday 7 = .ok (.invokevirtual 321, 3) := by decide +kernel
theorem dX12_isWeekday_10 : decode cX12_isWeekday 10 = .ok (.if_icmp .ge 31, 3) := by decide +kernel
theorem dX12_isWeekday_13 : decode cX12_isWeekday 13 = .ok (.aload_n 0, 1) := by decide +kernel
theorem dX12_isWeekday_14 : decode cX12_isWeekday 14 = .ok (.iload_n 1, 1) := by decide +kernel
theorem dX12_isWeekday_15 : decode cX12_isWeekday 15 = .ok (.bipush 15, 2) := by decide +kernel
theorem dX12_isWeekday_17 : decode cX12_isWeekday 17 = .ok (.iconst 2, 1) := by decide +kernel
theorem dX12_isWeekday_18 : decode cX12_isWeekday 18 = .ok (.iload_n 3, 1) := by decide +kernel
theorem dX12_isWeekday_19 : decode cX12_isWeekday 19 = .ok (.imul, 1) := by decide +kernel
theorem dX12_isWeekday_20 : decode cX12_isWeekday 20 = .ok (.iadd, 1) := by decide +kernel
theorem dX12_isWeekday_21 : decode cX12_isWeekday 21 = .ok (.iconst 1, 1) := by decide +kernel
theorem dX12_isWeekday_22 : decode cX12_isWeekday 22 = .ok (.iadd, 1) := by decide +kernel
theorem dX12_isWeekday_23 : decode cX12_isWeekday 23 = .ok (.invokevirtual 321, 3) := by decide +kernel
theorem dX12_isWeekday_26 : decode cX12_isWeekday 26 = .ok (.iload_n 2, 1) := by decide +kernel
theorem dX12_isWeekday_27 : decode cX12_isWeekday 27 = .ok (.invokestatic 327, 3) := by decide +kernel
theorem dX12_isWeekday_30 : decode cX12_isWeekday 30 = .ok (.if_icmp .ne 5, 3) := by decide +kernel
theorem dX12_isWeekday_33 : decode cX12_isWeekday 33 = .ok (.iconst 1, 1) := by decide +kernel
theorem dX12_isWeekday_34 : decode cX12_isWeekday 34 = .ok (.ireturn, 1) := by decide +kernel
theorem dX12_isWeekday_35 : decode cX12_isWeekday 35 = .ok (.iinc 3 1, 3) := by decide +kernel
theorem dX12_isWeekday_38 : decode cX12_isWeekday 38 = .ok (.goto (-36), 3) := by decide +kernel
theorem dX12_isWeekday_41 : decode cX12_isWeekday 41 = .ok (.iconst 0, 1) := by decide +kernel
theorem dX12_isWeekday_42 : decode cX12_isWeekday 42 = .ok (.ireturn, 1) := by decide +kernel
theorem dX12_isPlaced_0 : decode cX12_isPlaced 0 = .ok (.iload_n 3, 1) := by decide +kernel
theorem dX12_isPlaced_1 : decode cX12_isPlaced 1 = .ok (.iconst 1, 1) := by decide +kernel
theorem dX12_isPlaced_2 : decode cX12_isPlaced 2 = .ok (.isub, 1) := by decide +kernel
theorem dX12_isPlaced_3 : decode cX12_isPlaced 3 = .ok (.bipush 7, 2) := by decide +kernel
theorem dX12_isPlaced_5 : decode cX12_isPlaced 5 = .ok (.idiv, 1) := by decide +kernel
theorem dX12_isPlaced_6 : decode cX12_isPlaced 6 = .ok (.iconst 1, 1) := by decide +kernel
theorem dX12_isPlaced_7 : decode cX12_isPlaced 7 = .ok (.iadd, 1) := by decide +kernel
theorem dX12_isPlaced_8 : decode cX12_isPlaced 8 = .ok (.istore 5, 2) := by decide +kernel
theorem dX12_isPlaced_10 : decode cX12_isPlaced 10 = .ok (.iload 4, 2) := by decide +kernel
theorem dX12_isPlaced_12 : decode cX12_isPlaced 12 = .ok (.iload_n 3, 1) := by decide +kernel
theorem dX12_isPlaced_13 : decode cX12_isPlaced 13 = .ok (.isub, 1) := by decide +kernel
theorem dX12_isPlaced_14 : decode cX12_isPlaced 14 = .ok (.bipush 7, 2) := by decide +kernel
theorem dX12_isPlaced_16 : decode cX12_isPlaced 16 = .ok (.idiv, 1) := by decide +kernel
theorem dX12_isPlaced_17 : decode cX12_isPlaced 17 = .ok (.iconst 1, 1) := by decide +kernel
theorem dX12_isPlaced_18 : decode cX12_isPlaced 18 = .ok (.iadd, 1) := by decide +kernel
theorem dX12_isPlaced_19 : decode cX12_isPlaced 19 = .ok (.ineg, 1) := by decide +kernel
theorem dX12_isPlaced_20 : decode cX12_isPlaced 20 = .ok (.istore 6, 2) := by decide +kernel
theorem dX12_isPlaced_22 : decode cX12_isPlaced 22 = .ok (.iconst 0, 1) := by decide +kernel
theorem dX12_isPlaced_23 : decode cX12_isPlaced 23 = .ok (.istore 7, 2) := by decide +kernel
theorem dX12_isPlaced_25 : decode cX12_isPlaced 25 = .ok (.iload 7, 2) := by decide +kernel
theorem dX12_isPlaced_27 : decode cX12_isPlaced 27 = .ok (.aload_n 0, 1) := by decide +kernel
theorem dX12_isPlaced_28 : decode cX12_isPlaced 28 = .ok (.iload_n 1, 1) := by decide +kernel
theorem dX12_isPlaced_29 : decode cX12_isPlaced 29 = .ok (.bipush 14, 2) := by decide +kernel
theorem dX12_isPlaced_31 : decode cX12_isPlaced 31 = .ok (.invokevirtual 321, 3) := by decide +kernel
theorem dX12_isPlaced_34 : decode cX12_isPlaced 34 = .ok (.if_icmp .ge 65, 3) := by decide +kernel
theorem dX12_isPlaced_37 : decode cX12_isPlaced 37 = .ok (.aload_n 0, 1) := by decide +kernel
theorem dX12_isPlaced_38 : decode cX12_isPlaced 38 = .ok (.iload_n 1, 1) := by decide +kernel
theorem dX12_isPlaced_39 : decode cX12_isPlaced 39 = .ok (.bipush 15, 2) := by decide +kernel
theorem dX12_isPlaced_41 : decode cX12_isPlaced 41 = .ok (.iconst 2, 1) := by decide +kernel
theorem dX12_isPlaced_42 : decode cX12_isPlaced 42 = .ok (.iload 7, 2) := by decide +kernel
theorem dX12_isPlaced_44 : decode cX12_isPlaced 44 = .ok (.imul, 1) := by decide +kernel
theorem dX12_isPlaced_45 : decode cX12_isPlaced 45 = .ok (.iadd, 1) := by decide +kernel
theorem dX12_isPlaced_46 : decode cX12_isPlaced 46 = .ok (.invokevirtual 321, 3) := by decide +kernel
theorem dX12_isPlaced_49 : decode cX12_isPlaced 49 = .ok (.istore 8, 2) := by decide +kernel
theorem dX12_isPlaced_51 : decode cX12_isPlaced 51 = .ok (.aload_n 0, 1) := by decide +kernel
theorem dX12_isPlaced_52 : decode cX12_isPlaced 52 = .ok (.iload_n 1, 1) := by decide +kernel
theorem dX12_isPlaced_53 : decode cX12_isPlaced 53 = .ok (.bipush 15, 2) := by decide +kernel
theorem dX12_isPlaced_55 : decode cX12_isPlaced 55 = .ok (.iconst 2, 1) := by decide +kernel
theorem dX12_isPlaced_56 : decode cX12_isPlaced 56 = .ok (.iload 7, 2) := by decide +kernel
theorem dX12_isPlaced_58 : decode cX12_isPlaced 58 = .ok (.imul, 1) := by decide +kernel
theorem dX12_isPlaced_59 : decode cX12_isPlaced 59 = .ok (.iadd, 1) := by decide +kernel
theorem dX12_isPlaced_60 : decode cX12_isPlaced 60 = .ok (.iconst 1, 1) := by decide +kernel
theorem dX12_isPlaced_61 : decode cX12_isPlaced 61 = .ok (.iadd, 1) := by decide +kernel
theorem dX12_isPlaced_62 : decode cX12_isPlaced 62 = .ok (.invokevirtual 321, 3) := by decide +kernel
theorem dX12_isPlaced_65 : decode cX12_isPlaced 65 = .ok (.iload_n 2, 1) := by decide +kernel
theorem dX12_isPlaced_66 : decode cX12_isPlaced 66 = .ok (.invokestatic 327, 3) := by decide +kernel
theorem dX12_isPlaced_69 : decode cX12_isPlaced 69 = .ok (.if_icmp .ne 24, 3) := by decide +kernel
theorem dX12_isPlaced_72 : decode cX12_isPlaced 72 = .ok (.iload 8, 2) := by decide +kernel
theorem dX12_isPlaced_74 : decode cX12_isPlaced 74 = .ok (.ifCond .eq 17, 3) := by decide +kernel
theorem dX12_isPlaced_77 : decode cX12_isPlaced 77 = .ok (.iload 8, 2) := by decide +kernel
theorem dX12_isPlaced_79 : decode cX12_isPlaced 79 = .ok (.iload 5, 2) := by decide +kernel
theorem dX12_isPlaced_81 : decode cX12_isPlaced 81 = .ok (.if_icmp .eq 10, 3) := by decide +kernel
theorem dX12_isPlaced_84 : decode cX12_isPlaced 84 = .ok (.iload 8, 2) := by decide +kernel
theorem dX12_isPlaced_86 : decode cX12_isPlaced 86 = .ok (.iload 6, 2) := by decide +kernel
theorem dX12_isPlaced_88 : decode cX12_isPlaced 88 = .ok (.if_icmp .ne 5, 3) := by decide +kernel
theorem dX12_isPlaced_91 : decode cX12_isPlaced 91 = .ok (.iconst 1, 1) := by decide +kernel
theorem dX12_isPlaced_92 : decode cX12_isPlaced 92 = .ok (.ireturn, 1) := by decide +kernel
theorem dX12_isPlaced_93 : decode cX12_isPlaced 93 = .ok (.iinc 7 1, 3) := by decide +kernel
theorem dX12_isPlaced_96 : decode cX12_isPlaced 96 = .ok (.goto (-71), 3) := by decide +kernel
theorem dX12_isPlaced_99 : decode cX12_isPlaced 99 = .ok (.iconst 0, 1) := by decide +kernel
theorem dX12_isPlaced_100 : decode cX12_isPlaced 100 = .ok (.ireturn, 1) := by decide +kernel
theorem dX12_hasIn_0 : decode cX12_hasIn 0 = .ok (.aload_n 0, 1) := by decide +kernel
theorem dX12_hasIn_1 : decode cX12_hasIn 1 = .ok (.iload_n 1, 1) := by decide +kernel
theorem dX12_hasIn_2 : decode cX12_hasIn 2 = .ok (.iconst 4, 1) := by decide +kernel
theorem dX12_hasIn_3 : decode cX12_hasIn 3 = .ok (.invokevirtual 321, 3) := by decide +kernel
theorem dX12_hasIn_6 : decode cX12_hasIn 6 = .ok (.ifCond .eq 7, 3) := by decide +kernel
theorem dX12_hasIn_9 : decode cX12_hasIn 9 = .ok (.iconst 1, 1) := by decide +kernel
theorem dX12_hasIn_10 : decode cX12_hasIn 10 = .ok (.goto 4, 3) := by decide +kernel
theorem dX12_hasIn_13 : decode cX12_hasIn 13 = .ok (.iconst 0, 1) := by decide +kernel
theorem dX12_hasIn_14 : decode cX12_hasIn 14 = .ok (.ireturn, 1) := by decide +kernel
theorem dX12_hasOn_0 : decode cX12_hasOn 0 = .ok (.aload_n 0, 1) := by decide +kernel
theorem dX12_hasOn_1 : decode cX12_hasOn 1 = .ok (.iload_n 1, 1) := by decide +kernel
theorem dX12_hasOn_2 : decode cX12_hasOn 2 = .ok (.iconst 5, 1) := by decide +kernel
theorem dX12_hasOn_3 : decode cX12_hasOn 3 = .ok (.invokevirtual 321, 3) := by decide +kernel
theorem dX12_hasOn_6 : decode cX12_hasOn 6 = .ok (.ifCond .le 7, 3) := by decide +kernel
theorem dX12_hasOn_9 : decode cX12_hasOn 9 = .ok (.iconst 1, 1) := by decide +kernel
theorem dX12_hasOn_10 : decode cX12_hasOn 10 = .ok (.goto 4, 3) := by decide +kernel
theorem dX12_hasOn_13 : decode cX12_hasOn 13 = .ok (.iconst 0, 1) := by decide +kernel
theorem dX12_hasOn_14 : decode cX12_hasOn 14 = .ok (.ireturn, 1) := by decide +kernel
theorem dX12_hasBy_0 : decode cX12_hasBy 0 = .ok (.aload_n 0, 1) := by decide +kernel
theorem dX12_hasBy_1 : decode cX12_hasBy 1 = .ok (.iload_n 1, 1) := by decide +kernel
theorem dX12_hasBy_2 : decode cX12_hasBy 2 = .ok (.bipush 14, 2) := by decide +kernel
theorem dX12_hasBy_4 : decode cX12_hasBy 4 = .ok (.invokevirtual 321, 3) := by decide +kernel
theorem dX12_hasBy_7 : decode cX12_hasBy 7 = .ok (.ifCond .le 7, 3) := by decide +kernel
theorem dX12_hasBy_10 : decode cX12_hasBy 10 = .ok (.iconst 1, 1) := by decide +kernel
theorem dX12_hasBy_11 : decode cX12_hasBy 11 = .ok (.goto 4, 3) := by decide +kernel
theorem dX12_hasBy_14 : decode cX12_hasBy 14 = .ok (.iconst 0, 1) := by decide +kernel
theorem dX12_hasBy_15 : decode cX12_hasBy 15 = .ok (.ireturn, 1) := by decide +kernel
theorem dX12_isInMonths_0 : decode cX12_isInMonths 0 = .ok (.aload_n 0, 1) := by decide +kernel
theorem dX12_isInMonths_1 : decode cX12_isInMonths 1 = .ok (.iload_n 1, 1) := by decide +kernel
theorem dX12_isInMonths_2 : decode cX12_isInMonths 2 = .ok (.invokevirtual 330, 3) := by decide +kernel
theorem dX12_isInMonths_5 : decode cX12_isInMonths 5 = .ok (.ifCond .eq 21, 3) := by decide +kernel
theorem dX12_isInMonths_8 : decode cX12_isInMonths 8 = .ok (.aload_n 0, 1) := by decide +kernel
theorem dX12_isInMonths_9 : decode cX12_isInMonths 9 = .ok (.iload_n 1, 1) := by decide +kernel
theorem dX12_isInMonths_10 : decode cX12_isInMonths 10 = .ok (.iconst 4, 1) := by decide +kernel
theorem dX12_isInMonths_11 : decode cX12_isInMonths 11 = .ok (.invokevirtual 321, 3) := by decide +kernel
theorem dX12_isInMonths_14 : decode cX12_isInMonths 14 = .ok (.aload_n 0, 1) := by decide +kernel
theorem dX12_isInMonths_15 : decode cX12_isInMonths 15 = .ok (.getfield 27, 3) := by decide +kernel
theorem dX12_isInMonths_18 : decode cX12_isInMonths 18 = .ok (.iload_n 2, 1) := by decide +kernel
theorem dX12_isInMonths_19 : decode cX12_isInMonths 19 = .ok (.iaload, 1) := by decide +kernel
theorem dX12_isInMonths_20 : decode cX12_isInMonths 20 = .ok (.invokestatic 212, 3) := by decide +kernel
theorem dX12_isInMonths_23 : decode cX12_isInMonths 23 = .ok (.ifCond .eq 7, 3) := by decide +kernel
theorem dX12_isInMonths_26 : decode cX12_isInMonths 26 = .ok (.iconst 1, 1) := by decide +kernel
theorem dX12_isInMonths_27 : decode cX12_isInMonths 27 = .ok (.goto 4, 3) := by decide +kernel
theorem dX12_isInMonths_30 : decode cX12_isInMonths 30 = .ok (.iconst 0, 1) := by decide +kernel
theorem dX12_isInMonths_31 : decode cX12_isInMonths 31 = .ok (.ireturn, 1) := by decide +kernel
theorem dX12_isDateOfBegin_0 : decode cX12_isDateOfBegin 0 = .ok (.aload_n 0, 1) := by decide +kernel
theorem dX12_isDateOfBegin_1 : decode cX12_isDateOfBegin 1 = .ok (.getfield 30, 3) := by decide +kernel
theorem dX12_isDateOfBegin_4 : decode cX12_isDateOfBegin 4 = .ok (.iload_n 2, 1) := by decide +kernel
theorem dX12_isDateOfBegin_5 : decode cX12_isDateOfBegin 5 = .ok (.iaload, 1) := by decide +kernel
theorem dX12_isDateOfBegin_6 : decode cX12_isDateOfBegin 6 = .ok (.aload_n 0, 1) := by decide +kernel
theorem dX12_isDateOfBegin_7 : decode cX12_isDateOfBegin 7 = .ok (.getfield 30, 3) := by decide +kernel
theorem dX12_isDateOfBegin_10 : decode cX12_isDateOfBegin 10 = .ok (.aload_n 0, 1) := by decide +kernel
theorem dX12_isDateOfBegin_11 : decode cX12_isDateOfBegin 11 = .ok (.iload_n 1, 1) := by decide +kernel
theorem dX12_isDateOfBegin_12 : decode cX12_isDateOfBegin 12 = .ok (.invokevirtual 333, 3) := by decide +kernel
theorem dX12_isDateOfBegin_15 : decode cX12_isDateOfBegin 15 = .ok (.iaload, 1) := by decide +kernel
theorem dX12_isDateOfBegin_16 : decode cX12_isDateOfBegin 16 = .ok (.if_icmp .ne 7, 3) := by decide +kernel
theorem dX12_isDateOfBegin_19 : decode cX12_isDateOfBegin 19 = .ok (.iconst 1, 1) := by decide +kernel
theorem dX12_isDateOfBegin_20 : decode cX12_isDateOfBegin 20 = .ok (.goto 4, 3) := by decide +kernel
theorem dX12_isDateOfBegin_23 : decode cX12_isDateOfBegin 23 = .ok (.iconst 0, 1) := by decide +kernel
theorem dX12_isDateOfBegin_24 : decode cX12_isDateOfBegin 24 = .ok (.ireturn, 1) := by decide +kernel
theorem dX12_isOfMonth_0 : decode cX12_isOfMonth 0 = .ok (.aload_n 0, 1) := by decide +kernel
theorem dX12_isOfMonth_1 : decode cX12_isOfMonth 1 = .ok (.iload_n 1, 1) := by decide +kernel
theorem dX12_isOfMonth_2 : decode cX12_isOfMonth 2 = .ok (.invokevirtual 336, 3) := by decide +kernel
theorem dX12_isOfMonth_5 : decode cX12_isOfMonth 5 = .ok (.ifCond .eq 35, 3) := by decide +kernel
theorem dX12_isOfMonth_8 : decode cX12_isOfMonth 8 = .ok (.aload_n 0, 1) := by decide +kernel
theorem dX12_isOfMonth_9 : decode cX12_isOfMonth 9 = .ok (.iload_n 1, 1) := by decide +kernel
theorem dX12_isOfMonth_10 : decode cX12_isOfMonth 10 = .ok (.iload_n 2, 1) := by decide +kernel
theorem dX12_isOfMonth_11 : decode cX12_isOfMonth 11 = .ok (.invokevirtual 339, 3) := by decide +kernel
theorem dX12_isOfMonth_14 : decode cX12_isOfMonth 14 = .ok (.ifCond .eq 24, 3) := by decide +kernel
theorem dX12_isOfMonth_17 : decode cX12_isOfMonth 17 = .ok (.aload_n 0, 1) := by decide +kernel
theorem dX12_isOfMonth_18 : decode cX12_isOfMonth 18 = .ok (.iload_n 1, 1) := by decide +kernel
theorem dX12_isOfMonth_19 : decode cX12_isOfMonth 19 = .ok (.invokevirtual 342, 3) := by decide +kernel
theorem dX12_isOfMonth_22 : decode cX12_isOfMonth 22 = .ok (.ifCond .eq 12, 3) := by decide +kernel
theorem dX12_isOfMonth_25 : decode cX12_isOfMonth 25 = .ok (.aload_n 0, 1) := by decide +kernel
theorem dX12_isOfMonth_26 : decode cX12_isOfMonth 26 = .ok (.iload_n 1, 1) := by decide +kernel
theorem dX12_isOfMonth_27 : decode cX12_isOfMonth 27 = .ok (.iload_n 2, 1) := by decide +kernel
theorem dX12_isOfMonth_28 : decode cX12_isOfMonth 28 = .ok (.invokevirtual 345, 3) := by decide +kernel
theorem dX12_isOfMonth_31 : decode cX12_isOfMonth 31 = .ok (.ifCond .eq 7, 3) := by decide +kernel
theorem dX12_isOfMonth_34 : decode cX12_isOfMonth 34 = .ok (.iconst 1, 1) := by decide +kernel
theorem dX12_isOfMonth_35 : decode cX12_isOfMonth 35 = .ok (.goto 4, 3) := by decide +kernel
theorem dX12_isOfMonth_38 : decode cX12_isOfMonth 38 = .ok (.iconst 0, 1) := by decide +kernel
theorem dX12_isOfMonth_39 : decode cX12_isOfMonth 39 = .ok (.ireturn, 1) := by decide +kernel
theorem dX12_isOfMonth_40 : decode cX12_isOfMonth 40 = .ok (.aload_n 0, 1) := by decide +kernel
theorem dX12_isOfMonth_41 : decode cX12_isOfMonth 41 = .ok (.iload_n 1, 1) := by decide +kernel
theorem dX12_isOfMonth_42 : decode cX12_isOfMonth 42 = .ok (.invokevirtual 342, 3) := by decide +kernel
theorem dX12_isOfMonth_45 : decode cX12_isOfMonth 45 = .ok (.ifCond .eq 23, 3) := by decide +kernel
theorem dX12_isOfMonth_48 : decode cX12_isOfMonth 48 = .ok (.aload_n 0, 1) := by decide +kernel
theorem dX12_isOfMonth_49 : decode cX12_isOfMonth 49 = .ok (.iload_n 1, 1) := by decide +kernel
theorem dX12_isOfMonth_50 : decode cX12_isOfMonth 50 = .ok (.iload_n 2, 1) := by decide +kernel
theorem dX12_isOfMonth_51 : decode cX12_isOfMonth 51 = .ok (.aload_n 0, 1) := by decide +kernel
theorem dX12_isOfMonth_52 : decode cX12_isOfMonth 52 = .ok (.getfield 30, 3) := by decide +kernel
theorem dX12_isOfMonth_55 : decode cX12_isOfMonth 55 = .ok (.iload_n 2, 1) := by decide +kernel
theorem dX12_isOfMonth_56 : decode cX12_isOfMonth 56 = .ok (.iaload, 1) := by decide +kernel
theorem dX12_isOfMonth_57 : decode cX12_isOfMonth 57 = .ok (.aload_n 0, 1) := by decide +kernel
theorem dX12_isOfMonth_58 : decode cX12_isOfMonth 58 = .ok (.iload_n 2, 1) := by decide +kernel
theorem dX12_isOfMonth_59 : decode cX12_isOfMonth 59 = .ok (.invokevirtual 324, 3) := by decide +kernel
theorem dX12_isOfMonth_62 : decode cX12_isOfMonth 62 = .ok (.invokevirtual 348, 3) := by decide +kernel
theorem dX12_isOfMonth_65 : decode cX12_isOfMonth 65 = .ok (.goto 9, 3) := by decide +kernel
theorem dX12_isOfMonth_68 : decode cX12_isOfMonth 68 = .ok (.aload_n 0, 1) := by decide +kernel
theorem dX12_isOfMonth_69 : decode cX12_isOfMonth 69 = .ok (.iload_n 1, 1) := by decide +kernel
theorem dX12_isOfMonth_70 : decode cX12_isOfMonth 70 = .ok (.iload_n 2, 1) := by decide +kernel
theorem dX12_isOfMonth_71 : decode cX12_isOfMonth 71 = .ok (.invokevirtual 352, 3) := by decide +kernel
theorem dX12_isOfMonth_74 : decode cX12_isOfMonth 74 = .ok (.ireturn, 1) := by decide +kernel
theorem dX12_isOfYear_0 : decode cX12_isOfYear 0 = .ok (.aload_n 0, 1) := by decide +kernel
theorem dX12_isOfYear_1 : decode cX12_isOfYear 1 = .ok (.iload_n 1, 1) := by decide +kernel
theorem dX12_isOfYear_2 : decode cX12_isOfYear 2 = .ok (.invokevirtual 330, 3) := by decide +kernel
theorem dX12_isOfYear_5 : decode cX12_isOfYear 5 = .ok (.ifCond .ne 11, 3) := by decide +kernel
theorem dX12_isOfYear_8 : decode cX12_isOfYear 8 = .ok (.aload_n 0, 1) := by decide +kernel
theorem dX12_isOfYear_9 : decode cX12_isOfYear 9 = .ok (.iload_n 1, 1) := by decide +kernel
theorem dX12_isOfYear_10 : decode cX12_isOfYear 10 = .ok (.invokevirtual 336, 3) := by decide +kernel
theorem dX12_isOfYear_13 : decode cX12_isOfYear 13 = .ok (.ifCond .eq 27, 3) := by decide +kernel
theorem dX12_isOfYear_16 : decode cX12_isOfYear 16 = .ok (.aload_n 0, 1) := by decide +kernel
theorem dX12_isOfYear_17 : decode cX12_isOfYear 17 = .ok (.iload_n 1, 1) := by decide +kernel
theorem dX12_isOfYear_18 : decode cX12_isOfYear 18 = .ok (.iload_n 2, 1) := by decide +kernel
theorem dX12_isOfYear_19 : decode cX12_isOfYear 19 = .ok (.invokevirtual 355, 3) := by decide +kernel
theorem dX12_isOfYear_22 : decode cX12_isOfYear 22 = .ok (.ifCond .eq 16, 3) := by decide +kernel
theorem dX12_isOfYear_25 : decode cX12_isOfYear 25 = .ok (.aload_n 0, 1) := by decide +kernel
theorem dX12_isOfYear_26 : decode cX12_isOfYear 26 = .ok (.iload_n 1, 1) := by decide +kernel
theorem dX12_isOfYear_27 : decode cX12_isOfYear 27 = .ok (.iload_n 2, 1) := by decide +kernel
theorem dX12_isOfYear_28 : decode cX12_isOfYear 28 = .ok (.invokevirtual 358, 3) := by decide +kernel
theorem dX12_isOfYear_31 : decode cX12_isOfYear 31 = .ok (.ifCond .eq 7, 3) := by decide +kernel
theorem dX12_isOfYear_34 : decode cX12_isOfYear 34 = .ok (.iconst 1, 1) := by decide +kernel
theorem dX12_isOfYear_35 : decode cX12_isOfYear 35 = .ok (.goto 4, 3) := by decide +kernel
theorem dX12_isOfYear_38 : decode cX12_isOfYear 38 = .ok (.iconst 0, 1) := by decide +kernel
theorem dX12_isOfYear_39 : decode cX12_isOfYear 39 = .ok (.ireturn, 1) := by decide +kernel
theorem dX12_isOfYear_40 : decode cX12_isOfYear 40 = .ok (.aload_n 0, 1) := by decide +kernel
theorem dX12_isOfYear_41 : decode cX12_isOfYear 41 = .ok (.iload_n 1, 1) := by decide +kernel
theorem dX12_isOfYear_42 : decode cX12_isOfYear 42 = .ok (.invokevirtual 342, 3) := by decide +kernel
theorem dX12_isOfYear_45 : decode cX12_isOfYear 45 = .ok (.ifCond .eq 37, 3) := by decide +kernel
theorem dX12_isOfYear_48 : decode cX12_isOfYear 48 = .ok (.aload_n 0, 1) := by decide +kernel
theorem dX12_isOfYear_49 : decode cX12_isOfYear 49 = .ok (.iload_n 1, 1) := by decide +kernel
theorem dX12_isOfYear_50 : decode cX12_isOfYear 50 = .ok (.iload_n 2, 1) := by decide +kernel
theorem dX12_isOfYear_51 : decode cX12_isOfYear 51 = .ok (.aload_n 0, 1) := by decide +kernel
theorem dX12_isOfYear_52 : decode cX12_isOfYear 52 = .ok (.getfield 33, 3) := by decide +kernel
theorem dX12_isOfYear_55 : decode cX12_isOfYear 55 = .ok (.iload_n 2, 1) := by decide +kernel
theorem dX12_isOfYear_56 : decode cX12_isOfYear 56 = .ok (.iaload, 1) := by decide +kernel
theorem dX12_isOfYear_57 : decode cX12_isOfYear 57 = .ok (.aload_n 0, 1) := by decide +kernel
theorem dX12_isOfYear_58 : decode cX12_isOfYear 58 = .ok (.getfield 24, 3) := by decide +kernel
theorem dX12_isOfYear_61 : decode cX12_isOfYear 61 = .ok (.iload_n 2, 1) := by decide +kernel
theorem dX12_isOfYear_62 : decode cX12_isOfYear 62 = .ok (.iaload, 1) := by decide +kernel
theorem dX12_isOfYear_63 : decode cX12_isOfYear 63 = .ok (.invokestatic 172, 3) := by decide +kernel
theorem dX12_isOfYear_66 : decode cX12_isOfYear 66 = .ok (.ifCond .eq 9, 3) := by decide +kernel
theorem dX12_isOfYear_69 : decode cX12_isOfYear 69 = .ok (.sipush 366, 3) := by decide +kernel
theorem dX12_isOfYear_72 : decode cX12_isOfYear 72 = .ok (.goto 6, 3) := by decide +kernel
theorem dX12_isOfYear_75 : decode cX12_isOfYear 75 = .ok (.sipush 365, 3) := by decide +kernel
theorem dX12_isOfYear_78 : decode cX12_isOfYear 78 = .ok (.invokevirtual 348, 3) := by decide +kernel
theorem dX12_isOfYear_81 : decode cX12_isOfYear 81 = .ok (.ireturn, 1) := by decide +kernel
theorem dX12_isOfYear_82 : decode cX12_isOfYear 82 = .ok (.aload_n 0, 1) := by decide +kernel
theorem dX12_isOfYear_83 : decode cX12_isOfYear 83 = .ok (.getfield 27, 3) := by decide +kernel
theorem dX12_isOfYear_86 : decode cX12_isOfYear 86 = .ok (.iload_n 2, 1) := by decide +kernel
theorem dX12_isOfYear_87 : decode cX12_isOfYear 87 = .ok (.iaload, 1) := by decide +kernel
theorem dX12_isOfYear_88 : decode cX12_isOfYear 88 = .ok (.aload_n 0, 1) := by decide +kernel
theorem dX12_isOfYear_89 : decode cX12_isOfYear 89 = .ok (.getfield 27, 3) := by decide +kernel
theorem dX12_isOfYear_92 : decode cX12_isOfYear 92 = .ok (.aload_n 0, 1) := by decide +kernel
theorem dX12_isOfYear_93 : decode cX12_isOfYear 93 = .ok (.iload_n 1, 1) := by decide +kernel
theorem dX12_isOfYear_94 : decode cX12_isOfYear 94 = .ok (.invokevirtual 333, 3) := by decide +kernel
theorem dX12_isOfYear_97 : decode cX12_isOfYear 97 = .ok (.iaload, 1) := by decide +kernel
theorem dX12_isOfYear_98 : decode cX12_isOfYear 98 = .ok (.if_icmp .ne 16, 3) := by decide +kernel
theorem dX12_isOfYear_101 : decode cX12_isOfYear 101 = .ok (.aload_n 0, 1) := by decide +kernel
theorem dX12_isOfYear_102 : decode cX12_isOfYear 102 = .ok (.iload_n 1, 1) := by decide +kernel
theorem dX12_isOfYear_103 : decode cX12_isOfYear 103 = .ok (.iload_n 2, 1) := by decide +kernel
theorem dX12_isOfYear_104 : decode cX12_isOfYear 104 = .ok (.invokevirtual 352, 3) := by decide +kernel
theorem dX12_isOfYear_107 : decode cX12_isOfYear 107 = .ok (.ifCond .eq 7, 3) := by decide +kernel
theorem dX12_isOfYear_110 : decode cX12_isOfYear 110 = .ok (.iconst 1, 1) := by decide +kernel
theorem dX12_isOfYear_111 : decode cX12_isOfYear 111 = .ok (.goto 4, 3) := by decide +kernel
theorem dX12_isOfYear_114 : decode cX12_isOfYear 114 = .ok (.iconst 0, 1) := by decide +kernel
theorem dX12_isOfYear_115 : decode cX12_isOfYear 115 = .ok (.ireturn, 1) := by decide +kernel
theorem dX12_isOfPeriod_0 : decode cX12_isOfPeriod 0 = .ok (.aload_n 0, 1) := by decide +kernel
theorem dX12_isOfPeriod_1 : decode cX12_isOfPeriod 1 = .ok (.iload_n 1, 1) := by decide +kernel
theorem dX12_isOfPeriod_2 : decode cX12_isOfPeriod 2 = .ok (.iconst 2, 1) := by decide +kernel
theorem dX12_isOfPeriod_3 : decode cX12_isOfPeriod 3 = .ok (.invokevirtual 321, 3) := by decide +kernel
theorem dX12_isOfPeriod_6 : decode cX12_isOfPeriod 6 = .ok (.tableswitch 166 0 2 #[26, 75, 142], 26) := by decide +kernel
theorem dX12_isOfPeriod_32 : decode cX12_isOfPeriod 32 = .ok (.aload_n 0, 1) := by decide +kernel
theorem dX12_isOfPeriod_33 : decode cX12_isOfPeriod 33 = .ok (.iload_n 1, 1) := by decide +kernel
theorem dX12_isOfPeriod_34 : decode cX12_isOfPeriod 34 = .ok (.iload_n 2, 1) := by decide +kernel
theorem dX12_isOfPeriod_35 : decode cX12_isOfPeriod 35 = .ok (.invokevirtual 355, 3) := by decide +kernel
theorem dX12_isOfPeriod_38 : decode cX12_isOfPeriod 38 = .ok (.ifCond .eq 41, 3) := by decide +kernel
theorem dX12_isOfPeriod_41 : decode cX12_isOfPeriod 41 = .ok (.aload_n 0, 1) := by decide +kernel
theorem dX12_isOfPeriod_42 : decode cX12_isOfPeriod 42 = .ok (.iload_n 1, 1) := by decide +kernel
theorem dX12_isOfPeriod_43 : decode cX12_isOfPeriod 43 = .ok (.invokevirtual 336, 3) := by decide +kernel
theorem dX12_isOfPeriod_46 : decode cX12_isOfPeriod 46 = .ok (.ifCond .eq 12, 3) := by decide +kernel
theorem dX12_isOfPeriod_49 : decode cX12_isOfPeriod 49 = .ok (.aload_n 0, 1) := by decide +kernel
theorem dX12_isOfPeriod_50 : decode cX12_isOfPeriod 50 = .ok (.iload_n 1, 1) := by decide +kernel
theorem dX12_isOfPeriod_51 : decode cX12_isOfPeriod 51 = .ok (.iload_n 2, 1) := by decide +kernel
theorem dX12_isOfPeriod_52 : decode cX12_isOfPeriod 52 = .ok (.invokevirtual 339, 3) := by decide +kernel
theorem dX12_isOfPeriod_55 : decode cX12_isOfPeriod 55 = .ok (.ifCond .eq 24, 3) := by decide +kernel
theorem dX12_isOfPeriod_58 : decode cX12_isOfPeriod 58 = .ok (.aload_n 0, 1) := by decide +kernel
theorem dX12_isOfPeriod_59 : decode cX12_isOfPeriod 59 = .ok (.iload_n 1, 1) := by decide +kernel
theorem dX12_isOfPeriod_60 : decode cX12_isOfPeriod 60 = .ok (.invokevirtual 342, 3) := by decide +kernel
theorem dX12_isOfPeriod_63 : decode cX12_isOfPeriod 63 = .ok (.ifCond .eq 12, 3) := by decide +kernel
theorem dX12_isOfPeriod_66 : decode cX12_isOfPeriod 66 = .ok (.aload_n 0, 1) := by decide +kernel
theorem dX12_isOfPeriod_67 : decode cX12_isOfPeriod 67 = .ok (.iload_n 1, 1) := by decide +kernel
theorem dX12_isOfPeriod_68 : decode cX12_isOfPeriod 68 = .ok (.iload_n 2, 1) := by decide +kernel
theorem dX12_isOfPeriod_69 : decode cX12_isOfPeriod 69 = .ok (.invokevirtual 345, 3) := by decide +kernel
theorem dX12_isOfPeriod_72 : decode cX12_isOfPeriod 72 = .ok (.ifCond .eq 7, 3) := by decide +kernel
theorem dX12_isOfPeriod_75 : decode cX12_isOfPeriod 75 = .ok (.iconst 1, 1) := by decide +kernel
theorem dX12_isOfPeriod_76 : decode cX12_isOfPeriod 76 = .ok (.goto 4, 3) := by decide +kernel
theorem dX12_isOfPeriod_79 : decode cX12_isOfPeriod 79 = .ok (.iconst 0, 1) := by decide +kernel
theorem dX12_isOfPeriod_80 : decode cX12_isOfPeriod 80 = .ok (.ireturn, 1) := by decide +kernel
theorem dX12_isOfPeriod_81 : decode cX12_isOfPeriod 81 = .ok (.aload_n 0, 1) := by decide +kernel
theorem dX12_isOfPeriod_82 : decode cX12_isOfPeriod 82 = .ok (.iload_n 1, 1) := by decide +kernel
theorem dX12_isOfPeriod_83 : decode cX12_isOfPeriod 83 = .ok (.iload_n 2, 1) := by decide +kernel
theorem dX12_isOfPeriod_84 : decode cX12_isOfPeriod 84 = .ok (.invokevirtual 355, 3) := by decide +kernel
theorem dX12_isOfPeriod_87 : decode cX12_isOfPeriod 87 = .ok (.ifCond .eq 59, 3) := by decide +kernel
theorem dX12_isOfPeriod_90 : decode cX12_isOfPeriod 90 = .ok (.aload_n 0, 1) := by decide +kernel
theorem dX12_isOfPeriod_91 : decode cX12_isOfPeriod 91 = .ok (.iload_n 1, 1) := by decide +kernel
theorem dX12_isOfPeriod_92 : decode cX12_isOfPeriod 92 = .ok (.invokevirtual 336, 3) := by decide +kernel
theorem dX12_isOfPeriod_95 : decode cX12_isOfPeriod 95 = .ok (.ifCond .eq 12, 3) := by decide +kernel
theorem dX12_isOfPeriod_98 : decode cX12_isOfPeriod 98 = .ok (.aload_n 0, 1) := by decide +kernel
theorem dX12_isOfPeriod_99 : decode cX12_isOfPeriod 99 = .ok (.iload_n 1, 1) := by decide +kernel
theorem dX12_isOfPeriod_100 : decode cX12_isOfPeriod 100 = .ok (.iload_n 2, 1) := by decide +kernel
theorem dX12_isOfPeriod_101 : decode cX12_isOfPeriod 101 = .ok (.invokevirtual 339, 3) := by decide +kernel
theorem dX12_isOfPeriod_104 : decode cX12_isOfPeriod 104 = .ok (.ifCond .eq 42, 3) := by decide +kernel
theorem dX12_isOfPeriod_107 : decode cX12_isOfPeriod 107 = .ok (.aload_n 0, 1) := by decide +kernel
theorem dX12_isOfPeriod_108 : decode cX12_isOfPeriod 108 = .ok (.iload_n 1, 1) := by decide +kernel
theorem dX12_isOfPeriod_109 : decode cX12_isOfPeriod 109 = .ok (.invokevirtual 342, 3) := by decide +kernel
theorem dX12_isOfPeriod_112 : decode cX12_isOfPeriod 112 = .ok (.ifCond .eq 15, 3) := by decide +kernel
theorem dX12_isOfPeriod_115 : decode cX12_isOfPeriod 115 = .ok (.aload_n 0, 1) := by decide +kernel
theorem dX12_isOfPeriod_116 : decode cX12_isOfPeriod 116 = .ok (.iload_n 1, 1) := by decide +kernel
theorem dX12_isOfPeriod_117 : decode cX12_isOfPeriod 117 = .ok (.iload_n 2, 1) := by decide +kernel
theorem dX12_isOfPeriod_118 : decode cX12_isOfPeriod 118 = .ok (.invokevirtual 345, 3) := by decide +kernel
theorem dX12_isOfPeriod_121 : decode cX12_isOfPeriod 121 = .ok (.ifCond .eq 25, 3) := by decide +kernel
theorem dX12_isOfPeriod_124 : decode cX12_isOfPeriod 124 = .ok (.goto 18, 3) := by decide +kernel
theorem dX12_isOfPeriod_127 : decode cX12_isOfPeriod 127 = .ok (.iload_n 2, 1) := by decide +kernel
theorem dX12_isOfPeriod_128 : decode cX12_isOfPeriod 128 = .ok (.invokestatic 327, 3) := by decide +kernel
theorem dX12_isOfPeriod_131 : decode cX12_isOfPeriod 131 = .ok (.aload_n 0, 1) := by decide +kernel
theorem dX12_isOfPeriod_132 : decode cX12_isOfPeriod 132 = .ok (.iload_n 1, 1) := by decide +kernel
theorem dX12_isOfPeriod_133 : decode cX12_isOfPeriod 133 = .ok (.invokevirtual 333, 3) := by decide +kernel
theorem dX12_isOfPeriod_136 : decode cX12_isOfPeriod 136 = .ok (.invokestatic 327, 3) := by decide +kernel
theorem dX12_isOfPeriod_139 : decode cX12_isOfPeriod 139 = .ok (.if_icmp .ne 7, 3) := by decide +kernel
theorem dX12_isOfPeriod_142 : decode cX12_isOfPeriod 142 = .ok (.iconst 1, 1) := by decide +kernel
theorem dX12_isOfPeriod_143 : decode cX12_isOfPeriod 143 = .ok (.goto 4, 3) := by decide +kernel
theorem dX12_isOfPeriod_146 : decode cX12_isOfPeriod 146 = .ok (.iconst 0, 1) := by decide +kernel
theorem dX12_isOfPeriod_147 : decode cX12_isOfPeriod 147 = .ok (.ireturn, 1) := by decide +kernel
theorem dX12_isOfPeriod_148 : decode cX12_isOfPeriod 148 = .ok (.aload_n 0, 1) := by decide +kernel
theorem dX12_isOfPeriod_149 : decode cX12_isOfPeriod 149 = .ok (.iload_n 1, 1) := by decide +kernel
theorem dX12_isOfPeriod_150 : decode cX12_isOfPeriod 150 = .ok (.iload_n 2, 1) := by decide +kernel
theorem dX12_isOfPeriod_151 : decode cX12_isOfPeriod 151 = .ok (.invokevirtual 355, 3) := by decide +kernel
theorem dX12_isOfPeriod_154 : decode cX12_isOfPeriod 154 = .ok (.ifCond .eq 16, 3) := by decide +kernel
theorem dX12_isOfPeriod_157 : decode cX12_isOfPeriod 157 = .ok (.aload_n 0, 1) := by decide +kernel
theorem dX12_isOfPeriod_158 : decode cX12_isOfPeriod 158 = .ok (.iload_n 1, 1) := by decide +kernel
theorem dX12_isOfPeriod_159 : decode cX12_isOfPeriod 159 = .ok (.iload_n 2, 1) := by decide +kernel
theorem dX12_isOfPeriod_160 : decode cX12_isOfPeriod 160 = .ok (.invokevirtual 358, 3) := by decide +kernel
theorem dX12_isOfPeriod_163 : decode cX12_isOfPeriod 163 = .ok (.ifCond .eq 7, 3) := by decide +kernel
theorem dX12_isOfPeriod_166 : decode cX12_isOfPeriod 166 = .ok (.iconst 1, 1) := by decide +kernel
theorem dX12_isOfPeriod_167 : decode cX12_isOfPeriod 167 = .ok (.goto 4, 3) := by decide +kernel
theorem dX12_isOfPeriod_170 : decode cX12_isOfPeriod 170 = .ok (.iconst 0, 1) := by decide +kernel
theorem dX12_isOfPeriod_171 : decode cX12_isOfPeriod 171 = .ok (.ireturn, 1) := by decide +kernel
theorem dX12_isOfPeriod_172 : decode cX12_isOfPeriod 172 = .ok (.aload_n 0, 1) := by decide +kernel
theorem dX12_isOfPeriod_173 : decode cX12_isOfPeriod 173 = .ok (.iload_n 1, 1) := by decide +kernel
theorem dX12_isOfPeriod_174 : decode cX12_isOfPeriod 174 = .ok (.iload_n 2, 1) := by decide +kernel
theorem dX12_isOfPeriod_175 : decode cX12_isOfPeriod 175 = .ok (.invokevirtual 361, 3) := by decide +kernel
theorem dX12_isOfPeriod_178 : decode cX12_isOfPeriod 178 = .ok (.ireturn, 1) := by decide +kernel
theorem dX12_isAt_0 : decode cX12_isAt 0 = .ok (.aload_n 0, 1) := by decide +kernel
theorem dX12_isAt_1 : decode cX12_isAt 1 = .ok (.iload_n 1, 1) := by decide +kernel
theorem dX12_isAt_2 : decode cX12_isAt 2 = .ok (.bipush 31, 2) := by decide +kernel
theorem dX12_isAt_4 : decode cX12_isAt 4 = .ok (.invokevirtual 321, 3) := by decide +kernel
theorem dX12_isAt_7 : decode cX12_isAt 7 = .ok (.ifCond .ne 5, 3) := by decide +kernel
theorem dX12_isAt_10 : decode cX12_isAt 10 = .ok (.iconst 1, 1) := by decide +kernel
theorem dX12_isAt_11 : decode cX12_isAt 11 = .ok (.ireturn, 1) := by decide +kernel
theorem dX12_isAt_12 : decode cX12_isAt 12 = .ok (.iconst 0, 1) := by decide +kernel
theorem dX12_isAt_13 : decode cX12_isAt 13 = .ok (.istore 4, 2) := by decide +kernel
theorem dX12_isAt_15 : decode cX12_isAt 15 = .ok (.iload 4, 2) := by decide +kernel
theorem dX12_isAt_17 : decode cX12_isAt 17 = .ok (.aload_n 0, 1) := by decide +kernel
theorem dX12_isAt_18 : decode cX12_isAt 18 = .ok (.iload_n 1, 1) := by decide +kernel
theorem dX12_isAt_19 : decode cX12_isAt 19 = .ok (.bipush 31, 2) := by decide +kernel
theorem dX12_isAt_21 : decode cX12_isAt 21 = .ok (.invokevirtual 321, 3) := by decide +kernel
theorem dX12_isAt_24 : decode cX12_isAt 24 = .ok (.if_icmp .ge 43, 3) := by decide +kernel
theorem dX12_isAt_27 : decode cX12_isAt 27 = .ok (.aload_n 0, 1) := by decide +kernel
theorem dX12_isAt_28 : decode cX12_isAt 28 = .ok (.iload_n 1, 1) := by decide +kernel
theorem dX12_isAt_29 : decode cX12_isAt 29 = .ok (.bipush 32, 2) := by decide +kernel
theorem dX12_isAt_31 : decode cX12_isAt 31 = .ok (.iload 4, 2) := by decide +kernel
theorem dX12_isAt_33 : decode cX12_isAt 33 = .ok (.iadd, 1) := by decide +kernel
theorem dX12_isAt_34 : decode cX12_isAt 34 = .ok (.invokevirtual 321, 3) := by decide +kernel
theorem dX12_isAt_37 : decode cX12_isAt 37 = .ok (.iload_n 2, 1) := by decide +kernel
theorem dX12_isAt_38 : decode cX12_isAt 38 = .ok (.if_icmp .eq 21, 3) := by decide +kernel
theorem dX12_isAt_41 : decode cX12_isAt 41 = .ok (.aload_n 0, 1) := by decide +kernel
theorem dX12_isAt_42 : decode cX12_isAt 42 = .ok (.iload_n 1, 1) := by decide +kernel
theorem dX12_isAt_43 : decode cX12_isAt 43 = .ok (.bipush 32, 2) := by decide +kernel
theorem dX12_isAt_45 : decode cX12_isAt 45 = .ok (.iload 4, 2) := by decide +kernel
theorem dX12_isAt_47 : decode cX12_isAt 47 = .ok (.iadd, 1) := by decide +kernel
theorem dX12_isAt_48 : decode cX12_isAt 48 = .ok (.invokevirtual 321, 3) := by decide +kernel
theorem dX12_isAt_51 : decode cX12_isAt 51 = .ok (.iload_n 2, 1) := by decide +kernel
theorem dX12_isAt_52 : decode cX12_isAt 52 = .ok (.iload_n 3, 1) := by decide +kernel
theorem dX12_isAt_53 : decode cX12_isAt 53 = .ok (.isub, 1) := by decide +kernel
theorem dX12_isAt_54 : decode cX12_isAt 54 = .ok (.iconst 1, 1) := by decide +kernel
theorem dX12_isAt_55 : decode cX12_isAt 55 = .ok (.isub, 1) := by decide +kernel
theorem dX12_isAt_56 : decode cX12_isAt 56 = .ok (.if_icmp .ne 5, 3) := by decide +kernel
theorem dX12_isAt_59 : decode cX12_isAt 59 = .ok (.iconst 1, 1) := by decide +kernel
theorem dX12_isAt_60 : decode cX12_isAt 60 = .ok (.ireturn, 1) := by decide +kernel
theorem dX12_isAt_61 : decode cX12_isAt 61 = .ok (.iinc 4 1, 3) := by decide +kernel
theorem dX12_isAt_64 : decode cX12_isAt 64 = .ok (.goto (-49), 3) := by decide +kernel
theorem dX12_isAt_67 : decode cX12_isAt 67 = .ok (.iconst 0, 1) := by decide +kernel
theorem dX12_isAt_68 : decode cX12_isAt 68 = .ok (.ireturn, 1) := by decide +kernel
theorem dX12_laysPeriod_0 : decode cX12_laysPeriod 0 = .ok (.iload_n 2, 1) := by decide +kernel
theorem dX12_laysPeriod_1 : decode cX12_laysPeriod 1 = .ok (.istore_n 3, 1) := by decide +kernel
theorem dX12_laysPeriod_2 : decode cX12_laysPeriod 2 = .ok (.iconst 0, 1) := by decide +kernel
theorem dX12_laysPeriod_3 : decode cX12_laysPeriod 3 = .ok (.istore 4, 2) := by decide +kernel
theorem dX12_laysPeriod_5 : decode cX12_laysPeriod 5 = .ok (.iload_n 3, 1) := by decide +kernel
theorem dX12_laysPeriod_6 : decode cX12_laysPeriod 6 = .ok (.sipush 14610, 3) := by decide +kernel
theorem dX12_laysPeriod_9 : decode cX12_laysPeriod 9 = .ok (.if_icmp .ge 50, 3) := by decide +kernel
theorem dX12_laysPeriod_12 : decode cX12_laysPeriod 12 = .ok (.aload_n 0, 1) := by decide +kernel
theorem dX12_laysPeriod_13 : decode cX12_laysPeriod 13 = .ok (.iload_n 1, 1) := by decide +kernel
theorem dX12_laysPeriod_14 : decode cX12_laysPeriod 14 = .ok (.iload_n 3, 1) := by decide +kernel
theorem dX12_laysPeriod_15 : decode cX12_laysPeriod 15 = .ok (.invokevirtual 364, 3) := by decide +kernel
theorem dX12_laysPeriod_18 : decode cX12_laysPeriod 18 = .ok (.aload_n 0, 1) := by decide +kernel
theorem dX12_laysPeriod_19 : decode cX12_laysPeriod 19 = .ok (.iload_n 1, 1) := by decide +kernel
theorem dX12_laysPeriod_20 : decode cX12_laysPeriod 20 = .ok (.iload_n 2, 1) := by decide +kernel
theorem dX12_laysPeriod_21 : decode cX12_laysPeriod 21 = .ok (.invokevirtual 364, 3) := by decide +kernel
theorem dX12_laysPeriod_24 : decode cX12_laysPeriod 24 = .ok (.if_icmp .ne 35, 3) := by decide +kernel
theorem dX12_laysPeriod_27 : decode cX12_laysPeriod 27 = .ok (.aload_n 0, 1) := by decide +kernel
theorem dX12_laysPeriod_28 : decode cX12_laysPeriod 28 = .ok (.getfield 65, 3) := by decide +kernel
theorem dX12_laysPeriod_31 : decode cX12_laysPeriod 31 = .ok (.iload_n 3, 1) := by decide +kernel
theorem dX12_laysPeriod_32 : decode cX12_laysPeriod 32 = .ok (.aload_n 0, 1) := by decide +kernel
theorem dX12_laysPeriod_33 : decode cX12_laysPeriod 33 = .ok (.iload_n 1, 1) := by decide +kernel
theorem dX12_laysPeriod_34 : decode cX12_laysPeriod 34 = .ok (.iload_n 3, 1) := by decide +kernel
theorem dX12_laysPeriod_35 : decode cX12_laysPeriod 35 = .ok (.invokevirtual 367, 3) := by decide +kernel
theorem dX12_laysPeriod_38 : decode cX12_laysPeriod 38 = .ok (.bastore, 1) := by decide +kernel
theorem dX12_laysPeriod_39 : decode cX12_laysPeriod 39 = .ok (.iload 4, 2) := by decide +kernel
theorem dX12_laysPeriod_41 : decode cX12_laysPeriod 41 = .ok (.aload_n 0, 1) := by decide +kernel
theorem dX12_laysPeriod_42 : decode cX12_laysPeriod 42 = .ok (.getfield 65, 3) := by decide +kernel
theorem dX12_laysPeriod_45 : decode cX12_laysPeriod 45 = .ok (.iload_n 3, 1) := by decide +kernel
theorem dX12_laysPeriod_46 : decode cX12_laysPeriod 46 = .ok (.baload, 1) := by decide +kernel
theorem dX12_laysPeriod_47 : decode cX12_laysPeriod 47 = .ok (.invokestatic 370, 3) := by decide +kernel
theorem dX12_laysPeriod_50 : decode cX12_laysPeriod 50 = .ok (.iadd, 1) := by decide +kernel
theorem dX12_laysPeriod_51 : decode cX12_laysPeriod 51 = .ok (.istore 4, 2) := by decide +kernel
theorem dX12_laysPeriod_53 : decode cX12_laysPeriod 53 = .ok (.iinc 3 1, 3) := by decide +kernel
theorem dX12_laysPeriod_56 : decode cX12_laysPeriod 56 = .ok (.goto (-51), 3) := by decide +kernel
theorem dX12_laysPeriod_59 : decode cX12_laysPeriod 59 = .ok (.iconst 0, 1) := by decide +kernel
theorem dX12_laysPeriod_60 : decode cX12_laysPeriod 60 = .ok (.istore 5, 2) := by decide +kernel
theorem dX12_laysPeriod_62 : decode cX12_laysPeriod 62 = .ok (.iload_n 2, 1) := by decide +kernel
theorem dX12_laysPeriod_63 : decode cX12_laysPeriod 63 = .ok (.istore 6, 2) := by decide +kernel
theorem dX12_laysPeriod_65 : decode cX12_laysPeriod 65 = .ok (.iload 6, 2) := by decide +kernel
theorem dX12_laysPeriod_67 : decode cX12_laysPeriod 67 = .ok (.iload_n 3, 1) := by decide +kernel
theorem dX12_laysPeriod_68 : decode cX12_laysPeriod 68 = .ok (.if_icmp .ge 38, 3) := by decide +kernel
theorem dX12_laysPeriod_71 : decode cX12_laysPeriod 71 = .ok (.aload_n 0, 1) := by decide +kernel
theorem dX12_laysPeriod_72 : decode cX12_laysPeriod 72 = .ok (.getfield 65, 3) := by decide +kernel
theorem dX12_laysPeriod_75 : decode cX12_laysPeriod 75 = .ok (.iload 6, 2) := by decide +kernel
theorem dX12_laysPeriod_77 : decode cX12_laysPeriod 77 = .ok (.baload, 1) := by decide +kernel
theorem dX12_laysPeriod_78 : decode cX12_laysPeriod 78 = .ok (.ifCond .eq 22, 3) := by decide +kernel
theorem dX12_laysPeriod_81 : decode cX12_laysPeriod 81 = .ok (.iinc 5 1, 3) := by decide +kernel
theorem dX12_laysPeriod_84 : decode cX12_laysPeriod 84 = .ok (.aload_n 0, 1) := by decide +kernel
theorem dX12_laysPeriod_85 : decode cX12_laysPeriod 85 = .ok (.getfield 65, 3) := by decide +kernel
theorem dX12_laysPeriod_88 : decode cX12_laysPeriod 88 = .ok (.iload 6, 2) := by decide +kernel
theorem dX12_laysPeriod_90 : decode cX12_laysPeriod 90 = .ok (.aload_n 0, 1) := by decide +kernel
theorem dX12_laysPeriod_91 : decode cX12_laysPeriod 91 = .ok (.iload_n 1, 1) := by decide +kernel
theorem dX12_laysPeriod_92 : decode cX12_laysPeriod 92 = .ok (.iload 5, 2) := by decide +kernel
theorem dX12_laysPeriod_94 : decode cX12_laysPeriod 94 = .ok (.iload 4, 2) := by decide +kernel
theorem dX12_laysPeriod_96 : decode cX12_laysPeriod 96 = .ok (.invokevirtual 374, 3) := by decide +kernel
theorem dX12_laysPeriod_99 : decode cX12_laysPeriod 99 = .ok (.bastore, 1) := by decide +kernel
theorem dX12_laysPeriod_100 : decode cX12_laysPeriod 100 = .ok (.iinc 6 1, 3) := by decide +kernel
theorem dX12_laysPeriod_103 : decode cX12_laysPeriod 103 = .ok (.goto (-38), 3) := by decide +kernel
theorem dX12_laysPeriod_106 : decode cX12_laysPeriod 106 = .ok (.iload_n 3, 1) := by decide +kernel
theorem dX12_laysPeriod_107 : decode cX12_laysPeriod 107 = .ok (.ireturn, 1) := by decide +kernel
theorem dX12_laysBase_0 : decode cX12_laysBase 0 = .ok (.iconst 0, 1) := by decide +kernel
theorem dX12_laysBase_1 : decode cX12_laysBase 1 = .ok (.istore_n 2, 1) := by decide +kernel
theorem dX12_laysBase_2 : decode cX12_laysBase 2 = .ok (.iload_n 2, 1) := by decide +kernel
theorem dX12_laysBase_3 : decode cX12_laysBase 3 = .ok (.sipush 14610, 3) := by decide +kernel
theorem dX12_laysBase_6 : decode cX12_laysBase 6 = .ok (.if_icmp .ge 13, 3) := by decide +kernel
theorem dX12_laysBase_9 : decode cX12_laysBase 9 = .ok (.aload_n 0, 1) := by decide +kernel
theorem dX12_laysBase_10 : decode cX12_laysBase 10 = .ok (.iload_n 1, 1) := by decide +kernel
theorem dX12_laysBase_11 : decode cX12_laysBase 11 = .ok (.iload_n 2, 1) := by decide +kernel
theorem dX12_laysBase_12 : decode cX12_laysBase 12 = .ok (.invokevirtual 378, 3) := by decide +kernel
theorem dX12_laysBase_15 : decode cX12_laysBase 15 = .ok (.istore_n 2, 1) := by decide +kernel
theorem dX12_laysBase_16 : decode cX12_laysBase 16 = .ok (.goto (-14), 3) := by decide +kernel
theorem dX12_laysBase_19 : decode cX12_laysBase 19 = .ok (.return_, 1) := by decide +kernel
theorem dX12_isGone_0 : decode cX12_isGone 0 = .ok (.aload_n 0, 1) := by decide +kernel
theorem dX12_isGone_1 : decode cX12_isGone 1 = .ok (.iload_n 1, 1) := by decide +kernel
theorem dX12_isGone_2 : decode cX12_isGone 2 = .ok (.iload_n 2, 1) := by decide +kernel
theorem dX12_isGone_3 : decode cX12_isGone 3 = .ok (.invokevirtual 364, 3) := by decide +kernel
theorem dX12_isGone_6 : decode cX12_isGone 6 = .ok (.aload_n 0, 1) := by decide +kernel
theorem dX12_isGone_7 : decode cX12_isGone 7 = .ok (.iload_n 1, 1) := by decide +kernel
theorem dX12_isGone_8 : decode cX12_isGone 8 = .ok (.aload_n 0, 1) := by decide +kernel
theorem dX12_isGone_9 : decode cX12_isGone 9 = .ok (.iload_n 1, 1) := by decide +kernel
theorem dX12_isGone_10 : decode cX12_isGone 10 = .ok (.invokevirtual 333, 3) := by decide +kernel
theorem dX12_isGone_13 : decode cX12_isGone 13 = .ok (.invokevirtual 364, 3) := by decide +kernel
theorem dX12_isGone_16 : decode cX12_isGone 16 = .ok (.isub, 1) := by decide +kernel
theorem dX12_isGone_17 : decode cX12_isGone 17 = .ok (.iload_n 3, 1) := by decide +kernel
theorem dX12_isGone_18 : decode cX12_isGone 18 = .ok (.irem, 1) := by decide +kernel
theorem dX12_isGone_19 : decode cX12_isGone 19 = .ok (.ifCond .ne 7, 3) := by decide +kernel
theorem dX12_isGone_22 : decode cX12_isGone 22 = .ok (.iconst 1, 1) := by decide +kernel
theorem dX12_isGone_23 : decode cX12_isGone 23 = .ok (.goto 4, 3) := by decide +kernel
theorem dX12_isGone_26 : decode cX12_isGone 26 = .ok (.iconst 0, 1) := by decide +kernel
theorem dX12_isGone_27 : decode cX12_isGone 27 = .ok (.ireturn, 1) := by decide +kernel
theorem dX12_laysDaysBy_0 : decode cX12_laysDaysBy 0 = .ok (.aload_n 0, 1) := by decide +kernel
theorem dX12_laysDaysBy_1 : decode cX12_laysDaysBy 1 = .ok (.iload_n 1, 1) := by decide +kernel
theorem dX12_laysDaysBy_2 : decode cX12_laysDaysBy 2 = .ok (.bipush 41, 2) := by decide +kernel
theorem dX12_laysDaysBy_4 : decode cX12_laysDaysBy 4 = .ok (.invokevirtual 321, 3) := by decide +kernel
theorem dX12_laysDaysBy_7 : decode cX12_laysDaysBy 7 = .ok (.iconst (-1), 1) := by decide +kernel
theorem dX12_laysDaysBy_8 : decode cX12_laysDaysBy 8 = .ok (.if_icmp .ne 9, 3) := by decide +kernel
theorem dX12_laysDaysBy_11 : decode cX12_laysDaysBy 11 = .ok (.sipush 14610, 3) := by decide +kernel
theorem dX12_laysDaysBy_14 : decode cX12_laysDaysBy 14 = .ok (.goto 10, 3) := by decide +kernel
theorem dX12_laysDaysBy_17 : decode cX12_laysDaysBy 17 = .ok (.aload_n 0, 1) := by decide +kernel
theorem dX12_laysDaysBy_18 : decode cX12_laysDaysBy 18 = .ok (.iload_n 1, 1) := by decide +kernel
theorem dX12_laysDaysBy_19 : decode cX12_laysDaysBy 19 = .ok (.bipush 41, 2) := by decide +kernel
theorem dX12_laysDaysBy_21 : decode cX12_laysDaysBy 21 = .ok (.invokevirtual 321, 3) := by decide +kernel
theorem dX12_laysDaysBy_24 : decode cX12_laysDaysBy 24 = .ok (.istore 5, 2) := by decide +kernel
theorem dX12_laysDaysBy_26 : decode cX12_laysDaysBy 26 = .ok (.aload_n 0, 1) := by decide +kernel
theorem dX12_laysDaysBy_27 : decode cX12_laysDaysBy 27 = .ok (.iload_n 1, 1) := by decide +kernel
theorem dX12_laysDaysBy_28 : decode cX12_laysDaysBy 28 = .ok (.bipush 40, 2) := by decide +kernel
theorem dX12_laysDaysBy_30 : decode cX12_laysDaysBy 30 = .ok (.invokevirtual 321, 3) := by decide +kernel
theorem dX12_laysDaysBy_33 : decode cX12_laysDaysBy 33 = .ok (.iconst (-1), 1) := by decide +kernel
theorem dX12_laysDaysBy_34 : decode cX12_laysDaysBy 34 = .ok (.if_icmp .ne 9, 3) := by decide +kernel
theorem dX12_laysDaysBy_37 : decode cX12_laysDaysBy 37 = .ok (.sipush 14609, 3) := by decide +kernel
theorem dX12_laysDaysBy_40 : decode cX12_laysDaysBy 40 = .ok (.goto 10, 3) := by decide +kernel
theorem dX12_laysDaysBy_43 : decode cX12_laysDaysBy 43 = .ok (.aload_n 0, 1) := by decide +kernel
theorem dX12_laysDaysBy_44 : decode cX12_laysDaysBy 44 = .ok (.iload_n 1, 1) := by decide +kernel
theorem dX12_laysDaysBy_45 : decode cX12_laysDaysBy 45 = .ok (.bipush 40, 2) := by decide +kernel
theorem dX12_laysDaysBy_47 : decode cX12_laysDaysBy 47 = .ok (.invokevirtual 321, 3) := by decide +kernel
theorem dX12_laysDaysBy_50 : decode cX12_laysDaysBy 50 = .ok (.istore 6, 2) := by decide +kernel
theorem dX12_laysDaysBy_52 : decode cX12_laysDaysBy 52 = .ok (.iconst 0, 1) := by decide +kernel
theorem dX12_laysDaysBy_53 : decode cX12_laysDaysBy 53 = .ok (.istore 7, 2) := by decide +kernel
theorem dX12_laysDaysBy_55 : decode cX12_laysDaysBy 55 = .ok (.iload 7, 2) := by decide +kernel
theorem dX12_laysDaysBy_57 : decode cX12_laysDaysBy 57 = .ok (.sipush 14610, 3) := by decide +kernel
theorem dX12_laysDaysBy_60 : decode cX12_laysDaysBy 60 = .ok (.if_icmp .ge 78, 3) := by decide +kernel
theorem dX12_laysDaysBy_63 : decode cX12_laysDaysBy 63 = .ok (.aload_n 0, 1) := by decide +kernel
theorem dX12_laysDaysBy_64 : decode cX12_laysDaysBy 64 = .ok (.getfield 65, 3) := by decide +kernel
theorem dX12_laysDaysBy_67 : decode cX12_laysDaysBy 67 = .ok (.iload 7, 2) := by decide +kernel
theorem dX12_laysDaysBy_69 : decode cX12_laysDaysBy 69 = .ok (.baload, 1) := by decide +kernel
theorem dX12_laysDaysBy_70 : decode cX12_laysDaysBy 70 = .ok (.ifCond .eq 40, 3) := by decide +kernel
theorem dX12_laysDaysBy_73 : decode cX12_laysDaysBy 73 = .ok (.iload 7, 2) := by decide +kernel
theorem dX12_laysDaysBy_75 : decode cX12_laysDaysBy 75 = .ok (.aload_n 0, 1) := by decide +kernel
theorem dX12_laysDaysBy_76 : decode cX12_laysDaysBy 76 = .ok (.iload_n 1, 1) := by decide +kernel
theorem dX12_laysDaysBy_77 : decode cX12_laysDaysBy 77 = .ok (.invokevirtual 333, 3) := by decide +kernel
theorem dX12_laysDaysBy_80 : decode cX12_laysDaysBy 80 = .ok (.if_icmp .lt 30, 3) := by decide +kernel
theorem dX12_laysDaysBy_83 : decode cX12_laysDaysBy 83 = .ok (.iload 7, 2) := by decide +kernel
theorem dX12_laysDaysBy_85 : decode cX12_laysDaysBy 85 = .ok (.iload 6, 2) := by decide +kernel
theorem dX12_laysDaysBy_87 : decode cX12_laysDaysBy 87 = .ok (.if_icmp .gt 23, 3) := by decide +kernel
theorem dX12_laysDaysBy_90 : decode cX12_laysDaysBy 90 = .ok (.iload 5, 2) := by decide +kernel
theorem dX12_laysDaysBy_92 : decode cX12_laysDaysBy 92 = .ok (.ifCond .le 18, 3) := by decide +kernel
theorem dX12_laysDaysBy_95 : decode cX12_laysDaysBy 95 = .ok (.aload_n 0, 1) := by decide +kernel
theorem dX12_laysDaysBy_96 : decode cX12_laysDaysBy 96 = .ok (.iload_n 1, 1) := by decide +kernel
theorem dX12_laysDaysBy_97 : decode cX12_laysDaysBy 97 = .ok (.iload 7, 2) := by decide +kernel
theorem dX12_laysDaysBy_99 : decode cX12_laysDaysBy 99 = .ok (.iload_n 2, 1) := by decide +kernel
theorem dX12_laysDaysBy_100 : decode cX12_laysDaysBy 100 = .ok (.invokevirtual 381, 3) := by decide +kernel
theorem dX12_laysDaysBy_103 : decode cX12_laysDaysBy 103 = .ok (.ifCond .eq 7, 3) := by decide +kernel
theorem dX12_laysDaysBy_106 : decode cX12_laysDaysBy 106 = .ok (.iconst 1, 1) := by decide +kernel
theorem dX12_laysDaysBy_107 : decode cX12_laysDaysBy 107 = .ok (.goto 4, 3) := by decide +kernel
theorem dX12_laysDaysBy_110 : decode cX12_laysDaysBy 110 = .ok (.iconst 0, 1) := by decide +kernel
theorem dX12_laysDaysBy_111 : decode cX12_laysDaysBy 111 = .ok (.istore 8, 2) := by decide +kernel
theorem dX12_laysDaysBy_113 : decode cX12_laysDaysBy 113 = .ok (.aload_n 3, 1) := by decide +kernel
theorem dX12_laysDaysBy_114 : decode cX12_laysDaysBy 114 = .ok (.iload 4, 2) := by decide +kernel
theorem dX12_laysDaysBy_116 : decode cX12_laysDaysBy 116 = .ok (.iload 7, 2) := by decide +kernel
theorem dX12_laysDaysBy_118 : decode cX12_laysDaysBy 118 = .ok (.iadd, 1) := by decide +kernel
theorem dX12_laysDaysBy_119 : decode cX12_laysDaysBy 119 = .ok (.iload 8, 2) := by decide +kernel
theorem dX12_laysDaysBy_121 : decode cX12_laysDaysBy 121 = .ok (.bastore, 1) := by decide +kernel
theorem dX12_laysDaysBy_122 : decode cX12_laysDaysBy 122 = .ok (.iload 5, 2) := by decide +kernel
theorem dX12_laysDaysBy_124 : decode cX12_laysDaysBy 124 = .ok (.iload 8, 2) := by decide +kernel
theorem dX12_laysDaysBy_126 : decode cX12_laysDaysBy 126 = .ok (.invokestatic 370, 3) := by decide +kernel
theorem dX12_laysDaysBy_129 : decode cX12_laysDaysBy 129 = .ok (.isub, 1) := by decide +kernel
theorem dX12_laysDaysBy_130 : decode cX12_laysDaysBy 130 = .ok (.istore 5, 2) := by decide +kernel
theorem dX12_laysDaysBy_132 : decode cX12_laysDaysBy 132 = .ok (.iinc 7 1, 3) := by decide +kernel
theorem dX12_laysDaysBy_135 : decode cX12_laysDaysBy 135 = .ok (.goto (-80), 3) := by decide +kernel
theorem dX12_laysDaysBy_138 : decode cX12_laysDaysBy 138 = .ok (.return_, 1) := by decide +kernel
theorem dX12_puts_0 : decode cX12_puts 0 = .ok (.iconst 0, 1) := by decide +kernel
theorem dX12_puts_1 : decode cX12_puts 1 = .ok (.istore_n 2, 1) := by decide +kernel
theorem dX12_puts_2 : decode cX12_puts 2 = .ok (.iload_n 2, 1) := by decide +kernel
theorem dX12_puts_3 : decode cX12_puts 3 = .ok (.sipush 14610, 3) := by decide +kernel
theorem dX12_puts_6 : decode cX12_puts 6 = .ok (.if_icmp .ge 36, 3) := by decide +kernel
theorem dX12_puts_9 : decode cX12_puts 9 = .ok (.aload_n 0, 1) := by decide +kernel
theorem dX12_puts_10 : decode cX12_puts 10 = .ok (.getfield 69, 3) := by decide +kernel
theorem dX12_puts_13 : decode cX12_puts 13 = .ok (.sipush 14610, 3) := by decide +kernel
theorem dX12_puts_16 : decode cX12_puts 16 = .ok (.aload_n 0, 1) := by decide +kernel
theorem dX12_puts_17 : decode cX12_puts 17 = .ok (.getfield 384, 3) := by decide +kernel
theorem dX12_puts_20 : decode cX12_puts 20 = .ok (.imul, 1) := by decide +kernel
theorem dX12_puts_21 : decode cX12_puts 21 = .ok (.iload_n 2, 1) := by decide +kernel
theorem dX12_puts_22 : decode cX12_puts 22 = .ok (.iadd, 1) := by decide +kernel
theorem dX12_puts_23 : decode cX12_puts 23 = .ok (.aload_n 0, 1) := by decide +kernel
theorem dX12_puts_24 : decode cX12_puts 24 = .ok (.getfield 58, 3) := by decide +kernel
theorem dX12_puts_27 : decode cX12_puts 27 = .ok (.sipush 14610, 3) := by decide +kernel
theorem dX12_puts_30 : decode cX12_puts 30 = .ok (.iload_n 1, 1) := by decide +kernel
theorem dX12_puts_31 : decode cX12_puts 31 = .ok (.imul, 1) := by decide +kernel
theorem dX12_puts_32 : decode cX12_puts 32 = .ok (.iload_n 2, 1) := by decide +kernel
theorem dX12_puts_33 : decode cX12_puts 33 = .ok (.iadd, 1) := by decide +kernel
theorem dX12_puts_34 : decode cX12_puts 34 = .ok (.baload, 1) := by decide +kernel
theorem dX12_puts_35 : decode cX12_puts 35 = .ok (.bastore, 1) := by decide +kernel
theorem dX12_puts_36 : decode cX12_puts 36 = .ok (.iinc 2 1, 3) := by decide +kernel
theorem dX12_puts_39 : decode cX12_puts 39 = .ok (.goto (-37), 3) := by decide +kernel
theorem dX12_puts_42 : decode cX12_puts 42 = .ok (.aload_n 0, 1) := by decide +kernel
theorem dX12_puts_43 : decode cX12_puts 43 = .ok (.dup, 1) := by decide +kernel
theorem dX12_puts_44 : decode cX12_puts 44 = .ok (.getfield 384, 3) := by decide +kernel
theorem dX12_puts_47 : decode cX12_puts 47 = .ok (.iconst 1, 1) := by decide +kernel
theorem dX12_puts_48 : decode cX12_puts 48 = .ok (.iadd, 1) := by decide +kernel
theorem dX12_puts_49 : decode cX12_puts 49 = .ok (.putfield 384, 3) := by decide +kernel
theorem dX12_puts_52 : decode cX12_puts 52 = .ok (.return_, 1) := by decide +kernel
theorem dX12_putsDay_0 : decode cX12_putsDay 0 = .ok (.iconst 0, 1) := by decide +kernel
theorem dX12_putsDay_1 : decode cX12_putsDay 1 = .ok (.istore_n 2, 1) := by decide +kernel
theorem dX12_putsDay_2 : decode cX12_putsDay 2 = .ok (.iload_n 2, 1) := by decide +kernel
theorem dX12_putsDay_3 : decode cX12_putsDay 3 = .ok (.sipush 14610, 3) := by decide +kernel
theorem dX12_putsDay_6 : decode cX12_putsDay 6 = .ok (.if_icmp .ge 34, 3) := by decide +kernel
theorem dX12_putsDay_9 : decode cX12_putsDay 9 = .ok (.aload_n 0, 1) := by decide +kernel
theorem dX12_putsDay_10 : decode cX12_putsDay 10 = .ok (.getfield 69, 3) := by decide +kernel
theorem dX12_putsDay_13 : decode cX12_putsDay 13 = .ok (.sipush 14610, 3) := by decide +kernel
theorem dX12_putsDay_16 : decode cX12_putsDay 16 = .ok (.aload_n 0, 1) := by decide +kernel
theorem dX12_putsDay_17 : decode cX12_putsDay 17 = .ok (.getfield 384, 3) := by decide +kernel
theorem dX12_putsDay_20 : decode cX12_putsDay 20 = .ok (.imul, 1) := by decide +kernel
theorem dX12_putsDay_21 : decode cX12_putsDay 21 = .ok (.iload_n 2, 1) := by decide +kernel
theorem dX12_putsDay_22 : decode cX12_putsDay 22 = .ok (.iadd, 1) := by decide +kernel
theorem dX12_putsDay_23 : decode cX12_putsDay 23 = .ok (.iload_n 2, 1) := by decide +kernel
theorem dX12_putsDay_24 : decode cX12_putsDay 24 = .ok (.iload_n 1, 1) := by decide +kernel
theorem dX12_putsDay_25 : decode cX12_putsDay 25 = .ok (.if_icmp .ne 7, 3) := by decide +kernel
theorem dX12_putsDay_28 : decode cX12_putsDay 28 = .ok (.iconst 1, 1) := by decide +kernel
theorem dX12_putsDay_29 : decode cX12_putsDay 29 = .ok (.goto 4, 3) := by decide +kernel
theorem dX12_putsDay_32 : decode cX12_putsDay 32 = .ok (.iconst 0, 1) := by decide +kernel
theorem dX12_putsDay_33 : decode cX12_putsDay 33 = .ok (.bastore, 1) := by decide +kernel
theorem dX12_putsDay_34 : decode cX12_putsDay 34 = .ok (.iinc 2 1, 3) := by decide +kernel
theorem dX12_putsDay_37 : decode cX12_putsDay 37 = .ok (.goto (-35), 3) := by decide +kernel
theorem dX12_putsDay_40 : decode cX12_putsDay 40 = .ok (.aload_n 0, 1) := by decide +kernel
theorem dX12_putsDay_41 : decode cX12_putsDay 41 = .ok (.dup, 1) := by decide +kernel
theorem dX12_putsDay_42 : decode cX12_putsDay 42 = .ok (.getfield 384, 3) := by decide +kernel
theorem dX12_putsDay_45 : decode cX12_putsDay 45 = .ok (.iconst 1, 1) := by decide +kernel
theorem dX12_putsDay_46 : decode cX12_putsDay 46 = .ok (.iadd, 1) := by decide +kernel
theorem dX12_putsDay_47 : decode cX12_putsDay 47 = .ok (.putfield 384, 3) := by decide +kernel
theorem dX12_putsDay_50 : decode cX12_putsDay 50 = .ok (.return_, 1) := by decide +kernel
theorem dX12_joinsTop_0 : decode cX12_joinsTop 0 = .ok (.aload_n 0, 1) := by decide +kernel
theorem dX12_joinsTop_1 : decode cX12_joinsTop 1 = .ok (.dup, 1) := by decide +kernel
theorem dX12_joinsTop_2 : decode cX12_joinsTop 2 = .ok (.getfield 384, 3) := by decide +kernel
theorem dX12_joinsTop_5 : decode cX12_joinsTop 5 = .ok (.iconst 1, 1) := by decide +kernel
theorem dX12_joinsTop_6 : decode cX12_joinsTop 6 = .ok (.isub, 1) := by decide +kernel
theorem dX12_joinsTop_7 : decode cX12_joinsTop 7 = .ok (.putfield 384, 3) := by decide +kernel
theorem dX12_joinsTop_10 : decode cX12_joinsTop 10 = .ok (.sipush 14610, 3) := by decide +kernel
theorem dX12_joinsTop_13 : decode cX12_joinsTop 13 = .ok (.aload_n 0, 1) := by decide +kernel
theorem dX12_joinsTop_14 : decode cX12_joinsTop 14 = .ok (.getfield 384, 3) := by decide +kernel
theorem dX12_joinsTop_17 : decode cX12_joinsTop 17 = .ok (.iconst 1, 1) := by decide +kernel
theorem dX12_joinsTop_18 : decode cX12_joinsTop 18 = .ok (.isub, 1) := by decide +kernel
theorem dX12_joinsTop_19 : decode cX12_joinsTop 19 = .ok (.imul, 1) := by decide +kernel
theorem dX12_joinsTop_20 : decode cX12_joinsTop 20 = .ok (.istore_n 2, 1) := by decide +kernel
theorem dX12_joinsTop_21 : decode cX12_joinsTop 21 = .ok (.sipush 14610, 3) := by decide +kernel
theorem dX12_joinsTop_24 : decode cX12_joinsTop 24 = .ok (.aload_n 0, 1) := by decide +kernel
theorem dX12_joinsTop_25 : decode cX12_joinsTop 25 = .ok (.getfield 384, 3) := by decide +kernel
theorem dX12_joinsTop_28 : decode cX12_joinsTop 28 = .ok (.imul, 1) := by decide +kernel
theorem dX12_joinsTop_29 : decode cX12_joinsTop 29 = .ok (.istore_n 3, 1) := by decide +kernel
theorem dX12_joinsTop_30 : decode cX12_joinsTop 30 = .ok (.iconst 0, 1) := by decide +kernel
theorem dX12_joinsTop_31 : decode cX12_joinsTop 31 = .ok (.istore 4, 2) := by decide +kernel
theorem dX12_joinsTop_33 : decode cX12_joinsTop 33 = .ok (.iload 4, 2) := by decide +kernel
theorem dX12_joinsTop_35 : decode cX12_joinsTop 35 = .ok (.sipush 14610, 3) := by decide +kernel
theorem dX12_joinsTop_38 : decode cX12_joinsTop 38 = .ok (.if_icmp .ge 88, 3) := by decide +kernel
theorem dX12_joinsTop_41 : decode cX12_joinsTop 41 = .ok (.aload_n 0, 1) := by decide +kernel
theorem dX12_joinsTop_42 : decode cX12_joinsTop 42 = .ok (.getfield 69, 3) := by decide +kernel
theorem dX12_joinsTop_45 : decode cX12_joinsTop 45 = .ok (.iload_n 2, 1) := by decide +kernel
theorem dX12_joinsTop_46 : decode cX12_joinsTop 46 = .ok (.iload 4, 2) := by decide +kernel
theorem dX12_joinsTop_48 : decode cX12_joinsTop 48 = .ok (.iadd, 1) := by decide +kernel
theorem dX12_joinsTop_49 : decode cX12_joinsTop 49 = .ok (.baload, 1) := by decide +kernel
theorem dX12_joinsTop_50 : decode cX12_joinsTop 50 = .ok (.istore 5, 2) := by decide +kernel
theorem dX12_joinsTop_52 : decode cX12_joinsTop 52 = .ok (.aload_n 0, 1) := by decide +kernel
theorem dX12_joinsTop_53 : decode cX12_joinsTop 53 = .ok (.getfield 69, 3) := by decide +kernel
theorem dX12_joinsTop_56 : decode cX12_joinsTop 56 = .ok (.iload_n 3, 1) := by decide +kernel
theorem dX12_joinsTop_57 : decode cX12_joinsTop 57 = .ok (.iload 4, 2) := by decide +kernel
theorem dX12_joinsTop_59 : decode cX12_joinsTop 59 = .ok (.iadd, 1) := by decide +kernel
theorem dX12_joinsTop_60 : decode cX12_joinsTop 60 = .ok (.baload, 1) := by decide +kernel
theorem dX12_joinsTop_61 : decode cX12_joinsTop 61 = .ok (.istore 6, 2) := by decide +kernel
theorem dX12_joinsTop_63 : decode cX12_joinsTop 63 = .ok (.aload_n 0, 1) := by decide +kernel
theorem dX12_joinsTop_64 : decode cX12_joinsTop 64 = .ok (.getfield 69, 3) := by decide +kernel
theorem dX12_joinsTop_67 : decode cX12_joinsTop 67 = .ok (.iload_n 2, 1) := by decide +kernel
theorem dX12_joinsTop_68 : decode cX12_joinsTop 68 = .ok (.iload 4, 2) := by decide +kernel
theorem dX12_joinsTop_70 : decode cX12_joinsTop 70 = .ok (.iadd, 1) := by decide +kernel
theorem dX12_joinsTop_71 : decode cX12_joinsTop 71 = .ok (.iload_n 1, 1) := by decide +kernel
theorem dX12_joinsTop_72 : decode cX12_joinsTop 72 = .ok (.iconst 3, 1) := by decide +kernel
theorem dX12_joinsTop_73 : decode cX12_joinsTop 73 = .ok (.if_icmp .ne 21, 3) := by decide +kernel
theorem dX12_joinsTop_76 : decode cX12_joinsTop 76 = .ok (.iload 5, 2) := by decide +kernel
theorem dX12_joinsTop_78 : decode cX12_joinsTop 78 = .ok (.ifCond .ne 8, 3) := by decide +kernel
theorem dX12_joinsTop_81 : decode cX12_joinsTop 81 = .ok (.iload 6, 2) := by decide +kernel
theorem dX12_joinsTop_83 : decode cX12_joinsTop 83 = .ok (.ifCond .eq 7, 3) := by decide +kernel
theorem dX12_joinsTop_86 : decode cX12_joinsTop 86 = .ok (.iconst 1, 1) := by decide +kernel
theorem dX12_joinsTop_87 : decode cX12_joinsTop 87 = .ok (.goto 32, 3) := by decide +kernel
theorem dX12_joinsTop_90 : decode cX12_joinsTop 90 = .ok (.iconst 0, 1) := by decide +kernel
theorem dX12_joinsTop_91 : decode cX12_joinsTop 91 = .ok (.goto 28, 3) := by decide +kernel
theorem dX12_joinsTop_94 : decode cX12_joinsTop 94 = .ok (.iload 5, 2) := by decide +kernel
theorem dX12_joinsTop_96 : decode cX12_joinsTop 96 = .ok (.ifCond .eq 22, 3) := by decide +kernel
theorem dX12_joinsTop_99 : decode cX12_joinsTop 99 = .ok (.iload 6, 2) := by decide +kernel
theorem dX12_joinsTop_101 : decode cX12_joinsTop 101 = .ok (.iload_n 1, 1) := by decide +kernel
theorem dX12_joinsTop_102 : decode cX12_joinsTop 102 = .ok (.iconst 4, 1) := by decide +kernel
theorem dX12_joinsTop_103 : decode cX12_joinsTop 103 = .ok (.if_icmp .ne 7, 3) := by decide +kernel
theorem dX12_joinsTop_106 : decode cX12_joinsTop 106 = .ok (.iconst 1, 1) := by decide +kernel
theorem dX12_joinsTop_107 : decode cX12_joinsTop 107 = .ok (.goto 4, 3) := by decide +kernel
theorem dX12_joinsTop_110 : decode cX12_joinsTop 110 = .ok (.iconst 0, 1) := by decide +kernel
theorem dX12_joinsTop_111 : decode cX12_joinsTop 111 = .ok (.if_icmp .ne 7, 3) := by decide +kernel
theorem dX12_joinsTop_114 : decode cX12_joinsTop 114 = .ok (.iconst 1, 1) := by decide +kernel
theorem dX12_joinsTop_115 : decode cX12_joinsTop 115 = .ok (.goto 4, 3) := by decide +kernel
theorem dX12_joinsTop_118 : decode cX12_joinsTop 118 = .ok (.iconst 0, 1) := by decide +kernel
theorem dX12_joinsTop_119 : decode cX12_joinsTop 119 = .ok (.bastore, 1) := by decide +kernel
theorem dX12_joinsTop_120 : decode cX12_joinsTop 120 = .ok (.iinc 4 1, 3) := by decide +kernel
theorem dX12_joinsTop_123 : decode cX12_joinsTop 123 = .ok (.goto (-90), 3) := by decide +kernel
theorem dX12_joinsTop_126 : decode cX12_joinsTop 126 = .ok (.return_, 1) := by decide +kernel
theorem dX12_movesTop_0 : decode cX12_movesTop 0 = .ok (.sipush 14610, 3) := by decide +kernel
theorem dX12_movesTop_3 : decode cX12_movesTop 3 = .ok (.aload_n 0, 1) := by decide +kernel
theorem dX12_movesTop_4 : decode cX12_movesTop 4 = .ok (.getfield 384, 3) := by decide +kernel
theorem dX12_movesTop_7 : decode cX12_movesTop 7 = .ok (.iconst 1, 1) := by decide +kernel
theorem dX12_movesTop_8 : decode cX12_movesTop 8 = .ok (.isub, 1) := by decide +kernel
theorem dX12_movesTop_9 : decode cX12_movesTop 9 = .ok (.imul, 1) := by decide +kernel
theorem dX12_movesTop_10 : decode cX12_movesTop 10 = .ok (.istore_n 2, 1) := by decide +kernel
theorem dX12_movesTop_11 : decode cX12_movesTop 11 = .ok (.iconst 0, 1) := by decide +kernel
theorem dX12_movesTop_12 : decode cX12_movesTop 12 = .ok (.istore_n 3, 1) := by decide +kernel
theorem dX12_movesTop_13 : decode cX12_movesTop 13 = .ok (.iload_n 3, 1) := by decide +kernel
theorem dX12_movesTop_14 : decode cX12_movesTop 14 = .ok (.sipush 14610, 3) := by decide +kernel
theorem dX12_movesTop_17 : decode cX12_movesTop 17 = .ok (.if_icmp .ge 23, 3) := by decide +kernel
theorem dX12_movesTop_20 : decode cX12_movesTop 20 = .ok (.aload_n 0, 1) := by decide +kernel
theorem dX12_movesTop_21 : decode cX12_movesTop 21 = .ok (.getfield 72, 3) := by decide +kernel
theorem dX12_movesTop_24 : decode cX12_movesTop 24 = .ok (.iload_n 3, 1) := by decide +kernel
theorem dX12_movesTop_25 : decode cX12_movesTop 25 = .ok (.aload_n 0, 1) := by decide +kernel
theorem dX12_movesTop_26 : decode cX12_movesTop 26 = .ok (.getfield 69, 3) := by decide +kernel
theorem dX12_movesTop_29 : decode cX12_movesTop 29 = .ok (.iload_n 2, 1) := by decide +kernel
theorem dX12_movesTop_30 : decode cX12_movesTop 30 = .ok (.iload_n 3, 1) := by decide +kernel
theorem dX12_movesTop_31 : decode cX12_movesTop 31 = .ok (.iadd, 1) := by decide +kernel
theorem dX12_movesTop_32 : decode cX12_movesTop 32 = .ok (.baload, 1) := by decide +kernel
theorem dX12_movesTop_33 : decode cX12_movesTop 33 = .ok (.bastore, 1) := by decide +kernel
theorem dX12_movesTop_34 : decode cX12_movesTop 34 = .ok (.iinc 3 1, 3) := by decide +kernel
theorem dX12_movesTop_37 : decode cX12_movesTop 37 = .ok (.goto (-24), 3) := by decide +kernel
theorem dX12_movesTop_40 : decode cX12_movesTop 40 = .ok (.iconst 0, 1) := by decide +kernel
theorem dX12_movesTop_41 : decode cX12_movesTop 41 = .ok (.istore_n 3, 1) := by decide +kernel
theorem dX12_movesTop_42 : decode cX12_movesTop 42 = .ok (.iload_n 3, 1) := by decide +kernel
theorem dX12_movesTop_43 : decode cX12_movesTop 43 = .ok (.sipush 14610, 3) := by decide +kernel
theorem dX12_movesTop_46 : decode cX12_movesTop 46 = .ok (.if_icmp .ge 42, 3) := by decide +kernel
theorem dX12_movesTop_49 : decode cX12_movesTop 49 = .ok (.aload_n 0, 1) := by decide +kernel
theorem dX12_movesTop_50 : decode cX12_movesTop 50 = .ok (.getfield 69, 3) := by decide +kernel
theorem dX12_movesTop_53 : decode cX12_movesTop 53 = .ok (.iload_n 2, 1) := by decide +kernel
theorem dX12_movesTop_54 : decode cX12_movesTop 54 = .ok (.iload_n 3, 1) := by decide +kernel
theorem dX12_movesTop_55 : decode cX12_movesTop 55 = .ok (.iadd, 1) := by decide +kernel
theorem dX12_movesTop_56 : decode cX12_movesTop 56 = .ok (.iload_n 3, 1) := by decide +kernel
theorem dX12_movesTop_57 : decode cX12_movesTop 57 = .ok (.iload_n 1, 1) := by decide +kernel
theorem dX12_movesTop_58 : decode cX12_movesTop 58 = .ok (.isub, 1) := by decide +kernel
theorem dX12_movesTop_59 : decode cX12_movesTop 59 = .ok (.invokestatic 387, 3) := by decide +kernel
theorem dX12_movesTop_62 : decode cX12_movesTop 62 = .ok (.ifCond .eq 18, 3) := by decide +kernel
theorem dX12_movesTop_65 : decode cX12_movesTop 65 = .ok (.aload_n 0, 1) := by decide +kernel
theorem dX12_movesTop_66 : decode cX12_movesTop 66 = .ok (.getfield 72, 3) := by decide +kernel
theorem dX12_movesTop_69 : decode cX12_movesTop 69 = .ok (.iload_n 3, 1) := by decide +kernel
theorem dX12_movesTop_70 : decode cX12_movesTop 70 = .ok (.iload_n 1, 1) := by decide +kernel
theorem dX12_movesTop_71 : decode cX12_movesTop 71 = .ok (.isub, 1) := by decide +kernel
theorem dX12_movesTop_72 : decode cX12_movesTop 72 = .ok (.baload, 1) := by decide +kernel
theorem dX12_movesTop_73 : decode cX12_movesTop 73 = .ok (.ifCond .eq 7, 3) := by decide +kernel
theorem dX12_movesTop_76 : decode cX12_movesTop 76 = .ok (.iconst 1, 1) := by decide +kernel
theorem dX12_movesTop_77 : decode cX12_movesTop 77 = .ok (.goto 4, 3) := by decide +kernel
theorem dX12_movesTop_80 : decode cX12_movesTop 80 = .ok (.iconst 0, 1) := by decide +kernel
theorem dX12_movesTop_81 : decode cX12_movesTop 81 = .ok (.bastore, 1) := by decide +kernel
theorem dX12_movesTop_82 : decode cX12_movesTop 82 = .ok (.iinc 3 1, 3) := by decide +kernel
theorem dX12_movesTop_85 : decode cX12_movesTop 85 = .ok (.goto (-43), 3) := by decide +kernel
theorem dX12_movesTop_88 : decode cX12_movesTop 88 = .ok (.return_, 1) := by decide +kernel
theorem dX12_goesOff_0 : decode cX12_goesOff 0 = .ok (.sipush 14610, 3) := by decide +kernel
theorem dX12_goesOff_3 : decode cX12_goesOff 3 = .ok (.aload_n 0, 1) := by decide +kernel
theorem dX12_goesOff_4 : decode cX12_goesOff 4 = .ok (.getfield 384, 3) := by decide +kernel
theorem dX12_goesOff_7 : decode cX12_goesOff 7 = .ok (.iconst 1, 1) := by decide +kernel
theorem dX12_goesOff_8 : decode cX12_goesOff 8 = .ok (.isub, 1) := by decide +kernel
theorem dX12_goesOff_9 : decode cX12_goesOff 9 = .ok (.imul, 1) := by decide +kernel
theorem dX12_goesOff_10 : decode cX12_goesOff 10 = .ok (.istore_n 2, 1) := by decide +kernel
theorem dX12_goesOff_11 : decode cX12_goesOff 11 = .ok (.iconst 0, 1) := by decide +kernel
theorem dX12_goesOff_12 : decode cX12_goesOff 12 = .ok (.istore_n 3, 1) := by decide +kernel
theorem dX12_goesOff_13 : decode cX12_goesOff 13 = .ok (.iconst 0, 1) := by decide +kernel
theorem dX12_goesOff_14 : decode cX12_goesOff 14 = .ok (.istore 4, 2) := by decide +kernel
theorem dX12_goesOff_16 : decode cX12_goesOff 16 = .ok (.iload 4, 2) := by decide +kernel
theorem dX12_goesOff_18 : decode cX12_goesOff 18 = .ok (.sipush 14610, 3) := by decide +kernel
theorem dX12_goesOff_21 : decode cX12_goesOff 21 = .ok (.if_icmp .ge 89, 3) := by decide +kernel
theorem dX12_goesOff_24 : decode cX12_goesOff 24 = .ok (.aload_n 0, 1) := by decide +kernel
theorem dX12_goesOff_25 : decode cX12_goesOff 25 = .ok (.getfield 69, 3) := by decide +kernel
theorem dX12_goesOff_28 : decode cX12_goesOff 28 = .ok (.iload_n 2, 1) := by decide +kernel
theorem dX12_goesOff_29 : decode cX12_goesOff 29 = .ok (.iload 4, 2) := by decide +kernel
theorem dX12_goesOff_31 : decode cX12_goesOff 31 = .ok (.iadd, 1) := by decide +kernel
theorem dX12_goesOff_32 : decode cX12_goesOff 32 = .ok (.baload, 1) := by decide +kernel
theorem dX12_goesOff_33 : decode cX12_goesOff 33 = .ok (.istore 5, 2) := by decide +kernel
theorem dX12_goesOff_35 : decode cX12_goesOff 35 = .ok (.aload_n 0, 1) := by decide +kernel
theorem dX12_goesOff_36 : decode cX12_goesOff 36 = .ok (.getfield 58, 3) := by decide +kernel
theorem dX12_goesOff_39 : decode cX12_goesOff 39 = .ok (.sipush 14610, 3) := by decide +kernel
theorem dX12_goesOff_42 : decode cX12_goesOff 42 = .ok (.iload_n 1, 1) := by decide +kernel
theorem dX12_goesOff_43 : decode cX12_goesOff 43 = .ok (.imul, 1) := by decide +kernel
theorem dX12_goesOff_44 : decode cX12_goesOff 44 = .ok (.iload 4, 2) := by decide +kernel
theorem dX12_goesOff_46 : decode cX12_goesOff 46 = .ok (.iadd, 1) := by decide +kernel
theorem dX12_goesOff_47 : decode cX12_goesOff 47 = .ok (.baload, 1) := by decide +kernel
theorem dX12_goesOff_48 : decode cX12_goesOff 48 = .ok (.ifCond .eq 31, 3) := by decide +kernel
theorem dX12_goesOff_51 : decode cX12_goesOff 51 = .ok (.iload_n 3, 1) := by decide +kernel
theorem dX12_goesOff_52 : decode cX12_goesOff 52 = .ok (.ifCond .ne 8, 3) := by decide +kernel
theorem dX12_goesOff_55 : decode cX12_goesOff 55 = .ok (.iload 5, 2) := by decide +kernel
theorem dX12_goesOff_57 : decode cX12_goesOff 57 = .ok (.ifCond .eq 7, 3) := by decide +kernel
theorem dX12_goesOff_60 : decode cX12_goesOff 60 = .ok (.iconst 1, 1) := by decide +kernel
theorem dX12_goesOff_61 : decode cX12_goesOff 61 = .ok (.goto 4, 3) := by decide +kernel
theorem dX12_goesOff_64 : decode cX12_goesOff 64 = .ok (.iconst 0, 1) := by decide +kernel
theorem dX12_goesOff_65 : decode cX12_goesOff 65 = .ok (.istore_n 3, 1) := by decide +kernel
theorem dX12_goesOff_66 : decode cX12_goesOff 66 = .ok (.aload_n 0, 1) := by decide +kernel
theorem dX12_goesOff_67 : decode cX12_goesOff 67 = .ok (.getfield 69, 3) := by decide +kernel
theorem dX12_goesOff_70 : decode cX12_goesOff 70 = .ok (.iload_n 2, 1) := by decide +kernel
theorem dX12_goesOff_71 : decode cX12_goesOff 71 = .ok (.iload 4, 2) := by decide +kernel
theorem dX12_goesOff_73 : decode cX12_goesOff 73 = .ok (.iadd, 1) := by decide +kernel
theorem dX12_goesOff_74 : decode cX12_goesOff 74 = .ok (.iconst 0, 1) := by decide +kernel
theorem dX12_goesOff_75 : decode cX12_goesOff 75 = .ok (.bastore, 1) := by decide +kernel
theorem dX12_goesOff_76 : decode cX12_goesOff 76 = .ok (.goto 28, 3) := by decide +kernel
theorem dX12_goesOff_79 : decode cX12_goesOff 79 = .ok (.aload_n 0, 1) := by decide +kernel
theorem dX12_goesOff_80 : decode cX12_goesOff 80 = .ok (.getfield 69, 3) := by decide +kernel
theorem dX12_goesOff_83 : decode cX12_goesOff 83 = .ok (.iload_n 2, 1) := by decide +kernel
theorem dX12_goesOff_84 : decode cX12_goesOff 84 = .ok (.iload 4, 2) := by decide +kernel
theorem dX12_goesOff_86 : decode cX12_goesOff 86 = .ok (.iadd, 1) := by decide +kernel
theorem dX12_goesOff_87 : decode cX12_goesOff 87 = .ok (.iload 5, 2) := by decide +kernel
theorem dX12_goesOff_89 : decode cX12_goesOff 89 = .ok (.ifCond .ne 7, 3) := by decide +kernel
theorem dX12_goesOff_92 : decode cX12_goesOff 92 = .ok (.iload_n 3, 1) := by decide +kernel
theorem dX12_goesOff_93 : decode cX12_goesOff 93 = .ok (.ifCond .eq 7, 3) := by decide +kernel
theorem dX12_goesOff_96 : decode cX12_goesOff 96 = .ok (.iconst 1, 1) := by decide +kernel
theorem dX12_goesOff_97 : decode cX12_goesOff 97 = .ok (.goto 4, 3) := by decide +kernel
theorem dX12_goesOff_100 : decode cX12_goesOff 100 = .ok (.iconst 0, 1) := by decide +kernel
theorem dX12_goesOff_101 : decode cX12_goesOff 101 = .ok (.bastore, 1) := by decide +kernel
theorem dX12_goesOff_102 : decode cX12_goesOff 102 = .ok (.iconst 0, 1) := by decide +kernel
theorem dX12_goesOff_103 : decode cX12_goesOff 103 = .ok (.istore_n 3, 1) := by decide +kernel
theorem dX12_goesOff_104 : decode cX12_goesOff 104 = .ok (.iinc 4 1, 3) := by decide +kernel
theorem dX12_goesOff_107 : decode cX12_goesOff 107 = .ok (.goto (-91), 3) := by decide +kernel
theorem dX12_goesOff_110 : decode cX12_goesOff 110 = .ok (.return_, 1) := by decide +kernel
theorem dX12_does_0 : decode cX12_does 0 = .ok (.iload_n 1, 1) := by decide +kernel
theorem dX12_does_1 : decode cX12_does 1 = .ok (.tableswitch 113 0 8 #[51, 59, 67, 113, 113, 113, 88, 96, 105], 51) := by decide +kernel
theorem dX12_does_52 : decode cX12_does 52 = .ok (.aload_n 0, 1) := by decide +kernel
theorem dX12_does_53 : decode cX12_does 53 = .ok (.iload_n 2, 1) := by decide +kernel
theorem dX12_does_54 : decode cX12_does 54 = .ok (.invokevirtual 390, 3) := by decide +kernel
theorem dX12_does_57 : decode cX12_does 57 = .ok (.goto 62, 3) := by decide +kernel
theorem dX12_does_60 : decode cX12_does 60 = .ok (.aload_n 0, 1) := by decide +kernel
theorem dX12_does_61 : decode cX12_does 61 = .ok (.iload_n 2, 1) := by decide +kernel
theorem dX12_does_62 : decode cX12_does 62 = .ok (.invokevirtual 393, 3) := by decide +kernel
theorem dX12_does_65 : decode cX12_does 65 = .ok (.goto 54, 3) := by decide +kernel
theorem dX12_does_68 : decode cX12_does 68 = .ok (.aload_n 0, 1) := by decide +kernel
theorem dX12_does_69 : decode cX12_does 69 = .ok (.getfield 69, 3) := by decide +kernel
theorem dX12_does_72 : decode cX12_does 72 = .ok (.sipush 14610, 3) := by decide +kernel
theorem dX12_does_75 : decode cX12_does 75 = .ok (.aload_n 0, 1) := by decide +kernel
theorem dX12_does_76 : decode cX12_does 76 = .ok (.getfield 384, 3) := by decide +kernel
theorem dX12_does_79 : decode cX12_does 79 = .ok (.iconst 1, 1) := by decide +kernel
theorem dX12_does_80 : decode cX12_does 80 = .ok (.isub, 1) := by decide +kernel
theorem dX12_does_81 : decode cX12_does 81 = .ok (.imul, 1) := by decide +kernel
theorem dX12_does_82 : decode cX12_does 82 = .ok (.iload_n 2, 1) := by decide +kernel
theorem dX12_does_83 : decode cX12_does 83 = .ok (.iadd, 1) := by decide +kernel
theorem dX12_does_84 : decode cX12_does 84 = .ok (.iconst 1, 1) := by decide +kernel
theorem dX12_does_85 : decode cX12_does 85 = .ok (.bastore, 1) := by decide +kernel
theorem dX12_does_86 : decode cX12_does 86 = .ok (.goto 33, 3) := by decide +kernel
theorem dX12_does_89 : decode cX12_does 89 = .ok (.aload_n 0, 1) := by decide +kernel
theorem dX12_does_90 : decode cX12_does 90 = .ok (.iload_n 2, 1) := by decide +kernel
theorem dX12_does_91 : decode cX12_does 91 = .ok (.invokevirtual 396, 3) := by decide +kernel
theorem dX12_does_94 : decode cX12_does 94 = .ok (.goto 25, 3) := by decide +kernel
theorem dX12_does_97 : decode cX12_does 97 = .ok (.aload_n 0, 1) := by decide +kernel
theorem dX12_does_98 : decode cX12_does 98 = .ok (.iload_n 2, 1) := by decide +kernel
theorem dX12_does_99 : decode cX12_does 99 = .ok (.ineg, 1) := by decide +kernel
theorem dX12_does_100 : decode cX12_does 100 = .ok (.invokevirtual 396, 3) := by decide +kernel
theorem dX12_does_103 : decode cX12_does 103 = .ok (.goto 16, 3) := by decide +kernel
theorem dX12_does_106 : decode cX12_does 106 = .ok (.aload_n 0, 1) := by decide +kernel
theorem dX12_does_107 : decode cX12_does 107 = .ok (.iload_n 2, 1) := by decide +kernel
theorem dX12_does_108 : decode cX12_does 108 = .ok (.invokevirtual 399, 3) := by decide +kernel
theorem dX12_does_111 : decode cX12_does 111 = .ok (.goto 8, 3) := by decide +kernel
theorem dX12_does_114 : decode cX12_does 114 = .ok (.aload_n 0, 1) := by decide +kernel
theorem dX12_does_115 : decode cX12_does 115 = .ok (.iload_n 1, 1) := by decide +kernel
theorem dX12_does_116 : decode cX12_does 116 = .ok (.invokevirtual 402, 3) := by decide +kernel
theorem dX12_does_119 : decode cX12_does 119 = .ok (.return_, 1) := by decide +kernel
theorem dX12_laysSet_0 : decode cX12_laysSet 0 = .ok (.aload_n 0, 1) := by decide +kernel
theorem dX12_laysSet_1 : decode cX12_laysSet 1 = .ok (.iconst 0, 1) := by decide +kernel
theorem dX12_laysSet_2 : decode cX12_laysSet 2 = .ok (.putfield 384, 3) := by decide +kernel
theorem dX12_laysSet_5 : decode cX12_laysSet 5 = .ok (.aload_n 0, 1) := by decide +kernel
theorem dX12_laysSet_6 : decode cX12_laysSet 6 = .ok (.getfield 39, 3) := by decide +kernel
theorem dX12_laysSet_9 : decode cX12_laysSet 9 = .ok (.iload_n 1, 1) := by decide +kernel
theorem dX12_laysSet_10 : decode cX12_laysSet 10 = .ok (.iconst 1, 1) := by decide +kernel
theorem dX12_laysSet_11 : decode cX12_laysSet 11 = .ok (.invokestatic 189, 3) := by decide +kernel
theorem dX12_laysSet_14 : decode cX12_laysSet 14 = .ok (.iaload, 1) := by decide +kernel
theorem dX12_laysSet_15 : decode cX12_laysSet 15 = .ok (.istore_n 2, 1) := by decide +kernel
theorem dX12_laysSet_16 : decode cX12_laysSet 16 = .ok (.iload_n 2, 1) := by decide +kernel
theorem dX12_laysSet_17 : decode cX12_laysSet 17 = .ok (.aload_n 0, 1) := by decide +kernel
theorem dX12_laysSet_18 : decode cX12_laysSet 18 = .ok (.getfield 39, 3) := by decide +kernel
theorem dX12_laysSet_21 : decode cX12_laysSet 21 = .ok (.iload_n 1, 1) := by decide +kernel
theorem dX12_laysSet_22 : decode cX12_laysSet 22 = .ok (.iconst 2, 1) := by decide +kernel
theorem dX12_laysSet_23 : decode cX12_laysSet 23 = .ok (.invokestatic 189, 3) := by decide +kernel
theorem dX12_laysSet_26 : decode cX12_laysSet 26 = .ok (.iaload, 1) := by decide +kernel
theorem dX12_laysSet_27 : decode cX12_laysSet 27 = .ok (.if_icmp .ge 31, 3) := by decide +kernel
theorem dX12_laysSet_30 : decode cX12_laysSet 30 = .ok (.aload_n 0, 1) := by decide +kernel
theorem dX12_laysSet_31 : decode cX12_laysSet 31 = .ok (.aload_n 0, 1) := by decide +kernel
theorem dX12_laysSet_32 : decode cX12_laysSet 32 = .ok (.getfield 45, 3) := by decide +kernel
theorem dX12_laysSet_35 : decode cX12_laysSet 35 = .ok (.iconst 2, 1) := by decide +kernel
theorem dX12_laysSet_36 : decode cX12_laysSet 36 = .ok (.iload_n 2, 1) := by decide +kernel
theorem dX12_laysSet_37 : decode cX12_laysSet 37 = .ok (.imul, 1) := by decide +kernel
theorem dX12_laysSet_38 : decode cX12_laysSet 38 = .ok (.iaload, 1) := by decide +kernel
theorem dX12_laysSet_39 : decode cX12_laysSet 39 = .ok (.aload_n 0, 1) := by decide +kernel
theorem dX12_laysSet_40 : decode cX12_laysSet 40 = .ok (.getfield 45, 3) := by decide +kernel
theorem dX12_laysSet_43 : decode cX12_laysSet 43 = .ok (.iconst 2, 1) := by decide +kernel
theorem dX12_laysSet_44 : decode cX12_laysSet 44 = .ok (.iload_n 2, 1) := by decide +kernel
theorem dX12_laysSet_45 : decode cX12_laysSet 45 = .ok (.imul, 1) := by decide +kernel
theorem dX12_laysSet_46 : decode cX12_laysSet 46 = .ok (.iconst 1, 1) := by decide +kernel
theorem dX12_laysSet_47 : decode cX12_laysSet 47 = .ok (.iadd, 1) := by decide +kernel
theorem dX12_laysSet_48 : decode cX12_laysSet 48 = .ok (.iaload, 1) := by decide +kernel
theorem dX12_laysSet_49 : decode cX12_laysSet 49 = .ok (.invokevirtual 405, 3) := by decide +kernel
theorem dX12_laysSet_52 : decode cX12_laysSet 52 = .ok (.iinc 2 1, 3) := by decide +kernel
theorem dX12_laysSet_55 : decode cX12_laysSet 55 = .ok (.goto (-39), 3) := by decide +kernel
theorem dX12_laysSet_58 : decode cX12_laysSet 58 = .ok (.sipush 14610, 3) := by decide +kernel
theorem dX12_laysSet_61 : decode cX12_laysSet 61 = .ok (.bipush 6, 2) := by decide +kernel
theorem dX12_laysSet_63 : decode cX12_laysSet 63 = .ok (.iload_n 1, 1) := by decide +kernel
theorem dX12_laysSet_64 : decode cX12_laysSet 64 = .ok (.iadd, 1) := by decide +kernel
theorem dX12_laysSet_65 : decode cX12_laysSet 65 = .ok (.imul, 1) := by decide +kernel
theorem dX12_laysSet_66 : decode cX12_laysSet 66 = .ok (.istore_n 2, 1) := by decide +kernel
theorem dX12_laysSet_67 : decode cX12_laysSet 67 = .ok (.iconst 0, 1) := by decide +kernel
theorem dX12_laysSet_68 : decode cX12_laysSet 68 = .ok (.istore_n 3, 1) := by decide +kernel
theorem dX12_laysSet_69 : decode cX12_laysSet 69 = .ok (.iload_n 3, 1) := by decide +kernel
theorem dX12_laysSet_70 : decode cX12_laysSet 70 = .ok (.sipush 14610, 3) := by decide +kernel
theorem dX12_laysSet_73 : decode cX12_laysSet 73 = .ok (.if_icmp .ge 23, 3) := by decide +kernel
theorem dX12_laysSet_76 : decode cX12_laysSet 76 = .ok (.aload_n 0, 1) := by decide +kernel
theorem dX12_laysSet_77 : decode cX12_laysSet 77 = .ok (.getfield 58, 3) := by decide +kernel
theorem dX12_laysSet_80 : decode cX12_laysSet 80 = .ok (.iload_n 2, 1) := by decide +kernel
theorem dX12_laysSet_81 : decode cX12_laysSet 81 = .ok (.iload_n 3, 1) := by decide +kernel
theorem dX12_laysSet_82 : decode cX12_laysSet 82 = .ok (.iadd, 1) := by decide +kernel
theorem dX12_laysSet_83 : decode cX12_laysSet 83 = .ok (.aload_n 0, 1) := by decide +kernel
theorem dX12_laysSet_84 : decode cX12_laysSet 84 = .ok (.getfield 69, 3) := by decide +kernel
theorem dX12_laysSet_87 : decode cX12_laysSet 87 = .ok (.iload_n 3, 1) := by decide +kernel
theorem dX12_laysSet_88 : decode cX12_laysSet 88 = .ok (.baload, 1) := by decide +kernel
theorem dX12_laysSet_89 : decode cX12_laysSet 89 = .ok (.bastore, 1) := by decide +kernel
theorem dX12_laysSet_90 : decode cX12_laysSet 90 = .ok (.iinc 3 1, 3) := by decide +kernel
theorem dX12_laysSet_93 : decode cX12_laysSet 93 = .ok (.goto (-24), 3) := by decide +kernel
theorem dX12_laysSet_96 : decode cX12_laysSet 96 = .ok (.iconst 1, 1) := by decide +kernel
theorem dX12_laysSet_97 : decode cX12_laysSet 97 = .ok (.istore_n 3, 1) := by decide +kernel
theorem dX12_laysSet_98 : decode cX12_laysSet 98 = .ok (.iload_n 3, 1) := by decide +kernel
theorem dX12_laysSet_99 : decode cX12_laysSet 99 = .ok (.aload_n 0, 1) := by decide +kernel
theorem dX12_laysSet_100 : decode cX12_laysSet 100 = .ok (.getfield 54, 3) := by decide +kernel
theorem dX12_laysSet_103 : decode cX12_laysSet 103 = .ok (.iload_n 1, 1) := by decide +kernel
theorem dX12_laysSet_104 : decode cX12_laysSet 104 = .ok (.iconst 0, 1) := by decide +kernel
theorem dX12_laysSet_105 : decode cX12_laysSet 105 = .ok (.invokestatic 408, 3) := by decide +kernel
theorem dX12_laysSet_108 : decode cX12_laysSet 108 = .ok (.iaload, 1) := by decide +kernel
theorem dX12_laysSet_109 : decode cX12_laysSet 109 = .ok (.if_icmp .gt 29, 3) := by decide +kernel
theorem dX12_laysSet_112 : decode cX12_laysSet 112 = .ok (.aload_n 0, 1) := by decide +kernel
theorem dX12_laysSet_113 : decode cX12_laysSet 113 = .ok (.getfield 58, 3) := by decide +kernel
theorem dX12_laysSet_116 : decode cX12_laysSet 116 = .ok (.iload_n 2, 1) := by decide +kernel
theorem dX12_laysSet_117 : decode cX12_laysSet 117 = .ok (.aload_n 0, 1) := by decide +kernel
theorem dX12_laysSet_118 : decode cX12_laysSet 118 = .ok (.getfield 54, 3) := by decide +kernel
theorem dX12_laysSet_121 : decode cX12_laysSet 121 = .ok (.iload_n 1, 1) := by decide +kernel
theorem dX12_laysSet_122 : decode cX12_laysSet 122 = .ok (.iconst 0, 1) := by decide +kernel
theorem dX12_laysSet_123 : decode cX12_laysSet 123 = .ok (.invokestatic 408, 3) := by decide +kernel
theorem dX12_laysSet_126 : decode cX12_laysSet 126 = .ok (.iload_n 3, 1) := by decide +kernel
theorem dX12_laysSet_127 : decode cX12_laysSet 127 = .ok (.iadd, 1) := by decide +kernel
theorem dX12_laysSet_128 : decode cX12_laysSet 128 = .ok (.iaload, 1) := by decide +kernel
theorem dX12_laysSet_129 : decode cX12_laysSet 129 = .ok (.iadd, 1) := by decide +kernel
theorem dX12_laysSet_130 : decode cX12_laysSet 130 = .ok (.iconst 1, 1) := by decide +kernel
theorem dX12_laysSet_131 : decode cX12_laysSet 131 = .ok (.bastore, 1) := by decide +kernel
theorem dX12_laysSet_132 : decode cX12_laysSet 132 = .ok (.iinc 3 1, 3) := by decide +kernel
theorem dX12_laysSet_135 : decode cX12_laysSet 135 = .ok (.goto (-37), 3) := by decide +kernel
theorem dX12_laysSet_138 : decode cX12_laysSet 138 = .ok (.iconst 1, 1) := by decide +kernel
theorem dX12_laysSet_139 : decode cX12_laysSet 139 = .ok (.istore_n 3, 1) := by decide +kernel
theorem dX12_laysSet_140 : decode cX12_laysSet 140 = .ok (.iload_n 3, 1) := by decide +kernel
theorem dX12_laysSet_141 : decode cX12_laysSet 141 = .ok (.aload_n 0, 1) := by decide +kernel
theorem dX12_laysSet_142 : decode cX12_laysSet 142 = .ok (.getfield 54, 3) := by decide +kernel
theorem dX12_laysSet_145 : decode cX12_laysSet 145 = .ok (.iload_n 1, 1) := by decide +kernel
theorem dX12_laysSet_146 : decode cX12_laysSet 146 = .ok (.iconst 1, 1) := by decide +kernel
theorem dX12_laysSet_147 : decode cX12_laysSet 147 = .ok (.invokestatic 408, 3) := by decide +kernel
theorem dX12_laysSet_150 : decode cX12_laysSet 150 = .ok (.iaload, 1) := by decide +kernel
theorem dX12_laysSet_151 : decode cX12_laysSet 151 = .ok (.if_icmp .gt 29, 3) := by decide +kernel
theorem dX12_laysSet_154 : decode cX12_laysSet 154 = .ok (.aload_n 0, 1) := by decide +kernel
theorem dX12_laysSet_155 : decode cX12_laysSet 155 = .ok (.getfield 58, 3) := by decide +kernel
theorem dX12_laysSet_158 : decode cX12_laysSet 158 = .ok (.iload_n 2, 1) := by decide +kernel
theorem dX12_laysSet_159 : decode cX12_laysSet 159 = .ok (.aload_n 0, 1) := by decide +kernel
theorem dX12_laysSet_160 : decode cX12_laysSet 160 = .ok (.getfield 54, 3) := by decide +kernel
theorem dX12_laysSet_163 : decode cX12_laysSet 163 = .ok (.iload_n 1, 1) := by decide +kernel
theorem dX12_laysSet_164 : decode cX12_laysSet 164 = .ok (.iconst 1, 1) := by decide +kernel
theorem dX12_laysSet_165 : decode cX12_laysSet 165 = .ok (.invokestatic 408, 3) := by decide +kernel
theorem dX12_laysSet_168 : decode cX12_laysSet 168 = .ok (.iload_n 3, 1) := by decide +kernel
theorem dX12_laysSet_169 : decode cX12_laysSet 169 = .ok (.iadd, 1) := by decide +kernel
theorem dX12_laysSet_170 : decode cX12_laysSet 170 = .ok (.iaload, 1) := by decide +kernel
theorem dX12_laysSet_171 : decode cX12_laysSet 171 = .ok (.iadd, 1) := by decide +kernel
theorem dX12_laysSet_172 : decode cX12_laysSet 172 = .ok (.iconst 0, 1) := by decide +kernel
theorem dX12_laysSet_173 : decode cX12_laysSet 173 = .ok (.bastore, 1) := by decide +kernel
theorem dX12_laysSet_174 : decode cX12_laysSet 174 = .ok (.iinc 3 1, 3) := by decide +kernel
theorem dX12_laysSet_177 : decode cX12_laysSet 177 = .ok (.goto (-37), 3) := by decide +kernel
theorem dX12_laysSet_180 : decode cX12_laysSet 180 = .ok (.return_, 1) := by decide +kernel
theorem dX12_lays_0 : decode cX12_lays 0 = .ok (.iload_n 1, 1) := by decide +kernel
theorem dX12_lays_1 : decode cX12_lays 1 = .ok (.bipush 6, 2) := by decide +kernel
theorem dX12_lays_3 : decode cX12_lays 3 = .ok (.if_icmp .ge 48, 3) := by decide +kernel
theorem dX12_lays_6 : decode cX12_lays 6 = .ok (.aload_n 0, 1) := by decide +kernel
theorem dX12_lays_7 : decode cX12_lays 7 = .ok (.getfield 62, 3) := by decide +kernel
theorem dX12_lays_10 : decode cX12_lays 10 = .ok (.iload_n 1, 1) := by decide +kernel
theorem dX12_lays_11 : decode cX12_lays 11 = .ok (.baload, 1) := by decide +kernel
theorem dX12_lays_12 : decode cX12_lays 12 = .ok (.ifCond .eq 4, 3) := by decide +kernel
theorem dX12_lays_15 : decode cX12_lays 15 = .ok (.return_, 1) := by decide +kernel
theorem dX12_lays_16 : decode cX12_lays 16 = .ok (.aload_n 0, 1) := by decide +kernel
theorem dX12_lays_17 : decode cX12_lays 17 = .ok (.iload_n 1, 1) := by decide +kernel
theorem dX12_lays_18 : decode cX12_lays 18 = .ok (.invokevirtual 412, 3) := by decide +kernel
theorem dX12_lays_21 : decode cX12_lays 21 = .ok (.aload_n 0, 1) := by decide +kernel
theorem dX12_lays_22 : decode cX12_lays 22 = .ok (.iload_n 1, 1) := by decide +kernel
theorem dX12_lays_23 : decode cX12_lays 23 = .ok (.aload_n 0, 1) := by decide +kernel
theorem dX12_lays_24 : decode cX12_lays 24 = .ok (.getfield 54, 3) := by decide +kernel
theorem dX12_lays_27 : decode cX12_lays 27 = .ok (.iconst 2, 1) := by decide +kernel
theorem dX12_lays_28 : decode cX12_lays 28 = .ok (.iload_n 1, 1) := by decide +kernel
theorem dX12_lays_29 : decode cX12_lays 29 = .ok (.imul, 1) := by decide +kernel
theorem dX12_lays_30 : decode cX12_lays 30 = .ok (.iaload, 1) := by decide +kernel
theorem dX12_lays_31 : decode cX12_lays 31 = .ok (.aload_n 0, 1) := by decide +kernel
theorem dX12_lays_32 : decode cX12_lays 32 = .ok (.getfield 58, 3) := by decide +kernel
theorem dX12_lays_35 : decode cX12_lays 35 = .ok (.sipush 14610, 3) := by decide +kernel
theorem dX12_lays_38 : decode cX12_lays 38 = .ok (.iload_n 1, 1) := by decide +kernel
theorem dX12_lays_39 : decode cX12_lays 39 = .ok (.imul, 1) := by decide +kernel
theorem dX12_lays_40 : decode cX12_lays 40 = .ok (.invokevirtual 415, 3) := by decide +kernel
theorem dX12_lays_43 : decode cX12_lays 43 = .ok (.aload_n 0, 1) := by decide +kernel
theorem dX12_lays_44 : decode cX12_lays 44 = .ok (.getfield 62, 3) := by decide +kernel
theorem dX12_lays_47 : decode cX12_lays 47 = .ok (.iload_n 1, 1) := by decide +kernel
theorem dX12_lays_48 : decode cX12_lays 48 = .ok (.iconst 1, 1) := by decide +kernel
