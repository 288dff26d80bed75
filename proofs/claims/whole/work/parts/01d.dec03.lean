theorem dX11_chance_125 : decode cX11_chance 125 = .ok (.invokevirtual 255, 3) := by decide +kernel
theorem dX11_chance_128 : decode cX11_chance 128 = .ok (.istore 8, 2) := by decide +kernel
theorem dX11_chance_130 : decode cX11_chance 130 = .ok (.iload 8, 2) := by decide +kernel
theorem dX11_chance_132 : decode cX11_chance 132 = .ok (.iconst (-1), 1) := by decide +kernel
theorem dX11_chance_133 : decode cX11_chance 133 = .ok (.if_icmp .eq 9, 3) := by decide +kernel
theorem dX11_chance_136 : decode cX11_chance 136 = .ok (.aload_n 2, 1) := by decide +kernel
theorem dX11_chance_137 : decode cX11_chance 137 = .ok (.iload 8, 2) := by decide +kernel
theorem dX11_chance_139 : decode cX11_chance 139 = .ok (.invokevirtual 258, 3) := by decide +kernel
theorem dX11_chance_142 : decode cX11_chance 142 = .ok (.iinc 3 1, 3) := by decide +kernel
theorem dX11_chance_145 : decode cX11_chance 145 = .ok (.goto (-101), 3) := by decide +kernel
theorem dX11_chance_148 : decode cX11_chance 148 = .ok (.aload_n 2, 1) := by decide +kernel
theorem dX11_chance_149 : decode cX11_chance 149 = .ok (.getfield 261, 3) := by decide +kernel
theorem dX11_chance_152 : decode cX11_chance 152 = .ok (.ireturn, 1) := by decide +kernel
theorem dX11_undo_0 : decode cX11_undo 0 = .ok (.aload_n 0, 1) := by decide +kernel
theorem dX11_undo_1 : decode cX11_undo 1 = .ok (.getfield 42, 3) := by decide +kernel
theorem dX11_undo_4 : decode cX11_undo 4 = .ok (.getfield 114, 3) := by decide +kernel
theorem dX11_undo_7 : decode cX11_undo 7 = .ok (.ifCond .ne 9, 3) := by decide +kernel
theorem dX11_undo_10 : decode cX11_undo 10 = .ok (.aload_n 0, 1) := by decide +kernel
theorem dX11_undo_11 : decode cX11_undo 11 = .ok (.iconst 4, 1) := by decide +kernel
theorem dX11_undo_12 : decode cX11_undo 12 = .ok (.invokevirtual 86, 3) := by decide +kernel
theorem dX11_undo_15 : decode cX11_undo 15 = .ok (.ireturn, 1) := by decide +kernel
theorem dX11_undo_16 : decode cX11_undo 16 = .ok (.aload_n 0, 1) := by decide +kernel
theorem dX11_undo_17 : decode cX11_undo 17 = .ok (.getfield 42, 3) := by decide +kernel
theorem dX11_undo_20 : decode cX11_undo 20 = .ok (.invokevirtual 262, 3) := by decide +kernel
theorem dX11_undo_23 : decode cX11_undo 23 = .ok (.ifCond .ne 20, 3) := by decide +kernel
theorem dX11_undo_26 : decode cX11_undo 26 = .ok (.aload_n 0, 1) := by decide +kernel
theorem dX11_undo_27 : decode cX11_undo 27 = .ok (.getfield 35, 3) := by decide +kernel
theorem dX11_undo_30 : decode cX11_undo 30 = .ok (.aload_n 0, 1) := by decide +kernel
theorem dX11_undo_31 : decode cX11_undo 31 = .ok (.getfield 42, 3) := by decide +kernel
theorem dX11_undo_34 : decode cX11_undo 34 = .ok (.invokevirtual 248, 3) := by decide +kernel
theorem dX11_undo_37 : decode cX11_undo 37 = .ok (.invokevirtual 266, 3) := by decide +kernel
theorem dX11_undo_40 : decode cX11_undo 40 = .ok (.goto 7, 3) := by decide +kernel
theorem dX11_undo_43 : decode cX11_undo 43 = .ok (.aload_n 0, 1) := by decide +kernel
theorem dX11_undo_44 : decode cX11_undo 44 = .ok (.invokevirtual 270, 3) := by decide +kernel
theorem dX11_undo_47 : decode cX11_undo 47 = .ok (.aload_n 0, 1) := by decide +kernel
theorem dX11_undo_48 : decode cX11_undo 48 = .ok (.getfield 42, 3) := by decide +kernel
theorem dX11_undo_51 : decode cX11_undo 51 = .ok (.invokevirtual 273, 3) := by decide +kernel
theorem dX11_undo_54 : decode cX11_undo 54 = .ok (.iconst 1, 1) := by decide +kernel
theorem dX11_undo_55 : decode cX11_undo 55 = .ok (.ireturn, 1) := by decide +kernel
theorem dX11_seed_0 : decode cX11_seed 0 = .ok (.iload_n 1, 1) := by decide +kernel
theorem dX11_seed_1 : decode cX11_seed 1 = .ok (.ifCond .ge 9, 3) := by decide +kernel
theorem dX11_seed_4 : decode cX11_seed 4 = .ok (.aload_n 0, 1) := by decide +kernel
theorem dX11_seed_5 : decode cX11_seed 5 = .ok (.iconst 5, 1) := by decide +kernel
theorem dX11_seed_6 : decode cX11_seed 6 = .ok (.invokevirtual 86, 3) := by decide +kernel
theorem dX11_seed_9 : decode cX11_seed 9 = .ok (.ireturn, 1) := by decide +kernel
theorem dX11_seed_10 : decode cX11_seed 10 = .ok (.aload_n 0, 1) := by decide +kernel
theorem dX11_seed_11 : decode cX11_seed 11 = .ok (.iload_n 1, 1) := by decide +kernel
theorem dX11_seed_12 : decode cX11_seed 12 = .ok (.putfield 67, 3) := by decide +kernel
theorem dX11_seed_15 : decode cX11_seed 15 = .ok (.iconst 1, 1) := by decide +kernel
theorem dX11_seed_16 : decode cX11_seed 16 = .ok (.ireturn, 1) := by decide +kernel
theorem dX11_status_0 : decode cX11_status 0 = .ok (.iload_n 1, 1) := by decide +kernel
theorem dX11_status_1 : decode cX11_status 1 = .ok (.ifCond .lt 12, 3) := by decide +kernel
theorem dX11_status_4 : decode cX11_status 4 = .ok (.iload_n 1, 1) := by decide +kernel
theorem dX11_status_5 : decode cX11_status 5 = .ok (.aload_n 0, 1) := by decide +kernel
theorem dX11_status_6 : decode cX11_status 6 = .ok (.getfield 53, 3) := by decide +kernel
theorem dX11_status_9 : decode cX11_status 9 = .ok (.arraylength, 1) := by decide +kernel
theorem dX11_status_10 : decode cX11_status 10 = .ok (.if_icmp .lt 7, 3) := by decide +kernel
theorem dX11_status_13 : decode cX11_status 13 = .ok (.iconst (-1), 1) := by decide +kernel
theorem dX11_status_14 : decode cX11_status 14 = .ok (.goto 9, 3) := by decide +kernel
theorem dX11_status_17 : decode cX11_status 17 = .ok (.aload_n 0, 1) := by decide +kernel
theorem dX11_status_18 : decode cX11_status 18 = .ok (.getfield 53, 3) := by decide +kernel
theorem dX11_status_21 : decode cX11_status 21 = .ok (.iload_n 1, 1) := by decide +kernel
theorem dX11_status_22 : decode cX11_status 22 = .ok (.iaload, 1) := by decide +kernel
theorem dX11_status_23 : decode cX11_status 23 = .ok (.ireturn, 1) := by decide +kernel
theorem dX11_isDay_0 : decode cX11_isDay 0 = .ok (.iload_n 0, 1) := by decide +kernel
theorem dX11_isDay_1 : decode cX11_isDay 1 = .ok (.ifCond .lt 14, 3) := by decide +kernel
theorem dX11_isDay_4 : decode cX11_isDay 4 = .ok (.iload_n 0, 1) := by decide +kernel
theorem dX11_isDay_5 : decode cX11_isDay 5 = .ok (.sipush 14610, 3) := by decide +kernel
theorem dX11_isDay_8 : decode cX11_isDay 8 = .ok (.if_icmp .ge 7, 3) := by decide +kernel
theorem dX11_isDay_11 : decode cX11_isDay 11 = .ok (.iconst 1, 1) := by decide +kernel
theorem dX11_isDay_12 : decode cX11_isDay 12 = .ok (.goto 4, 3) := by decide +kernel
theorem dX11_isDay_15 : decode cX11_isDay 15 = .ok (.iconst 0, 1) := by decide +kernel
theorem dX11_isDay_16 : decode cX11_isDay 16 = .ok (.ireturn, 1) := by decide +kernel
theorem dX11_refuse_0 : decode cX11_refuse 0 = .ok (.iload_n 1, 1) := by decide +kernel
theorem dX11_refuse_1 : decode cX11_refuse 1 = .ok (.ifCond .lt 22, 3) := by decide +kernel
theorem dX11_refuse_4 : decode cX11_refuse 4 = .ok (.iload_n 1, 1) := by decide +kernel
theorem dX11_refuse_5 : decode cX11_refuse 5 = .ok (.aload_n 0, 1) := by decide +kernel
theorem dX11_refuse_6 : decode cX11_refuse 6 = .ok (.getfield 53, 3) := by decide +kernel
theorem dX11_refuse_9 : decode cX11_refuse 9 = .ok (.arraylength, 1) := by decide +kernel
theorem dX11_refuse_10 : decode cX11_refuse 10 = .ok (.if_icmp .ge 13, 3) := by decide +kernel
theorem dX11_refuse_13 : decode cX11_refuse 13 = .ok (.aload_n 0, 1) := by decide +kernel
theorem dX11_refuse_14 : decode cX11_refuse 14 = .ok (.getfield 53, 3) := by decide +kernel
theorem dX11_refuse_17 : decode cX11_refuse 17 = .ok (.iload_n 1, 1) := by decide +kernel
theorem dX11_refuse_18 : decode cX11_refuse 18 = .ok (.dup2, 1) := by decide +kernel
theorem dX11_refuse_19 : decode cX11_refuse 19 = .ok (.iaload, 1) := by decide +kernel
theorem dX11_refuse_20 : decode cX11_refuse 20 = .ok (.iconst 1, 1) := by decide +kernel
theorem dX11_refuse_21 : decode cX11_refuse 21 = .ok (.iadd, 1) := by decide +kernel
theorem dX11_refuse_22 : decode cX11_refuse 22 = .ok (.iastore, 1) := by decide +kernel
theorem dX11_refuse_23 : decode cX11_refuse 23 = .ok (.iconst (-1), 1) := by decide +kernel
theorem dX11_refuse_24 : decode cX11_refuse 24 = .ok (.ireturn, 1) := by decide +kernel
theorem dX11_deny_0 : decode cX11_deny 0 = .ok (.aload_n 0, 1) := by decide +kernel
theorem dX11_deny_1 : decode cX11_deny 1 = .ok (.iload_n 1, 1) := by decide +kernel
theorem dX11_deny_2 : decode cX11_deny 2 = .ok (.invokevirtual 78, 3) := by decide +kernel
theorem dX11_deny_5 : decode cX11_deny 5 = .ok (.pop, 1) := by decide +kernel
theorem dX11_deny_6 : decode cX11_deny 6 = .ok (.iconst 0, 1) := by decide +kernel
theorem dX11_deny_7 : decode cX11_deny 7 = .ok (.ireturn, 1) := by decide +kernel
theorem dX11_turn_0 : decode cX11_turn 0 = .ok (.iload_n 1, 1) := by decide +kernel
theorem dX11_turn_1 : decode cX11_turn 1 = .ok (.ifCond .ge 7, 3) := by decide +kernel
theorem dX11_turn_4 : decode cX11_turn 4 = .ok (.aconst_null, 1) := by decide +kernel
theorem dX11_turn_5 : decode cX11_turn 5 = .ok (.goto 14, 3) := by decide +kernel
theorem dX11_turn_8 : decode cX11_turn 8 = .ok (.aload_n 0, 1) := by decide +kernel
theorem dX11_turn_9 : decode cX11_turn 9 = .ok (.getfield 35, 3) := by decide +kernel
theorem dX11_turn_12 : decode cX11_turn 12 = .ok (.bipush 6, 2) := by decide +kernel
theorem dX11_turn_14 : decode cX11_turn 14 = .ok (.iload_n 1, 1) := by decide +kernel
theorem dX11_turn_15 : decode cX11_turn 15 = .ok (.iadd, 1) := by decide +kernel
theorem dX11_turn_16 : decode cX11_turn 16 = .ok (.invokevirtual 145, 3) := by decide +kernel
theorem dX11_turn_19 : decode cX11_turn 19 = .ok (.astore 4, 2) := by decide +kernel
theorem dX11_turn_21 : decode cX11_turn 21 = .ok (.aload 4, 2) := by decide +kernel
theorem dX11_turn_23 : decode cX11_turn 23 = .ok (.ifnull 22, 3) := by decide +kernel
theorem dX11_turn_26 : decode cX11_turn 26 = .ok (.aload 4, 2) := by decide +kernel
theorem dX11_turn_28 : decode cX11_turn 28 = .ok (.iload_n 2, 1) := by decide +kernel
theorem dX11_turn_29 : decode cX11_turn 29 = .ok (.invokevirtual 149, 3) := by decide +kernel
theorem dX11_turn_32 : decode cX11_turn 32 = .ok (.iload_n 3, 1) := by decide +kernel
theorem dX11_turn_33 : decode cX11_turn 33 = .ok (.iconst 2, 1) := by decide +kernel
theorem dX11_turn_34 : decode cX11_turn 34 = .ok (.if_icmp .ne 7, 3) := by decide +kernel
theorem dX11_turn_37 : decode cX11_turn 37 = .ok (.iconst 1, 1) := by decide +kernel
theorem dX11_turn_38 : decode cX11_turn 38 = .ok (.goto 4, 3) := by decide +kernel
theorem dX11_turn_41 : decode cX11_turn 41 = .ok (.iconst 0, 1) := by decide +kernel
theorem dX11_turn_42 : decode cX11_turn 42 = .ok (.if_icmp .eq 9, 3) := by decide +kernel
theorem dX11_turn_45 : decode cX11_turn 45 = .ok (.aload_n 0, 1) := by decide +kernel
theorem dX11_turn_46 : decode cX11_turn 46 = .ok (.iconst 2, 1) := by decide +kernel
theorem dX11_turn_47 : decode cX11_turn 47 = .ok (.invokevirtual 86, 3) := by decide +kernel
theorem dX11_turn_50 : decode cX11_turn 50 = .ok (.ireturn, 1) := by decide +kernel
theorem dX11_turn_51 : decode cX11_turn 51 = .ok (.aload_n 0, 1) := by decide +kernel
theorem dX11_turn_52 : decode cX11_turn 52 = .ok (.getfield 35, 3) := by decide +kernel
theorem dX11_turn_55 : decode cX11_turn 55 = .ok (.iload_n 1, 1) := by decide +kernel
theorem dX11_turn_56 : decode cX11_turn 56 = .ok (.iload_n 2, 1) := by decide +kernel
theorem dX11_turn_57 : decode cX11_turn 57 = .ok (.iload_n 3, 1) := by decide +kernel
theorem dX11_turn_58 : decode cX11_turn 58 = .ok (.invokevirtual 255, 3) := by decide +kernel
theorem dX11_turn_61 : decode cX11_turn 61 = .ok (.istore 5, 2) := by decide +kernel
theorem dX11_turn_63 : decode cX11_turn 63 = .ok (.iload 5, 2) := by decide +kernel
theorem dX11_turn_65 : decode cX11_turn 65 = .ok (.iconst (-1), 1) := by decide +kernel
theorem dX11_turn_66 : decode cX11_turn 66 = .ok (.if_icmp .ne 9, 3) := by decide +kernel
theorem dX11_turn_69 : decode cX11_turn 69 = .ok (.aload_n 0, 1) := by decide +kernel
theorem dX11_turn_70 : decode cX11_turn 70 = .ok (.iconst 2, 1) := by decide +kernel
theorem dX11_turn_71 : decode cX11_turn 71 = .ok (.invokevirtual 86, 3) := by decide +kernel
theorem dX11_turn_74 : decode cX11_turn 74 = .ok (.ireturn, 1) := by decide +kernel
theorem dX11_turn_75 : decode cX11_turn 75 = .ok (.aload_n 0, 1) := by decide +kernel
theorem dX11_turn_76 : decode cX11_turn 76 = .ok (.getfield 42, 3) := by decide +kernel
theorem dX11_turn_79 : decode cX11_turn 79 = .ok (.invokevirtual 245, 3) := by decide +kernel
theorem dX11_turn_82 : decode cX11_turn 82 = .ok (.aload_n 0, 1) := by decide +kernel
theorem dX11_turn_83 : decode cX11_turn 83 = .ok (.getfield 42, 3) := by decide +kernel
theorem dX11_turn_86 : decode cX11_turn 86 = .ok (.invokevirtual 248, 3) := by decide +kernel
theorem dX11_turn_89 : decode cX11_turn 89 = .ok (.iload 5, 2) := by decide +kernel
theorem dX11_turn_91 : decode cX11_turn 91 = .ok (.invokevirtual 258, 3) := by decide +kernel
theorem dX11_turn_94 : decode cX11_turn 94 = .ok (.iconst 1, 1) := by decide +kernel
theorem dX11_turn_95 : decode cX11_turn 95 = .ok (.ireturn, 1) := by decide +kernel
theorem dX11_restoreRule_0 : decode cX11_restoreRule 0 = .ok (.aload_n 0, 1) := by decide +kernel
theorem dX11_restoreRule_1 : decode cX11_restoreRule 1 = .ok (.getfield 60, 3) := by decide +kernel
theorem dX11_restoreRule_4 : decode cX11_restoreRule 4 = .ok (.aload_n 0, 1) := by decide +kernel
theorem dX11_restoreRule_5 : decode cX11_restoreRule 5 = .ok (.getfield 42, 3) := by decide +kernel
theorem dX11_restoreRule_8 : decode cX11_restoreRule 8 = .ok (.invokevirtual 276, 3) := by decide +kernel
theorem dX11_restoreRule_11 : decode cX11_restoreRule 11 = .ok (.invokevirtual 122, 3) := by decide +kernel
theorem dX11_restoreRule_14 : decode cX11_restoreRule 14 = .ok (.astore_n 1, 1) := by decide +kernel
theorem dX11_restoreRule_15 : decode cX11_restoreRule 15 = .ok (.aload_n 1, 1) := by decide +kernel
theorem dX11_restoreRule_16 : decode cX11_restoreRule 16 = .ok (.ifnonnull 4, 3) := by decide +kernel
theorem dX11_restoreRule_19 : decode cX11_restoreRule 19 = .ok (.return_, 1) := by decide +kernel
theorem dX11_restoreRule_20 : decode cX11_restoreRule 20 = .ok (.aload_n 0, 1) := by decide +kernel
theorem dX11_restoreRule_21 : decode cX11_restoreRule 21 = .ok (.getfield 42, 3) := by decide +kernel
theorem dX11_restoreRule_24 : decode cX11_restoreRule 24 = .ok (.invokevirtual 262, 3) := by decide +kernel
theorem dX11_restoreRule_27 : decode cX11_restoreRule 27 = .ok (.iconst 1, 1) := by decide +kernel
theorem dX11_restoreRule_28 : decode cX11_restoreRule 28 = .ok (.if_icmp .ne 17, 3) := by decide +kernel
theorem dX11_restoreRule_31 : decode cX11_restoreRule 31 = .ok (.aload_n 1, 1) := by decide +kernel
theorem dX11_restoreRule_32 : decode cX11_restoreRule 32 = .ok (.aload_n 0, 1) := by decide +kernel
theorem dX11_restoreRule_33 : decode cX11_restoreRule 33 = .ok (.getfield 42, 3) := by decide +kernel
theorem dX11_restoreRule_36 : decode cX11_restoreRule 36 = .ok (.invokevirtual 279, 3) := by decide +kernel
theorem dX11_restoreRule_39 : decode cX11_restoreRule 39 = .ok (.putfield 226, 3) := by decide +kernel
theorem dX11_restoreRule_42 : decode cX11_restoreRule 42 = .ok (.goto 21, 3) := by decide +kernel
theorem dX11_restoreRule_45 : decode cX11_restoreRule 45 = .ok (.aload_n 1, 1) := by decide +kernel
theorem dX11_restoreRule_46 : decode cX11_restoreRule 46 = .ok (.aload_n 0, 1) := by decide +kernel
theorem dX11_restoreRule_47 : decode cX11_restoreRule 47 = .ok (.getfield 42, 3) := by decide +kernel
theorem dX11_restoreRule_50 : decode cX11_restoreRule 50 = .ok (.invokevirtual 279, 3) := by decide +kernel
theorem dX11_restoreRule_53 : decode cX11_restoreRule 53 = .ok (.invokevirtual 239, 3) := by decide +kernel
theorem dX11_restoreRule_56 : decode cX11_restoreRule 56 = .ok (.aload_n 0, 1) := by decide +kernel
theorem dX11_restoreRule_57 : decode cX11_restoreRule 57 = .ok (.getfield 49, 3) := by decide +kernel
theorem dX11_restoreRule_60 : decode cX11_restoreRule 60 = .ok (.invokevirtual 242, 3) := by decide +kernel
theorem dX11_restoreRule_63 : decode cX11_restoreRule 63 = .ok (.aload_n 0, 1) := by decide +kernel
theorem dX11_restoreRule_64 : decode cX11_restoreRule 64 = .ok (.getfield 35, 3) := by decide +kernel
theorem dX11_restoreRule_67 : decode cX11_restoreRule 67 = .ok (.aload_n 0, 1) := by decide +kernel
theorem dX11_restoreRule_68 : decode cX11_restoreRule 68 = .ok (.getfield 42, 3) := by decide +kernel
theorem dX11_restoreRule_71 : decode cX11_restoreRule 71 = .ok (.invokevirtual 276, 3) := by decide +kernel
theorem dX11_restoreRule_74 : decode cX11_restoreRule 74 = .ok (.invokevirtual 233, 3) := by decide +kernel
theorem dX11_restoreRule_77 : decode cX11_restoreRule 77 = .ok (.return_, 1) := by decide +kernel
theorem dX11_draw_0 : decode cX11_draw 0 = .ok (.aload_n 0, 1) := by decide +kernel
theorem dX11_draw_1 : decode cX11_draw 1 = .ok (.ldc2_w 282, 3) := by decide +kernel
theorem dX11_draw_4 : decode cX11_draw 4 = .ok (.aload_n 0, 1) := by decide +kernel
theorem dX11_draw_5 : decode cX11_draw 5 = .ok (.getfield 67, 3) := by decide +kernel
theorem dX11_draw_8 : decode cX11_draw 8 = .ok (.i2l, 1) := by decide +kernel
theorem dX11_draw_9 : decode cX11_draw 9 = .ok (.lmul, 1) := by decide +kernel
theorem dX11_draw_10 : decode cX11_draw 10 = .ok (.ldc2_w 284, 3) := by decide +kernel
theorem dX11_draw_13 : decode cX11_draw 13 = .ok (.ladd, 1) := by decide +kernel
theorem dX11_draw_14 : decode cX11_draw 14 = .ok (.ldc2_w 286, 3) := by decide +kernel
theorem dX11_draw_17 : decode cX11_draw 17 = .ok (.land, 1) := by decide +kernel
theorem dX11_draw_18 : decode cX11_draw 18 = .ok (.l2i, 1) := by decide +kernel
theorem dX11_draw_19 : decode cX11_draw 19 = .ok (.putfield 67, 3) := by decide +kernel
theorem dX11_draw_22 : decode cX11_draw 22 = .ok (.iload_n 1, 1) := by decide +kernel
theorem dX11_draw_23 : decode cX11_draw 23 = .ok (.iconst 1, 1) := by decide +kernel
theorem dX11_draw_24 : decode cX11_draw 24 = .ok (.if_icmp .ge 7, 3) := by decide +kernel
theorem dX11_draw_27 : decode cX11_draw 27 = .ok (.iconst 0, 1) := by decide +kernel
theorem dX11_draw_28 : decode cX11_draw 28 = .ok (.goto 12, 3) := by decide +kernel
theorem dX11_draw_31 : decode cX11_draw 31 = .ok (.aload_n 0, 1) := by decide +kernel
theorem dX11_draw_32 : decode cX11_draw 32 = .ok (.getfield 67, 3) := by decide +kernel
theorem dX11_draw_35 : decode cX11_draw 35 = .ok (.bipush 64, 2) := by decide +kernel
theorem dX11_draw_37 : decode cX11_draw 37 = .ok (.idiv, 1) := by decide +kernel
theorem dX11_draw_38 : decode cX11_draw 38 = .ok (.iload_n 1, 1) := by decide +kernel
theorem dX11_draw_39 : decode cX11_draw 39 = .ok (.irem, 1) := by decide +kernel
theorem dX11_draw_40 : decode cX11_draw 40 = .ok (.ireturn, 1) := by decide +kernel
theorem dX12_isIn_0 : decode cX12_isIn 0 = .ok (.lload_n 0, 1) := by decide +kernel
theorem dX12_isIn_1 : decode cX12_isIn 1 = .ok (.lload_n 2, 1) := by decide +kernel
theorem dX12_isIn_2 : decode cX12_isIn 2 = .ok (.lcmp, 1) := by decide +kernel
theorem dX12_isIn_3 : decode cX12_isIn 3 = .ok (.ifCond .lt 14, 3) := by decide +kernel
theorem dX12_isIn_6 : decode cX12_isIn 6 = .ok (.lload_n 0, 1) := by decide +kernel
theorem dX12_isIn_7 : decode cX12_isIn 7 = .ok (.lload 4, 2) := by decide +kernel
theorem dX12_isIn_9 : decode cX12_isIn 9 = .ok (.lcmp, 1) := by decide +kernel
theorem dX12_isIn_10 : decode cX12_isIn 10 = .ok (.ifCond .gt 7, 3) := by decide +kernel
theorem dX12_isIn_13 : decode cX12_isIn 13 = .ok (.iconst 1, 1) := by decide +kernel
theorem dX12_isIn_14 : decode cX12_isIn 14 = .ok (.goto 4, 3) := by decide +kernel
theorem dX12_isIn_17 : decode cX12_isIn 17 = .ok (.iconst 0, 1) := by decide +kernel
theorem dX12_isIn_18 : decode cX12_isIn 18 = .ok (.ireturn, 1) := by decide +kernel
theorem dX12_flag_0 : decode cX12_flag 0 = .ok (.iload_n 0, 1) := by decide +kernel
theorem dX12_flag_1 : decode cX12_flag 1 = .ok (.ifCond .eq 7, 3) := by decide +kernel
theorem dX12_flag_4 : decode cX12_flag 4 = .ok (.iconst 1, 1) := by decide +kernel
theorem dX12_flag_5 : decode cX12_flag 5 = .ok (.goto 4, 3) := by decide +kernel
theorem dX12_flag_8 : decode cX12_flag 8 = .ok (.iconst 0, 1) := by decide +kernel
theorem dX12_flag_9 : decode cX12_flag 9 = .ok (.ireturn, 1) := by decide +kernel
theorem dX12_isOf_0 : decode cX12_isOf 0 = .ok (.iload_n 0, 1) := by decide +kernel
theorem dX12_isOf_1 : decode cX12_isOf 1 = .ok (.iload_n 1, 1) := by decide +kernel
theorem dX12_isOf_2 : decode cX12_isOf 2 = .ok (.ishr, 1) := by decide +kernel
theorem dX12_isOf_3 : decode cX12_isOf 3 = .ok (.iconst 1, 1) := by decide +kernel
theorem dX12_isOf_4 : decode cX12_isOf 4 = .ok (.iand, 1) := by decide +kernel
theorem dX12_isOf_5 : decode cX12_isOf 5 = .ok (.iconst 1, 1) := by decide +kernel
theorem dX12_isOf_6 : decode cX12_isOf 6 = .ok (.if_icmp .ne 7, 3) := by decide +kernel
theorem dX12_isOf_9 : decode cX12_isOf 9 = .ok (.iconst 1, 1) := by decide +kernel
theorem dX12_isOf_10 : decode cX12_isOf 10 = .ok (.goto 4, 3) := by decide +kernel
theorem dX12_isOf_13 : decode cX12_isOf 13 = .ok (.iconst 0, 1) := by decide +kernel
theorem dX12_isOf_14 : decode cX12_isOf 14 = .ok (.ireturn, 1) := by decide +kernel
theorem dX12_refuses_0 : decode cX12_refuses 0 = .ok (.aload_n 0, 1) := by decide +kernel
theorem dX12_refuses_1 : decode cX12_refuses 1 = .ok (.getfield 17, 3) := by decide +kernel
theorem dX12_refuses_4 : decode cX12_refuses 4 = .ok (.iload_n 1, 1) := by decide +kernel
theorem dX12_refuses_5 : decode cX12_refuses 5 = .ok (.dup2, 1) := by decide +kernel
theorem dX12_refuses_6 : decode cX12_refuses 6 = .ok (.iaload, 1) := by decide +kernel
theorem dX12_refuses_7 : decode cX12_refuses 7 = .ok (.iconst 1, 1) := by decide +kernel
theorem dX12_refuses_8 : decode cX12_refuses 8 = .ok (.iadd, 1) := by decide +kernel
theorem dX12_refuses_9 : decode cX12_refuses 9 = .ok (.iastore, 1) := by decide +kernel
theorem dX12_refuses_10 : decode cX12_refuses 10 = .ok (.iconst (-1), 1) := by decide +kernel
theorem dX12_refuses_11 : decode cX12_refuses 11 = .ok (.ireturn, 1) := by decide +kernel
theorem dX12_isRefused_0 : decode cX12_isRefused 0 = .ok (.aload_n 0, 1) := by decide +kernel
theorem dX12_isRefused_1 : decode cX12_isRefused 1 = .ok (.getfield 17, 3) := by decide +kernel
theorem dX12_isRefused_4 : decode cX12_isRefused 4 = .ok (.iload_n 1, 1) := by decide +kernel
theorem dX12_isRefused_5 : decode cX12_isRefused 5 = .ok (.dup2, 1) := by decide +kernel
theorem dX12_isRefused_6 : decode cX12_isRefused 6 = .ok (.iaload, 1) := by decide +kernel
theorem dX12_isRefused_7 : decode cX12_isRefused 7 = .ok (.iconst 1, 1) := by decide +kernel
theorem dX12_isRefused_8 : decode cX12_isRefused 8 = .ok (.iadd, 1) := by decide +kernel
theorem dX12_isRefused_9 : decode cX12_isRefused 9 = .ok (.iastore, 1) := by decide +kernel
theorem dX12_isRefused_10 : decode cX12_isRefused 10 = .ok (.iconst 0, 1) := by decide +kernel
theorem dX12_isRefused_11 : decode cX12_isRefused 11 = .ok (.ireturn, 1) := by decide +kernel
theorem dX12_feed_0 : decode cX12_feed 0 = .ok (.aload_n 0, 1) := by decide +kernel
theorem dX12_feed_1 : decode cX12_feed 1 = .ok (.getfield 97, 3) := by decide +kernel
theorem dX12_feed_4 : decode cX12_feed 4 = .ok (.bipush 20, 2) := by decide +kernel
theorem dX12_feed_6 : decode cX12_feed 6 = .ok (.iadd, 1) := by decide +kernel
theorem dX12_feed_7 : decode cX12_feed 7 = .ok (.sipush 1600, 3) := by decide +kernel
theorem dX12_feed_10 : decode cX12_feed 10 = .ok (.if_icmp .le 9, 3) := by decide +kernel
theorem dX12_feed_13 : decode cX12_feed 13 = .ok (.aload_n 0, 1) := by decide +kernel
theorem dX12_feed_14 : decode cX12_feed 14 = .ok (.iconst 0, 1) := by decide +kernel
theorem dX12_feed_15 : decode cX12_feed 15 = .ok (.invokevirtual 100, 3) := by decide +kernel
theorem dX12_feed_18 : decode cX12_feed 18 = .ok (.ireturn, 1) := by decide +kernel
theorem dX12_feed_19 : decode cX12_feed 19 = .ok (.iconst 0, 1) := by decide +kernel
theorem dX12_feed_20 : decode cX12_feed 20 = .ok (.istore 6, 2) := by decide +kernel
theorem dX12_feed_22 : decode cX12_feed 22 = .ok (.iload 6, 2) := by decide +kernel
theorem dX12_feed_24 : decode cX12_feed 24 = .ok (.bipush 20, 2) := by decide +kernel
theorem dX12_feed_26 : decode cX12_feed 26 = .ok (.if_icmp .ge 92, 3) := by decide +kernel
theorem dX12_feed_29 : decode cX12_feed 29 = .ok (.iload 6, 2) := by decide +kernel
theorem dX12_feed_31 : decode cX12_feed 31 = .ok (.iconst 4, 1) := by decide +kernel
theorem dX12_feed_32 : decode cX12_feed 32 = .ok (.if_icmp .ge 7, 3) := by decide +kernel
theorem dX12_feed_35 : decode cX12_feed 35 = .ok (.iload_n 1, 1) := by decide +kernel
theorem dX12_feed_36 : decode cX12_feed 36 = .ok (.goto 39, 3) := by decide +kernel
theorem dX12_feed_39 : decode cX12_feed 39 = .ok (.iload 6, 2) := by decide +kernel
theorem dX12_feed_41 : decode cX12_feed 41 = .ok (.bipush 8, 2) := by decide +kernel
theorem dX12_feed_43 : decode cX12_feed 43 = .ok (.if_icmp .ge 7, 3) := by decide +kernel
theorem dX12_feed_46 : decode cX12_feed 46 = .ok (.iload_n 2, 1) := by decide +kernel
theorem dX12_feed_47 : decode cX12_feed 47 = .ok (.goto 28, 3) := by decide +kernel
theorem dX12_feed_50 : decode cX12_feed 50 = .ok (.iload 6, 2) := by decide +kernel
theorem dX12_feed_52 : decode cX12_feed 52 = .ok (.bipush 12, 2) := by decide +kernel
theorem dX12_feed_54 : decode cX12_feed 54 = .ok (.if_icmp .ge 7, 3) := by decide +kernel
theorem dX12_feed_57 : decode cX12_feed 57 = .ok (.iload_n 3, 1) := by decide +kernel
theorem dX12_feed_58 : decode cX12_feed 58 = .ok (.goto 17, 3) := by decide +kernel
theorem dX12_feed_61 : decode cX12_feed 61 = .ok (.iload 6, 2) := by decide +kernel
theorem dX12_feed_63 : decode cX12_feed 63 = .ok (.bipush 16, 2) := by decide +kernel
theorem dX12_feed_65 : decode cX12_feed 65 = .ok (.if_icmp .ge 8, 3) := by decide +kernel
theorem dX12_feed_68 : decode cX12_feed 68 = .ok (.iload 4, 2) := by decide +kernel
theorem dX12_feed_70 : decode cX12_feed 70 = .ok (.goto 5, 3) := by decide +kernel
theorem dX12_feed_73 : decode cX12_feed 73 = .ok (.iload 5, 2) := by decide +kernel
theorem dX12_feed_75 : decode cX12_feed 75 = .ok (.istore 7, 2) := by decide +kernel
theorem dX12_feed_77 : decode cX12_feed 77 = .ok (.aload_n 0, 1) := by decide +kernel
theorem dX12_feed_78 : decode cX12_feed 78 = .ok (.getfield 7, 3) := by decide +kernel
theorem dX12_feed_81 : decode cX12_feed 81 = .ok (.aload_n 0, 1) := by decide +kernel
theorem dX12_feed_82 : decode cX12_feed 82 = .ok (.getfield 97, 3) := by decide +kernel
theorem dX12_feed_85 : decode cX12_feed 85 = .ok (.iload 7, 2) := by decide +kernel
theorem dX12_feed_87 : decode cX12_feed 87 = .ok (.bipush 8, 2) := by decide +kernel
theorem dX12_feed_89 : decode cX12_feed 89 = .ok (.iconst 3, 1) := by decide +kernel
theorem dX12_feed_90 : decode cX12_feed 90 = .ok (.iload 6, 2) := by decide +kernel
theorem dX12_feed_92 : decode cX12_feed 92 = .ok (.iconst 4, 1) := by decide +kernel
theorem dX12_feed_93 : decode cX12_feed 93 = .ok (.irem, 1) := by decide +kernel
theorem dX12_feed_94 : decode cX12_feed 94 = .ok (.isub, 1) := by decide +kernel
theorem dX12_feed_95 : decode cX12_feed 95 = .ok (.imul, 1) := by decide +kernel
theorem dX12_feed_96 : decode cX12_feed 96 = .ok (.ishr, 1) := by decide +kernel
theorem dX12_feed_97 : decode cX12_feed 97 = .ok (.sipush 255, 3) := by decide +kernel
theorem dX12_feed_100 : decode cX12_feed 100 = .ok (.iand, 1) := by decide +kernel
theorem dX12_feed_101 : decode cX12_feed 101 = .ok (.iastore, 1) := by decide +kernel
theorem dX12_feed_102 : decode cX12_feed 102 = .ok (.aload_n 0, 1) := by decide +kernel
theorem dX12_feed_103 : decode cX12_feed 103 = .ok (.dup, 1) := by decide +kernel
theorem dX12_feed_104 : decode cX12_feed 104 = .ok (.getfield 97, 3) := by decide +kernel
theorem dX12_feed_107 : decode cX12_feed 107 = .ok (.iconst 1, 1) := by decide +kernel
theorem dX12_feed_108 : decode cX12_feed 108 = .ok (.iadd, 1) := by decide +kernel
theorem dX12_feed_109 : decode cX12_feed 109 = .ok (.putfield 97, 3) := by decide +kernel
theorem dX12_feed_112 : decode cX12_feed 112 = .ok (.iinc 6 1, 3) := by decide +kernel
theorem dX12_feed_115 : decode cX12_feed 115 = .ok (.goto (-93), 3) := by decide +kernel
theorem dX12_feed_118 : decode cX12_feed 118 = .ok (.aload_n 0, 1) := by decide +kernel
theorem dX12_feed_119 : decode cX12_feed 119 = .ok (.getfield 97, 3) := by decide +kernel
theorem dX12_feed_122 : decode cX12_feed 122 = .ok (.ireturn, 1) := by decide +kernel
theorem dX12_end_0 : decode cX12_end 0 = .ok (.iload_n 1, 1) := by decide +kernel
theorem dX12_end_1 : decode cX12_end 1 = .ok (.ifCond .lt 11, 3) := by decide +kernel
theorem dX12_end_4 : decode cX12_end 4 = .ok (.iload_n 1, 1) := by decide +kernel
theorem dX12_end_5 : decode cX12_end 5 = .ok (.aload_n 0, 1) := by decide +kernel
theorem dX12_end_6 : decode cX12_end 6 = .ok (.getfield 97, 3) := by decide +kernel
theorem dX12_end_9 : decode cX12_end 9 = .ok (.if_icmp .le 9, 3) := by decide +kernel
theorem dX12_end_12 : decode cX12_end 12 = .ok (.aload_n 0, 1) := by decide +kernel
theorem dX12_end_13 : decode cX12_end 13 = .ok (.iconst 0, 1) := by decide +kernel
theorem dX12_end_14 : decode cX12_end 14 = .ok (.invokevirtual 104, 3) := by decide +kernel
theorem dX12_end_17 : decode cX12_end 17 = .ok (.ireturn, 1) := by decide +kernel
theorem dX12_end_18 : decode cX12_end 18 = .ok (.aload_n 0, 1) := by decide +kernel
theorem dX12_end_19 : decode cX12_end 19 = .ok (.iload_n 1, 1) := by decide +kernel
theorem dX12_end_20 : decode cX12_end 20 = .ok (.putfield 97, 3) := by decide +kernel
theorem dX12_end_23 : decode cX12_end 23 = .ok (.iconst 1, 1) := by decide +kernel
theorem dX12_end_24 : decode cX12_end 24 = .ok (.ireturn, 1) := by decide +kernel
theorem dX12_status_0 : decode cX12_status 0 = .ok (.iload_n 1, 1) := by decide +kernel
theorem dX12_status_1 : decode cX12_status 1 = .ok (.i2l, 1) := by decide +kernel
theorem dX12_status_2 : decode cX12_status 2 = .ok (.lconst 0, 1) := by decide +kernel
theorem dX12_status_3 : decode cX12_status 3 = .ok (.ldc2_w 108, 3) := by decide +kernel
theorem dX12_status_6 : decode cX12_status 6 = .ok (.invokestatic 110, 3) := by decide +kernel
theorem dX12_status_9 : decode cX12_status 9 = .ok (.ifCond .eq 12, 3) := by decide +kernel
theorem dX12_status_12 : decode cX12_status 12 = .ok (.aload_n 0, 1) := by decide +kernel
theorem dX12_status_13 : decode cX12_status 13 = .ok (.getfield 17, 3) := by decide +kernel
theorem dX12_status_16 : decode cX12_status 16 = .ok (.iload_n 1, 1) := by decide +kernel
theorem dX12_status_17 : decode cX12_status 17 = .ok (.iaload, 1) := by decide +kernel
theorem dX12_status_18 : decode cX12_status 18 = .ok (.goto 4, 3) := by decide +kernel
theorem dX12_status_21 : decode cX12_status 21 = .ok (.iconst (-1), 1) := by decide +kernel
theorem dX12_status_22 : decode cX12_status 22 = .ok (.ireturn, 1) := by decide +kernel
theorem dX12_fault_0 : decode cX12_fault 0 = .ok (.iload_n 1, 1) := by decide +kernel
theorem dX12_fault_1 : decode cX12_fault 1 = .ok (.ifCond .ne 10, 3) := by decide +kernel
theorem dX12_fault_4 : decode cX12_fault 4 = .ok (.aload_n 0, 1) := by decide +kernel
theorem dX12_fault_5 : decode cX12_fault 5 = .ok (.getfield 114, 3) := by decide +kernel
theorem dX12_fault_8 : decode cX12_fault 8 = .ok (.goto 16, 3) := by decide +kernel
theorem dX12_fault_11 : decode cX12_fault 11 = .ok (.iload_n 1, 1) := by decide +kernel
theorem dX12_fault_12 : decode cX12_fault 12 = .ok (.iconst 1, 1) := by decide +kernel
theorem dX12_fault_13 : decode cX12_fault 13 = .ok (.if_icmp .ne 10, 3) := by decide +kernel
theorem dX12_fault_16 : decode cX12_fault 16 = .ok (.aload_n 0, 1) := by decide +kernel
theorem dX12_fault_17 : decode cX12_fault 17 = .ok (.getfield 13, 3) := by decide +kernel
theorem dX12_fault_20 : decode cX12_fault 20 = .ok (.goto 4, 3) := by decide +kernel
theorem dX12_fault_23 : decode cX12_fault 23 = .ok (.iconst (-1), 1) := by decide +kernel
theorem dX12_fault_24 : decode cX12_fault 24 = .ok (.ireturn, 1) := by decide +kernel
theorem dX12_fail_0 : decode cX12_fail 0 = .ok (.aload_n 0, 1) := by decide +kernel
theorem dX12_fail_1 : decode cX12_fail 1 = .ok (.getfield 117, 3) := by decide +kernel
theorem dX12_fail_4 : decode cX12_fail 4 = .ok (.ifCond .eq 4, 3) := by decide +kernel
theorem dX12_fail_7 : decode cX12_fail 7 = .ok (.return_, 1) := by decide +kernel
theorem dX12_fail_8 : decode cX12_fail 8 = .ok (.aload_n 0, 1) := by decide +kernel
theorem dX12_fail_9 : decode cX12_fail 9 = .ok (.iload_n 1, 1) := by decide +kernel
theorem dX12_fail_10 : decode cX12_fail 10 = .ok (.putfield 117, 3) := by decide +kernel
theorem dX12_fail_13 : decode cX12_fail 13 = .ok (.aload_n 0, 1) := by decide +kernel
theorem dX12_fail_14 : decode cX12_fail 14 = .ok (.iload_n 2, 1) := by decide +kernel
theorem dX12_fail_15 : decode cX12_fail 15 = .ok (.putfield 120, 3) := by decide +kernel
theorem dX12_fail_18 : decode cX12_fail 18 = .ok (.return_, 1) := by decide +kernel
theorem dX12_isLetter_0 : decode cX12_isLetter 0 = .ok (.iload_n 0, 1) := by decide +kernel
theorem dX12_isLetter_1 : decode cX12_isLetter 1 = .ok (.bipush 97, 2) := by decide +kernel
theorem dX12_isLetter_3 : decode cX12_isLetter 3 = .ok (.if_icmp .lt 13, 3) := by decide +kernel
theorem dX12_isLetter_6 : decode cX12_isLetter 6 = .ok (.iload_n 0, 1) := by decide +kernel
theorem dX12_isLetter_7 : decode cX12_isLetter 7 = .ok (.bipush 122, 2) := by decide +kernel
theorem dX12_isLetter_9 : decode cX12_isLetter 9 = .ok (.if_icmp .gt 7, 3) := by decide +kernel
theorem dX12_isLetter_12 : decode cX12_isLetter 12 = .ok (.iconst 1, 1) := by decide +kernel
theorem dX12_isLetter_13 : decode cX12_isLetter 13 = .ok (.goto 4, 3) := by decide +kernel
theorem dX12_isLetter_16 : decode cX12_isLetter 16 = .ok (.iconst 0, 1) := by decide +kernel
theorem dX12_isLetter_17 : decode cX12_isLetter 17 = .ok (.ireturn, 1) := by decide +kernel
theorem dX12_isDigit_0 : decode cX12_isDigit 0 = .ok (.iload_n 0, 1) := by decide +kernel
theorem dX12_isDigit_1 : decode cX12_isDigit 1 = .ok (.bipush 48, 2) := by decide +kernel
theorem dX12_isDigit_3 : decode cX12_isDigit 3 = .ok (.if_icmp .lt 13, 3) := by decide +kernel
theorem dX12_isDigit_6 : decode cX12_isDigit 6 = .ok (.iload_n 0, 1) := by decide +kernel
theorem dX12_isDigit_7 : decode cX12_isDigit 7 = .ok (.bipush 57, 2) := by decide +kernel
theorem dX12_isDigit_9 : decode cX12_isDigit 9 = .ok (.if_icmp .gt 7, 3) := by decide +kernel
theorem dX12_isDigit_12 : decode cX12_isDigit 12 = .ok (.iconst 1, 1) := by decide +kernel
theorem dX12_isDigit_13 : decode cX12_isDigit 13 = .ok (.goto 4, 3) := by decide +kernel
theorem dX12_isDigit_16 : decode cX12_isDigit 16 = .ok (.iconst 0, 1) := by decide +kernel
theorem dX12_isDigit_17 : decode cX12_isDigit 17 = .ok (.ireturn, 1) := by decide +kernel
theorem dX12_look_0 : decode cX12_look 0 = .ok (.aload_n 0, 1) := by decide +kernel
theorem dX12_look_1 : decode cX12_look 1 = .ok (.getfield 123, 3) := by decide +kernel
theorem dX12_look_4 : decode cX12_look 4 = .ok (.aload_n 0, 1) := by decide +kernel
theorem dX12_look_5 : decode cX12_look 5 = .ok (.getfield 126, 3) := by decide +kernel
theorem dX12_look_8 : decode cX12_look 8 = .ok (.if_icmp .ge 44, 3) := by decide +kernel
theorem dX12_look_11 : decode cX12_look 11 = .ok (.aload_n 0, 1) := by decide +kernel
theorem dX12_look_12 : decode cX12_look 12 = .ok (.getfield 7, 3) := by decide +kernel
theorem dX12_look_15 : decode cX12_look 15 = .ok (.aload_n 0, 1) := by decide +kernel
theorem dX12_look_16 : decode cX12_look 16 = .ok (.getfield 123, 3) := by decide +kernel
theorem dX12_look_19 : decode cX12_look 19 = .ok (.iaload, 1) := by decide +kernel
theorem dX12_look_20 : decode cX12_look 20 = .ok (.bipush 10, 2) := by decide +kernel
theorem dX12_look_22 : decode cX12_look 22 = .ok (.if_icmp .eq 17, 3) := by decide +kernel
theorem dX12_look_25 : decode cX12_look 25 = .ok (.aload_n 0, 1) := by decide +kernel
theorem dX12_look_26 : decode cX12_look 26 = .ok (.getfield 7, 3) := by decide +kernel
theorem dX12_look_29 : decode cX12_look 29 = .ok (.aload_n 0, 1) := by decide +kernel
theorem dX12_look_30 : decode cX12_look 30 = .ok (.getfield 123, 3) := by decide +kernel
theorem dX12_look_33 : decode cX12_look 33 = .ok (.iaload, 1) := by decide +kernel
theorem dX12_look_34 : decode cX12_look 34 = .ok (.bipush 32, 2) := by decide +kernel
theorem dX12_look_36 : decode cX12_look 36 = .ok (.if_icmp .ne 16, 3) := by decide +kernel
theorem dX12_look_39 : decode cX12_look 39 = .ok (.aload_n 0, 1) := by decide +kernel
theorem dX12_look_40 : decode cX12_look 40 = .ok (.dup, 1) := by decide +kernel
theorem dX12_look_41 : decode cX12_look 41 = .ok (.getfield 123, 3) := by decide +kernel
theorem dX12_look_44 : decode cX12_look 44 = .ok (.iconst 1, 1) := by decide +kernel
theorem dX12_look_45 : decode cX12_look 45 = .ok (.iadd, 1) := by decide +kernel
theorem dX12_look_46 : decode cX12_look 46 = .ok (.putfield 123, 3) := by decide +kernel
theorem dX12_look_49 : decode cX12_look 49 = .ok (.goto (-49), 3) := by decide +kernel
theorem dX12_look_52 : decode cX12_look 52 = .ok (.aload_n 0, 1) := by decide +kernel
theorem dX12_look_53 : decode cX12_look 53 = .ok (.getfield 123, 3) := by decide +kernel
theorem dX12_look_56 : decode cX12_look 56 = .ok (.aload_n 0, 1) := by decide +kernel
theorem dX12_look_57 : decode cX12_look 57 = .ok (.getfield 126, 3) := by decide +kernel
theorem dX12_look_60 : decode cX12_look 60 = .ok (.if_icmp .ge 15, 3) := by decide +kernel
theorem dX12_look_63 : decode cX12_look 63 = .ok (.aload_n 0, 1) := by decide +kernel
theorem dX12_look_64 : decode cX12_look 64 = .ok (.getfield 7, 3) := by decide +kernel
theorem dX12_look_67 : decode cX12_look 67 = .ok (.aload_n 0, 1) := by decide +kernel
theorem dX12_look_68 : decode cX12_look 68 = .ok (.getfield 123, 3) := by decide +kernel
theorem dX12_look_71 : decode cX12_look 71 = .ok (.iaload, 1) := by decide +kernel
theorem dX12_look_72 : decode cX12_look 72 = .ok (.goto 4, 3) := by decide +kernel
theorem dX12_look_75 : decode cX12_look 75 = .ok (.iconst (-1), 1) := by decide +kernel
theorem dX12_look_76 : decode cX12_look 76 = .ok (.ireturn, 1) := by decide +kernel
theorem dX12_isWordHere_0 : decode cX12_isWordHere 0 = .ok (.aload_n 0, 1) := by decide +kernel
theorem dX12_isWordHere_1 : decode cX12_isWordHere 1 = .ok (.getfield 117, 3) := by decide +kernel
theorem dX12_isWordHere_4 : decode cX12_isWordHere 4 = .ok (.ifCond .ne 28, 3) := by decide +kernel
theorem dX12_isWordHere_7 : decode cX12_isWordHere 7 = .ok (.aload_n 0, 1) := by decide +kernel
theorem dX12_isWordHere_8 : decode cX12_isWordHere 8 = .ok (.invokevirtual 129, 3) := by decide +kernel
theorem dX12_isWordHere_11 : decode cX12_isWordHere 11 = .ok (.invokestatic 133, 3) := by decide +kernel
theorem dX12_isWordHere_14 : decode cX12_isWordHere 14 = .ok (.ifCond .eq 18, 3) := by decide +kernel
theorem dX12_isWordHere_17 : decode cX12_isWordHere 17 = .ok (.aload_n 0, 1) := by decide +kernel
theorem dX12_isWordHere_18 : decode cX12_isWordHere 18 = .ok (.getfield 123, 3) := by decide +kernel
theorem dX12_isWordHere_21 : decode cX12_isWordHere 21 = .ok (.aload_n 0, 1) := by decide +kernel
theorem dX12_isWordHere_22 : decode cX12_isWordHere 22 = .ok (.getfield 136, 3) := by decide +kernel
theorem dX12_isWordHere_25 : decode cX12_isWordHere 25 = .ok (.if_icmp .eq 7, 3) := by decide +kernel
theorem dX12_isWordHere_28 : decode cX12_isWordHere 28 = .ok (.iconst 1, 1) := by decide +kernel
theorem dX12_isWordHere_29 : decode cX12_isWordHere 29 = .ok (.goto 4, 3) := by decide +kernel
theorem dX12_isWordHere_32 : decode cX12_isWordHere 32 = .ok (.iconst 0, 1) := by decide +kernel
theorem dX12_isWordHere_33 : decode cX12_isWordHere 33 = .ok (.ireturn, 1) := by decide +kernel
theorem dX12_takesSign_0 : decode cX12_takesSign 0 = .ok (.aload_n 0, 1) := by decide +kernel
theorem dX12_takesSign_1 : decode cX12_takesSign 1 = .ok (.getfield 117, 3) := by decide +kernel
theorem dX12_takesSign_4 : decode cX12_takesSign 4 = .ok (.ifCond .ne 11, 3) := by decide +kernel
theorem dX12_takesSign_7 : decode cX12_takesSign 7 = .ok (.aload_n 0, 1) := by decide +kernel
theorem dX12_takesSign_8 : decode cX12_takesSign 8 = .ok (.invokevirtual 129, 3) := by decide +kernel
theorem dX12_takesSign_11 : decode cX12_takesSign 11 = .ok (.iload_n 1, 1) := by decide +kernel
theorem dX12_takesSign_12 : decode cX12_takesSign 12 = .ok (.if_icmp .eq 5, 3) := by decide +kernel
theorem dX12_takesSign_15 : decode cX12_takesSign 15 = .ok (.iconst 0, 1) := by decide +kernel
theorem dX12_takesSign_16 : decode cX12_takesSign 16 = .ok (.ireturn, 1) := by decide +kernel
theorem dX12_takesSign_17 : decode cX12_takesSign 17 = .ok (.aload_n 0, 1) := by decide +kernel
theorem dX12_takesSign_18 : decode cX12_takesSign 18 = .ok (.dup, 1) := by decide +kernel
theorem dX12_takesSign_19 : decode cX12_takesSign 19 = .ok (.getfield 123, 3) := by decide +kernel
theorem dX12_takesSign_22 : decode cX12_takesSign 22 = .ok (.iconst 1, 1) := by decide +kernel
theorem dX12_takesSign_23 : decode cX12_takesSign 23 = .ok (.iadd, 1) := by decide +kernel
theorem dX12_takesSign_24 : decode cX12_takesSign 24 = .ok (.putfield 123, 3) := by decide +kernel
theorem dX12_takesSign_27 : decode cX12_takesSign 27 = .ok (.iconst 1, 1) := by decide +kernel
theorem dX12_takesSign_28 : decode cX12_takesSign 28 = .ok (.ireturn, 1) := by decide +kernel
theorem dX12_asksSign_0 : decode cX12_asksSign 0 = .ok (.aload_n 0, 1) := by decide +kernel
theorem dX12_asksSign_1 : decode cX12_asksSign 1 = .ok (.getfield 117, 3) := by decide +kernel
theorem dX12_asksSign_4 : decode cX12_asksSign 4 = .ok (.ifCond .ne 20, 3) := by decide +kernel
theorem dX12_asksSign_7 : decode cX12_asksSign 7 = .ok (.aload_n 0, 1) := by decide +kernel
theorem dX12_asksSign_8 : decode cX12_asksSign 8 = .ok (.iload_n 1, 1) := by decide +kernel
theorem dX12_asksSign_9 : decode cX12_asksSign 9 = .ok (.invokevirtual 139, 3) := by decide +kernel
theorem dX12_asksSign_12 : decode cX12_asksSign 12 = .ok (.ifCond .ne 12, 3) := by decide +kernel
theorem dX12_asksSign_15 : decode cX12_asksSign 15 = .ok (.aload_n 0, 1) := by decide +kernel
theorem dX12_asksSign_16 : decode cX12_asksSign 16 = .ok (.iconst 1, 1) := by decide +kernel
theorem dX12_asksSign_17 : decode cX12_asksSign 17 = .ok (.aload_n 0, 1) := by decide +kernel
theorem dX12_asksSign_18 : decode cX12_asksSign 18 = .ok (.getfield 123, 3) := by decide +kernel
theorem dX12_asksSign_21 : decode cX12_asksSign 21 = .ok (.invokevirtual 142, 3) := by decide +kernel
theorem dX12_asksSign_24 : decode cX12_asksSign 24 = .ok (.return_, 1) := by decide +kernel
theorem dX12_number_0 : decode cX12_number 0 = .ok (.aload_n 0, 1) := by decide +kernel
theorem dX12_number_1 : decode cX12_number 1 = .ok (.getfield 117, 3) := by decide +kernel
theorem dX12_number_4 : decode cX12_number 4 = .ok (.ifCond .eq 5, 3) := by decide +kernel
theorem dX12_number_7 : decode cX12_number 7 = .ok (.iload_n 1, 1) := by decide +kernel
theorem dX12_number_8 : decode cX12_number 8 = .ok (.ireturn, 1) := by decide +kernel
theorem dX12_number_9 : decode cX12_number 9 = .ok (.aload_n 0, 1) := by decide +kernel
theorem dX12_number_10 : decode cX12_number 10 = .ok (.invokevirtual 129, 3) := by decide +kernel
theorem dX12_number_13 : decode cX12_number 13 = .ok (.invokestatic 146, 3) := by decide +kernel
theorem dX12_number_16 : decode cX12_number 16 = .ok (.ifCond .eq 14, 3) := by decide +kernel
theorem dX12_number_19 : decode cX12_number 19 = .ok (.aload_n 0, 1) := by decide +kernel
theorem dX12_number_20 : decode cX12_number 20 = .ok (.getfield 123, 3) := by decide +kernel
theorem dX12_number_23 : decode cX12_number 23 = .ok (.aload_n 0, 1) := by decide +kernel
theorem dX12_number_24 : decode cX12_number 24 = .ok (.getfield 136, 3) := by decide +kernel
theorem dX12_number_27 : decode cX12_number 27 = .ok (.if_icmp .ne 14, 3) := by decide +kernel
theorem dX12_number_30 : decode cX12_number 30 = .ok (.aload_n 0, 1) := by decide +kernel
theorem dX12_number_31 : decode cX12_number 31 = .ok (.iconst 1, 1) := by decide +kernel
theorem dX12_number_32 : decode cX12_number 32 = .ok (.aload_n 0, 1) := by decide +kernel
theorem dX12_number_33 : decode cX12_number 33 = .ok (.getfield 123, 3) := by decide +kernel
theorem dX12_number_36 : decode cX12_number 36 = .ok (.invokevirtual 142, 3) := by decide +kernel
theorem dX12_number_39 : decode cX12_number 39 = .ok (.iload_n 1, 1) := by decide +kernel
theorem dX12_number_40 : decode cX12_number 40 = .ok (.ireturn, 1) := by decide +kernel
theorem dX12_number_41 : decode cX12_number 41 = .ok (.aload_n 0, 1) := by decide +kernel
theorem dX12_number_42 : decode cX12_number 42 = .ok (.aload_n 0, 1) := by decide +kernel
theorem dX12_number_43 : decode cX12_number 43 = .ok (.getfield 123, 3) := by decide +kernel
theorem dX12_number_46 : decode cX12_number 46 = .ok (.putfield 149, 3) := by decide +kernel
theorem dX12_number_49 : decode cX12_number 49 = .ok (.iconst 0, 1) := by decide +kernel
theorem dX12_number_50 : decode cX12_number 50 = .ok (.istore_n 3, 1) := by decide +kernel
theorem dX12_number_51 : decode cX12_number 51 = .ok (.aload_n 0, 1) := by decide +kernel
theorem dX12_number_52 : decode cX12_number 52 = .ok (.getfield 123, 3) := by decide +kernel
theorem dX12_number_55 : decode cX12_number 55 = .ok (.aload_n 0, 1) := by decide +kernel
theorem dX12_number_56 : decode cX12_number 56 = .ok (.getfield 126, 3) := by decide +kernel
theorem dX12_number_59 : decode cX12_number 59 = .ok (.if_icmp .ge 73, 3) := by decide +kernel
theorem dX12_number_62 : decode cX12_number 62 = .ok (.aload_n 0, 1) := by decide +kernel
theorem dX12_number_63 : decode cX12_number 63 = .ok (.getfield 7, 3) := by decide +kernel
theorem dX12_number_66 : decode cX12_number 66 = .ok (.aload_n 0, 1) := by decide +kernel
theorem dX12_number_67 : decode cX12_number 67 = .ok (.getfield 123, 3) := by decide +kernel
theorem dX12_number_70 : decode cX12_number 70 = .ok (.iaload, 1) := by decide +kernel
theorem dX12_number_71 : decode cX12_number 71 = .ok (.invokestatic 146, 3) := by decide +kernel
theorem dX12_number_74 : decode cX12_number 74 = .ok (.ifCond .eq 58, 3) := by decide +kernel
theorem dX12_number_77 : decode cX12_number 77 = .ok (.aload_n 0, 1) := by decide +kernel
theorem dX12_number_78 : decode cX12_number 78 = .ok (.getfield 123, 3) := by decide +kernel
theorem dX12_number_81 : decode cX12_number 81 = .ok (.aload_n 0, 1) := by decide +kernel
theorem dX12_number_82 : decode cX12_number 82 = .ok (.getfield 149, 3) := by decide +kernel
theorem dX12_number_85 : decode cX12_number 85 = .ok (.isub, 1) := by decide +kernel
theorem dX12_number_86 : decode cX12_number 86 = .ok (.iconst 4, 1) := by decide +kernel
theorem dX12_number_87 : decode cX12_number 87 = .ok (.if_icmp .ne 14, 3) := by decide +kernel
theorem dX12_number_90 : decode cX12_number 90 = .ok (.aload_n 0, 1) := by decide +kernel
theorem dX12_number_91 : decode cX12_number 91 = .ok (.iconst 1, 1) := by decide +kernel
theorem dX12_number_92 : decode cX12_number 92 = .ok (.aload_n 0, 1) := by decide +kernel
theorem dX12_number_93 : decode cX12_number 93 = .ok (.getfield 123, 3) := by decide +kernel
theorem dX12_number_96 : decode cX12_number 96 = .ok (.invokevirtual 142, 3) := by decide +kernel
theorem dX12_number_99 : decode cX12_number 99 = .ok (.iload_n 1, 1) := by decide +kernel
theorem dX12_number_100 : decode cX12_number 100 = .ok (.ireturn, 1) := by decide +kernel
theorem dX12_number_101 : decode cX12_number 101 = .ok (.bipush 10, 2) := by decide +kernel
theorem dX12_number_103 : decode cX12_number 103 = .ok (.iload_n 3, 1) := by decide +kernel
theorem dX12_number_104 : decode cX12_number 104 = .ok (.imul, 1) := by decide +kernel
theorem dX12_number_105 : decode cX12_number 105 = .ok (.aload_n 0, 1) := by decide +kernel
theorem dX12_number_106 : decode cX12_number 106 = .ok (.getfield 7, 3) := by decide +kernel
theorem dX12_number_109 : decode cX12_number 109 = .ok (.aload_n 0, 1) := by decide +kernel
theorem dX12_number_110 : decode cX12_number 110 = .ok (.getfield 123, 3) := by decide +kernel
theorem dX12_number_113 : decode cX12_number 113 = .ok (.iaload, 1) := by decide +kernel
theorem dX12_number_114 : decode cX12_number 114 = .ok (.iadd, 1) := by decide +kernel
theorem dX12_number_115 : decode cX12_number 115 = .ok (.bipush 48, 2) := by decide +kernel
theorem dX12_number_117 : decode cX12_number 117 = .ok (.isub, 1) := by decide +kernel
theorem dX12_number_118 : decode cX12_number 118 = .ok (.istore_n 3, 1) := by decide +kernel
theorem dX12_number_119 : decode cX12_number 119 = .ok (.aload_n 0, 1) := by decide +kernel
theorem dX12_number_120 : decode cX12_number 120 = .ok (.dup, 1) := by decide +kernel
theorem dX12_number_121 : decode cX12_number 121 = .ok (.getfield 123, 3) := by decide +kernel
theorem dX12_number_124 : decode cX12_number 124 = .ok (.iconst 1, 1) := by decide +kernel
theorem dX12_number_125 : decode cX12_number 125 = .ok (.iadd, 1) := by decide +kernel
theorem dX12_number_126 : decode cX12_number 126 = .ok (.putfield 123, 3) := by decide +kernel
theorem dX12_number_129 : decode cX12_number 129 = .ok (.goto (-78), 3) := by decide +kernel
theorem dX12_number_132 : decode cX12_number 132 = .ok (.aload_n 0, 1) := by decide +kernel
theorem dX12_number_133 : decode cX12_number 133 = .ok (.aload_n 0, 1) := by decide +kernel
theorem dX12_number_134 : decode cX12_number 134 = .ok (.getfield 123, 3) := by decide +kernel
theorem dX12_number_137 : decode cX12_number 137 = .ok (.putfield 136, 3) := by decide +kernel
theorem dX12_number_140 : decode cX12_number 140 = .ok (.iload_n 3, 1) := by decide +kernel
theorem dX12_number_141 : decode cX12_number 141 = .ok (.i2l, 1) := by decide +kernel
theorem dX12_number_142 : decode cX12_number 142 = .ok (.iload_n 1, 1) := by decide +kernel
theorem dX12_number_143 : decode cX12_number 143 = .ok (.i2l, 1) := by decide +kernel
theorem dX12_number_144 : decode cX12_number 144 = .ok (.iload_n 2, 1) := by decide +kernel
theorem dX12_number_145 : decode cX12_number 145 = .ok (.i2l, 1) := by decide +kernel
theorem dX12_number_146 : decode cX12_number 146 = .ok (.invokestatic 110, 3) := by decide +kernel
theorem dX12_number_149 : decode cX12_number 149 = .ok (.ifCond .ne 12, 3) := by decide +kernel
theorem dX12_number_152 : decode cX12_number 152 = .ok (.aload_n 0, 1) := by decide +kernel
theorem dX12_number_153 : decode cX12_number 153 = .ok (.iconst 2, 1) := by decide +kernel
theorem dX12_number_154 : decode cX12_number 154 = .ok (.aload_n 0, 1) := by decide +kernel
theorem dX12_number_155 : decode cX12_number 155 = .ok (.getfield 149, 3) := by decide +kernel
theorem dX12_number_158 : decode cX12_number 158 = .ok (.invokevirtual 142, 3) := by decide +kernel
theorem dX12_number_161 : decode cX12_number 161 = .ok (.aload_n 0, 1) := by decide +kernel
theorem dX12_number_162 : decode cX12_number 162 = .ok (.getfield 117, 3) := by decide +kernel
theorem dX12_number_165 : decode cX12_number 165 = .ok (.ifCond .ne 7, 3) := by decide +kernel
theorem dX12_number_168 : decode cX12_number 168 = .ok (.iload_n 3, 1) := by decide +kernel
theorem dX12_number_169 : decode cX12_number 169 = .ok (.goto 4, 3) := by decide +kernel
theorem dX12_number_172 : decode cX12_number 172 = .ok (.iload_n 1, 1) := by decide +kernel
theorem dX12_number_173 : decode cX12_number 173 = .ok (.ireturn, 1) := by decide +kernel
theorem dX12_ownHere_0 : decode cX12_ownHere 0 = .ok (.aload_n 0, 1) := by decide +kernel
theorem dX12_ownHere_1 : decode cX12_ownHere 1 = .ok (.invokevirtual 152, 3) := by decide +kernel
theorem dX12_ownHere_4 : decode cX12_ownHere 4 = .ok (.ifCond .ne 5, 3) := by decide +kernel
theorem dX12_ownHere_7 : decode cX12_ownHere 7 = .ok (.iconst (-1), 1) := by decide +kernel
theorem dX12_ownHere_8 : decode cX12_ownHere 8 = .ok (.ireturn, 1) := by decide +kernel
theorem dX12_ownHere_9 : decode cX12_ownHere 9 = .ok (.iconst 0, 1) := by decide +kernel
theorem dX12_ownHere_10 : decode cX12_ownHere 10 = .ok (.istore_n 1, 1) := by decide +kernel
theorem dX12_ownHere_11 : decode cX12_ownHere 11 = .ok (.aload_n 0, 1) := by decide +kernel
theorem dX12_ownHere_12 : decode cX12_ownHere 12 = .ok (.getfield 123, 3) := by decide +kernel
theorem dX12_ownHere_15 : decode cX12_ownHere 15 = .ok (.iload_n 1, 1) := by decide +kernel
theorem dX12_ownHere_16 : decode cX12_ownHere 16 = .ok (.iadd, 1) := by decide +kernel
theorem dX12_ownHere_17 : decode cX12_ownHere 17 = .ok (.aload_n 0, 1) := by decide +kernel
theorem dX12_ownHere_18 : decode cX12_ownHere 18 = .ok (.getfield 126, 3) := by decide +kernel
theorem dX12_ownHere_21 : decode cX12_ownHere 21 = .ok (.if_icmp .ge 26, 3) := by decide +kernel
theorem dX12_ownHere_24 : decode cX12_ownHere 24 = .ok (.aload_n 0, 1) := by decide +kernel
theorem dX12_ownHere_25 : decode cX12_ownHere 25 = .ok (.getfield 7, 3) := by decide +kernel
theorem dX12_ownHere_28 : decode cX12_ownHere 28 = .ok (.aload_n 0, 1) := by decide +kernel
theorem dX12_ownHere_29 : decode cX12_ownHere 29 = .ok (.getfield 123, 3) := by decide +kernel
theorem dX12_ownHere_32 : decode cX12_ownHere 32 = .ok (.iload_n 1, 1) := by decide +kernel
theorem dX12_ownHere_33 : decode cX12_ownHere 33 = .ok (.iadd, 1) := by decide +kernel
theorem dX12_ownHere_34 : decode cX12_ownHere 34 = .ok (.iaload, 1) := by decide +kernel
theorem dX12_ownHere_35 : decode cX12_ownHere 35 = .ok (.invokestatic 133, 3) := by decide +kernel
theorem dX12_ownHere_38 : decode cX12_ownHere 38 = .ok (.ifCond .eq 9, 3) := by decide +kernel
theorem dX12_ownHere_41 : decode cX12_ownHere 41 = .ok (.iinc 1 1, 3) := by decide +kernel
theorem dX12_ownHere_44 : decode cX12_ownHere 44 = .ok (.goto (-33), 3) := by decide +kernel
theorem dX12_ownHere_47 : decode cX12_ownHere 47 = .ok (.iconst 0, 1) := by decide +kernel
theorem dX12_ownHere_48 : decode cX12_ownHere 48 = .ok (.istore_n 2, 1) := by decide +kernel
theorem dX12_ownHere_49 : decode cX12_ownHere 49 = .ok (.iconst 0, 1) := by decide +kernel
theorem dX12_ownHere_50 : decode cX12_ownHere 50 = .ok (.istore_n 3, 1) := by decide +kernel
theorem dX12_ownHere_51 : decode cX12_ownHere 51 = .ok (.iconst 0, 1) := by decide +kernel
theorem dX12_ownHere_52 : decode cX12_ownHere 52 = .ok (.istore 4, 2) := by decide +kernel
theorem dX12_ownHere_54 : decode cX12_ownHere 54 = .ok (.iload 4, 2) := by decide +kernel
theorem dX12_ownHere_56 : decode cX12_ownHere 56 = .ok (.aload_n 0, 1) := by decide +kernel
theorem dX12_ownHere_57 : decode cX12_ownHere 57 = .ok (.getfield 20, 3) := by decide +kernel
theorem dX12_ownHere_60 : decode cX12_ownHere 60 = .ok (.arraylength, 1) := by decide +kernel
theorem dX12_ownHere_61 : decode cX12_ownHere 61 = .ok (.if_icmp .ge 48, 3) := by decide +kernel
theorem dX12_ownHere_64 : decode cX12_ownHere 64 = .ok (.aload_n 0, 1) := by decide +kernel
theorem dX12_ownHere_65 : decode cX12_ownHere 65 = .ok (.getfield 20, 3) := by decide +kernel
theorem dX12_ownHere_68 : decode cX12_ownHere 68 = .ok (.iload 4, 2) := by decide +kernel
theorem dX12_ownHere_70 : decode cX12_ownHere 70 = .ok (.caload, 1) := by decide +kernel
theorem dX12_ownHere_71 : decode cX12_ownHere 71 = .ok (.bipush 32, 2) := by decide +kernel
theorem dX12_ownHere_73 : decode cX12_ownHere 73 = .ok (.if_icmp .ne 30, 3) := by decide +kernel
theorem dX12_ownHere_76 : decode cX12_ownHere 76 = .ok (.iload 4, 2) := by decide +kernel
theorem dX12_ownHere_78 : decode cX12_ownHere 78 = .ok (.iload_n 3, 1) := by decide +kernel
theorem dX12_ownHere_79 : decode cX12_ownHere 79 = .ok (.isub, 1) := by decide +kernel
theorem dX12_ownHere_80 : decode cX12_ownHere 80 = .ok (.iload_n 1, 1) := by decide +kernel
theorem dX12_ownHere_81 : decode cX12_ownHere 81 = .ok (.if_icmp .ne 14, 3) := by decide +kernel
theorem dX12_ownHere_84 : decode cX12_ownHere 84 = .ok (.aload_n 0, 1) := by decide +kernel
theorem dX12_ownHere_85 : decode cX12_ownHere 85 = .ok (.iload_n 3, 1) := by decide +kernel
theorem dX12_ownHere_86 : decode cX12_ownHere 86 = .ok (.iload_n 1, 1) := by decide +kernel
theorem dX12_ownHere_87 : decode cX12_ownHere 87 = .ok (.invokevirtual 156, 3) := by decide +kernel
theorem dX12_ownHere_90 : decode cX12_ownHere 90 = .ok (.ifCond .eq 5, 3) := by decide +kernel
theorem dX12_ownHere_93 : decode cX12_ownHere 93 = .ok (.iload_n 2, 1) := by decide +kernel
theorem dX12_ownHere_94 : decode cX12_ownHere 94 = .ok (.ireturn, 1) := by decide +kernel
theorem dX12_ownHere_95 : decode cX12_ownHere 95 = .ok (.iinc 2 1, 3) := by decide +kernel
theorem dX12_ownHere_98 : decode cX12_ownHere 98 = .ok (.iload 4, 2) := by decide +kernel
theorem dX12_ownHere_100 : decode cX12_ownHere 100 = .ok (.iconst 1, 1) := by decide +kernel
theorem dX12_ownHere_101 : decode cX12_ownHere 101 = .ok (.iadd, 1) := by decide +kernel
theorem dX12_ownHere_102 : decode cX12_ownHere 102 = .ok (.istore_n 3, 1) := by decide +kernel
theorem dX12_ownHere_103 : decode cX12_ownHere 103 = .ok (.iinc 4 1, 3) := by decide +kernel
theorem dX12_ownHere_106 : decode cX12_ownHere 106 = .ok (.goto (-52), 3) := by decide +kernel
theorem dX12_ownHere_109 : decode cX12_ownHere 109 = .ok (.iconst (-1), 1) := by decide +kernel
theorem dX12_ownHere_110 : decode cX12_ownHere 110 = .ok (.ireturn, 1) := by decide +kernel
theorem dX12_isLike_0 : decode cX12_isLike 0 = .ok (.iconst 0, 1) := by decide +kernel
theorem dX12_isLike_1 : decode cX12_isLike 1 = .ok (.istore_n 3, 1) := by decide +kernel
theorem dX12_isLike_2 : decode cX12_isLike 2 = .ok (.iload_n 3, 1) := by decide +kernel
theorem dX12_isLike_3 : decode cX12_isLike 3 = .ok (.iload_n 2, 1) := by decide +kernel
theorem dX12_isLike_4 : decode cX12_isLike 4 = .ok (.if_icmp .ge 33, 3) := by decide +kernel
theorem dX12_isLike_7 : decode cX12_isLike 7 = .ok (.aload_n 0, 1) := by decide +kernel
theorem dX12_isLike_8 : decode cX12_isLike 8 = .ok (.getfield 20, 3) := by decide +kernel
theorem dX12_isLike_11 : decode cX12_isLike 11 = .ok (.iload_n 1, 1) := by decide +kernel
theorem dX12_isLike_12 : decode cX12_isLike 12 = .ok (.iload_n 3, 1) := by decide +kernel
theorem dX12_isLike_13 : decode cX12_isLike 13 = .ok (.iadd, 1) := by decide +kernel
theorem dX12_isLike_14 : decode cX12_isLike 14 = .ok (.caload, 1) := by decide +kernel
theorem dX12_isLike_15 : decode cX12_isLike 15 = .ok (.aload_n 0, 1) := by decide +kernel
theorem dX12_isLike_16 : decode cX12_isLike 16 = .ok (.getfield 7, 3) := by decide +kernel
theorem dX12_isLike_19 : decode cX12_isLike 19 = .ok (.aload_n 0, 1) := by decide +kernel
theorem dX12_isLike_20 : decode cX12_isLike 20 = .ok (.getfield 123, 3) := by decide +kernel
theorem dX12_isLike_23 : decode cX12_isLike 23 = .ok (.iload_n 3, 1) := by decide +kernel
theorem dX12_isLike_24 : decode cX12_isLike 24 = .ok (.iadd, 1) := by decide +kernel
theorem dX12_isLike_25 : decode cX12_isLike 25 = .ok (.iaload, 1) := by decide +kernel
theorem dX12_isLike_26 : decode cX12_isLike 26 = .ok (.if_icmp .eq 5, 3) := by decide +kernel
theorem dX12_isLike_29 : decode cX12_isLike 29 = .ok (.iconst 0, 1) := by decide +kernel
theorem dX12_isLike_30 : decode cX12_isLike 30 = .ok (.ireturn, 1) := by decide +kernel
theorem dX12_isLike_31 : decode cX12_isLike 31 = .ok (.iinc 3 1, 3) := by decide +kernel
theorem dX12_isLike_34 : decode cX12_isLike 34 = .ok (.goto (-32), 3) := by decide +kernel
theorem dX12_isLike_37 : decode cX12_isLike 37 = .ok (.iconst 1, 1) := by decide +kernel
theorem dX12_isLike_38 : decode cX12_isLike 38 = .ok (.ireturn, 1) := by decide +kernel
theorem dX12_passes_0 : decode cX12_passes 0 = .ok (.aload_n 0, 1) := by decide +kernel
theorem dX12_passes_1 : decode cX12_passes 1 = .ok (.getfield 123, 3) := by decide +kernel
theorem dX12_passes_4 : decode cX12_passes 4 = .ok (.aload_n 0, 1) := by decide +kernel
theorem dX12_passes_5 : decode cX12_passes 5 = .ok (.getfield 126, 3) := by decide +kernel
theorem dX12_passes_8 : decode cX12_passes 8 = .ok (.if_icmp .ge 31, 3) := by decide +kernel
theorem dX12_passes_11 : decode cX12_passes 11 = .ok (.aload_n 0, 1) := by decide +kernel
theorem dX12_passes_12 : decode cX12_passes 12 = .ok (.getfield 7, 3) := by decide +kernel
theorem dX12_passes_15 : decode cX12_passes 15 = .ok (.aload_n 0, 1) := by decide +kernel
theorem dX12_passes_16 : decode cX12_passes 16 = .ok (.getfield 123, 3) := by decide +kernel
theorem dX12_passes_19 : decode cX12_passes 19 = .ok (.iaload, 1) := by decide +kernel
theorem dX12_passes_20 : decode cX12_passes 20 = .ok (.invokestatic 133, 3) := by decide +kernel
theorem dX12_passes_23 : decode cX12_passes 23 = .ok (.ifCond .eq 16, 3) := by decide +kernel
theorem dX12_passes_26 : decode cX12_passes 26 = .ok (.aload_n 0, 1) := by decide +kernel
theorem dX12_passes_27 : decode cX12_passes 27 = .ok (.dup, 1) := by decide +kernel
theorem dX12_passes_28 : decode cX12_passes 28 = .ok (.getfield 123, 3) := by decide +kernel
theorem dX12_passes_31 : decode cX12_passes 31 = .ok (.iconst 1, 1) := by decide +kernel
theorem dX12_passes_32 : decode cX12_passes 32 = .ok (.iadd, 1) := by decide +kernel
theorem dX12_passes_33 : decode cX12_passes 33 = .ok (.putfield 123, 3) := by decide +kernel
theorem dX12_passes_36 : decode cX12_passes 36 = .ok (.goto (-36), 3) := by decide +kernel
theorem dX12_passes_39 : decode cX12_passes 39 = .ok (.aload_n 0, 1) := by decide +kernel
theorem dX12_passes_40 : decode cX12_passes 40 = .ok (.aload_n 0, 1) := by decide +kernel
theorem dX12_passes_41 : decode cX12_passes 41 = .ok (.getfield 123, 3) := by decide +kernel
theorem dX12_passes_44 : decode cX12_passes 44 = .ok (.putfield 136, 3) := by decide +kernel
theorem dX12_passes_47 : decode cX12_passes 47 = .ok (.return_, 1) := by decide +kernel
theorem dX12_takes_0 : decode cX12_takes 0 = .ok (.aload_n 0, 1) := by decide +kernel
theorem dX12_takes_1 : decode cX12_takes 1 = .ok (.invokevirtual 160, 3) := by decide +kernel
theorem dX12_takes_4 : decode cX12_takes 4 = .ok (.iload_n 1, 1) := by decide +kernel
theorem dX12_takes_5 : decode cX12_takes 5 = .ok (.if_icmp .eq 5, 3) := by decide +kernel
theorem dX12_takes_8 : decode cX12_takes 8 = .ok (.iconst 0, 1) := by decide +kernel
theorem dX12_takes_9 : decode cX12_takes 9 = .ok (.ireturn, 1) := by decide +kernel
theorem dX12_takes_10 : decode cX12_takes 10 = .ok (.aload_n 0, 1) := by decide +kernel
theorem dX12_takes_11 : decode cX12_takes 11 = .ok (.invokevirtual 163, 3) := by decide +kernel
theorem dX12_takes_14 : decode cX12_takes 14 = .ok (.iconst 1, 1) := by decide +kernel
theorem dX12_takes_15 : decode cX12_takes 15 = .ok (.ireturn, 1) := by decide +kernel
theorem dX12_asks_0 : decode cX12_asks 0 = .ok (.aload_n 0, 1) := by decide +kernel
theorem dX12_asks_1 : decode cX12_asks 1 = .ok (.getfield 117, 3) := by decide +kernel
theorem dX12_asks_4 : decode cX12_asks 4 = .ok (.ifCond .ne 20, 3) := by decide +kernel
theorem dX12_asks_7 : decode cX12_asks 7 = .ok (.aload_n 0, 1) := by decide +kernel
theorem dX12_asks_8 : decode cX12_asks 8 = .ok (.iload_n 1, 1) := by decide +kernel
theorem dX12_asks_9 : decode cX12_asks 9 = .ok (.invokevirtual 166, 3) := by decide +kernel
theorem dX12_asks_12 : decode cX12_asks 12 = .ok (.ifCond .ne 12, 3) := by decide +kernel
theorem dX12_asks_15 : decode cX12_asks 15 = .ok (.aload_n 0, 1) := by decide +kernel
theorem dX12_asks_16 : decode cX12_asks 16 = .ok (.iconst 1, 1) := by decide +kernel
theorem dX12_asks_17 : decode cX12_asks 17 = .ok (.aload_n 0, 1) := by decide +kernel
theorem dX12_asks_18 : decode cX12_asks 18 = .ok (.getfield 123, 3) := by decide +kernel
theorem dX12_asks_21 : decode cX12_asks 21 = .ok (.invokevirtual 142, 3) := by decide +kernel
theorem dX12_asks_24 : decode cX12_asks 24 = .ok (.return_, 1) := by decide +kernel
theorem dX12_name_0 : decode cX12_name 0 = .ok (.aload_n 0, 1) := by decide +kernel
theorem dX12_name_1 : decode cX12_name 1 = .ok (.getfield 117, 3) := by decide +kernel
theorem dX12_name_4 : decode cX12_name 4 = .ok (.ifCond .eq 5, 3) := by decide +kernel
theorem dX12_name_7 : decode cX12_name 7 = .ok (.iconst 0, 1) := by decide +kernel
theorem dX12_name_8 : decode cX12_name 8 = .ok (.ireturn, 1) := by decide +kernel
theorem dX12_name_9 : decode cX12_name 9 = .ok (.aload_n 0, 1) := by decide +kernel
theorem dX12_name_10 : decode cX12_name 10 = .ok (.invokevirtual 152, 3) := by decide +kernel
theorem dX12_name_13 : decode cX12_name 13 = .ok (.ifCond .eq 11, 3) := by decide +kernel
theorem dX12_name_16 : decode cX12_name 16 = .ok (.aload_n 0, 1) := by decide +kernel
theorem dX12_name_17 : decode cX12_name 17 = .ok (.invokevirtual 160, 3) := by decide +kernel
theorem dX12_name_20 : decode cX12_name 20 = .ok (.iconst (-1), 1) := by decide +kernel
theorem dX12_name_21 : decode cX12_name 21 = .ok (.if_icmp .eq 29, 3) := by decide +kernel
theorem dX12_name_24 : decode cX12_name 24 = .ok (.aload_n 0, 1) := by decide +kernel
theorem dX12_name_25 : decode cX12_name 25 = .ok (.iconst 1, 1) := by decide +kernel
theorem dX12_name_26 : decode cX12_name 26 = .ok (.aload_n 0, 1) := by decide +kernel
theorem dX12_name_27 : decode cX12_name 27 = .ok (.invokevirtual 129, 3) := by decide +kernel
theorem dX12_name_30 : decode cX12_name 30 = .ok (.iconst (-1), 1) := by decide +kernel
theorem dX12_name_31 : decode cX12_name 31 = .ok (.if_icmp .ne 10, 3) := by decide +kernel
theorem dX12_name_34 : decode cX12_name 34 = .ok (.aload_n 0, 1) := by decide +kernel
theorem dX12_name_35 : decode cX12_name 35 = .ok (.getfield 126, 3) := by decide +kernel
theorem dX12_name_38 : decode cX12_name 38 = .ok (.goto 7, 3) := by decide +kernel
theorem dX12_name_41 : decode cX12_name 41 = .ok (.aload_n 0, 1) := by decide +kernel
theorem dX12_name_42 : decode cX12_name 42 = .ok (.getfield 123, 3) := by decide +kernel
theorem dX12_name_45 : decode cX12_name 45 = .ok (.invokevirtual 142, 3) := by decide +kernel
theorem dX12_name_48 : decode cX12_name 48 = .ok (.iconst 0, 1) := by decide +kernel
theorem dX12_name_49 : decode cX12_name 49 = .ok (.ireturn, 1) := by decide +kernel
theorem dX12_name_50 : decode cX12_name 50 = .ok (.aload_n 0, 1) := by decide +kernel
theorem dX12_name_51 : decode cX12_name 51 = .ok (.aload_n 0, 1) := by decide +kernel
theorem dX12_name_52 : decode cX12_name 52 = .ok (.getfield 123, 3) := by decide +kernel
theorem dX12_name_55 : decode cX12_name 55 = .ok (.putfield 169, 3) := by decide +kernel
theorem dX12_name_58 : decode cX12_name 58 = .ok (.iconst 0, 1) := by decide +kernel
theorem dX12_name_59 : decode cX12_name 59 = .ok (.istore_n 1, 1) := by decide +kernel
theorem dX12_name_60 : decode cX12_name 60 = .ok (.aload_n 0, 1) := by decide +kernel
theorem dX12_name_61 : decode cX12_name 61 = .ok (.getfield 123, 3) := by decide +kernel
theorem dX12_name_64 : decode cX12_name 64 = .ok (.aload_n 0, 1) := by decide +kernel
theorem dX12_name_65 : decode cX12_name 65 = .ok (.getfield 126, 3) := by decide +kernel
theorem dX12_name_68 : decode cX12_name 68 = .ok (.if_icmp .ge 76, 3) := by decide +kernel
theorem dX12_name_71 : decode cX12_name 71 = .ok (.aload_n 0, 1) := by decide +kernel
theorem dX12_name_72 : decode cX12_name 72 = .ok (.getfield 7, 3) := by decide +kernel
theorem dX12_name_75 : decode cX12_name 75 = .ok (.aload_n 0, 1) := by decide +kernel
theorem dX12_name_76 : decode cX12_name 76 = .ok (.getfield 123, 3) := by decide +kernel
theorem dX12_name_79 : decode cX12_name 79 = .ok (.iaload, 1) := by decide +kernel
theorem dX12_name_80 : decode cX12_name 80 = .ok (.invokestatic 133, 3) := by decide +kernel
theorem dX12_name_83 : decode cX12_name 83 = .ok (.ifCond .eq 61, 3) := by decide +kernel
theorem dX12_name_86 : decode cX12_name 86 = .ok (.aload_n 0, 1) := by decide +kernel
theorem dX12_name_87 : decode cX12_name 87 = .ok (.getfield 123, 3) := by decide +kernel
theorem dX12_name_90 : decode cX12_name 90 = .ok (.aload_n 0, 1) := by decide +kernel
theorem dX12_name_91 : decode cX12_name 91 = .ok (.getfield 169, 3) := by decide +kernel
theorem dX12_name_94 : decode cX12_name 94 = .ok (.isub, 1) := by decide +kernel
theorem dX12_name_95 : decode cX12_name 95 = .ok (.bipush 6, 2) := by decide +kernel
theorem dX12_name_97 : decode cX12_name 97 = .ok (.if_icmp .ne 14, 3) := by decide +kernel
theorem dX12_name_100 : decode cX12_name 100 = .ok (.aload_n 0, 1) := by decide +kernel
theorem dX12_name_101 : decode cX12_name 101 = .ok (.iconst 1, 1) := by decide +kernel
theorem dX12_name_102 : decode cX12_name 102 = .ok (.aload_n 0, 1) := by decide +kernel
theorem dX12_name_103 : decode cX12_name 103 = .ok (.getfield 123, 3) := by decide +kernel
theorem dX12_name_106 : decode cX12_name 106 = .ok (.invokevirtual 142, 3) := by decide +kernel
theorem dX12_name_109 : decode cX12_name 109 = .ok (.iconst 0, 1) := by decide +kernel
theorem dX12_name_110 : decode cX12_name 110 = .ok (.ireturn, 1) := by decide +kernel
theorem dX12_name_111 : decode cX12_name 111 = .ok (.bipush 27, 2) := by decide +kernel
theorem dX12_name_113 : decode cX12_name 113 = .ok (.iload_n 1, 1) := by decide +kernel
theorem dX12_name_114 : decode cX12_name 114 = .ok (.imul, 1) := by decide +kernel
theorem dX12_name_115 : decode cX12_name 115 = .ok (.aload_n 0, 1) := by decide +kernel
theorem dX12_name_116 : decode cX12_name 116 = .ok (.getfield 7, 3) := by decide +kernel
theorem dX12_name_119 : decode cX12_name 119 = .ok (.aload_n 0, 1) := by decide +kernel
theorem dX12_name_120 : decode cX12_name 120 = .ok (.getfield 123, 3) := by decide +kernel
theorem dX12_name_123 : decode cX12_name 123 = .ok (.iaload, 1) := by decide +kernel
theorem dX12_name_124 : decode cX12_name 124 = .ok (.iadd, 1) := by decide +kernel
theorem dX12_name_125 : decode cX12_name 125 = .ok (.bipush 97, 2) := by decide +kernel
theorem dX12_name_127 : decode cX12_name 127 = .ok (.isub, 1) := by decide +kernel
theorem dX12_name_128 : decode cX12_name 128 = .ok (.iconst 1, 1) := by decide +kernel
theorem dX12_name_129 : decode cX12_name 129 = .ok (.iadd, 1) := by decide +kernel
theorem dX12_name_130 : decode cX12_name 130 = .ok (.istore_n 1, 1) := by decide +kernel
theorem dX12_name_131 : decode cX12_name 131 = .ok (.aload_n 0, 1) := by decide +kernel
theorem dX12_name_132 : decode cX12_name 132 = .ok (.dup, 1) := by decide +kernel
theorem dX12_name_133 : decode cX12_name 133 = .ok (.getfield 123, 3) := by decide +kernel
theorem dX12_name_136 : decode cX12_name 136 = .ok (.iconst 1, 1) := by decide +kernel
theorem dX12_name_137 : decode cX12_name 137 = .ok (.iadd, 1) := by decide +kernel
theorem dX12_name_138 : decode cX12_name 138 = .ok (.putfield 123, 3) := by decide +kernel
theorem dX12_name_141 : decode cX12_name 141 = .ok (.goto (-81), 3) := by decide +kernel
theorem dX12_name_144 : decode cX12_name 144 = .ok (.aload_n 0, 1) := by decide +kernel
theorem dX12_name_145 : decode cX12_name 145 = .ok (.aload_n 0, 1) := by decide +kernel
theorem dX12_name_146 : decode cX12_name 146 = .ok (.getfield 123, 3) := by decide +kernel
theorem dX12_name_149 : decode cX12_name 149 = .ok (.putfield 136, 3) := by decide +kernel
theorem dX12_name_152 : decode cX12_name 152 = .ok (.iload_n 1, 1) := by decide +kernel
theorem dX12_name_153 : decode cX12_name 153 = .ok (.ireturn, 1) := by decide +kernel
theorem dX12_isLeap_0 : decode cX12_isLeap 0 = .ok (.iload_n 0, 1) := by decide +kernel
theorem dX12_isLeap_1 : decode cX12_isLeap 1 = .ok (.iconst 4, 1) := by decide +kernel
theorem dX12_isLeap_2 : decode cX12_isLeap 2 = .ok (.irem, 1) := by decide +kernel
theorem dX12_isLeap_3 : decode cX12_isLeap 3 = .ok (.ifCond .ne 7, 3) := by decide +kernel
theorem dX12_isLeap_6 : decode cX12_isLeap 6 = .ok (.iconst 1, 1) := by decide +kernel
theorem dX12_isLeap_7 : decode cX12_isLeap 7 = .ok (.goto 4, 3) := by decide +kernel
theorem dX12_isLeap_10 : decode cX12_isLeap 10 = .ok (.iconst 0, 1) := by decide +kernel
theorem dX12_isLeap_11 : decode cX12_isLeap 11 = .ok (.ireturn, 1) := by decide +kernel
theorem dX12_longMonth_0 : decode cX12_longMonth 0 = .ok (.iload_n 1, 1) := by decide +kernel
theorem dX12_longMonth_1 : decode cX12_longMonth 1 = .ok (.iconst 2, 1) := by decide +kernel
theorem dX12_longMonth_2 : decode cX12_longMonth 2 = .ok (.if_icmp .ne 20, 3) := by decide +kernel
theorem dX12_longMonth_5 : decode cX12_longMonth 5 = .ok (.iload_n 0, 1) := by decide +kernel
theorem dX12_longMonth_6 : decode cX12_longMonth 6 = .ok (.invokestatic 172, 3) := by decide +kernel
theorem dX12_longMonth_9 : decode cX12_longMonth 9 = .ok (.ifCond .eq 8, 3) := by decide +kernel
theorem dX12_longMonth_12 : decode cX12_longMonth 12 = .ok (.bipush 29, 2) := by decide +kernel
theorem dX12_longMonth_14 : decode cX12_longMonth 14 = .ok (.goto 38, 3) := by decide +kernel
theorem dX12_longMonth_17 : decode cX12_longMonth 17 = .ok (.bipush 28, 2) := by decide +kernel
theorem dX12_longMonth_19 : decode cX12_longMonth 19 = .ok (.goto 33, 3) := by decide +kernel
theorem dX12_longMonth_22 : decode cX12_longMonth 22 = .ok (.iload_n 1, 1) := by decide +kernel
theorem dX12_longMonth_23 : decode cX12_longMonth 23 = .ok (.iconst 4, 1) := by decide +kernel
theorem dX12_longMonth_24 : decode cX12_longMonth 24 = .ok (.if_icmp .eq 21, 3) := by decide +kernel
theorem dX12_longMonth_27 : decode cX12_longMonth 27 = .ok (.iload_n 1, 1) := by decide +kernel
theorem dX12_longMonth_28 : decode cX12_longMonth 28 = .ok (.bipush 6, 2) := by decide +kernel
theorem dX12_longMonth_30 : decode cX12_longMonth 30 = .ok (.if_icmp .eq 15, 3) := by decide +kernel
theorem dX12_longMonth_33 : decode cX12_longMonth 33 = .ok (.iload_n 1, 1) := by decide +kernel
theorem dX12_longMonth_34 : decode cX12_longMonth 34 = .ok (.bipush 9, 2) := by decide +kernel
theorem dX12_longMonth_36 : decode cX12_longMonth 36 = .ok (.if_icmp .eq 9, 3) := by decide +kernel
theorem dX12_longMonth_39 : decode cX12_longMonth 39 = .ok (.iload_n 1, 1) := by decide +kernel
theorem dX12_longMonth_40 : decode cX12_longMonth 40 = .ok (.bipush 11, 2) := by decide +kernel
theorem dX12_longMonth_42 : decode cX12_longMonth 42 = .ok (.if_icmp .ne 8, 3) := by decide +kernel
theorem dX12_longMonth_45 : decode cX12_longMonth 45 = .ok (.bipush 30, 2) := by decide +kernel
theorem dX12_longMonth_47 : decode cX12_longMonth 47 = .ok (.goto 5, 3) := by decide +kernel
theorem dX12_longMonth_50 : decode cX12_longMonth 50 = .ok (.bipush 31, 2) := by decide +kernel
theorem dX12_longMonth_52 : decode cX12_longMonth 52 = .ok (.ireturn, 1) := by decide +kernel
theorem dX12_laysDays_0 : decode cX12_laysDays 0 = .ok (.aload_n 0, 1) := by decide +kernel
theorem dX12_laysDays_1 : decode cX12_laysDays 1 = .ok (.getfield 175, 3) := by decide +kernel
theorem dX12_laysDays_4 : decode cX12_laysDays 4 = .ok (.ifCond .eq 4, 3) := by decide +kernel
theorem dX12_laysDays_7 : decode cX12_laysDays 7 = .ok (.return_, 1) := by decide +kernel
theorem dX12_laysDays_8 : decode cX12_laysDays 8 = .ok (.aload_n 0, 1) := by decide +kernel
theorem dX12_laysDays_9 : decode cX12_laysDays 9 = .ok (.iconst 1, 1) := by decide +kernel
theorem dX12_laysDays_10 : decode cX12_laysDays 10 = .ok (.putfield 175, 3) := by decide +kernel
theorem dX12_laysDays_13 : decode cX12_laysDays 13 = .ok (.sipush 2000, 3) := by decide +kernel
theorem dX12_laysDays_16 : decode cX12_laysDays 16 = .ok (.istore_n 1, 1) := by decide +kernel
theorem dX12_laysDays_17 : decode cX12_laysDays 17 = .ok (.iconst 1, 1) := by decide +kernel
theorem dX12_laysDays_18 : decode cX12_laysDays 18 = .ok (.istore_n 2, 1) := by decide +kernel
theorem dX12_laysDays_19 : decode cX12_laysDays 19 = .ok (.iconst 1, 1) := by decide +kernel
theorem dX12_laysDays_20 : decode cX12_laysDays 20 = .ok (.istore_n 3, 1) := by decide +kernel
theorem dX12_laysDays_21 : decode cX12_laysDays 21 = .ok (.iconst 1, 1) := by decide +kernel
theorem dX12_laysDays_22 : decode cX12_laysDays 22 = .ok (.istore 4, 2) := by decide +kernel
theorem dX12_laysDays_24 : decode cX12_laysDays 24 = .ok (.iconst 0, 1) := by decide +kernel
theorem dX12_laysDays_25 : decode cX12_laysDays 25 = .ok (.istore 5, 2) := by decide +kernel
theorem dX12_laysDays_27 : decode cX12_laysDays 27 = .ok (.iload 5, 2) := by decide +kernel
theorem dX12_laysDays_29 : decode cX12_laysDays 29 = .ok (.sipush 14610, 3) := by decide +kernel
theorem dX12_laysDays_32 : decode cX12_laysDays 32 = .ok (.if_icmp .ge 76, 3) := by decide +kernel
theorem dX12_laysDays_35 : decode cX12_laysDays 35 = .ok (.aload_n 0, 1) := by decide +kernel
theorem dX12_laysDays_36 : decode cX12_laysDays 36 = .ok (.getfield 24, 3) := by decide +kernel
theorem dX12_laysDays_39 : decode cX12_laysDays 39 = .ok (.iload 5, 2) := by decide +kernel
theorem dX12_laysDays_41 : decode cX12_laysDays 41 = .ok (.iload_n 1, 1) := by decide +kernel
theorem dX12_laysDays_42 : decode cX12_laysDays 42 = .ok (.iastore, 1) := by decide +kernel
theorem dX12_laysDays_43 : decode cX12_laysDays 43 = .ok (.aload_n 0, 1) := by decide +kernel
theorem dX12_laysDays_44 : decode cX12_laysDays 44 = .ok (.getfield 27, 3) := by decide +kernel
theorem dX12_laysDays_47 : decode cX12_laysDays 47 = .ok (.iload 5, 2) := by decide +kernel
theorem dX12_laysDays_49 : decode cX12_laysDays 49 = .ok (.iload_n 2, 1) := by decide +kernel
theorem dX12_laysDays_50 : decode cX12_laysDays 50 = .ok (.iastore, 1) := by decide +kernel
theorem dX12_laysDays_51 : decode cX12_laysDays 51 = .ok (.aload_n 0, 1) := by decide +kernel
theorem dX12_laysDays_52 : decode cX12_laysDays 52 = .ok (.getfield 30, 3) := by decide +kernel
theorem dX12_laysDays_55 : decode cX12_laysDays 55 = .ok (.iload 5, 2) := by decide +kernel
theorem dX12_laysDays_57 : decode cX12_laysDays 57 = .ok (.iload_n 3, 1) := by decide +kernel
theorem dX12_laysDays_58 : decode cX12_laysDays 58 = .ok (.iastore, 1) := by decide +kernel
theorem dX12_laysDays_59 : decode cX12_laysDays 59 = .ok (.aload_n 0, 1) := by decide +kernel
theorem dX12_laysDays_60 : decode cX12_laysDays 60 = .ok (.getfield 33, 3) := by decide +kernel
theorem dX12_laysDays_63 : decode cX12_laysDays 63 = .ok (.iload 5, 2) := by decide +kernel
theorem dX12_laysDays_65 : decode cX12_laysDays 65 = .ok (.iload 4, 2) := by decide +kernel
theorem dX12_laysDays_67 : decode cX12_laysDays 67 = .ok (.iastore, 1) := by decide +kernel
theorem dX12_laysDays_68 : decode cX12_laysDays 68 = .ok (.iinc 3 1, 3) := by decide +kernel
theorem dX12_laysDays_71 : decode cX12_laysDays 71 = .ok (.iinc 4 1, 3) := by decide +kernel
theorem dX12_laysDays_74 : decode cX12_laysDays 74 = .ok (.iload_n 3, 1) := by decide +kernel
theorem dX12_laysDays_75 : decode cX12_laysDays 75 = .ok (.iload_n 1, 1) := by decide +kernel
theorem dX12_laysDays_76 : decode cX12_laysDays 76 = .ok (.iload_n 2, 1) := by decide +kernel
theorem dX12_laysDays_77 : decode cX12_laysDays 77 = .ok (.invokestatic 179, 3) := by decide +kernel
theorem dX12_laysDays_80 : decode cX12_laysDays 80 = .ok (.if_icmp .le 8, 3) := by decide +kernel
theorem dX12_laysDays_83 : decode cX12_laysDays 83 = .ok (.iconst 1, 1) := by decide +kernel
theorem dX12_laysDays_84 : decode cX12_laysDays 84 = .ok (.istore_n 3, 1) := by decide +kernel
theorem dX12_laysDays_85 : decode cX12_laysDays 85 = .ok (.iinc 2 1, 3) := by decide +kernel
theorem dX12_laysDays_88 : decode cX12_laysDays 88 = .ok (.iload_n 2, 1) := by decide +kernel
theorem dX12_laysDays_89 : decode cX12_laysDays 89 = .ok (.bipush 12, 2) := by decide +kernel
theorem dX12_laysDays_91 : decode cX12_laysDays 91 = .ok (.if_icmp .le 11, 3) := by decide +kernel
theorem dX12_laysDays_94 : decode cX12_laysDays 94 = .ok (.iconst 1, 1) := by decide +kernel
theorem dX12_laysDays_95 : decode cX12_laysDays 95 = .ok (.istore_n 2, 1) := by decide +kernel
theorem dX12_laysDays_96 : decode cX12_laysDays 96 = .ok (.iconst 1, 1) := by decide +kernel
theorem dX12_laysDays_97 : decode cX12_laysDays 97 = .ok (.istore 4, 2) := by decide +kernel
theorem dX12_laysDays_99 : decode cX12_laysDays 99 = .ok (.iinc 1 1, 3) := by decide +kernel
theorem dX12_laysDays_102 : decode cX12_laysDays 102 = .ok (.iinc 5 1, 3) := by decide +kernel
theorem dX12_laysDays_105 : decode cX12_laysDays 105 = .ok (.goto (-78), 3) := by decide +kernel
theorem dX12_laysDays_108 : decode cX12_laysDays 108 = .ok (.return_, 1) := by decide +kernel
theorem dX12_weekdayOf_0 : decode cX12_weekdayOf 0 = .ok (.iload_n 0, 1) := by decide +kernel
theorem dX12_weekdayOf_1 : decode cX12_weekdayOf 1 = .ok (.iconst 5, 1) := by decide +kernel
theorem dX12_weekdayOf_2 : decode cX12_weekdayOf 2 = .ok (.iadd, 1) := by decide +kernel
theorem dX12_weekdayOf_3 : decode cX12_weekdayOf 3 = .ok (.bipush 7, 2) := by decide +kernel
theorem dX12_weekdayOf_5 : decode cX12_weekdayOf 5 = .ok (.irem, 1) := by decide +kernel
theorem dX12_weekdayOf_6 : decode cX12_weekdayOf 6 = .ok (.ireturn, 1) := by decide +kernel
theorem dX12_dayOf_0 : decode cX12_dayOf 0 = .ok (.aload_n 0, 1) := by decide +kernel
theorem dX12_dayOf_1 : decode cX12_dayOf 1 = .ok (.invokevirtual 183, 3) := by decide +kernel
theorem dX12_dayOf_4 : decode cX12_dayOf 4 = .ok (.iconst 0, 1) := by decide +kernel
theorem dX12_dayOf_5 : decode cX12_dayOf 5 = .ok (.istore 4, 2) := by decide +kernel
theorem dX12_dayOf_7 : decode cX12_dayOf 7 = .ok (.iload 4, 2) := by decide +kernel
theorem dX12_dayOf_9 : decode cX12_dayOf 9 = .ok (.sipush 14610, 3) := by decide +kernel
theorem dX12_dayOf_12 : decode cX12_dayOf 12 = .ok (.if_icmp .ge 45, 3) := by decide +kernel
theorem dX12_dayOf_15 : decode cX12_dayOf 15 = .ok (.aload_n 0, 1) := by decide +kernel
theorem dX12_dayOf_16 : decode cX12_dayOf 16 = .ok (.getfield 24, 3) := by decide +kernel
theorem dX12_dayOf_19 : decode cX12_dayOf 19 = .ok (.iload 4, 2) := by decide +kernel
theorem dX12_dayOf_21 : decode cX12_dayOf 21 = .ok (.iaload, 1) := by decide +kernel
theorem dX12_dayOf_22 : decode cX12_dayOf 22 = .ok (.iload_n 1, 1) := by decide +kernel
theorem dX12_dayOf_23 : decode cX12_dayOf 23 = .ok (.if_icmp .ne 28, 3) := by decide +kernel
theorem dX12_dayOf_26 : decode cX12_dayOf 26 = .ok (.aload_n 0, 1) := by decide +kernel
theorem dX12_dayOf_27 : decode cX12_dayOf 27 = .ok (.getfield 27, 3) := by decide +kernel
theorem dX12_dayOf_30 : decode cX12_dayOf 30 = .ok (.iload 4, 2) := by decide +kernel
theorem dX12_dayOf_32 : decode cX12_dayOf 32 = .ok (.iaload, 1) := by decide +kernel
theorem dX12_dayOf_33 : decode cX12_dayOf 33 = .ok (.iload_n 2, 1) := by decide +kernel
theorem dX12_dayOf_34 : decode cX12_dayOf 34 = .ok (.if_icmp .ne 17, 3) := by decide +kernel
theorem dX12_dayOf_37 : decode cX12_dayOf 37 = .ok (.aload_n 0, 1) := by decide +kernel
theorem dX12_dayOf_38 : decode cX12_dayOf 38 = .ok (.getfield 30, 3) := by decide +kernel
theorem dX12_dayOf_41 : decode cX12_dayOf 41 = .ok (.iload 4, 2) := by decide +kernel
theorem dX12_dayOf_43 : decode cX12_dayOf 43 = .ok (.iaload, 1) := by decide +kernel
theorem dX12_dayOf_44 : decode cX12_dayOf 44 = .ok (.iload_n 3, 1) := by decide +kernel
theorem dX12_dayOf_45 : decode cX12_dayOf 45 = .ok (.if_icmp .ne 6, 3) := by decide +kernel
theorem dX12_dayOf_48 : decode cX12_dayOf 48 = .ok (.iload 4, 2) := by decide +kernel
theorem dX12_dayOf_50 : decode cX12_dayOf 50 = .ok (.ireturn, 1) := by decide +kernel
theorem dX12_dayOf_51 : decode cX12_dayOf 51 = .ok (.iinc 4 1, 3) := by decide +kernel
theorem dX12_dayOf_54 : decode cX12_dayOf 54 = .ok (.goto (-47), 3) := by decide +kernel
theorem dX12_dayOf_57 : decode cX12_dayOf 57 = .ok (.iconst (-1), 1) := by decide +kernel
theorem dX12_dayOf_58 : decode cX12_dayOf 58 = .ok (.ireturn, 1) := by decide +kernel
theorem dX12_ruleAt_0 : decode cX12_ruleAt 0 = .ok (.iconst 2, 1) := by decide +kernel
theorem dX12_ruleAt_1 : decode cX12_ruleAt 1 = .ok (.bipush 42, 2) := by decide +kernel
theorem dX12_ruleAt_3 : decode cX12_ruleAt 3 = .ok (.iload_n 0, 1) := by decide +kernel
theorem dX12_ruleAt_4 : decode cX12_ruleAt 4 = .ok (.imul, 1) := by decide +kernel
theorem dX12_ruleAt_5 : decode cX12_ruleAt 5 = .ok (.iadd, 1) := by decide +kernel
theorem dX12_ruleAt_6 : decode cX12_ruleAt 6 = .ok (.iload_n 1, 1) := by decide +kernel
theorem dX12_ruleAt_7 : decode cX12_ruleAt 7 = .ok (.iadd, 1) := by decide +kernel
theorem dX12_ruleAt_8 : decode cX12_ruleAt 8 = .ok (.ireturn, 1) := by decide +kernel
theorem dX12_setAt_0 : decode cX12_setAt 0 = .ok (.sipush 254, 3) := by decide +kernel
theorem dX12_setAt_3 : decode cX12_setAt 3 = .ok (.iconst 3, 1) := by decide +kernel
theorem dX12_setAt_4 : decode cX12_setAt 4 = .ok (.iload_n 0, 1) := by decide +kernel
theorem dX12_setAt_5 : decode cX12_setAt 5 = .ok (.imul, 1) := by decide +kernel
theorem dX12_setAt_6 : decode cX12_setAt 6 = .ok (.iadd, 1) := by decide +kernel
theorem dX12_setAt_7 : decode cX12_setAt 7 = .ok (.iload_n 1, 1) := by decide +kernel
theorem dX12_setAt_8 : decode cX12_setAt 8 = .ok (.iadd, 1) := by decide +kernel
theorem dX12_setAt_9 : decode cX12_setAt 9 = .ok (.ireturn, 1) := by decide +kernel
theorem dX12_named_0 : decode cX12_named 0 = .ok (.iconst 0, 1) := by decide +kernel
theorem dX12_named_1 : decode cX12_named 1 = .ok (.istore_n 2, 1) := by decide +kernel
theorem dX12_named_2 : decode cX12_named 2 = .ok (.iload_n 2, 1) := by decide +kernel
theorem dX12_named_3 : decode cX12_named 3 = .ok (.aload_n 0, 1) := by decide +kernel
theorem dX12_named_4 : decode cX12_named 4 = .ok (.getfield 36, 3) := by decide +kernel
theorem dX12_named_7 : decode cX12_named 7 = .ok (.iconst 0, 1) := by decide +kernel
theorem dX12_named_8 : decode cX12_named 8 = .ok (.iaload, 1) := by decide +kernel
theorem dX12_named_9 : decode cX12_named 9 = .ok (.if_icmp .ge 25, 3) := by decide +kernel
theorem dX12_named_12 : decode cX12_named 12 = .ok (.aload_n 0, 1) := by decide +kernel
theorem dX12_named_13 : decode cX12_named 13 = .ok (.getfield 36, 3) := by decide +kernel
theorem dX12_named_16 : decode cX12_named 16 = .ok (.iload_n 2, 1) := by decide +kernel
theorem dX12_named_17 : decode cX12_named 17 = .ok (.iconst 0, 1) := by decide +kernel
theorem dX12_named_18 : decode cX12_named 18 = .ok (.invokestatic 186, 3) := by decide +kernel
theorem dX12_named_21 : decode cX12_named 21 = .ok (.iaload, 1) := by decide +kernel
theorem dX12_named_22 : decode cX12_named 22 = .ok (.iload_n 1, 1) := by decide +kernel
theorem dX12_named_23 : decode cX12_named 23 = .ok (.if_icmp .ne 5, 3) := by decide +kernel
theorem dX12_named_26 : decode cX12_named 26 = .ok (.iload_n 2, 1) := by decide +kernel
theorem dX12_named_27 : decode cX12_named 27 = .ok (.ireturn, 1) := by decide +kernel
theorem dX12_named_28 : decode cX12_named 28 = .ok (.iinc 2 1, 3) := by decide +kernel
theorem dX12_named_31 : decode cX12_named 31 = .ok (.goto (-29), 3) := by decide +kernel
theorem dX12_named_34 : decode cX12_named 34 = .ok (.iconst 0, 1) := by decide +kernel
theorem dX12_named_35 : decode cX12_named 35 = .ok (.istore_n 2, 1) := by decide +kernel
theorem dX12_named_36 : decode cX12_named 36 = .ok (.iload_n 2, 1) := by decide +kernel
theorem dX12_named_37 : decode cX12_named 37 = .ok (.aload_n 0, 1) := by decide +kernel
theorem dX12_named_38 : decode cX12_named 38 = .ok (.getfield 36, 3) := by decide +kernel
theorem dX12_named_41 : decode cX12_named 41 = .ok (.iconst 1, 1) := by decide +kernel
theorem dX12_named_42 : decode cX12_named 42 = .ok (.iaload, 1) := by decide +kernel
theorem dX12_named_43 : decode cX12_named 43 = .ok (.if_icmp .ge 28, 3) := by decide +kernel
theorem dX12_named_46 : decode cX12_named 46 = .ok (.aload_n 0, 1) := by decide +kernel
theorem dX12_named_47 : decode cX12_named 47 = .ok (.getfield 36, 3) := by decide +kernel
theorem dX12_named_50 : decode cX12_named 50 = .ok (.iload_n 2, 1) := by decide +kernel
theorem dX12_named_51 : decode cX12_named 51 = .ok (.iconst 0, 1) := by decide +kernel
theorem dX12_named_52 : decode cX12_named 52 = .ok (.invokestatic 189, 3) := by decide +kernel
theorem dX12_named_55 : decode cX12_named 55 = .ok (.iaload, 1) := by decide +kernel
theorem dX12_named_56 : decode cX12_named 56 = .ok (.iload_n 1, 1) := by decide +kernel
theorem dX12_named_57 : decode cX12_named 57 = .ok (.if_icmp .ne 8, 3) := by decide +kernel
theorem dX12_named_60 : decode cX12_named 60 = .ok (.bipush 6, 2) := by decide +kernel
theorem dX12_named_62 : decode cX12_named 62 = .ok (.iload_n 2, 1) := by decide +kernel
theorem dX12_named_63 : decode cX12_named 63 = .ok (.iadd, 1) := by decide +kernel
theorem dX12_named_64 : decode cX12_named 64 = .ok (.ireturn, 1) := by decide +kernel
theorem dX12_named_65 : decode cX12_named 65 = .ok (.iinc 2 1, 3) := by decide +kernel
theorem dX12_named_68 : decode cX12_named 68 = .ok (.goto (-32), 3) := by decide +kernel
theorem dX12_named_71 : decode cX12_named 71 = .ok (.iconst (-1), 1) := by decide +kernel
theorem dX12_named_72 : decode cX12_named 72 = .ok (.ireturn, 1) := by decide +kernel
theorem dX12_newName_0 : decode cX12_newName 0 = .ok (.aload_n 0, 1) := by decide +kernel
theorem dX12_newName_1 : decode cX12_newName 1 = .ok (.invokevirtual 192, 3) := by decide +kernel
theorem dX12_newName_4 : decode cX12_newName 4 = .ok (.istore_n 1, 1) := by decide +kernel
theorem dX12_newName_5 : decode cX12_newName 5 = .ok (.aload_n 0, 1) := by decide +kernel
theorem dX12_newName_6 : decode cX12_newName 6 = .ok (.getfield 117, 3) := by decide +kernel
theorem dX12_newName_9 : decode cX12_newName 9 = .ok (.ifCond .ne 21, 3) := by decide +kernel
theorem dX12_newName_12 : decode cX12_newName 12 = .ok (.aload_n 0, 1) := by decide +kernel
theorem dX12_newName_13 : decode cX12_newName 13 = .ok (.iload_n 1, 1) := by decide +kernel
theorem dX12_newName_14 : decode cX12_newName 14 = .ok (.invokevirtual 195, 3) := by decide +kernel
theorem dX12_newName_17 : decode cX12_newName 17 = .ok (.iconst (-1), 1) := by decide +kernel
theorem dX12_newName_18 : decode cX12_newName 18 = .ok (.if_icmp .eq 12, 3) := by decide +kernel
theorem dX12_newName_21 : decode cX12_newName 21 = .ok (.aload_n 0, 1) := by decide +kernel
theorem dX12_newName_22 : decode cX12_newName 22 = .ok (.iconst 3, 1) := by decide +kernel
theorem dX12_newName_23 : decode cX12_newName 23 = .ok (.aload_n 0, 1) := by decide +kernel
theorem dX12_newName_24 : decode cX12_newName 24 = .ok (.getfield 169, 3) := by decide +kernel
theorem dX12_newName_27 : decode cX12_newName 27 = .ok (.invokevirtual 142, 3) := by decide +kernel
theorem dX12_newName_30 : decode cX12_newName 30 = .ok (.iload_n 1, 1) := by decide +kernel
theorem dX12_newName_31 : decode cX12_newName 31 = .ok (.ireturn, 1) := by decide +kernel
theorem dX12_what_0 : decode cX12_what 0 = .ok (.aload_n 0, 1) := by decide +kernel
theorem dX12_what_1 : decode cX12_what 1 = .ok (.invokevirtual 192, 3) := by decide +kernel
theorem dX12_what_4 : decode cX12_what 4 = .ok (.istore_n 1, 1) := by decide +kernel
theorem dX12_what_5 : decode cX12_what 5 = .ok (.aload_n 0, 1) := by decide +kernel
theorem dX12_what_6 : decode cX12_what 6 = .ok (.getfield 117, 3) := by decide +kernel
theorem dX12_what_9 : decode cX12_what 9 = .ok (.ifCond .ne 11, 3) := by decide +kernel
theorem dX12_what_12 : decode cX12_what 12 = .ok (.aload_n 0, 1) := by decide +kernel
theorem dX12_what_13 : decode cX12_what 13 = .ok (.iload_n 1, 1) := by decide +kernel
theorem dX12_what_14 : decode cX12_what 14 = .ok (.invokevirtual 195, 3) := by decide +kernel
theorem dX12_what_17 : decode cX12_what 17 = .ok (.goto 4, 3) := by decide +kernel
theorem dX12_what_20 : decode cX12_what 20 = .ok (.iconst 0, 1) := by decide +kernel
theorem dX12_what_21 : decode cX12_what 21 = .ok (.istore_n 2, 1) := by decide +kernel
theorem dX12_what_22 : decode cX12_what 22 = .ok (.aload_n 0, 1) := by decide +kernel
theorem dX12_what_23 : decode cX12_what 23 = .ok (.getfield 117, 3) := by decide +kernel
theorem dX12_what_26 : decode cX12_what 26 = .ok (.ifCond .ne 17, 3) := by decide +kernel
theorem dX12_what_29 : decode cX12_what 29 = .ok (.iload_n 2, 1) := by decide +kernel
theorem dX12_what_30 : decode cX12_what 30 = .ok (.iconst (-1), 1) := by decide +kernel
theorem dX12_what_31 : decode cX12_what 31 = .ok (.if_icmp .ne 12, 3) := by decide +kernel
theorem dX12_what_34 : decode cX12_what 34 = .ok (.aload_n 0, 1) := by decide +kernel
theorem dX12_what_35 : decode cX12_what 35 = .ok (.iconst 3, 1) := by decide +kernel
theorem dX12_what_36 : decode cX12_what 36 = .ok (.aload_n 0, 1) := by decide +kernel
theorem dX12_what_37 : decode cX12_what 37 = .ok (.getfield 169, 3) := by decide +kernel
theorem dX12_what_40 : decode cX12_what 40 = .ok (.invokevirtual 142, 3) := by decide +kernel
theorem dX12_what_43 : decode cX12_what 43 = .ok (.iload_n 2, 1) := by decide +kernel
theorem dX12_what_44 : decode cX12_what 44 = .ok (.ireturn, 1) := by decide +kernel
theorem dX12_date_0 : decode cX12_date 0 = .ok (.aload_n 0, 1) := by decide +kernel
theorem dX12_date_1 : decode cX12_date 1 = .ok (.sipush 2000, 3) := by decide +kernel
theorem dX12_date_4 : decode cX12_date 4 = .ok (.sipush 2039, 3) := by decide +kernel
theorem dX12_date_7 : decode cX12_date 7 = .ok (.invokevirtual 198, 3) := by decide +kernel
theorem dX12_date_10 : decode cX12_date 10 = .ok (.istore_n 1, 1) := by decide +kernel
theorem dX12_date_11 : decode cX12_date 11 = .ok (.aload_n 0, 1) := by decide +kernel
theorem dX12_date_12 : decode cX12_date 12 = .ok (.bipush 45, 2) := by decide +kernel
theorem dX12_date_14 : decode cX12_date 14 = .ok (.invokevirtual 201, 3) := by decide +kernel
theorem dX12_date_17 : decode cX12_date 17 = .ok (.aload_n 0, 1) := by decide +kernel
theorem dX12_date_18 : decode cX12_date 18 = .ok (.iconst 1, 1) := by decide +kernel
theorem dX12_date_19 : decode cX12_date 19 = .ok (.bipush 12, 2) := by decide +kernel
theorem dX12_date_21 : decode cX12_date 21 = .ok (.invokevirtual 198, 3) := by decide +kernel
theorem dX12_date_24 : decode cX12_date 24 = .ok (.istore_n 2, 1) := by decide +kernel
theorem dX12_date_25 : decode cX12_date 25 = .ok (.aload_n 0, 1) := by decide +kernel
theorem dX12_date_26 : decode cX12_date 26 = .ok (.bipush 45, 2) := by decide +kernel
theorem dX12_date_28 : decode cX12_date 28 = .ok (.invokevirtual 201, 3) := by decide +kernel
theorem dX12_date_31 : decode cX12_date 31 = .ok (.aload_n 0, 1) := by decide +kernel
theorem dX12_date_32 : decode cX12_date 32 = .ok (.iconst 1, 1) := by decide +kernel
theorem dX12_date_33 : decode cX12_date 33 = .ok (.bipush 31, 2) := by decide +kernel
theorem dX12_date_35 : decode cX12_date 35 = .ok (.invokevirtual 198, 3) := by decide +kernel
theorem dX12_date_38 : decode cX12_date 38 = .ok (.istore_n 3, 1) := by decide +kernel
theorem dX12_date_39 : decode cX12_date 39 = .ok (.aload_n 0, 1) := by decide +kernel
theorem dX12_date_40 : decode cX12_date 40 = .ok (.getfield 117, 3) := by decide +kernel
theorem dX12_date_43 : decode cX12_date 43 = .ok (.ifCond .ne 21, 3) := by decide +kernel
theorem dX12_date_46 : decode cX12_date 46 = .ok (.iload_n 3, 1) := by decide +kernel
theorem dX12_date_47 : decode cX12_date 47 = .ok (.iload_n 1, 1) := by decide +kernel
theorem dX12_date_48 : decode cX12_date 48 = .ok (.iload_n 2, 1) := by decide +kernel
theorem dX12_date_49 : decode cX12_date 49 = .ok (.invokestatic 179, 3) := by decide +kernel
theorem dX12_date_52 : decode cX12_date 52 = .ok (.if_icmp .le 12, 3) := by decide +kernel
theorem dX12_date_55 : decode cX12_date 55 = .ok (.aload_n 0, 1) := by decide +kernel
theorem dX12_date_56 : decode cX12_date 56 = .ok (.iconst 2, 1) := by decide +kernel
theorem dX12_date_57 : decode cX12_date 57 = .ok (.aload_n 0, 1) := by decide +kernel
theorem dX12_date_58 : decode cX12_date 58 = .ok (.getfield 149, 3) := by decide +kernel
theorem dX12_date_61 : decode cX12_date 61 = .ok (.invokevirtual 142, 3) := by decide +kernel
theorem dX12_date_64 : decode cX12_date 64 = .ok (.aload_n 0, 1) := by decide +kernel
theorem dX12_date_65 : decode cX12_date 65 = .ok (.getfield 117, 3) := by decide +kernel
theorem dX12_date_68 : decode cX12_date 68 = .ok (.ifCond .ne 13, 3) := by decide +kernel
theorem dX12_date_71 : decode cX12_date 71 = .ok (.aload_n 0, 1) := by decide +kernel
theorem dX12_date_72 : decode cX12_date 72 = .ok (.iload_n 1, 1) := by decide +kernel
theorem dX12_date_73 : decode cX12_date 73 = .ok (.iload_n 2, 1) := by decide +kernel
theorem dX12_date_74 : decode cX12_date 74 = .ok (.iload_n 3, 1) := by decide +kernel
theorem dX12_date_75 : decode cX12_date 75 = .ok (.invokevirtual 205, 3) := by decide +kernel
theorem dX12_date_78 : decode cX12_date 78 = .ok (.goto 4, 3) := by decide +kernel
theorem dX12_date_81 : decode cX12_date 81 = .ok (.iconst 0, 1) := by decide +kernel
theorem dX12_date_82 : decode cX12_date 82 = .ok (.ireturn, 1) := by decide +kernel
theorem dX12_place_0 : decode cX12_place 0 = .ok (.aload_n 0, 1) := by decide +kernel
theorem dX12_place_1 : decode cX12_place 1 = .ok (.bipush 45, 2) := by decide +kernel
theorem dX12_place_3 : decode cX12_place 3 = .ok (.invokevirtual 139, 3) := by decide +kernel
theorem dX12_place_6 : decode cX12_place 6 = .ok (.istore_n 2, 1) := by decide +kernel
theorem dX12_place_7 : decode cX12_place 7 = .ok (.aload_n 0, 1) := by decide +kernel
theorem dX12_place_8 : decode cX12_place 8 = .ok (.iconst 1, 1) := by decide +kernel
theorem dX12_place_9 : decode cX12_place 9 = .ok (.iload_n 1, 1) := by decide +kernel
theorem dX12_place_10 : decode cX12_place 10 = .ok (.invokevirtual 198, 3) := by decide +kernel
theorem dX12_place_13 : decode cX12_place 13 = .ok (.istore_n 3, 1) := by decide +kernel
theorem dX12_place_14 : decode cX12_place 14 = .ok (.iload_n 2, 1) := by decide +kernel
theorem dX12_place_15 : decode cX12_place 15 = .ok (.ifCond .eq 8, 3) := by decide +kernel
theorem dX12_place_18 : decode cX12_place 18 = .ok (.iload_n 3, 1) := by decide +kernel
theorem dX12_place_19 : decode cX12_place 19 = .ok (.ineg, 1) := by decide +kernel
theorem dX12_place_20 : decode cX12_place 20 = .ok (.goto 4, 3) := by decide +kernel
theorem dX12_place_23 : decode cX12_place 23 = .ok (.iload_n 3, 1) := by decide +kernel
theorem dX12_place_24 : decode cX12_place 24 = .ok (.ireturn, 1) := by decide +kernel
theorem dX12_room_0 : decode cX12_room 0 = .ok (.aload_n 0, 1) := by decide +kernel
theorem dX12_room_1 : decode cX12_room 1 = .ok (.invokevirtual 129, 3) := by decide +kernel
theorem dX12_room_4 : decode cX12_room 4 = .ok (.pop, 1) := by decide +kernel
theorem dX12_room_5 : decode cX12_room 5 = .ok (.iload_n 1, 1) := by decide +kernel
theorem dX12_room_6 : decode cX12_room 6 = .ok (.bipush 8, 2) := by decide +kernel
theorem dX12_room_8 : decode cX12_room 8 = .ok (.if_icmp .ne 27, 3) := by decide +kernel
theorem dX12_room_11 : decode cX12_room 11 = .ok (.aload_n 0, 1) := by decide +kernel
theorem dX12_room_12 : decode cX12_room 12 = .ok (.aload_n 0, 1) := by decide +kernel
theorem dX12_room_13 : decode cX12_room 13 = .ok (.getfield 123, 3) := by decide +kernel
theorem dX12_room_16 : decode cX12_room 16 = .ok (.aload_n 0, 1) := by decide +kernel
theorem dX12_room_17 : decode cX12_room 17 = .ok (.getfield 126, 3) := by decide +kernel
theorem dX12_room_20 : decode cX12_room 20 = .ok (.if_icmp .ne 7, 3) := by decide +kernel
theorem dX12_room_23 : decode cX12_room 23 = .ok (.iconst 1, 1) := by decide +kernel
theorem dX12_room_24 : decode cX12_room 24 = .ok (.goto 4, 3) := by decide +kernel
theorem dX12_room_27 : decode cX12_room 27 = .ok (.iconst 5, 1) := by decide +kernel
theorem dX12_room_28 : decode cX12_room 28 = .ok (.aload_n 0, 1) := by decide +kernel
theorem dX12_room_29 : decode cX12_room 29 = .ok (.getfield 123, 3) := by decide +kernel
theorem dX12_room_32 : decode cX12_room 32 = .ok (.invokevirtual 142, 3) := by decide +kernel
theorem dX12_room_35 : decode cX12_room 35 = .ok (.return_, 1) := by decide +kernel
theorem dX12_inTold_0 : decode cX12_inTold 0 = .ok (.iconst 0, 1) := by decide +kernel
theorem dX12_inTold_1 : decode cX12_inTold 1 = .ok (.istore_n 2, 1) := by decide +kernel
theorem dX12_inTold_2 : decode cX12_inTold 2 = .ok (.aload_n 0, 1) := by decide +kernel
theorem dX12_inTold_3 : decode cX12_inTold 3 = .ok (.getfield 117, 3) := by decide +kernel
theorem dX12_inTold_6 : decode cX12_inTold 6 = .ok (.ifCond .ne 7, 3) := by decide +kernel
theorem dX12_inTold_9 : decode cX12_inTold 9 = .ok (.iconst 1, 1) := by decide +kernel
theorem dX12_inTold_10 : decode cX12_inTold 10 = .ok (.goto 4, 3) := by decide +kernel
theorem dX12_inTold_13 : decode cX12_inTold 13 = .ok (.iconst 0, 1) := by decide +kernel
theorem dX12_inTold_14 : decode cX12_inTold 14 = .ok (.istore_n 3, 1) := by decide +kernel
theorem dX12_inTold_15 : decode cX12_inTold 15 = .ok (.iload_n 3, 1) := by decide +kernel
theorem dX12_inTold_16 : decode cX12_inTold 16 = .ok (.ifCond .eq 88, 3) := by decide +kernel
theorem dX12_inTold_19 : decode cX12_inTold 19 = .ok (.aload_n 0, 1) := by decide +kernel
theorem dX12_inTold_20 : decode cX12_inTold 20 = .ok (.iload_n 2, 1) := by decide +kernel
theorem dX12_inTold_21 : decode cX12_inTold 21 = .ok (.invokevirtual 209, 3) := by decide +kernel
theorem dX12_inTold_24 : decode cX12_inTold 24 = .ok (.aload_n 0, 1) := by decide +kernel
theorem dX12_inTold_25 : decode cX12_inTold 25 = .ok (.iconst 1, 1) := by decide +kernel
theorem dX12_inTold_26 : decode cX12_inTold 26 = .ok (.bipush 12, 2) := by decide +kernel
theorem dX12_inTold_28 : decode cX12_inTold 28 = .ok (.invokevirtual 198, 3) := by decide +kernel
theorem dX12_inTold_31 : decode cX12_inTold 31 = .ok (.istore 4, 2) := by decide +kernel
theorem dX12_inTold_33 : decode cX12_inTold 33 = .ok (.aload_n 0, 1) := by decide +kernel
theorem dX12_inTold_34 : decode cX12_inTold 34 = .ok (.getfield 117, 3) := by decide +kernel
theorem dX12_inTold_37 : decode cX12_inTold 37 = .ok (.ifCond .ne 30, 3) := by decide +kernel
theorem dX12_inTold_40 : decode cX12_inTold 40 = .ok (.aload_n 0, 1) := by decide +kernel
theorem dX12_inTold_41 : decode cX12_inTold 41 = .ok (.getfield 36, 3) := by decide +kernel
theorem dX12_inTold_44 : decode cX12_inTold 44 = .ok (.iload_n 1, 1) := by decide +kernel
theorem dX12_inTold_45 : decode cX12_inTold 45 = .ok (.iconst 4, 1) := by decide +kernel
theorem dX12_inTold_46 : decode cX12_inTold 46 = .ok (.invokestatic 186, 3) := by decide +kernel
theorem dX12_inTold_49 : decode cX12_inTold 49 = .ok (.iaload, 1) := by decide +kernel
theorem dX12_inTold_50 : decode cX12_inTold 50 = .ok (.iload 4, 2) := by decide +kernel
theorem dX12_inTold_52 : decode cX12_inTold 52 = .ok (.invokestatic 212, 3) := by decide +kernel
theorem dX12_inTold_55 : decode cX12_inTold 55 = .ok (.ifCond .eq 12, 3) := by decide +kernel
theorem dX12_inTold_58 : decode cX12_inTold 58 = .ok (.aload_n 0, 1) := by decide +kernel
theorem dX12_inTold_59 : decode cX12_inTold 59 = .ok (.iconst 4, 1) := by decide +kernel
theorem dX12_inTold_60 : decode cX12_inTold 60 = .ok (.aload_n 0, 1) := by decide +kernel
theorem dX12_inTold_61 : decode cX12_inTold 61 = .ok (.getfield 149, 3) := by decide +kernel
theorem dX12_inTold_64 : decode cX12_inTold 64 = .ok (.invokevirtual 142, 3) := by decide +kernel
theorem dX12_inTold_67 : decode cX12_inTold 67 = .ok (.aload_n 0, 1) := by decide +kernel
theorem dX12_inTold_68 : decode cX12_inTold 68 = .ok (.getfield 117, 3) := by decide +kernel
theorem dX12_inTold_71 : decode cX12_inTold 71 = .ok (.ifCond .ne 20, 3) := by decide +kernel
theorem dX12_inTold_74 : decode cX12_inTold 74 = .ok (.aload_n 0, 1) := by decide +kernel
theorem dX12_inTold_75 : decode cX12_inTold 75 = .ok (.getfield 36, 3) := by decide +kernel
theorem dX12_inTold_78 : decode cX12_inTold 78 = .ok (.iload_n 1, 1) := by decide +kernel
theorem dX12_inTold_79 : decode cX12_inTold 79 = .ok (.iconst 4, 1) := by decide +kernel
theorem dX12_inTold_80 : decode cX12_inTold 80 = .ok (.invokestatic 186, 3) := by decide +kernel
theorem dX12_inTold_83 : decode cX12_inTold 83 = .ok (.dup2, 1) := by decide +kernel
theorem dX12_inTold_84 : decode cX12_inTold 84 = .ok (.iaload, 1) := by decide +kernel
theorem dX12_inTold_85 : decode cX12_inTold 85 = .ok (.iconst 1, 1) := by decide +kernel
theorem dX12_inTold_86 : decode cX12_inTold 86 = .ok (.iload 4, 2) := by decide +kernel
theorem dX12_inTold_88 : decode cX12_inTold 88 = .ok (.ishl, 1) := by decide +kernel
theorem dX12_inTold_89 : decode cX12_inTold 89 = .ok (.ior, 1) := by decide +kernel
theorem dX12_inTold_90 : decode cX12_inTold 90 = .ok (.iastore, 1) := by decide +kernel
theorem dX12_inTold_91 : decode cX12_inTold 91 = .ok (.iinc 2 1, 3) := by decide +kernel
theorem dX12_inTold_94 : decode cX12_inTold 94 = .ok (.aload_n 0, 1) := by decide +kernel
theorem dX12_inTold_95 : decode cX12_inTold 95 = .ok (.bipush 44, 2) := by decide +kernel
theorem dX12_inTold_97 : decode cX12_inTold 97 = .ok (.invokevirtual 139, 3) := by decide +kernel
theorem dX12_inTold_100 : decode cX12_inTold 100 = .ok (.istore_n 3, 1) := by decide +kernel
theorem dX12_inTold_101 : decode cX12_inTold 101 = .ok (.goto (-86), 3) := by decide +kernel
theorem dX12_inTold_104 : decode cX12_inTold 104 = .ok (.return_, 1) := by decide +kernel
theorem dX12_placesTold_0 : decode cX12_placesTold 0 = .ok (.aload_n 0, 1) := by decide +kernel
theorem dX12_placesTold_1 : decode cX12_placesTold 1 = .ok (.getfield 117, 3) := by decide +kernel
theorem dX12_placesTold_4 : decode cX12_placesTold 4 = .ok (.ifCond .ne 7, 3) := by decide +kernel
theorem dX12_placesTold_7 : decode cX12_placesTold 7 = .ok (.iconst 1, 1) := by decide +kernel
theorem dX12_placesTold_8 : decode cX12_placesTold 8 = .ok (.goto 4, 3) := by decide +kernel
theorem dX12_placesTold_11 : decode cX12_placesTold 11 = .ok (.iconst 0, 1) := by decide +kernel
theorem dX12_placesTold_12 : decode cX12_placesTold 12 = .ok (.istore 5, 2) := by decide +kernel
theorem dX12_placesTold_14 : decode cX12_placesTold 14 = .ok (.iload 5, 2) := by decide +kernel
theorem dX12_placesTold_16 : decode cX12_placesTold 16 = .ok (.ifCond .eq 130, 3) := by decide +kernel
theorem dX12_placesTold_19 : decode cX12_placesTold 19 = .ok (.aload_n 0, 1) := by decide +kernel
theorem dX12_placesTold_20 : decode cX12_placesTold 20 = .ok (.getfield 36, 3) := by decide +kernel
theorem dX12_placesTold_23 : decode cX12_placesTold 23 = .ok (.iload_n 1, 1) := by decide +kernel
theorem dX12_placesTold_24 : decode cX12_placesTold 24 = .ok (.iload_n 2, 1) := by decide +kernel
theorem dX12_placesTold_25 : decode cX12_placesTold 25 = .ok (.invokestatic 186, 3) := by decide +kernel
theorem dX12_placesTold_28 : decode cX12_placesTold 28 = .ok (.iaload, 1) := by decide +kernel
theorem dX12_placesTold_29 : decode cX12_placesTold 29 = .ok (.istore 6, 2) := by decide +kernel
theorem dX12_placesTold_31 : decode cX12_placesTold 31 = .ok (.aload_n 0, 1) := by decide +kernel
theorem dX12_placesTold_32 : decode cX12_placesTold 32 = .ok (.iload 6, 2) := by decide +kernel
theorem dX12_placesTold_34 : decode cX12_placesTold 34 = .ok (.invokevirtual 209, 3) := by decide +kernel
theorem dX12_placesTold_37 : decode cX12_placesTold 37 = .ok (.aload_n 0, 1) := by decide +kernel
theorem dX12_placesTold_38 : decode cX12_placesTold 38 = .ok (.getfield 123, 3) := by decide +kernel
theorem dX12_placesTold_41 : decode cX12_placesTold 41 = .ok (.istore 7, 2) := by decide +kernel
theorem dX12_placesTold_43 : decode cX12_placesTold 43 = .ok (.aload_n 0, 1) := by decide +kernel
theorem dX12_placesTold_44 : decode cX12_placesTold 44 = .ok (.iload 4, 2) := by decide +kernel
theorem dX12_placesTold_46 : decode cX12_placesTold 46 = .ok (.invokevirtual 215, 3) := by decide +kernel
theorem dX12_placesTold_49 : decode cX12_placesTold 49 = .ok (.istore 8, 2) := by decide +kernel
theorem dX12_placesTold_51 : decode cX12_placesTold 51 = .ok (.iconst 0, 1) := by decide +kernel
theorem dX12_placesTold_52 : decode cX12_placesTold 52 = .ok (.istore 9, 2) := by decide +kernel
theorem dX12_placesTold_54 : decode cX12_placesTold 54 = .ok (.iload 9, 2) := by decide +kernel
theorem dX12_placesTold_56 : decode cX12_placesTold 56 = .ok (.iload 6, 2) := by decide +kernel
theorem dX12_placesTold_58 : decode cX12_placesTold 58 = .ok (.if_icmp .ge 41, 3) := by decide +kernel
theorem dX12_placesTold_61 : decode cX12_placesTold 61 = .ok (.aload_n 0, 1) := by decide +kernel
theorem dX12_placesTold_62 : decode cX12_placesTold 62 = .ok (.getfield 117, 3) := by decide +kernel
theorem dX12_placesTold_65 : decode cX12_placesTold 65 = .ok (.ifCond .ne 34, 3) := by decide +kernel
theorem dX12_placesTold_68 : decode cX12_placesTold 68 = .ok (.aload_n 0, 1) := by decide +kernel
theorem dX12_placesTold_69 : decode cX12_placesTold 69 = .ok (.getfield 36, 3) := by decide +kernel
theorem dX12_placesTold_72 : decode cX12_placesTold 72 = .ok (.iload_n 1, 1) := by decide +kernel
theorem dX12_placesTold_73 : decode cX12_placesTold 73 = .ok (.iload_n 3, 1) := by decide +kernel
theorem dX12_placesTold_74 : decode cX12_placesTold 74 = .ok (.iload 9, 2) := by decide +kernel
theorem dX12_placesTold_76 : decode cX12_placesTold 76 = .ok (.iadd, 1) := by decide +kernel
theorem dX12_placesTold_77 : decode cX12_placesTold 77 = .ok (.invokestatic 186, 3) := by decide +kernel
theorem dX12_placesTold_80 : decode cX12_placesTold 80 = .ok (.iaload, 1) := by decide +kernel
theorem dX12_placesTold_81 : decode cX12_placesTold 81 = .ok (.iload 8, 2) := by decide +kernel
theorem dX12_placesTold_83 : decode cX12_placesTold 83 = .ok (.if_icmp .ne 10, 3) := by decide +kernel
theorem dX12_placesTold_86 : decode cX12_placesTold 86 = .ok (.aload_n 0, 1) := by decide +kernel
theorem dX12_placesTold_87 : decode cX12_placesTold 87 = .ok (.iconst 4, 1) := by decide +kernel
theorem dX12_placesTold_88 : decode cX12_placesTold 88 = .ok (.iload 7, 2) := by decide +kernel
theorem dX12_placesTold_90 : decode cX12_placesTold 90 = .ok (.invokevirtual 142, 3) := by decide +kernel
theorem dX12_placesTold_93 : decode cX12_placesTold 93 = .ok (.iinc 9 1, 3) := by decide +kernel
theorem dX12_placesTold_96 : decode cX12_placesTold 96 = .ok (.goto (-42), 3) := by decide +kernel
theorem dX12_placesTold_99 : decode cX12_placesTold 99 = .ok (.aload_n 0, 1) := by decide +kernel
theorem dX12_placesTold_100 : decode cX12_placesTold 100 = .ok (.getfield 117, 3) := by decide +kernel
theorem dX12_placesTold_103 : decode cX12_placesTold 103 = .ok (.ifCond .ne 32, 3) := by decide +kernel
theorem dX12_placesTold_106 : decode cX12_placesTold 106 = .ok (.aload_n 0, 1) := by decide +kernel
theorem dX12_placesTold_107 : decode cX12_placesTold 107 = .ok (.getfield 36, 3) := by decide +kernel
theorem dX12_placesTold_110 : decode cX12_placesTold 110 = .ok (.iload_n 1, 1) := by decide +kernel
theorem dX12_placesTold_111 : decode cX12_placesTold 111 = .ok (.iload_n 3, 1) := by decide +kernel
theorem dX12_placesTold_112 : decode cX12_placesTold 112 = .ok (.iload 6, 2) := by decide +kernel
theorem dX12_placesTold_114 : decode cX12_placesTold 114 = .ok (.iadd, 1) := by decide +kernel
theorem dX12_placesTold_115 : decode cX12_placesTold 115 = .ok (.invokestatic 186, 3) := by decide +kernel
theorem dX12_placesTold_118 : decode cX12_placesTold 118 = .ok (.iload 8, 2) := by decide +kernel
theorem dX12_placesTold_120 : decode cX12_placesTold 120 = .ok (.iastore, 1) := by decide +kernel
theorem dX12_placesTold_121 : decode cX12_placesTold 121 = .ok (.aload_n 0, 1) := by decide +kernel
theorem dX12_placesTold_122 : decode cX12_placesTold 122 = .ok (.getfield 36, 3) := by decide +kernel
theorem dX12_placesTold_125 : decode cX12_placesTold 125 = .ok (.iload_n 1, 1) := by decide +kernel
theorem dX12_placesTold_126 : decode cX12_placesTold 126 = .ok (.iload_n 2, 1) := by decide +kernel
theorem dX12_placesTold_127 : decode cX12_placesTold 127 = .ok (.invokestatic 186, 3) := by decide +kernel
theorem dX12_placesTold_130 : decode cX12_placesTold 130 = .ok (.dup2, 1) := by decide +kernel
theorem dX12_placesTold_131 : decode cX12_placesTold 131 = .ok (.iaload, 1) := by decide +kernel
theorem dX12_placesTold_132 : decode cX12_placesTold 132 = .ok (.iconst 1, 1) := by decide +kernel
theorem dX12_placesTold_133 : decode cX12_placesTold 133 = .ok (.iadd, 1) := by decide +kernel
theorem dX12_placesTold_134 : decode cX12_placesTold 134 = .ok (.iastore, 1) := by decide +kernel
theorem dX12_placesTold_135 : decode cX12_placesTold 135 = .ok (.aload_n 0, 1) := by decide +kernel
theorem dX12_placesTold_136 : decode cX12_placesTold 136 = .ok (.bipush 44, 2) := by decide +kernel
theorem dX12_placesTold_138 : decode cX12_placesTold 138 = .ok (.invokevirtual 139, 3) := by decide +kernel
theorem dX12_placesTold_141 : decode cX12_placesTold 141 = .ok (.istore 5, 2) := by decide +kernel
theorem dX12_placesTold_143 : decode cX12_placesTold 143 = .ok (.goto (-129), 3) := by decide +kernel
theorem dX12_placesTold_146 : decode cX12_placesTold 146 = .ok (.return_, 1) := by decide +kernel
theorem dX12_weekday_0 : decode cX12_weekday 0 = .ok (.aload_n 0, 1) := by decide +kernel
theorem dX12_weekday_1 : decode cX12_weekday 1 = .ok (.invokevirtual 160, 3) := by decide +kernel
theorem dX12_weekday_4 : decode cX12_weekday 4 = .ok (.istore_n 1, 1) := by decide +kernel
theorem dX12_weekday_5 : decode cX12_weekday 5 = .ok (.aload_n 0, 1) := by decide +kernel
theorem dX12_weekday_6 : decode cX12_weekday 6 = .ok (.getfield 117, 3) := by decide +kernel
theorem dX12_weekday_9 : decode cX12_weekday 9 = .ok (.ifCond .ne 41, 3) := by decide +kernel
theorem dX12_weekday_12 : decode cX12_weekday 12 = .ok (.iload_n 1, 1) := by decide +kernel
theorem dX12_weekday_13 : decode cX12_weekday 13 = .ok (.i2l, 1) := by decide +kernel
theorem dX12_weekday_14 : decode cX12_weekday 14 = .ok (.ldc2_w 218, 3) := by decide +kernel
theorem dX12_weekday_17 : decode cX12_weekday 17 = .ok (.ldc2_w 220, 3) := by decide +kernel
theorem dX12_weekday_20 : decode cX12_weekday 20 = .ok (.invokestatic 110, 3) := by decide +kernel
theorem dX12_weekday_23 : decode cX12_weekday 23 = .ok (.ifCond .ne 27, 3) := by decide +kernel
theorem dX12_weekday_26 : decode cX12_weekday 26 = .ok (.aload_n 0, 1) := by decide +kernel
theorem dX12_weekday_27 : decode cX12_weekday 27 = .ok (.iconst 1, 1) := by decide +kernel
theorem dX12_weekday_28 : decode cX12_weekday 28 = .ok (.aload_n 0, 1) := by decide +kernel
theorem dX12_weekday_29 : decode cX12_weekday 29 = .ok (.invokevirtual 129, 3) := by decide +kernel
theorem dX12_weekday_32 : decode cX12_weekday 32 = .ok (.iconst (-1), 1) := by decide +kernel
theorem dX12_weekday_33 : decode cX12_weekday 33 = .ok (.if_icmp .ne 10, 3) := by decide +kernel
theorem dX12_weekday_36 : decode cX12_weekday 36 = .ok (.aload_n 0, 1) := by decide +kernel
theorem dX12_weekday_37 : decode cX12_weekday 37 = .ok (.getfield 126, 3) := by decide +kernel
theorem dX12_weekday_40 : decode cX12_weekday 40 = .ok (.goto 7, 3) := by decide +kernel
theorem dX12_weekday_43 : decode cX12_weekday 43 = .ok (.aload_n 0, 1) := by decide +kernel
theorem dX12_weekday_44 : decode cX12_weekday 44 = .ok (.getfield 123, 3) := by decide +kernel
theorem dX12_weekday_47 : decode cX12_weekday 47 = .ok (.invokevirtual 142, 3) := by decide +kernel
theorem dX12_weekday_50 : decode cX12_weekday 50 = .ok (.aload_n 0, 1) := by decide +kernel
theorem dX12_weekday_51 : decode cX12_weekday 51 = .ok (.getfield 117, 3) := by decide +kernel
theorem dX12_weekday_54 : decode cX12_weekday 54 = .ok (.ifCond .eq 5, 3) := by decide +kernel
theorem dX12_weekday_57 : decode cX12_weekday 57 = .ok (.iconst 0, 1) := by decide +kernel
theorem dX12_weekday_58 : decode cX12_weekday 58 = .ok (.ireturn, 1) := by decide +kernel
theorem dX12_weekday_59 : decode cX12_weekday 59 = .ok (.aload_n 0, 1) := by decide +kernel
theorem dX12_weekday_60 : decode cX12_weekday 60 = .ok (.invokevirtual 163, 3) := by decide +kernel
theorem dX12_weekday_63 : decode cX12_weekday 63 = .ok (.iload_n 1, 1) := by decide +kernel
theorem dX12_weekday_64 : decode cX12_weekday 64 = .ok (.iconst 4, 1) := by decide +kernel
theorem dX12_weekday_65 : decode cX12_weekday 65 = .ok (.isub, 1) := by decide +kernel
theorem dX12_weekday_66 : decode cX12_weekday 66 = .ok (.ireturn, 1) := by decide +kernel
theorem dX12_byTold_0 : decode cX12_byTold 0 = .ok (.aload_n 0, 1) := by decide +kernel
theorem dX12_byTold_1 : decode cX12_byTold 1 = .ok (.getfield 117, 3) := by decide +kernel
theorem dX12_byTold_4 : decode cX12_byTold 4 = .ok (.ifCond .ne 7, 3) := by decide +kernel
theorem dX12_byTold_7 : decode cX12_byTold 7 = .ok (.iconst 1, 1) := by decide +kernel
theorem dX12_byTold_8 : decode cX12_byTold 8 = .ok (.goto 4, 3) := by decide +kernel
theorem dX12_byTold_11 : decode cX12_byTold 11 = .ok (.iconst 0, 1) := by decide +kernel
theorem dX12_byTold_12 : decode cX12_byTold 12 = .ok (.istore_n 2, 1) := by decide +kernel
theorem dX12_byTold_13 : decode cX12_byTold 13 = .ok (.aload_n 0, 1) := by decide +kernel
theorem dX12_byTold_14 : decode cX12_byTold 14 = .ok (.getfield 36, 3) := by decide +kernel
theorem dX12_byTold_17 : decode cX12_byTold 17 = .ok (.iload_n 1, 1) := by decide +kernel
theorem dX12_byTold_18 : decode cX12_byTold 18 = .ok (.iconst 2, 1) := by decide +kernel
theorem dX12_byTold_19 : decode cX12_byTold 19 = .ok (.invokestatic 186, 3) := by decide +kernel
theorem dX12_byTold_22 : decode cX12_byTold 22 = .ok (.iaload, 1) := by decide +kernel
theorem dX12_byTold_23 : decode cX12_byTold 23 = .ok (.iconst 2, 1) := by decide +kernel
theorem dX12_byTold_24 : decode cX12_byTold 24 = .ok (.if_icmp .lt 7, 3) := by decide +kernel
theorem dX12_byTold_27 : decode cX12_byTold 27 = .ok (.iconst 1, 1) := by decide +kernel
theorem dX12_byTold_28 : decode cX12_byTold 28 = .ok (.goto 4, 3) := by decide +kernel
theorem dX12_byTold_31 : decode cX12_byTold 31 = .ok (.iconst 0, 1) := by decide +kernel
theorem dX12_byTold_32 : decode cX12_byTold 32 = .ok (.istore_n 3, 1) := by decide +kernel
theorem dX12_byTold_33 : decode cX12_byTold 33 = .ok (.iload_n 2, 1) := by decide +kernel
theorem dX12_byTold_34 : decode cX12_byTold 34 = .ok (.ifCond .eq 255, 3) := by decide +kernel
theorem dX12_byTold_37 : decode cX12_byTold 37 = .ok (.aload_n 0, 1) := by decide +kernel
theorem dX12_byTold_38 : decode cX12_byTold 38 = .ok (.getfield 36, 3) := by decide +kernel
theorem dX12_byTold_41 : decode cX12_byTold 41 = .ok (.iload_n 1, 1) := by decide +kernel
theorem dX12_byTold_42 : decode cX12_byTold 42 = .ok (.bipush 14, 2) := by decide +kernel
theorem dX12_byTold_44 : decode cX12_byTold 44 = .ok (.invokestatic 186, 3) := by decide +kernel
theorem dX12_byTold_47 : decode cX12_byTold 47 = .ok (.iaload, 1) := by decide +kernel
theorem dX12_byTold_48 : decode cX12_byTold 48 = .ok (.istore 4, 2) := by decide +kernel
theorem dX12_byTold_50 : decode cX12_byTold 50 = .ok (.aload_n 0, 1) := by decide +kernel
theorem dX12_byTold_51 : decode cX12_byTold 51 = .ok (.iload 4, 2) := by decide +kernel
theorem dX12_byTold_53 : decode cX12_byTold 53 = .ok (.invokevirtual 209, 3) := by decide +kernel
theorem dX12_byTold_56 : decode cX12_byTold 56 = .ok (.aload_n 0, 1) := by decide +kernel
theorem dX12_byTold_57 : decode cX12_byTold 57 = .ok (.getfield 123, 3) := by decide +kernel
theorem dX12_byTold_60 : decode cX12_byTold 60 = .ok (.istore 5, 2) := by decide +kernel
theorem dX12_byTold_62 : decode cX12_byTold 62 = .ok (.aload_n 0, 1) := by decide +kernel
theorem dX12_byTold_63 : decode cX12_byTold 63 = .ok (.getfield 117, 3) := by decide +kernel
theorem dX12_byTold_66 : decode cX12_byTold 66 = .ok (.ifCond .ne 37, 3) := by decide +kernel
theorem dX12_byTold_69 : decode cX12_byTold 69 = .ok (.aload_n 0, 1) := by decide +kernel
theorem dX12_byTold_70 : decode cX12_byTold 70 = .ok (.invokevirtual 129, 3) := by decide +kernel
theorem dX12_byTold_73 : decode cX12_byTold 73 = .ok (.bipush 45, 2) := by decide +kernel
theorem dX12_byTold_75 : decode cX12_byTold 75 = .ok (.if_icmp .eq 24, 3) := by decide +kernel
theorem dX12_byTold_78 : decode cX12_byTold 78 = .ok (.aload_n 0, 1) := by decide +kernel
theorem dX12_byTold_79 : decode cX12_byTold 79 = .ok (.invokevirtual 129, 3) := by decide +kernel
theorem dX12_byTold_82 : decode cX12_byTold 82 = .ok (.invokestatic 146, 3) := by decide +kernel
theorem dX12_byTold_85 : decode cX12_byTold 85 = .ok (.ifCond .eq 18, 3) := by decide +kernel
theorem dX12_byTold_88 : decode cX12_byTold 88 = .ok (.aload_n 0, 1) := by decide +kernel
theorem dX12_byTold_89 : decode cX12_byTold 89 = .ok (.getfield 123, 3) := by decide +kernel
theorem dX12_byTold_92 : decode cX12_byTold 92 = .ok (.aload_n 0, 1) := by decide +kernel
theorem dX12_byTold_93 : decode cX12_byTold 93 = .ok (.getfield 136, 3) := by decide +kernel
theorem dX12_byTold_96 : decode cX12_byTold 96 = .ok (.if_icmp .eq 7, 3) := by decide +kernel
theorem dX12_byTold_99 : decode cX12_byTold 99 = .ok (.iconst 1, 1) := by decide +kernel
theorem dX12_byTold_100 : decode cX12_byTold 100 = .ok (.goto 4, 3) := by decide +kernel
theorem dX12_byTold_103 : decode cX12_byTold 103 = .ok (.iconst 0, 1) := by decide +kernel
theorem dX12_byTold_104 : decode cX12_byTold 104 = .ok (.istore 6, 2) := by decide +kernel
theorem dX12_byTold_106 : decode cX12_byTold 106 = .ok (.iload 6, 2) := by decide +kernel
theorem dX12_byTold_108 : decode cX12_byTold 108 = .ok (.ifCond .eq 14, 3) := by decide +kernel
theorem dX12_byTold_111 : decode cX12_byTold 111 = .ok (.iload_n 3, 1) := by decide +kernel
theorem dX12_byTold_112 : decode cX12_byTold 112 = .ok (.ifCond .ne 10, 3) := by decide +kernel
theorem dX12_byTold_115 : decode cX12_byTold 115 = .ok (.aload_n 0, 1) := by decide +kernel
theorem dX12_byTold_116 : decode cX12_byTold 116 = .ok (.iconst 4, 1) := by decide +kernel
theorem dX12_byTold_117 : decode cX12_byTold 117 = .ok (.iload 5, 2) := by decide +kernel
theorem dX12_byTold_119 : decode cX12_byTold 119 = .ok (.invokevirtual 142, 3) := by decide +kernel
theorem dX12_byTold_122 : decode cX12_byTold 122 = .ok (.iload 6, 2) := by decide +kernel
theorem dX12_byTold_124 : decode cX12_byTold 124 = .ok (.ifCond .eq 12, 3) := by decide +kernel
theorem dX12_byTold_127 : decode cX12_byTold 127 = .ok (.aload_n 0, 1) := by decide +kernel
theorem dX12_byTold_128 : decode cX12_byTold 128 = .ok (.bipush 53, 2) := by decide +kernel
theorem dX12_byTold_130 : decode cX12_byTold 130 = .ok (.invokevirtual 215, 3) := by decide +kernel
theorem dX12_byTold_133 : decode cX12_byTold 133 = .ok (.goto 4, 3) := by decide +kernel
theorem dX12_byTold_136 : decode cX12_byTold 136 = .ok (.iconst 0, 1) := by decide +kernel
theorem dX12_byTold_137 : decode cX12_byTold 137 = .ok (.istore 7, 2) := by decide +kernel
theorem dX12_byTold_139 : decode cX12_byTold 139 = .ok (.aload_n 0, 1) := by decide +kernel
theorem dX12_byTold_140 : decode cX12_byTold 140 = .ok (.invokevirtual 222, 3) := by decide +kernel
theorem dX12_byTold_143 : decode cX12_byTold 143 = .ok (.istore 8, 2) := by decide +kernel
theorem dX12_byTold_145 : decode cX12_byTold 145 = .ok (.iconst 0, 1) := by decide +kernel
theorem dX12_byTold_146 : decode cX12_byTold 146 = .ok (.istore 9, 2) := by decide +kernel
theorem dX12_byTold_148 : decode cX12_byTold 148 = .ok (.iload 9, 2) := by decide +kernel
theorem dX12_byTold_150 : decode cX12_byTold 150 = .ok (.iload 4, 2) := by decide +kernel
theorem dX12_byTold_152 : decode cX12_byTold 152 = .ok (.if_icmp .ge 67, 3) := by decide +kernel
theorem dX12_byTold_155 : decode cX12_byTold 155 = .ok (.aload_n 0, 1) := by decide +kernel
theorem dX12_byTold_156 : decode cX12_byTold 156 = .ok (.getfield 117, 3) := by decide +kernel
theorem dX12_byTold_159 : decode cX12_byTold 159 = .ok (.ifCond .ne 60, 3) := by decide +kernel
theorem dX12_byTold_162 : decode cX12_byTold 162 = .ok (.aload_n 0, 1) := by decide +kernel
theorem dX12_byTold_163 : decode cX12_byTold 163 = .ok (.getfield 36, 3) := by decide +kernel
theorem dX12_byTold_166 : decode cX12_byTold 166 = .ok (.iload_n 1, 1) := by decide +kernel
theorem dX12_byTold_167 : decode cX12_byTold 167 = .ok (.bipush 15, 2) := by decide +kernel
theorem dX12_byTold_169 : decode cX12_byTold 169 = .ok (.iconst 2, 1) := by decide +kernel
theorem dX12_byTold_170 : decode cX12_byTold 170 = .ok (.iload 9, 2) := by decide +kernel
theorem dX12_byTold_172 : decode cX12_byTold 172 = .ok (.imul, 1) := by decide +kernel
theorem dX12_byTold_173 : decode cX12_byTold 173 = .ok (.iadd, 1) := by decide +kernel
theorem dX12_byTold_174 : decode cX12_byTold 174 = .ok (.invokestatic 186, 3) := by decide +kernel
theorem dX12_byTold_177 : decode cX12_byTold 177 = .ok (.iaload, 1) := by decide +kernel
theorem dX12_byTold_178 : decode cX12_byTold 178 = .ok (.iload 7, 2) := by decide +kernel
theorem dX12_byTold_180 : decode cX12_byTold 180 = .ok (.if_icmp .ne 33, 3) := by decide +kernel
theorem dX12_byTold_183 : decode cX12_byTold 183 = .ok (.aload_n 0, 1) := by decide +kernel
theorem dX12_byTold_184 : decode cX12_byTold 184 = .ok (.getfield 36, 3) := by decide +kernel
theorem dX12_byTold_187 : decode cX12_byTold 187 = .ok (.iload_n 1, 1) := by decide +kernel
theorem dX12_byTold_188 : decode cX12_byTold 188 = .ok (.bipush 15, 2) := by decide +kernel
theorem dX12_byTold_190 : decode cX12_byTold 190 = .ok (.iconst 2, 1) := by decide +kernel
theorem dX12_byTold_191 : decode cX12_byTold 191 = .ok (.iload 9, 2) := by decide +kernel
theorem dX12_byTold_193 : decode cX12_byTold 193 = .ok (.imul, 1) := by decide +kernel
theorem dX12_byTold_194 : decode cX12_byTold 194 = .ok (.iadd, 1) := by decide +kernel
theorem dX12_byTold_195 : decode cX12_byTold 195 = .ok (.iconst 1, 1) := by decide +kernel
theorem dX12_byTold_196 : decode cX12_byTold 196 = .ok (.iadd, 1) := by decide +kernel
theorem dX12_byTold_197 : decode cX12_byTold 197 = .ok (.invokestatic 186, 3) := by decide +kernel
theorem dX12_byTold_200 : decode cX12_byTold 200 = .ok (.iaload, 1) := by decide +kernel
theorem dX12_byTold_201 : decode cX12_byTold 201 = .ok (.iload 8, 2) := by decide +kernel
theorem dX12_byTold_203 : decode cX12_byTold 203 = .ok (.if_icmp .ne 10, 3) := by decide +kernel
theorem dX12_byTold_206 : decode cX12_byTold 206 = .ok (.aload_n 0, 1) := by decide +kernel
theorem dX12_byTold_207 : decode cX12_byTold 207 = .ok (.iconst 4, 1) := by decide +kernel
theorem dX12_byTold_208 : decode cX12_byTold 208 = .ok (.iload 5, 2) := by decide +kernel
theorem dX12_byTold_210 : decode cX12_byTold 210 = .ok (.invokevirtual 142, 3) := by decide +kernel
theorem dX12_byTold_213 : decode cX12_byTold 213 = .ok (.iinc 9 1, 3) := by decide +kernel
theorem dX12_byTold_216 : decode cX12_byTold 216 = .ok (.goto (-68), 3) := by decide +kernel
theorem dX12_byTold_219 : decode cX12_byTold 219 = .ok (.aload_n 0, 1) := by decide +kernel
theorem dX12_byTold_220 : decode cX12_byTold 220 = .ok (.getfield 117, 3) := by decide +kernel
theorem dX12_byTold_223 : decode cX12_byTold 223 = .ok (.ifCond .ne 56, 3) := by decide +kernel
theorem dX12_byTold_226 : decode cX12_byTold 226 = .ok (.aload_n 0, 1) := by decide +kernel
theorem dX12_byTold_227 : decode cX12_byTold 227 = .ok (.getfield 36, 3) := by decide +kernel
theorem dX12_byTold_230 : decode cX12_byTold 230 = .ok (.iload_n 1, 1) := by decide +kernel
theorem dX12_byTold_231 : decode cX12_byTold 231 = .ok (.bipush 15, 2) := by decide +kernel
theorem dX12_byTold_233 : decode cX12_byTold 233 = .ok (.iconst 2, 1) := by decide +kernel
theorem dX12_byTold_234 : decode cX12_byTold 234 = .ok (.iload 4, 2) := by decide +kernel
theorem dX12_byTold_236 : decode cX12_byTold 236 = .ok (.imul, 1) := by decide +kernel
theorem dX12_byTold_237 : decode cX12_byTold 237 = .ok (.iadd, 1) := by decide +kernel
theorem dX12_byTold_238 : decode cX12_byTold 238 = .ok (.invokestatic 186, 3) := by decide +kernel
theorem dX12_byTold_241 : decode cX12_byTold 241 = .ok (.iload 7, 2) := by decide +kernel
theorem dX12_byTold_243 : decode cX12_byTold 243 = .ok (.iastore, 1) := by decide +kernel
theorem dX12_byTold_244 : decode cX12_byTold 244 = .ok (.aload_n 0, 1) := by decide +kernel
theorem dX12_byTold_245 : decode cX12_byTold 245 = .ok (.getfield 36, 3) := by decide +kernel
theorem dX12_byTold_248 : decode cX12_byTold 248 = .ok (.iload_n 1, 1) := by decide +kernel
theorem dX12_byTold_249 : decode cX12_byTold 249 = .ok (.bipush 15, 2) := by decide +kernel
theorem dX12_byTold_251 : decode cX12_byTold 251 = .ok (.iconst 2, 1) := by decide +kernel
theorem dX12_byTold_252 : decode cX12_byTold 252 = .ok (.iload 4, 2) := by decide +kernel
theorem dX12_byTold_254 : decode cX12_byTold 254 = .ok (.imul, 1) := by decide +kernel
theorem dX12_byTold_255 : decode cX12_byTold 255 = .ok (.iadd, 1) := by decide +kernel
theorem dX12_byTold_256 : decode cX12_byTold 256 = .ok (.iconst 1, 1) := by decide +kernel
theorem dX12_byTold_257 : decode cX12_byTold 257 = .ok (.iadd, 1) := by decide +kernel
theorem dX12_byTold_258 : decode cX12_byTold 258 = .ok (.invokestatic 186, 3) := by decide +kernel
theorem dX12_byTold_261 : decode cX12_byTold 261 = .ok (.iload 8, 2) := by decide +kernel
theorem dX12_byTold_263 : decode cX12_byTold 263 = .ok (.iastore, 1) := by decide +kernel
theorem dX12_byTold_264 : decode cX12_byTold 264 = .ok (.aload_n 0, 1) := by decide +kernel
theorem dX12_byTold_265 : decode cX12_byTold 265 = .ok (.getfield 36, 3) := by decide +kernel
theorem dX12_byTold_268 : decode cX12_byTold 268 = .ok (.iload_n 1, 1) := by decide +kernel
theorem dX12_byTold_269 : decode cX12_byTold 269 = .ok (.bipush 14, 2) := by decide +kernel
theorem dX12_byTold_271 : decode cX12_byTold 271 = .ok (.invokestatic 186, 3) := by decide +kernel
theorem dX12_byTold_274 : decode cX12_byTold 274 = .ok (.dup2, 1) := by decide +kernel
theorem dX12_byTold_275 : decode cX12_byTold 275 = .ok (.iaload, 1) := by decide +kernel
theorem dX12_byTold_276 : decode cX12_byTold 276 = .ok (.iconst 1, 1) := by decide +kernel
theorem dX12_byTold_277 : decode cX12_byTold 277 = .ok (.iadd, 1) := by decide +kernel
theorem dX12_byTold_278 : decode cX12_byTold 278 = .ok (.iastore, 1) := by decide +kernel
theorem dX12_byTold_279 : decode cX12_byTold 279 = .ok (.aload_n 0, 1) := by decide +kernel
theorem dX12_byTold_280 : decode cX12_byTold 280 = .ok (.bipush 44, 2) := by decide +kernel
theorem dX12_byTold_282 : decode cX12_byTold 282 = .ok (.invokevirtual 139, 3) := by decide +kernel
theorem dX12_byTold_285 : decode cX12_byTold 285 = .ok (.istore_n 2, 1) := by decide +kernel
theorem dX12_byTold_286 : decode cX12_byTold 286 = .ok (.goto (-253), 3) := by decide +kernel
theorem dX12_byTold_289 : decode cX12_byTold 289 = .ok (.return_, 1) := by decide +kernel
theorem dX12_partTold_0 : decode cX12_partTold 0 = .ok (.iload_n 2, 1) := by decide +kernel
theorem dX12_partTold_1 : decode cX12_partTold 1 = .ok (.bipush 11, 2) := by decide +kernel
theorem dX12_partTold_3 : decode cX12_partTold 3 = .ok (.if_icmp .ne 8, 3) := by decide +kernel
theorem dX12_partTold_6 : decode cX12_partTold 6 = .ok (.aload_n 0, 1) := by decide +kernel
theorem dX12_partTold_7 : decode cX12_partTold 7 = .ok (.iload_n 1, 1) := by decide +kernel
theorem dX12_partTold_8 : decode cX12_partTold 8 = .ok (.invokevirtual 225, 3) := by decide +kernel
theorem dX12_partTold_11 : decode cX12_partTold 11 = .ok (.iload_n 2, 1) := by decide +kernel
theorem dX12_partTold_12 : decode cX12_partTold 12 = .ok (.bipush 12, 2) := by decide +kernel
theorem dX12_partTold_14 : decode cX12_partTold 14 = .ok (.if_icmp .ne 13, 3) := by decide +kernel
theorem dX12_partTold_17 : decode cX12_partTold 17 = .ok (.aload_n 0, 1) := by decide +kernel
theorem dX12_partTold_18 : decode cX12_partTold 18 = .ok (.iload_n 1, 1) := by decide +kernel
theorem dX12_partTold_19 : decode cX12_partTold 19 = .ok (.iconst 5, 1) := by decide +kernel
theorem dX12_partTold_20 : decode cX12_partTold 20 = .ok (.bipush 6, 2) := by decide +kernel
theorem dX12_partTold_22 : decode cX12_partTold 22 = .ok (.bipush 31, 2) := by decide +kernel
theorem dX12_partTold_24 : decode cX12_partTold 24 = .ok (.invokevirtual 228, 3) := by decide +kernel
theorem dX12_partTold_27 : decode cX12_partTold 27 = .ok (.iload_n 2, 1) := by decide +kernel
theorem dX12_partTold_28 : decode cX12_partTold 28 = .ok (.bipush 13, 2) := by decide +kernel
theorem dX12_partTold_30 : decode cX12_partTold 30 = .ok (.if_icmp .ne 8, 3) := by decide +kernel
theorem dX12_partTold_33 : decode cX12_partTold 33 = .ok (.aload_n 0, 1) := by decide +kernel
theorem dX12_partTold_34 : decode cX12_partTold 34 = .ok (.iload_n 1, 1) := by decide +kernel
theorem dX12_partTold_35 : decode cX12_partTold 35 = .ok (.invokevirtual 232, 3) := by decide +kernel
theorem dX12_partTold_38 : decode cX12_partTold 38 = .ok (.iload_n 2, 1) := by decide +kernel
theorem dX12_partTold_39 : decode cX12_partTold 39 = .ok (.bipush 14, 2) := by decide +kernel
theorem dX12_partTold_41 : decode cX12_partTold 41 = .ok (.if_icmp .ne 14, 3) := by decide +kernel
theorem dX12_partTold_44 : decode cX12_partTold 44 = .ok (.aload_n 0, 1) := by decide +kernel
theorem dX12_partTold_45 : decode cX12_partTold 45 = .ok (.iload_n 1, 1) := by decide +kernel
theorem dX12_partTold_46 : decode cX12_partTold 46 = .ok (.bipush 31, 2) := by decide +kernel
theorem dX12_partTold_48 : decode cX12_partTold 48 = .ok (.bipush 32, 2) := by decide +kernel
theorem dX12_partTold_50 : decode cX12_partTold 50 = .ok (.bipush 99, 2) := by decide +kernel
theorem dX12_partTold_52 : decode cX12_partTold 52 = .ok (.invokevirtual 228, 3) := by decide +kernel
theorem dX12_partTold_55 : decode cX12_partTold 55 = .ok (.iload_n 2, 1) := by decide +kernel
theorem dX12_partTold_56 : decode cX12_partTold 56 = .ok (.bipush 15, 2) := by decide +kernel
theorem dX12_partTold_58 : decode cX12_partTold 58 = .ok (.if_icmp .ne 18, 3) := by decide +kernel
theorem dX12_partTold_61 : decode cX12_partTold 61 = .ok (.aload_n 0, 1) := by decide +kernel
theorem dX12_partTold_62 : decode cX12_partTold 62 = .ok (.getfield 36, 3) := by decide +kernel
theorem dX12_partTold_65 : decode cX12_partTold 65 = .ok (.iload_n 1, 1) := by decide +kernel
theorem dX12_partTold_66 : decode cX12_partTold 66 = .ok (.bipush 40, 2) := by decide +kernel
theorem dX12_partTold_68 : decode cX12_partTold 68 = .ok (.invokestatic 186, 3) := by decide +kernel
theorem dX12_partTold_71 : decode cX12_partTold 71 = .ok (.aload_n 0, 1) := by decide +kernel
theorem dX12_partTold_72 : decode cX12_partTold 72 = .ok (.invokevirtual 235, 3) := by decide +kernel
theorem dX12_partTold_75 : decode cX12_partTold 75 = .ok (.iastore, 1) := by decide +kernel
theorem dX12_partTold_76 : decode cX12_partTold 76 = .ok (.iload_n 2, 1) := by decide +kernel
theorem dX12_partTold_77 : decode cX12_partTold 77 = .ok (.bipush 16, 2) := by decide +kernel
theorem dX12_partTold_79 : decode cX12_partTold 79 = .ok (.if_icmp .ne 22, 3) := by decide +kernel
theorem dX12_partTold_82 : decode cX12_partTold 82 = .ok (.aload_n 0, 1) := by decide +kernel
theorem dX12_partTold_83 : decode cX12_partTold 83 = .ok (.getfield 36, 3) := by decide +kernel
theorem dX12_partTold_86 : decode cX12_partTold 86 = .ok (.iload_n 1, 1) := by decide +kernel
theorem dX12_partTold_87 : decode cX12_partTold 87 = .ok (.bipush 41, 2) := by decide +kernel
theorem dX12_partTold_89 : decode cX12_partTold 89 = .ok (.invokestatic 186, 3) := by decide +kernel
theorem dX12_partTold_92 : decode cX12_partTold 92 = .ok (.aload_n 0, 1) := by decide +kernel
theorem dX12_partTold_93 : decode cX12_partTold 93 = .ok (.iconst 1, 1) := by decide +kernel
theorem dX12_partTold_94 : decode cX12_partTold 94 = .ok (.sipush 999, 3) := by decide +kernel
theorem dX12_partTold_97 : decode cX12_partTold 97 = .ok (.invokevirtual 198, 3) := by decide +kernel
theorem dX12_partTold_100 : decode cX12_partTold 100 = .ok (.iastore, 1) := by decide +kernel
theorem dX12_partTold_101 : decode cX12_partTold 101 = .ok (.return_, 1) := by decide +kernel
theorem dX12_ruleTold_0 : decode cX12_ruleTold 0 = .ok (.aload_n 0, 1) := by decide +kernel
theorem dX12_ruleTold_1 : decode cX12_ruleTold 1 = .ok (.getfield 36, 3) := by decide +kernel
theorem dX12_ruleTold_4 : decode cX12_ruleTold 4 = .ok (.iconst 0, 1) := by decide +kernel
theorem dX12_ruleTold_5 : decode cX12_ruleTold 5 = .ok (.iaload, 1) := by decide +kernel
theorem dX12_ruleTold_6 : decode cX12_ruleTold 6 = .ok (.istore_n 2, 1) := by decide +kernel
theorem dX12_ruleTold_7 : decode cX12_ruleTold 7 = .ok (.iload_n 2, 1) := by decide +kernel
theorem dX12_ruleTold_8 : decode cX12_ruleTold 8 = .ok (.bipush 6, 2) := by decide +kernel
theorem dX12_ruleTold_10 : decode cX12_ruleTold 10 = .ok (.if_icmp .ne 9, 3) := by decide +kernel
theorem dX12_ruleTold_13 : decode cX12_ruleTold 13 = .ok (.aload_n 0, 1) := by decide +kernel
theorem dX12_ruleTold_14 : decode cX12_ruleTold 14 = .ok (.iconst 5, 1) := by decide +kernel
theorem dX12_ruleTold_15 : decode cX12_ruleTold 15 = .ok (.iload_n 1, 1) := by decide +kernel
theorem dX12_ruleTold_16 : decode cX12_ruleTold 16 = .ok (.invokevirtual 142, 3) := by decide +kernel
theorem dX12_ruleTold_19 : decode cX12_ruleTold 19 = .ok (.aload_n 0, 1) := by decide +kernel
theorem dX12_ruleTold_20 : decode cX12_ruleTold 20 = .ok (.getfield 117, 3) := by decide +kernel
theorem dX12_ruleTold_23 : decode cX12_ruleTold 23 = .ok (.ifCond .eq 4, 3) := by decide +kernel
theorem dX12_ruleTold_26 : decode cX12_ruleTold 26 = .ok (.return_, 1) := by decide +kernel
theorem dX12_ruleTold_27 : decode cX12_ruleTold 27 = .ok (.aload_n 0, 1) := by decide +kernel
theorem dX12_ruleTold_28 : decode cX12_ruleTold 28 = .ok (.getfield 36, 3) := by decide +kernel
theorem dX12_ruleTold_31 : decode cX12_ruleTold 31 = .ok (.iload_n 2, 1) := by decide +kernel
theorem dX12_ruleTold_32 : decode cX12_ruleTold 32 = .ok (.iconst 0, 1) := by decide +kernel
theorem dX12_ruleTold_33 : decode cX12_ruleTold 33 = .ok (.invokestatic 186, 3) := by decide +kernel
theorem dX12_ruleTold_36 : decode cX12_ruleTold 36 = .ok (.aload_n 0, 1) := by decide +kernel
theorem dX12_ruleTold_37 : decode cX12_ruleTold 37 = .ok (.invokevirtual 238, 3) := by decide +kernel
theorem dX12_ruleTold_40 : decode cX12_ruleTold 40 = .ok (.iastore, 1) := by decide +kernel
theorem dX12_ruleTold_41 : decode cX12_ruleTold 41 = .ok (.aload_n 0, 1) := by decide +kernel
theorem dX12_ruleTold_42 : decode cX12_ruleTold 42 = .ok (.bipush 18, 2) := by decide +kernel
theorem dX12_ruleTold_44 : decode cX12_ruleTold 44 = .ok (.invokevirtual 241, 3) := by decide +kernel
theorem dX12_ruleTold_47 : decode cX12_ruleTold 47 = .ok (.aload_n 0, 1) := by decide +kernel
theorem dX12_ruleTold_48 : decode cX12_ruleTold 48 = .ok (.getfield 36, 3) := by decide +kernel
theorem dX12_ruleTold_51 : decode cX12_ruleTold 51 = .ok (.iload_n 2, 1) := by decide +kernel
theorem dX12_ruleTold_52 : decode cX12_ruleTold 52 = .ok (.iconst 1, 1) := by decide +kernel
theorem dX12_ruleTold_53 : decode cX12_ruleTold 53 = .ok (.invokestatic 186, 3) := by decide +kernel
theorem dX12_ruleTold_56 : decode cX12_ruleTold 56 = .ok (.aload_n 0, 1) := by decide +kernel
theorem dX12_ruleTold_57 : decode cX12_ruleTold 57 = .ok (.iconst 1, 1) := by decide +kernel
theorem dX12_ruleTold_58 : decode cX12_ruleTold 58 = .ok (.bipush 99, 2) := by decide +kernel
theorem dX12_ruleTold_60 : decode cX12_ruleTold 60 = .ok (.invokevirtual 198, 3) := by decide +kernel
theorem dX12_ruleTold_63 : decode cX12_ruleTold 63 = .ok (.iastore, 1) := by decide +kernel
theorem dX12_ruleTold_64 : decode cX12_ruleTold 64 = .ok (.aload_n 0, 1) := by decide +kernel
theorem dX12_ruleTold_65 : decode cX12_ruleTold 65 = .ok (.invokevirtual 160, 3) := by decide +kernel
theorem dX12_ruleTold_68 : decode cX12_ruleTold 68 = .ok (.istore_n 3, 1) := by decide +kernel
theorem dX12_ruleTold_69 : decode cX12_ruleTold 69 = .ok (.aload_n 0, 1) := by decide +kernel
theorem dX12_ruleTold_70 : decode cX12_ruleTold 70 = .ok (.getfield 117, 3) := by decide +kernel
theorem dX12_ruleTold_73 : decode cX12_ruleTold 73 = .ok (.ifCond .ne 39, 3) := by decide +kernel
theorem dX12_ruleTold_76 : decode cX12_ruleTold 76 = .ok (.iload_n 3, 1) := by decide +kernel
theorem dX12_ruleTold_77 : decode cX12_ruleTold 77 = .ok (.i2l, 1) := by decide +kernel
theorem dX12_ruleTold_78 : decode cX12_ruleTold 78 = .ok (.lconst 0, 1) := by decide +kernel
theorem dX12_ruleTold_79 : decode cX12_ruleTold 79 = .ok (.ldc2_w 244, 3) := by decide +kernel
theorem dX12_ruleTold_82 : decode cX12_ruleTold 82 = .ok (.invokestatic 110, 3) := by decide +kernel
theorem dX12_ruleTold_85 : decode cX12_ruleTold 85 = .ok (.ifCond .ne 27, 3) := by decide +kernel
theorem dX12_ruleTold_88 : decode cX12_ruleTold 88 = .ok (.aload_n 0, 1) := by decide +kernel
theorem dX12_ruleTold_89 : decode cX12_ruleTold 89 = .ok (.iconst 1, 1) := by decide +kernel
theorem dX12_ruleTold_90 : decode cX12_ruleTold 90 = .ok (.aload_n 0, 1) := by decide +kernel
theorem dX12_ruleTold_91 : decode cX12_ruleTold 91 = .ok (.invokevirtual 129, 3) := by decide +kernel
theorem dX12_ruleTold_94 : decode cX12_ruleTold 94 = .ok (.iconst (-1), 1) := by decide +kernel
theorem dX12_ruleTold_95 : decode cX12_ruleTold 95 = .ok (.if_icmp .ne 10, 3) := by decide +kernel
theorem dX12_ruleTold_98 : decode cX12_ruleTold 98 = .ok (.aload_n 0, 1) := by decide +kernel
theorem dX12_ruleTold_99 : decode cX12_ruleTold 99 = .ok (.getfield 126, 3) := by decide +kernel
theorem dX12_ruleTold_102 : decode cX12_ruleTold 102 = .ok (.goto 7, 3) := by decide +kernel
theorem dX12_ruleTold_105 : decode cX12_ruleTold 105 = .ok (.aload_n 0, 1) := by decide +kernel
theorem dX12_ruleTold_106 : decode cX12_ruleTold 106 = .ok (.getfield 123, 3) := by decide +kernel
theorem dX12_ruleTold_109 : decode cX12_ruleTold 109 = .ok (.invokevirtual 142, 3) := by decide +kernel
theorem dX12_ruleTold_112 : decode cX12_ruleTold 112 = .ok (.aload_n 0, 1) := by decide +kernel
theorem dX12_ruleTold_113 : decode cX12_ruleTold 113 = .ok (.getfield 117, 3) := by decide +kernel
theorem dX12_ruleTold_116 : decode cX12_ruleTold 116 = .ok (.ifCond .ne 7, 3) := by decide +kernel
theorem dX12_ruleTold_119 : decode cX12_ruleTold 119 = .ok (.aload_n 0, 1) := by decide +kernel
theorem dX12_ruleTold_120 : decode cX12_ruleTold 120 = .ok (.invokevirtual 163, 3) := by decide +kernel
theorem dX12_ruleTold_123 : decode cX12_ruleTold 123 = .ok (.aload_n 0, 1) := by decide +kernel
theorem dX12_ruleTold_124 : decode cX12_ruleTold 124 = .ok (.getfield 36, 3) := by decide +kernel
theorem dX12_ruleTold_127 : decode cX12_ruleTold 127 = .ok (.iload_n 2, 1) := by decide +kernel
theorem dX12_ruleTold_128 : decode cX12_ruleTold 128 = .ok (.iconst 2, 1) := by decide +kernel
theorem dX12_ruleTold_129 : decode cX12_ruleTold 129 = .ok (.invokestatic 186, 3) := by decide +kernel
theorem dX12_ruleTold_132 : decode cX12_ruleTold 132 = .ok (.iload_n 3, 1) := by decide +kernel
theorem dX12_ruleTold_133 : decode cX12_ruleTold 133 = .ok (.iastore, 1) := by decide +kernel
theorem dX12_ruleTold_134 : decode cX12_ruleTold 134 = .ok (.aload_n 0, 1) := by decide +kernel
theorem dX12_ruleTold_135 : decode cX12_ruleTold 135 = .ok (.bipush 19, 2) := by decide +kernel
theorem dX12_ruleTold_137 : decode cX12_ruleTold 137 = .ok (.invokevirtual 241, 3) := by decide +kernel
theorem dX12_ruleTold_140 : decode cX12_ruleTold 140 = .ok (.aload_n 0, 1) := by decide +kernel
theorem dX12_ruleTold_141 : decode cX12_ruleTold 141 = .ok (.getfield 36, 3) := by decide +kernel
theorem dX12_ruleTold_144 : decode cX12_ruleTold 144 = .ok (.iload_n 2, 1) := by decide +kernel
theorem dX12_ruleTold_145 : decode cX12_ruleTold 145 = .ok (.iconst 3, 1) := by decide +kernel
theorem dX12_ruleTold_146 : decode cX12_ruleTold 146 = .ok (.invokestatic 186, 3) := by decide +kernel
theorem dX12_ruleTold_149 : decode cX12_ruleTold 149 = .ok (.aload_n 0, 1) := by decide +kernel
theorem dX12_ruleTold_150 : decode cX12_ruleTold 150 = .ok (.invokevirtual 235, 3) := by decide +kernel
theorem dX12_ruleTold_153 : decode cX12_ruleTold 153 = .ok (.iastore, 1) := by decide +kernel
theorem dX12_ruleTold_154 : decode cX12_ruleTold 154 = .ok (.aload_n 0, 1) := by decide +kernel
theorem dX12_ruleTold_155 : decode cX12_ruleTold 155 = .ok (.getfield 36, 3) := by decide +kernel
theorem dX12_ruleTold_158 : decode cX12_ruleTold 158 = .ok (.iload_n 2, 1) := by decide +kernel
theorem dX12_ruleTold_159 : decode cX12_ruleTold 159 = .ok (.bipush 40, 2) := by decide +kernel
theorem dX12_ruleTold_161 : decode cX12_ruleTold 161 = .ok (.invokestatic 186, 3) := by decide +kernel
theorem dX12_ruleTold_164 : decode cX12_ruleTold 164 = .ok (.iconst (-1), 1) := by decide +kernel
theorem dX12_ruleTold_165 : decode cX12_ruleTold 165 = .ok (.iastore, 1) := by decide +kernel
theorem dX12_ruleTold_166 : decode cX12_ruleTold 166 = .ok (.aload_n 0, 1) := by decide +kernel
theorem dX12_ruleTold_167 : decode cX12_ruleTold 167 = .ok (.getfield 36, 3) := by decide +kernel
theorem dX12_ruleTold_170 : decode cX12_ruleTold 170 = .ok (.iload_n 2, 1) := by decide +kernel
theorem dX12_ruleTold_171 : decode cX12_ruleTold 171 = .ok (.bipush 41, 2) := by decide +kernel
theorem dX12_ruleTold_173 : decode cX12_ruleTold 173 = .ok (.invokestatic 186, 3) := by decide +kernel
theorem dX12_ruleTold_176 : decode cX12_ruleTold 176 = .ok (.iconst (-1), 1) := by decide +kernel
theorem dX12_ruleTold_177 : decode cX12_ruleTold 177 = .ok (.iastore, 1) := by decide +kernel
theorem dX12_ruleTold_178 : decode cX12_ruleTold 178 = .ok (.iconst 0, 1) := by decide +kernel
theorem dX12_ruleTold_179 : decode cX12_ruleTold 179 = .ok (.istore 4, 2) := by decide +kernel
theorem dX12_ruleTold_181 : decode cX12_ruleTold 181 = .ok (.aload_n 0, 1) := by decide +kernel
theorem dX12_ruleTold_182 : decode cX12_ruleTold 182 = .ok (.invokevirtual 160, 3) := by decide +kernel
theorem dX12_ruleTold_185 : decode cX12_ruleTold 185 = .ok (.istore 5, 2) := by decide +kernel
theorem dX12_ruleTold_187 : decode cX12_ruleTold 187 = .ok (.aload_n 0, 1) := by decide +kernel
theorem dX12_ruleTold_188 : decode cX12_ruleTold 188 = .ok (.getfield 117, 3) := by decide +kernel
theorem dX12_ruleTold_191 : decode cX12_ruleTold 191 = .ok (.ifCond .ne 73, 3) := by decide +kernel
theorem dX12_ruleTold_194 : decode cX12_ruleTold 194 = .ok (.iload 5, 2) := by decide +kernel
theorem dX12_ruleTold_196 : decode cX12_ruleTold 196 = .ok (.i2l, 1) := by decide +kernel
theorem dX12_ruleTold_197 : decode cX12_ruleTold 197 = .ok (.ldc2_w 246, 3) := by decide +kernel
theorem dX12_ruleTold_200 : decode cX12_ruleTold 200 = .ok (.ldc2_w 248, 3) := by decide +kernel
theorem dX12_ruleTold_203 : decode cX12_ruleTold 203 = .ok (.invokestatic 110, 3) := by decide +kernel
theorem dX12_ruleTold_206 : decode cX12_ruleTold 206 = .ok (.ifCond .eq 58, 3) := by decide +kernel
theorem dX12_ruleTold_209 : decode cX12_ruleTold 209 = .ok (.iload 4, 2) := by decide +kernel
theorem dX12_ruleTold_211 : decode cX12_ruleTold 211 = .ok (.iload 5, 2) := by decide +kernel
theorem dX12_ruleTold_213 : decode cX12_ruleTold 213 = .ok (.invokestatic 212, 3) := by decide +kernel
theorem dX12_ruleTold_216 : decode cX12_ruleTold 216 = .ok (.ifCond .eq 12, 3) := by decide +kernel
theorem dX12_ruleTold_219 : decode cX12_ruleTold 219 = .ok (.aload_n 0, 1) := by decide +kernel
theorem dX12_ruleTold_220 : decode cX12_ruleTold 220 = .ok (.iconst 4, 1) := by decide +kernel
theorem dX12_ruleTold_221 : decode cX12_ruleTold 221 = .ok (.aload_n 0, 1) := by decide +kernel
theorem dX12_ruleTold_222 : decode cX12_ruleTold 222 = .ok (.getfield 123, 3) := by decide +kernel
theorem dX12_ruleTold_225 : decode cX12_ruleTold 225 = .ok (.invokevirtual 142, 3) := by decide +kernel
theorem dX12_ruleTold_228 : decode cX12_ruleTold 228 = .ok (.iload 4, 2) := by decide +kernel
theorem dX12_ruleTold_230 : decode cX12_ruleTold 230 = .ok (.iconst 1, 1) := by decide +kernel
theorem dX12_ruleTold_231 : decode cX12_ruleTold 231 = .ok (.iload 5, 2) := by decide +kernel
theorem dX12_ruleTold_233 : decode cX12_ruleTold 233 = .ok (.ishl, 1) := by decide +kernel
theorem dX12_ruleTold_234 : decode cX12_ruleTold 234 = .ok (.ior, 1) := by decide +kernel
theorem dX12_ruleTold_235 : decode cX12_ruleTold 235 = .ok (.istore 4, 2) := by decide +kernel
theorem dX12_ruleTold_237 : decode cX12_ruleTold 237 = .ok (.aload_n 0, 1) := by decide +kernel
theorem dX12_ruleTold_238 : decode cX12_ruleTold 238 = .ok (.getfield 117, 3) := by decide +kernel
theorem dX12_ruleTold_241 : decode cX12_ruleTold 241 = .ok (.ifCond .ne 7, 3) := by decide +kernel
theorem dX12_ruleTold_244 : decode cX12_ruleTold 244 = .ok (.aload_n 0, 1) := by decide +kernel
theorem dX12_ruleTold_245 : decode cX12_ruleTold 245 = .ok (.invokevirtual 163, 3) := by decide +kernel
theorem dX12_ruleTold_248 : decode cX12_ruleTold 248 = .ok (.aload_n 0, 1) := by decide +kernel
theorem dX12_ruleTold_249 : decode cX12_ruleTold 249 = .ok (.iload_n 2, 1) := by decide +kernel
theorem dX12_ruleTold_250 : decode cX12_ruleTold 250 = .ok (.iload 5, 2) := by decide +kernel
theorem dX12_ruleTold_252 : decode cX12_ruleTold 252 = .ok (.invokevirtual 250, 3) := by decide +kernel
theorem dX12_ruleTold_255 : decode cX12_ruleTold 255 = .ok (.aload_n 0, 1) := by decide +kernel
theorem dX12_ruleTold_256 : decode cX12_ruleTold 256 = .ok (.invokevirtual 160, 3) := by decide +kernel
theorem dX12_ruleTold_259 : decode cX12_ruleTold 259 = .ok (.istore 5, 2) := by decide +kernel
theorem dX12_ruleTold_261 : decode cX12_ruleTold 261 = .ok (.goto (-74), 3) := by decide +kernel
theorem dX12_ruleTold_264 : decode cX12_ruleTold 264 = .ok (.aload_n 0, 1) := by decide +kernel
theorem dX12_ruleTold_265 : decode cX12_ruleTold 265 = .ok (.getfield 117, 3) := by decide +kernel
theorem dX12_ruleTold_268 : decode cX12_ruleTold 268 = .ok (.ifCond .ne 13, 3) := by decide +kernel
theorem dX12_ruleTold_271 : decode cX12_ruleTold 271 = .ok (.aload_n 0, 1) := by decide +kernel
theorem dX12_ruleTold_272 : decode cX12_ruleTold 272 = .ok (.getfield 36, 3) := by decide +kernel
theorem dX12_ruleTold_275 : decode cX12_ruleTold 275 = .ok (.iconst 0, 1) := by decide +kernel
theorem dX12_ruleTold_276 : decode cX12_ruleTold 276 = .ok (.dup2, 1) := by decide +kernel
theorem dX12_ruleTold_277 : decode cX12_ruleTold 277 = .ok (.iaload, 1) := by decide +kernel
theorem dX12_ruleTold_278 : decode cX12_ruleTold 278 = .ok (.iconst 1, 1) := by decide +kernel
theorem dX12_ruleTold_279 : decode cX12_ruleTold 279 = .ok (.iadd, 1) := by decide +kernel
theorem dX12_ruleTold_280 : decode cX12_ruleTold 280 = .ok (.iastore, 1) := by decide +kernel
theorem dX12_ruleTold_281 : decode cX12_ruleTold 281 = .ok (.return_, 1) := by decide +kernel
theorem dX12_codes_0 : decode cX12_codes 0 = .ok (.aload_n 0, 1) := by decide +kernel
theorem dX12_codes_1 : decode cX12_codes 1 = .ok (.getfield 117, 3) := by decide +kernel
theorem dX12_codes_4 : decode cX12_codes 4 = .ok (.ifCond .eq 4, 3) := by decide +kernel
theorem dX12_codes_7 : decode cX12_codes 7 = .ok (.return_, 1) := by decide +kernel
theorem dX12_codes_8 : decode cX12_codes 8 = .ok (.aload_n 0, 1) := by decide +kernel
theorem dX12_codes_9 : decode cX12_codes 9 = .ok (.getfield 42, 3) := by decide +kernel
theorem dX12_codes_12 : decode cX12_codes 12 = .ok (.iconst 2, 1) := by decide +kernel
theorem dX12_codes_13 : decode cX12_codes 13 = .ok (.aload_n 0, 1) := by decide +kernel
theorem dX12_codes_14 : decode cX12_codes 14 = .ok (.getfield 253, 3) := by decide +kernel
theorem dX12_codes_17 : decode cX12_codes 17 = .ok (.imul, 1) := by decide +kernel
theorem dX12_codes_18 : decode cX12_codes 18 = .ok (.iload_n 1, 1) := by decide +kernel
theorem dX12_codes_19 : decode cX12_codes 19 = .ok (.iastore, 1) := by decide +kernel
theorem dX12_codes_20 : decode cX12_codes 20 = .ok (.aload_n 0, 1) := by decide +kernel
theorem dX12_codes_21 : decode cX12_codes 21 = .ok (.getfield 42, 3) := by decide +kernel
theorem dX12_codes_24 : decode cX12_codes 24 = .ok (.iconst 2, 1) := by decide +kernel
theorem dX12_codes_25 : decode cX12_codes 25 = .ok (.aload_n 0, 1) := by decide +kernel
theorem dX12_codes_26 : decode cX12_codes 26 = .ok (.getfield 253, 3) := by decide +kernel
theorem dX12_codes_29 : decode cX12_codes 29 = .ok (.imul, 1) := by decide +kernel
theorem dX12_codes_30 : decode cX12_codes 30 = .ok (.iconst 1, 1) := by decide +kernel
theorem dX12_codes_31 : decode cX12_codes 31 = .ok (.iadd, 1) := by decide +kernel
theorem dX12_codes_32 : decode cX12_codes 32 = .ok (.iload_n 2, 1) := by decide +kernel
theorem dX12_codes_33 : decode cX12_codes 33 = .ok (.iastore, 1) := by decide +kernel
theorem dX12_codes_34 : decode cX12_codes 34 = .ok (.aload_n 0, 1) := by decide +kernel
theorem dX12_codes_35 : decode cX12_codes 35 = .ok (.dup, 1) := by decide +kernel
theorem dX12_codes_36 : decode cX12_codes 36 = .ok (.getfield 253, 3) := by decide +kernel
theorem dX12_codes_39 : decode cX12_codes 39 = .ok (.iconst 1, 1) := by decide +kernel
theorem dX12_codes_40 : decode cX12_codes 40 = .ok (.iadd, 1) := by decide +kernel
theorem dX12_codes_41 : decode cX12_codes 41 = .ok (.putfield 253, 3) := by decide +kernel
theorem dX12_codes_44 : decode cX12_codes 44 = .ok (.return_, 1) := by decide +kernel
theorem dX12_opens_0 : decode cX12_opens 0 = .ok (.aload_n 0, 1) := by decide +kernel
theorem dX12_opens_1 : decode cX12_opens 1 = .ok (.getfield 117, 3) := by decide +kernel
theorem dX12_opens_4 : decode cX12_opens 4 = .ok (.ifCond .eq 4, 3) := by decide +kernel
theorem dX12_opens_7 : decode cX12_opens 7 = .ok (.return_, 1) := by decide +kernel
theorem dX12_opens_8 : decode cX12_opens 8 = .ok (.aload_n 0, 1) := by decide +kernel
theorem dX12_opens_9 : decode cX12_opens 9 = .ok (.getfield 48, 3) := by decide +kernel
theorem dX12_opens_12 : decode cX12_opens 12 = .ok (.aload_n 0, 1) := by decide +kernel
theorem dX12_opens_13 : decode cX12_opens 13 = .ok (.getfield 256, 3) := by decide +kernel
theorem dX12_opens_16 : decode cX12_opens 16 = .ok (.iload_n 1, 1) := by decide +kernel
theorem dX12_opens_17 : decode cX12_opens 17 = .ok (.iastore, 1) := by decide +kernel
theorem dX12_opens_18 : decode cX12_opens 18 = .ok (.aload_n 0, 1) := by decide +kernel
theorem dX12_opens_19 : decode cX12_opens 19 = .ok (.dup, 1) := by decide +kernel
theorem dX12_opens_20 : decode cX12_opens 20 = .ok (.getfield 256, 3) := by decide +kernel
theorem dX12_opens_23 : decode cX12_opens 23 = .ok (.iconst 1, 1) := by decide +kernel
theorem dX12_opens_24 : decode cX12_opens 24 = .ok (.iadd, 1) := by decide +kernel
theorem dX12_opens_25 : decode cX12_opens 25 = .ok (.putfield 256, 3) := by decide +kernel
theorem dX12_opens_28 : decode cX12_opens 28 = .ok (.return_, 1) := by decide +kernel
theorem dX12_joins_0 : decode cX12_joins 0 = .ok (.aload_n 0, 1) := by decide +kernel
theorem dX12_joins_1 : decode cX12_joins 1 = .ok (.getfield 256, 3) := by decide +kernel
theorem dX12_joins_4 : decode cX12_joins 4 = .ok (.ifCond .le 89, 3) := by decide +kernel
theorem dX12_joins_7 : decode cX12_joins 7 = .ok (.aload_n 0, 1) := by decide +kernel
theorem dX12_joins_8 : decode cX12_joins 8 = .ok (.getfield 48, 3) := by decide +kernel
theorem dX12_joins_11 : decode cX12_joins 11 = .ok (.aload_n 0, 1) := by decide +kernel
theorem dX12_joins_12 : decode cX12_joins 12 = .ok (.getfield 256, 3) := by decide +kernel
theorem dX12_joins_15 : decode cX12_joins 15 = .ok (.iconst 1, 1) := by decide +kernel
theorem dX12_joins_16 : decode cX12_joins 16 = .ok (.isub, 1) := by decide +kernel
theorem dX12_joins_17 : decode cX12_joins 17 = .ok (.iaload, 1) := by decide +kernel
theorem dX12_joins_18 : decode cX12_joins 18 = .ok (.ifCond .eq 75, 3) := by decide +kernel
theorem dX12_joins_21 : decode cX12_joins 21 = .ok (.iload_n 1, 1) := by decide +kernel
