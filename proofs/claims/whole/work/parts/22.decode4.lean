theorem dX11_day_36 : decode cX11_day 36 = .ok (.invokevirtual 245, 3) := by decide +kernel
theorem dX11_day_39 : decode cX11_day 39 = .ok (.iadd, 1) := by decide +kernel
theorem dX11_day_40 : decode cX11_day 40 = .ok (.iconst 0, 1) := by decide +kernel
theorem dX11_day_41 : decode cX11_day 41 = .ok (.bipush 99, 2) := by decide +kernel
theorem dX11_day_43 : decode cX11_day 43 = .ok (.invokestatic 143, 3) := by decide +kernel
theorem dX11_day_46 : decode cX11_day 46 = .ok (.iastore, 1) := by decide +kernel
theorem dX11_day_47 : decode cX11_day 47 = .ok (.iinc 1 1, 3) := by decide +kernel
theorem dX11_day_50 : decode cX11_day 50 = .ok (.goto (-48), 3) := by decide +kernel
theorem dX11_day_53 : decode cX11_day 53 = .ok (.iconst 0, 1) := by decide +kernel
theorem dX11_day_54 : decode cX11_day 54 = .ok (.istore_n 1, 1) := by decide +kernel
theorem dX11_day_55 : decode cX11_day 55 = .ok (.iload_n 1, 1) := by decide +kernel
theorem dX11_day_56 : decode cX11_day 56 = .ok (.bipush 31, 2) := by decide +kernel
theorem dX11_day_58 : decode cX11_day 58 = .ok (.if_icmp .ge 30, 3) := by decide +kernel
theorem dX11_day_61 : decode cX11_day 61 = .ok (.aload_n 0, 1) := by decide +kernel
theorem dX11_day_62 : decode cX11_day 62 = .ok (.iload_n 1, 1) := by decide +kernel
theorem dX11_day_63 : decode cX11_day 63 = .ok (.invokevirtual 75, 3) := by decide +kernel
theorem dX11_day_66 : decode cX11_day 66 = .ok (.ifCond .ne 16, 3) := by decide +kernel
theorem dX11_day_69 : decode cX11_day 69 = .ok (.aload_n 0, 1) := by decide +kernel
theorem dX11_day_70 : decode cX11_day 70 = .ok (.iload_n 1, 1) := by decide +kernel
theorem dX11_day_71 : decode cX11_day 71 = .ok (.invokevirtual 183, 3) := by decide +kernel
theorem dX11_day_74 : decode cX11_day 74 = .ok (.ifCond .gt 8, 3) := by decide +kernel
theorem dX11_day_77 : decode cX11_day 77 = .ok (.aload_n 0, 1) := by decide +kernel
theorem dX11_day_78 : decode cX11_day 78 = .ok (.iload_n 1, 1) := by decide +kernel
theorem dX11_day_79 : decode cX11_day 79 = .ok (.invokevirtual 192, 3) := by decide +kernel
theorem dX11_day_82 : decode cX11_day 82 = .ok (.iinc 1 1, 3) := by decide +kernel
theorem dX11_day_85 : decode cX11_day 85 = .ok (.goto (-30), 3) := by decide +kernel
theorem dX11_day_88 : decode cX11_day 88 = .ok (.aload_n 0, 1) := by decide +kernel
theorem dX11_day_89 : decode cX11_day 89 = .ok (.getfield 7, 3) := by decide +kernel
theorem dX11_day_92 : decode cX11_day 92 = .ok (.iconst 0, 1) := by decide +kernel
theorem dX11_day_93 : decode cX11_day 93 = .ok (.dup2, 1) := by decide +kernel
theorem dX11_day_94 : decode cX11_day 94 = .ok (.iaload, 1) := by decide +kernel
theorem dX11_day_95 : decode cX11_day 95 = .ok (.iconst 1, 1) := by decide +kernel
theorem dX11_day_96 : decode cX11_day 96 = .ok (.iadd, 1) := by decide +kernel
theorem dX11_day_97 : decode cX11_day 97 = .ok (.iastore, 1) := by decide +kernel
theorem dX11_day_98 : decode cX11_day 98 = .ok (.return_, 1) := by decide +kernel
theorem dX11_go_0 : decode cX11_go 0 = .ok (.iconst 0, 1) := by decide +kernel
theorem dX11_go_1 : decode cX11_go 1 = .ok (.istore_n 2, 1) := by decide +kernel
theorem dX11_go_2 : decode cX11_go 2 = .ok (.iload_n 2, 1) := by decide +kernel
theorem dX11_go_3 : decode cX11_go 3 = .ok (.iload_n 1, 1) := by decide +kernel
theorem dX11_go_4 : decode cX11_go 4 = .ok (.if_icmp .ge 13, 3) := by decide +kernel
theorem dX11_go_7 : decode cX11_go 7 = .ok (.aload_n 0, 1) := by decide +kernel
theorem dX11_go_8 : decode cX11_go 8 = .ok (.invokevirtual 248, 3) := by decide +kernel
theorem dX11_go_11 : decode cX11_go 11 = .ok (.iinc 2 1, 3) := by decide +kernel
theorem dX11_go_14 : decode cX11_go 14 = .ok (.goto (-12), 3) := by decide +kernel
theorem dX11_go_17 : decode cX11_go 17 = .ok (.return_, 1) := by decide +kernel
theorem dX11_days_0 : decode cX11_days 0 = .ok (.iload_n 1, 1) := by decide +kernel
theorem dX11_days_1 : decode cX11_days 1 = .ok (.iconst 1, 1) := by decide +kernel
theorem dX11_days_2 : decode cX11_days 2 = .ok (.bipush 60, 2) := by decide +kernel
theorem dX11_days_4 : decode cX11_days 4 = .ok (.invokestatic 60, 3) := by decide +kernel
theorem dX11_days_7 : decode cX11_days 7 = .ok (.ifCond .ne 9, 3) := by decide +kernel
theorem dX11_days_10 : decode cX11_days 10 = .ok (.aload_n 0, 1) := by decide +kernel
theorem dX11_days_11 : decode cX11_days 11 = .ok (.iconst 1, 1) := by decide +kernel
theorem dX11_days_12 : decode cX11_days 12 = .ok (.invokevirtual 79, 3) := by decide +kernel
theorem dX11_days_15 : decode cX11_days 15 = .ok (.ireturn, 1) := by decide +kernel
theorem dX11_days_16 : decode cX11_days 16 = .ok (.aload_n 0, 1) := by decide +kernel
theorem dX11_days_17 : decode cX11_days 17 = .ok (.getfield 7, 3) := by decide +kernel
theorem dX11_days_20 : decode cX11_days 20 = .ok (.iconst 0, 1) := by decide +kernel
theorem dX11_days_21 : decode cX11_days 21 = .ok (.iaload, 1) := by decide +kernel
theorem dX11_days_22 : decode cX11_days 22 = .ok (.iload_n 1, 1) := by decide +kernel
theorem dX11_days_23 : decode cX11_days 23 = .ok (.iadd, 1) := by decide +kernel
theorem dX11_days_24 : decode cX11_days 24 = .ok (.sipush 9999, 3) := by decide +kernel
theorem dX11_days_27 : decode cX11_days 27 = .ok (.if_icmp .le 9, 3) := by decide +kernel
theorem dX11_days_30 : decode cX11_days 30 = .ok (.aload_n 0, 1) := by decide +kernel
theorem dX11_days_31 : decode cX11_days 31 = .ok (.iconst 3, 1) := by decide +kernel
theorem dX11_days_32 : decode cX11_days 32 = .ok (.invokevirtual 79, 3) := by decide +kernel
theorem dX11_days_35 : decode cX11_days 35 = .ok (.ireturn, 1) := by decide +kernel
theorem dX11_days_36 : decode cX11_days 36 = .ok (.aload_n 0, 1) := by decide +kernel
theorem dX11_days_37 : decode cX11_days 37 = .ok (.iload_n 1, 1) := by decide +kernel
theorem dX11_days_38 : decode cX11_days 38 = .ok (.invokevirtual 251, 3) := by decide +kernel
theorem dX11_days_41 : decode cX11_days 41 = .ok (.aload_n 0, 1) := by decide +kernel
theorem dX11_days_42 : decode cX11_days 42 = .ok (.invokevirtual 196, 3) := by decide +kernel
theorem dX11_days_45 : decode cX11_days 45 = .ok (.ireturn, 1) := by decide +kernel
theorem dX11_draw_0 : decode cX11_draw 0 = .ok (.aload_n 0, 1) := by decide +kernel
theorem dX11_draw_1 : decode cX11_draw 1 = .ok (.getfield 7, 3) := by decide +kernel
theorem dX11_draw_4 : decode cX11_draw 4 = .ok (.iconst 4, 1) := by decide +kernel
theorem dX11_draw_5 : decode cX11_draw 5 = .ok (.aload_n 0, 1) := by decide +kernel
theorem dX11_draw_6 : decode cX11_draw 6 = .ok (.getfield 7, 3) := by decide +kernel
theorem dX11_draw_9 : decode cX11_draw 9 = .ok (.iconst 4, 1) := by decide +kernel
theorem dX11_draw_10 : decode cX11_draw 10 = .ok (.iaload, 1) := by decide +kernel
theorem dX11_draw_11 : decode cX11_draw 11 = .ok (.ldc 254, 2) := by decide +kernel
theorem dX11_draw_13 : decode cX11_draw 13 = .ok (.imul, 1) := by decide +kernel
theorem dX11_draw_14 : decode cX11_draw 14 = .ok (.sipush 12345, 3) := by decide +kernel
theorem dX11_draw_17 : decode cX11_draw 17 = .ok (.iadd, 1) := by decide +kernel
theorem dX11_draw_18 : decode cX11_draw 18 = .ok (.iastore, 1) := by decide +kernel
theorem dX11_draw_19 : decode cX11_draw 19 = .ok (.aload_n 0, 1) := by decide +kernel
theorem dX11_draw_20 : decode cX11_draw 20 = .ok (.getfield 7, 3) := by decide +kernel
theorem dX11_draw_23 : decode cX11_draw 23 = .ok (.iconst 4, 1) := by decide +kernel
theorem dX11_draw_24 : decode cX11_draw 24 = .ok (.iaload, 1) := by decide +kernel
theorem dX11_draw_25 : decode cX11_draw 25 = .ok (.bipush 8, 2) := by decide +kernel
theorem dX11_draw_27 : decode cX11_draw 27 = .ok (.iushr, 1) := by decide +kernel
theorem dX11_draw_28 : decode cX11_draw 28 = .ok (.ireturn, 1) := by decide +kernel
theorem dX11_draws_0 : decode cX11_draws 0 = .ok (.iload_n 1, 1) := by decide +kernel
theorem dX11_draws_1 : decode cX11_draws 1 = .ok (.iconst 1, 1) := by decide +kernel
theorem dX11_draws_2 : decode cX11_draws 2 = .ok (.bipush 60, 2) := by decide +kernel
theorem dX11_draws_4 : decode cX11_draws 4 = .ok (.invokestatic 60, 3) := by decide +kernel
theorem dX11_draws_7 : decode cX11_draws 7 = .ok (.ifCond .ne 9, 3) := by decide +kernel
theorem dX11_draws_10 : decode cX11_draws 10 = .ok (.aload_n 0, 1) := by decide +kernel
theorem dX11_draws_11 : decode cX11_draws 11 = .ok (.iconst 1, 1) := by decide +kernel
theorem dX11_draws_12 : decode cX11_draws 12 = .ok (.invokevirtual 79, 3) := by decide +kernel
theorem dX11_draws_15 : decode cX11_draws 15 = .ok (.ireturn, 1) := by decide +kernel
theorem dX11_draws_16 : decode cX11_draws 16 = .ok (.aload_n 0, 1) := by decide +kernel
theorem dX11_draws_17 : decode cX11_draws 17 = .ok (.getfield 7, 3) := by decide +kernel
theorem dX11_draws_20 : decode cX11_draws 20 = .ok (.iconst 0, 1) := by decide +kernel
theorem dX11_draws_21 : decode cX11_draws 21 = .ok (.iaload, 1) := by decide +kernel
theorem dX11_draws_22 : decode cX11_draws 22 = .ok (.iload_n 1, 1) := by decide +kernel
theorem dX11_draws_23 : decode cX11_draws 23 = .ok (.iadd, 1) := by decide +kernel
theorem dX11_draws_24 : decode cX11_draws 24 = .ok (.sipush 9999, 3) := by decide +kernel
theorem dX11_draws_27 : decode cX11_draws 27 = .ok (.if_icmp .le 9, 3) := by decide +kernel
theorem dX11_draws_30 : decode cX11_draws 30 = .ok (.aload_n 0, 1) := by decide +kernel
theorem dX11_draws_31 : decode cX11_draws 31 = .ok (.iconst 3, 1) := by decide +kernel
theorem dX11_draws_32 : decode cX11_draws 32 = .ok (.invokevirtual 79, 3) := by decide +kernel
theorem dX11_draws_35 : decode cX11_draws 35 = .ok (.ireturn, 1) := by decide +kernel
theorem dX11_draws_36 : decode cX11_draws 36 = .ok (.iconst 0, 1) := by decide +kernel
theorem dX11_draws_37 : decode cX11_draws 37 = .ok (.istore_n 2, 1) := by decide +kernel
theorem dX11_draws_38 : decode cX11_draws 38 = .ok (.iload_n 2, 1) := by decide +kernel
theorem dX11_draws_39 : decode cX11_draws 39 = .ok (.iload_n 1, 1) := by decide +kernel
theorem dX11_draws_40 : decode cX11_draws 40 = .ok (.if_icmp .ge 24, 3) := by decide +kernel
theorem dX11_draws_43 : decode cX11_draws 43 = .ok (.aload_n 0, 1) := by decide +kernel
theorem dX11_draws_44 : decode cX11_draws 44 = .ok (.aload_n 0, 1) := by decide +kernel
theorem dX11_draws_45 : decode cX11_draws 45 = .ok (.invokevirtual 255, 3) := by decide +kernel
theorem dX11_draws_48 : decode cX11_draws 48 = .ok (.bipush 31, 2) := by decide +kernel
theorem dX11_draws_50 : decode cX11_draws 50 = .ok (.irem, 1) := by decide +kernel
theorem dX11_draws_51 : decode cX11_draws 51 = .ok (.invokevirtual 192, 3) := by decide +kernel
theorem dX11_draws_54 : decode cX11_draws 54 = .ok (.aload_n 0, 1) := by decide +kernel
theorem dX11_draws_55 : decode cX11_draws 55 = .ok (.invokevirtual 248, 3) := by decide +kernel
theorem dX11_draws_58 : decode cX11_draws 58 = .ok (.iinc 2 1, 3) := by decide +kernel
theorem dX11_draws_61 : decode cX11_draws 61 = .ok (.goto (-23), 3) := by decide +kernel
theorem dX11_draws_64 : decode cX11_draws 64 = .ok (.aload_n 0, 1) := by decide +kernel
theorem dX11_draws_65 : decode cX11_draws 65 = .ok (.invokevirtual 196, 3) := by decide +kernel
theorem dX11_draws_68 : decode cX11_draws 68 = .ok (.ireturn, 1) := by decide +kernel
theorem dX11_seed_0 : decode cX11_seed 0 = .ok (.aload_n 0, 1) := by decide +kernel
theorem dX11_seed_1 : decode cX11_seed 1 = .ok (.iconst 4, 1) := by decide +kernel
theorem dX11_seed_2 : decode cX11_seed 2 = .ok (.iload_n 1, 1) := by decide +kernel
theorem dX11_seed_3 : decode cX11_seed 3 = .ok (.invokevirtual 199, 3) := by decide +kernel
theorem dX11_seed_6 : decode cX11_seed 6 = .ok (.ireturn, 1) := by decide +kernel
theorem dX11_then_0 : decode cX11_then 0 = .ok (.iload_n 1, 1) := by decide +kernel
theorem dX11_then_1 : decode cX11_then 1 = .ok (.iconst 0, 1) := by decide +kernel
theorem dX11_then_2 : decode cX11_then 2 = .ok (.bipush 60, 2) := by decide +kernel
theorem dX11_then_4 : decode cX11_then 4 = .ok (.invokestatic 60, 3) := by decide +kernel
theorem dX11_then_7 : decode cX11_then 7 = .ok (.ifCond .eq 19, 3) := by decide +kernel
theorem dX11_then_10 : decode cX11_then 10 = .ok (.iload_n 2, 1) := by decide +kernel
theorem dX11_then_11 : decode cX11_then 11 = .ok (.invokestatic 186, 3) := by decide +kernel
theorem dX11_then_14 : decode cX11_then 14 = .ok (.ifCond .eq 12, 3) := by decide +kernel
theorem dX11_then_17 : decode cX11_then 17 = .ok (.iload_n 3, 1) := by decide +kernel
theorem dX11_then_18 : decode cX11_then 18 = .ok (.iconst 0, 1) := by decide +kernel
theorem dX11_then_19 : decode cX11_then 19 = .ok (.iconst 5, 1) := by decide +kernel
theorem dX11_then_20 : decode cX11_then 20 = .ok (.invokestatic 60, 3) := by decide +kernel
theorem dX11_then_23 : decode cX11_then 23 = .ok (.ifCond .ne 9, 3) := by decide +kernel
theorem dX11_then_26 : decode cX11_then 26 = .ok (.aload_n 0, 1) := by decide +kernel
theorem dX11_then_27 : decode cX11_then 27 = .ok (.iconst 1, 1) := by decide +kernel
theorem dX11_then_28 : decode cX11_then 28 = .ok (.invokevirtual 79, 3) := by decide +kernel
theorem dX11_then_31 : decode cX11_then 31 = .ok (.ireturn, 1) := by decide +kernel
theorem dX11_then_32 : decode cX11_then 32 = .ok (.aload_n 0, 1) := by decide +kernel
theorem dX11_then_33 : decode cX11_then 33 = .ok (.invokevirtual 258, 3) := by decide +kernel
theorem dX11_then_36 : decode cX11_then 36 = .ok (.aload_n 0, 1) := by decide +kernel
theorem dX11_then_37 : decode cX11_then 37 = .ok (.iload_n 1, 1) := by decide +kernel
theorem dX11_then_38 : decode cX11_then 38 = .ok (.invokevirtual 251, 3) := by decide +kernel
theorem dX11_then_41 : decode cX11_then 41 = .ok (.aload_n 0, 1) := by decide +kernel
theorem dX11_then_42 : decode cX11_then 42 = .ok (.iload_n 2, 1) := by decide +kernel
theorem dX11_then_43 : decode cX11_then 43 = .ok (.iload_n 3, 1) := by decide +kernel
theorem dX11_then_44 : decode cX11_then 44 = .ok (.invokevirtual 189, 3) := by decide +kernel
theorem dX11_then_47 : decode cX11_then 47 = .ok (.istore 4, 2) := by decide +kernel
theorem dX11_then_49 : decode cX11_then 49 = .ok (.aload_n 0, 1) := by decide +kernel
theorem dX11_then_50 : decode cX11_then 50 = .ok (.invokevirtual 261, 3) := by decide +kernel
theorem dX11_then_53 : decode cX11_then 53 = .ok (.iload 4, 2) := by decide +kernel
theorem dX11_then_55 : decode cX11_then 55 = .ok (.ireturn, 1) := by decide +kernel
theorem dX11_goes_0 : decode cX11_goes 0 = .ok (.iload_n 1, 1) := by decide +kernel
theorem dX11_goes_1 : decode cX11_goes 1 = .ok (.iconst 1, 1) := by decide +kernel
theorem dX11_goes_2 : decode cX11_goes 2 = .ok (.bipush 60, 2) := by decide +kernel
theorem dX11_goes_4 : decode cX11_goes 4 = .ok (.invokestatic 60, 3) := by decide +kernel
theorem dX11_goes_7 : decode cX11_goes 7 = .ok (.ifCond .eq 12, 3) := by decide +kernel
theorem dX11_goes_10 : decode cX11_goes 10 = .ok (.iload_n 2, 1) := by decide +kernel
theorem dX11_goes_11 : decode cX11_goes 11 = .ok (.iconst 0, 1) := by decide +kernel
theorem dX11_goes_12 : decode cX11_goes 12 = .ok (.iconst 1, 1) := by decide +kernel
theorem dX11_goes_13 : decode cX11_goes 13 = .ok (.invokestatic 60, 3) := by decide +kernel
theorem dX11_goes_16 : decode cX11_goes 16 = .ok (.ifCond .ne 9, 3) := by decide +kernel
theorem dX11_goes_19 : decode cX11_goes 19 = .ok (.aload_n 0, 1) := by decide +kernel
theorem dX11_goes_20 : decode cX11_goes 20 = .ok (.iconst 1, 1) := by decide +kernel
theorem dX11_goes_21 : decode cX11_goes 21 = .ok (.invokevirtual 79, 3) := by decide +kernel
theorem dX11_goes_24 : decode cX11_goes 24 = .ok (.ireturn, 1) := by decide +kernel
theorem dX11_goes_25 : decode cX11_goes 25 = .ok (.aload_n 0, 1) := by decide +kernel
theorem dX11_goes_26 : decode cX11_goes 26 = .ok (.invokevirtual 174, 3) := by decide +kernel
theorem dX11_goes_29 : decode cX11_goes 29 = .ok (.istore_n 3, 1) := by decide +kernel
theorem dX11_goes_30 : decode cX11_goes 30 = .ok (.aload_n 0, 1) := by decide +kernel
theorem dX11_goes_31 : decode cX11_goes 31 = .ok (.invokevirtual 258, 3) := by decide +kernel
theorem dX11_goes_34 : decode cX11_goes 34 = .ok (.iconst 0, 1) := by decide +kernel
theorem dX11_goes_35 : decode cX11_goes 35 = .ok (.istore 4, 2) := by decide +kernel
theorem dX11_goes_37 : decode cX11_goes 37 = .ok (.iload 4, 2) := by decide +kernel
theorem dX11_goes_39 : decode cX11_goes 39 = .ok (.iload_n 1, 1) := by decide +kernel
theorem dX11_goes_40 : decode cX11_goes 40 = .ok (.if_icmp .ge 21, 3) := by decide +kernel
theorem dX11_goes_43 : decode cX11_goes 43 = .ok (.aload_n 0, 1) := by decide +kernel
theorem dX11_goes_44 : decode cX11_goes 44 = .ok (.invokevirtual 174, 3) := by decide +kernel
theorem dX11_goes_47 : decode cX11_goes 47 = .ok (.iload_n 3, 1) := by decide +kernel
theorem dX11_goes_48 : decode cX11_goes 48 = .ok (.if_icmp .ne 13, 3) := by decide +kernel
theorem dX11_goes_51 : decode cX11_goes 51 = .ok (.aload_n 0, 1) := by decide +kernel
theorem dX11_goes_52 : decode cX11_goes 52 = .ok (.invokevirtual 248, 3) := by decide +kernel
theorem dX11_goes_55 : decode cX11_goes 55 = .ok (.iinc 4 1, 3) := by decide +kernel
theorem dX11_goes_58 : decode cX11_goes 58 = .ok (.goto (-21), 3) := by decide +kernel
theorem dX11_goes_61 : decode cX11_goes 61 = .ok (.aload_n 0, 1) := by decide +kernel
theorem dX11_goes_62 : decode cX11_goes 62 = .ok (.invokevirtual 174, 3) := by decide +kernel
theorem dX11_goes_65 : decode cX11_goes 65 = .ok (.iload_n 3, 1) := by decide +kernel
theorem dX11_goes_66 : decode cX11_goes 66 = .ok (.iconst (-1), 1) := by decide +kernel
theorem dX11_goes_67 : decode cX11_goes 67 = .ok (.ixor, 1) := by decide +kernel
theorem dX11_goes_68 : decode cX11_goes 68 = .ok (.iand, 1) := by decide +kernel
theorem dX11_goes_69 : decode cX11_goes 69 = .ok (.istore 5, 2) := by decide +kernel
theorem dX11_goes_71 : decode cX11_goes 71 = .ok (.aload_n 0, 1) := by decide +kernel
theorem dX11_goes_72 : decode cX11_goes 72 = .ok (.invokevirtual 261, 3) := by decide +kernel
theorem dX11_goes_75 : decode cX11_goes 75 = .ok (.iload 5, 2) := by decide +kernel
theorem dX11_goes_77 : decode cX11_goes 77 = .ok (.ifCond .ne 9, 3) := by decide +kernel
theorem dX11_goes_80 : decode cX11_goes 80 = .ok (.aload_n 0, 1) := by decide +kernel
theorem dX11_goes_81 : decode cX11_goes 81 = .ok (.iconst 2, 1) := by decide +kernel
theorem dX11_goes_82 : decode cX11_goes 82 = .ok (.invokevirtual 79, 3) := by decide +kernel
theorem dX11_goes_85 : decode cX11_goes 85 = .ok (.ireturn, 1) := by decide +kernel
theorem dX11_goes_86 : decode cX11_goes 86 = .ok (.iload_n 2, 1) := by decide +kernel
theorem dX11_goes_87 : decode cX11_goes 87 = .ok (.ifCond .ne 11, 3) := by decide +kernel
theorem dX11_goes_90 : decode cX11_goes 90 = .ok (.iload 5, 2) := by decide +kernel
theorem dX11_goes_92 : decode cX11_goes 92 = .ok (.invokestatic 214, 3) := by decide +kernel
theorem dX11_goes_95 : decode cX11_goes 95 = .ok (.goto 5, 3) := by decide +kernel
theorem dX11_goes_98 : decode cX11_goes 98 = .ok (.iload 4, 2) := by decide +kernel
theorem dX11_goes_100 : decode cX11_goes 100 = .ok (.ireturn, 1) := by decide +kernel
theorem dX11_mendAhead_0 : decode cX11_mendAhead 0 = .ok (.iload_n 1, 1) := by decide +kernel
theorem dX11_mendAhead_1 : decode cX11_mendAhead 1 = .ok (.iconst 1, 1) := by decide +kernel
theorem dX11_mendAhead_2 : decode cX11_mendAhead 2 = .ok (.bipush 60, 2) := by decide +kernel
theorem dX11_mendAhead_4 : decode cX11_mendAhead 4 = .ok (.invokestatic 60, 3) := by decide +kernel
theorem dX11_mendAhead_7 : decode cX11_mendAhead 7 = .ok (.ifCond .eq 12, 3) := by decide +kernel
theorem dX11_mendAhead_10 : decode cX11_mendAhead 10 = .ok (.iload_n 2, 1) := by decide +kernel
theorem dX11_mendAhead_11 : decode cX11_mendAhead 11 = .ok (.iconst 0, 1) := by decide +kernel
theorem dX11_mendAhead_12 : decode cX11_mendAhead 12 = .ok (.iconst 1, 1) := by decide +kernel
theorem dX11_mendAhead_13 : decode cX11_mendAhead 13 = .ok (.invokestatic 60, 3) := by decide +kernel
theorem dX11_mendAhead_16 : decode cX11_mendAhead 16 = .ok (.ifCond .ne 9, 3) := by decide +kernel
theorem dX11_mendAhead_19 : decode cX11_mendAhead 19 = .ok (.aload_n 0, 1) := by decide +kernel
theorem dX11_mendAhead_20 : decode cX11_mendAhead 20 = .ok (.iconst 1, 1) := by decide +kernel
theorem dX11_mendAhead_21 : decode cX11_mendAhead 21 = .ok (.invokevirtual 79, 3) := by decide +kernel
theorem dX11_mendAhead_24 : decode cX11_mendAhead 24 = .ok (.ireturn, 1) := by decide +kernel
theorem dX11_mendAhead_25 : decode cX11_mendAhead 25 = .ok (.iconst (-1), 1) := by decide +kernel
theorem dX11_mendAhead_26 : decode cX11_mendAhead 26 = .ok (.istore_n 3, 1) := by decide +kernel
theorem dX11_mendAhead_27 : decode cX11_mendAhead 27 = .ok (.iconst 0, 1) := by decide +kernel
theorem dX11_mendAhead_28 : decode cX11_mendAhead 28 = .ok (.istore 4, 2) := by decide +kernel
theorem dX11_mendAhead_30 : decode cX11_mendAhead 30 = .ok (.aload_n 0, 1) := by decide +kernel
theorem dX11_mendAhead_31 : decode cX11_mendAhead 31 = .ok (.invokevirtual 258, 3) := by decide +kernel
theorem dX11_mendAhead_34 : decode cX11_mendAhead 34 = .ok (.iconst 0, 1) := by decide +kernel
theorem dX11_mendAhead_35 : decode cX11_mendAhead 35 = .ok (.istore 5, 2) := by decide +kernel
theorem dX11_mendAhead_37 : decode cX11_mendAhead 37 = .ok (.iload 5, 2) := by decide +kernel
theorem dX11_mendAhead_39 : decode cX11_mendAhead 39 = .ok (.bipush 31, 2) := by decide +kernel
theorem dX11_mendAhead_41 : decode cX11_mendAhead 41 = .ok (.if_icmp .ge 58, 3) := by decide +kernel
theorem dX11_mendAhead_44 : decode cX11_mendAhead 44 = .ok (.aload_n 0, 1) := by decide +kernel
theorem dX11_mendAhead_45 : decode cX11_mendAhead 45 = .ok (.iload 5, 2) := by decide +kernel
theorem dX11_mendAhead_47 : decode cX11_mendAhead 47 = .ok (.invokevirtual 75, 3) := by decide +kernel
theorem dX11_mendAhead_50 : decode cX11_mendAhead 50 = .ok (.ifCond .ne 43, 3) := by decide +kernel
theorem dX11_mendAhead_53 : decode cX11_mendAhead 53 = .ok (.aload_n 0, 1) := by decide +kernel
theorem dX11_mendAhead_54 : decode cX11_mendAhead 54 = .ok (.iload 5, 2) := by decide +kernel
theorem dX11_mendAhead_56 : decode cX11_mendAhead 56 = .ok (.invokevirtual 208, 3) := by decide +kernel
theorem dX11_mendAhead_59 : decode cX11_mendAhead 59 = .ok (.aload_n 0, 1) := by decide +kernel
theorem dX11_mendAhead_60 : decode cX11_mendAhead 60 = .ok (.iload_n 1, 1) := by decide +kernel
theorem dX11_mendAhead_61 : decode cX11_mendAhead 61 = .ok (.invokevirtual 251, 3) := by decide +kernel
theorem dX11_mendAhead_64 : decode cX11_mendAhead 64 = .ok (.aload_n 0, 1) := by decide +kernel
theorem dX11_mendAhead_65 : decode cX11_mendAhead 65 = .ok (.invokevirtual 196, 3) := by decide +kernel
theorem dX11_mendAhead_68 : decode cX11_mendAhead 68 = .ok (.istore 6, 2) := by decide +kernel
theorem dX11_mendAhead_70 : decode cX11_mendAhead 70 = .ok (.aload_n 0, 1) := by decide +kernel
theorem dX11_mendAhead_71 : decode cX11_mendAhead 71 = .ok (.invokevirtual 261, 3) := by decide +kernel
theorem dX11_mendAhead_74 : decode cX11_mendAhead 74 = .ok (.iload_n 3, 1) := by decide +kernel
theorem dX11_mendAhead_75 : decode cX11_mendAhead 75 = .ok (.iconst (-1), 1) := by decide +kernel
theorem dX11_mendAhead_76 : decode cX11_mendAhead 76 = .ok (.if_icmp .eq 10, 3) := by decide +kernel
theorem dX11_mendAhead_79 : decode cX11_mendAhead 79 = .ok (.iload 6, 2) := by decide +kernel
theorem dX11_mendAhead_81 : decode cX11_mendAhead 81 = .ok (.iload 4, 2) := by decide +kernel
theorem dX11_mendAhead_83 : decode cX11_mendAhead 83 = .ok (.if_icmp .ge 10, 3) := by decide +kernel
theorem dX11_mendAhead_86 : decode cX11_mendAhead 86 = .ok (.iload 5, 2) := by decide +kernel
theorem dX11_mendAhead_88 : decode cX11_mendAhead 88 = .ok (.istore_n 3, 1) := by decide +kernel
theorem dX11_mendAhead_89 : decode cX11_mendAhead 89 = .ok (.iload 6, 2) := by decide +kernel
theorem dX11_mendAhead_91 : decode cX11_mendAhead 91 = .ok (.istore 4, 2) := by decide +kernel
theorem dX11_mendAhead_93 : decode cX11_mendAhead 93 = .ok (.iinc 5 1, 3) := by decide +kernel
theorem dX11_mendAhead_96 : decode cX11_mendAhead 96 = .ok (.goto (-59), 3) := by decide +kernel
theorem dX11_mendAhead_99 : decode cX11_mendAhead 99 = .ok (.iload_n 3, 1) := by decide +kernel
theorem dX11_mendAhead_100 : decode cX11_mendAhead 100 = .ok (.iconst (-1), 1) := by decide +kernel
theorem dX11_mendAhead_101 : decode cX11_mendAhead 101 = .ok (.if_icmp .ne 11, 3) := by decide +kernel
theorem dX11_mendAhead_104 : decode cX11_mendAhead 104 = .ok (.aload_n 0, 1) := by decide +kernel
theorem dX11_mendAhead_105 : decode cX11_mendAhead 105 = .ok (.iconst 2, 1) := by decide +kernel
theorem dX11_mendAhead_106 : decode cX11_mendAhead 106 = .ok (.invokevirtual 79, 3) := by decide +kernel
theorem dX11_mendAhead_109 : decode cX11_mendAhead 109 = .ok (.goto 13, 3) := by decide +kernel
theorem dX11_mendAhead_112 : decode cX11_mendAhead 112 = .ok (.iload_n 2, 1) := by decide +kernel
theorem dX11_mendAhead_113 : decode cX11_mendAhead 113 = .ok (.ifCond .ne 7, 3) := by decide +kernel
theorem dX11_mendAhead_116 : decode cX11_mendAhead 116 = .ok (.iload_n 3, 1) := by decide +kernel
theorem dX11_mendAhead_117 : decode cX11_mendAhead 117 = .ok (.goto 5, 3) := by decide +kernel
theorem dX11_mendAhead_120 : decode cX11_mendAhead 120 = .ok (.iload 4, 2) := by decide +kernel
theorem dX11_mendAhead_122 : decode cX11_mendAhead 122 = .ok (.ireturn, 1) := by decide +kernel
theorem dX11_hands_0 : decode cX11_hands 0 = .ok (.iload_n 1, 1) := by decide +kernel
theorem dX11_hands_1 : decode cX11_hands 1 = .ok (.invokestatic 165, 3) := by decide +kernel
theorem dX11_hands_4 : decode cX11_hands 4 = .ok (.ifCond .eq 14, 3) := by decide +kernel
theorem dX11_hands_7 : decode cX11_hands 7 = .ok (.iload_n 2, 1) := by decide +kernel
theorem dX11_hands_8 : decode cX11_hands 8 = .ok (.iconst 0, 1) := by decide +kernel
theorem dX11_hands_9 : decode cX11_hands 9 = .ok (.sipush 9999, 3) := by decide +kernel
theorem dX11_hands_12 : decode cX11_hands 12 = .ok (.invokestatic 60, 3) := by decide +kernel
theorem dX11_hands_15 : decode cX11_hands 15 = .ok (.ifCond .ne 9, 3) := by decide +kernel
theorem dX11_hands_18 : decode cX11_hands 18 = .ok (.aload_n 0, 1) := by decide +kernel
theorem dX11_hands_19 : decode cX11_hands 19 = .ok (.iconst 1, 1) := by decide +kernel
theorem dX11_hands_20 : decode cX11_hands 20 = .ok (.invokevirtual 79, 3) := by decide +kernel
theorem dX11_hands_23 : decode cX11_hands 23 = .ok (.ireturn, 1) := by decide +kernel
theorem dX11_hands_24 : decode cX11_hands 24 = .ok (.iconst 0, 1) := by decide +kernel
theorem dX11_hands_25 : decode cX11_hands 25 = .ok (.istore_n 3, 1) := by decide +kernel
theorem dX11_hands_26 : decode cX11_hands 26 = .ok (.iconst 0, 1) := by decide +kernel
theorem dX11_hands_27 : decode cX11_hands 27 = .ok (.istore 4, 2) := by decide +kernel
theorem dX11_hands_29 : decode cX11_hands 29 = .ok (.iload 4, 2) := by decide +kernel
theorem dX11_hands_31 : decode cX11_hands 31 = .ok (.bipush 20, 2) := by decide +kernel
theorem dX11_hands_33 : decode cX11_hands 33 = .ok (.if_icmp .ge 39, 3) := by decide +kernel
theorem dX11_hands_36 : decode cX11_hands 36 = .ok (.iload_n 3, 1) := by decide +kernel
theorem dX11_hands_37 : decode cX11_hands 37 = .ok (.aload_n 0, 1) := by decide +kernel
theorem dX11_hands_38 : decode cX11_hands 38 = .ok (.iload 4, 2) := by decide +kernel
theorem dX11_hands_40 : decode cX11_hands 40 = .ok (.iconst 2, 1) := by decide +kernel
theorem dX11_hands_41 : decode cX11_hands 41 = .ok (.invokevirtual 137, 3) := by decide +kernel
theorem dX11_hands_44 : decode cX11_hands 44 = .ok (.iload_n 1, 1) := by decide +kernel
theorem dX11_hands_45 : decode cX11_hands 45 = .ok (.if_icmp .ne 18, 3) := by decide +kernel
theorem dX11_hands_48 : decode cX11_hands 48 = .ok (.aload_n 0, 1) := by decide +kernel
theorem dX11_hands_49 : decode cX11_hands 49 = .ok (.iload 4, 2) := by decide +kernel
theorem dX11_hands_51 : decode cX11_hands 51 = .ok (.iconst 3, 1) := by decide +kernel
theorem dX11_hands_52 : decode cX11_hands 52 = .ok (.invokevirtual 137, 3) := by decide +kernel
theorem dX11_hands_55 : decode cX11_hands 55 = .ok (.iload_n 2, 1) := by decide +kernel
theorem dX11_hands_56 : decode cX11_hands 56 = .ok (.if_icmp .lt 7, 3) := by decide +kernel
theorem dX11_hands_59 : decode cX11_hands 59 = .ok (.iconst 1, 1) := by decide +kernel
theorem dX11_hands_60 : decode cX11_hands 60 = .ok (.goto 4, 3) := by decide +kernel
theorem dX11_hands_63 : decode cX11_hands 63 = .ok (.iconst 0, 1) := by decide +kernel
theorem dX11_hands_64 : decode cX11_hands 64 = .ok (.iadd, 1) := by decide +kernel
theorem dX11_hands_65 : decode cX11_hands 65 = .ok (.istore_n 3, 1) := by decide +kernel
theorem dX11_hands_66 : decode cX11_hands 66 = .ok (.iinc 4 1, 3) := by decide +kernel
theorem dX11_hands_69 : decode cX11_hands 69 = .ok (.goto (-40), 3) := by decide +kernel
theorem dX11_hands_72 : decode cX11_hands 72 = .ok (.iload_n 3, 1) := by decide +kernel
theorem dX11_hands_73 : decode cX11_hands 73 = .ok (.ireturn, 1) := by decide +kernel
theorem dX11_swimsOut_0 : decode cX11_swimsOut 0 = .ok (.iload_n 1, 1) := by decide +kernel
theorem dX11_swimsOut_1 : decode cX11_swimsOut 1 = .ok (.iconst 0, 1) := by decide +kernel
theorem dX11_swimsOut_2 : decode cX11_swimsOut 2 = .ok (.iconst 1, 1) := by decide +kernel
theorem dX11_swimsOut_3 : decode cX11_swimsOut 3 = .ok (.invokestatic 60, 3) := by decide +kernel
theorem dX11_swimsOut_6 : decode cX11_swimsOut 6 = .ok (.ifCond .ne 10, 3) := by decide +kernel
theorem dX11_swimsOut_9 : decode cX11_swimsOut 9 = .ok (.aload_n 0, 1) := by decide +kernel
theorem dX11_swimsOut_10 : decode cX11_swimsOut 10 = .ok (.iconst 1, 1) := by decide +kernel
theorem dX11_swimsOut_11 : decode cX11_swimsOut 11 = .ok (.invokevirtual 79, 3) := by decide +kernel
theorem dX11_swimsOut_14 : decode cX11_swimsOut 14 = .ok (.i2l, 1) := by decide +kernel
theorem dX11_swimsOut_15 : decode cX11_swimsOut 15 = .ok (.lreturn, 1) := by decide +kernel
theorem dX11_swimsOut_16 : decode cX11_swimsOut 16 = .ok (.aload_n 0, 1) := by decide +kernel
theorem dX11_swimsOut_17 : decode cX11_swimsOut 17 = .ok (.invokevirtual 196, 3) := by decide +kernel
theorem dX11_swimsOut_20 : decode cX11_swimsOut 20 = .ok (.istore_n 2, 1) := by decide +kernel
theorem dX11_swimsOut_21 : decode cX11_swimsOut 21 = .ok (.iload_n 2, 1) := by decide +kernel
theorem dX11_swimsOut_22 : decode cX11_swimsOut 22 = .ok (.ifCond .eq 9, 3) := by decide +kernel
theorem dX11_swimsOut_25 : decode cX11_swimsOut 25 = .ok (.iload_n 2, 1) := by decide +kernel
theorem dX11_swimsOut_26 : decode cX11_swimsOut 26 = .ok (.bipush 31, 2) := by decide +kernel
theorem dX11_swimsOut_28 : decode cX11_swimsOut 28 = .ok (.if_icmp .ne 7, 3) := by decide +kernel
theorem dX11_swimsOut_31 : decode cX11_swimsOut 31 = .ok (.lconst 1, 1) := by decide +kernel
theorem dX11_swimsOut_32 : decode cX11_swimsOut 32 = .ok (.goto 6, 3) := by decide +kernel
theorem dX11_swimsOut_35 : decode cX11_swimsOut 35 = .ok (.ldc2_w 264, 3) := by decide +kernel
theorem dX11_swimsOut_38 : decode cX11_swimsOut 38 = .ok (.lstore_n 3, 1) := by decide +kernel
theorem dX11_swimsOut_39 : decode cX11_swimsOut 39 = .ok (.iload_n 2, 1) := by decide +kernel
theorem dX11_swimsOut_40 : decode cX11_swimsOut 40 = .ok (.bipush 31, 2) := by decide +kernel
theorem dX11_swimsOut_42 : decode cX11_swimsOut 42 = .ok (.if_icmp .ne 7, 3) := by decide +kernel
theorem dX11_swimsOut_45 : decode cX11_swimsOut 45 = .ok (.lconst 1, 1) := by decide +kernel
theorem dX11_swimsOut_46 : decode cX11_swimsOut 46 = .ok (.goto 5, 3) := by decide +kernel
theorem dX11_swimsOut_49 : decode cX11_swimsOut 49 = .ok (.iload_n 2, 1) := by decide +kernel
theorem dX11_swimsOut_50 : decode cX11_swimsOut 50 = .ok (.i2l, 1) := by decide +kernel
theorem dX11_swimsOut_51 : decode cX11_swimsOut 51 = .ok (.lstore 5, 2) := by decide +kernel
theorem dX11_swimsOut_53 : decode cX11_swimsOut 53 = .ok (.iload_n 1, 1) := by decide +kernel
theorem dX11_swimsOut_54 : decode cX11_swimsOut 54 = .ok (.ifCond .ne 8, 3) := by decide +kernel
theorem dX11_swimsOut_57 : decode cX11_swimsOut 57 = .ok (.lload 5, 2) := by decide +kernel
theorem dX11_swimsOut_59 : decode cX11_swimsOut 59 = .ok (.goto 4, 3) := by decide +kernel
theorem dX11_swimsOut_62 : decode cX11_swimsOut 62 = .ok (.lload_n 3, 1) := by decide +kernel
theorem dX11_swimsOut_63 : decode cX11_swimsOut 63 = .ok (.lreturn, 1) := by decide +kernel
theorem dX11_begins_0 : decode cX11_begins 0 = .ok (.aload_n 0, 1) := by decide +kernel
theorem dX11_begins_1 : decode cX11_begins 1 = .ok (.getfield 266, 3) := by decide +kernel
theorem dX11_begins_4 : decode cX11_begins 4 = .ok (.bipush 30, 2) := by decide +kernel
theorem dX11_begins_6 : decode cX11_begins 6 = .ok (.if_icmp .ge 23, 3) := by decide +kernel
theorem dX11_begins_9 : decode cX11_begins 9 = .ok (.aload_n 0, 1) := by decide +kernel
theorem dX11_begins_10 : decode cX11_begins 10 = .ok (.getfield 40, 3) := by decide +kernel
theorem dX11_begins_13 : decode cX11_begins 13 = .ok (.aload_n 0, 1) := by decide +kernel
theorem dX11_begins_14 : decode cX11_begins 14 = .ok (.getfield 266, 3) := by decide +kernel
theorem dX11_begins_17 : decode cX11_begins 17 = .ok (.iload_n 1, 1) := by decide +kernel
theorem dX11_begins_18 : decode cX11_begins 18 = .ok (.iastore, 1) := by decide +kernel
theorem dX11_begins_19 : decode cX11_begins 19 = .ok (.aload_n 0, 1) := by decide +kernel
theorem dX11_begins_20 : decode cX11_begins 20 = .ok (.dup, 1) := by decide +kernel
theorem dX11_begins_21 : decode cX11_begins 21 = .ok (.getfield 266, 3) := by decide +kernel
theorem dX11_begins_24 : decode cX11_begins 24 = .ok (.iconst 1, 1) := by decide +kernel
theorem dX11_begins_25 : decode cX11_begins 25 = .ok (.iadd, 1) := by decide +kernel
theorem dX11_begins_26 : decode cX11_begins 26 = .ok (.putfield 266, 3) := by decide +kernel
theorem dX11_begins_29 : decode cX11_begins 29 = .ok (.return_, 1) := by decide +kernel
theorem dX11_above_0 : decode cX11_above 0 = .ok (.iload_n 0, 1) := by decide +kernel
theorem dX11_above_1 : decode cX11_above 1 = .ok (.iconst 4, 1) := by decide +kernel
theorem dX11_above_2 : decode cX11_above 2 = .ok (.if_icmp .ne 7, 3) := by decide +kernel
theorem dX11_above_5 : decode cX11_above 5 = .ok (.iconst 1, 1) := by decide +kernel
theorem dX11_above_6 : decode cX11_above 6 = .ok (.goto 13, 3) := by decide +kernel
theorem dX11_above_9 : decode cX11_above 9 = .ok (.iload_n 0, 1) := by decide +kernel
theorem dX11_above_10 : decode cX11_above 10 = .ok (.iconst 5, 1) := by decide +kernel
theorem dX11_above_11 : decode cX11_above 11 = .ok (.if_icmp .ne 7, 3) := by decide +kernel
theorem dX11_above_14 : decode cX11_above 14 = .ok (.iconst 2, 1) := by decide +kernel
theorem dX11_above_15 : decode cX11_above 15 = .ok (.goto 4, 3) := by decide +kernel
theorem dX11_above_18 : decode cX11_above 18 = .ok (.iconst 0, 1) := by decide +kernel
theorem dX11_above_19 : decode cX11_above 19 = .ok (.ireturn, 1) := by decide +kernel
theorem dX11_kindNow_0 : decode cX11_kindNow 0 = .ok (.aload_n 0, 1) := by decide +kernel
theorem dX11_kindNow_1 : decode cX11_kindNow 1 = .ok (.aload_n 0, 1) := by decide +kernel
theorem dX11_kindNow_2 : decode cX11_kindNow 2 = .ok (.getfield 269, 3) := by decide +kernel
theorem dX11_kindNow_5 : decode cX11_kindNow 5 = .ok (.iconst 0, 1) := by decide +kernel
theorem dX11_kindNow_6 : decode cX11_kindNow 6 = .ok (.invokevirtual 137, 3) := by decide +kernel
theorem dX11_kindNow_9 : decode cX11_kindNow 9 = .ok (.ireturn, 1) := by decide +kernel
theorem dX11_mNow_0 : decode cX11_mNow 0 = .ok (.aload_n 0, 1) := by decide +kernel
theorem dX11_mNow_1 : decode cX11_mNow 1 = .ok (.aload_n 0, 1) := by decide +kernel
theorem dX11_mNow_2 : decode cX11_mNow 2 = .ok (.getfield 269, 3) := by decide +kernel
theorem dX11_mNow_5 : decode cX11_mNow 5 = .ok (.iconst 1, 1) := by decide +kernel
theorem dX11_mNow_6 : decode cX11_mNow 6 = .ok (.invokevirtual 137, 3) := by decide +kernel
theorem dX11_mNow_9 : decode cX11_mNow 9 = .ok (.ireturn, 1) := by decide +kernel
theorem dX11_holdsAs_0 : decode cX11_holdsAs 0 = .ok (.iload_n 1, 1) := by decide +kernel
theorem dX11_holdsAs_1 : decode cX11_holdsAs 1 = .ok (.tableswitch 101 0 6 #[43, 56, 101, 101, 75, 101, 93], 43) := by decide +kernel
theorem dX11_holdsAs_44 : decode cX11_holdsAs 44 = .ok (.aload_n 0, 1) := by decide +kernel
theorem dX11_holdsAs_45 : decode cX11_holdsAs 45 = .ok (.bipush 10, 2) := by decide +kernel
theorem dX11_holdsAs_47 : decode cX11_holdsAs 47 = .ok (.invokevirtual 272, 3) := by decide +kernel
theorem dX11_holdsAs_50 : decode cX11_holdsAs 50 = .ok (.iload_n 2, 1) := by decide +kernel
theorem dX11_holdsAs_51 : decode cX11_holdsAs 51 = .ok (.aload_n 0, 1) := by decide +kernel
theorem dX11_holdsAs_52 : decode cX11_holdsAs 52 = .ok (.getfield 269, 3) := by decide +kernel
theorem dX11_holdsAs_55 : decode cX11_holdsAs 55 = .ok (.iadd, 1) := by decide +kernel
theorem dX11_holdsAs_56 : decode cX11_holdsAs 56 = .ok (.ireturn, 1) := by decide +kernel
theorem dX11_holdsAs_57 : decode cX11_holdsAs 57 = .ok (.aload_n 0, 1) := by decide +kernel
theorem dX11_holdsAs_58 : decode cX11_holdsAs 58 = .ok (.bipush 20, 2) := by decide +kernel
theorem dX11_holdsAs_60 : decode cX11_holdsAs 60 = .ok (.invokevirtual 272, 3) := by decide +kernel
theorem dX11_holdsAs_63 : decode cX11_holdsAs 63 = .ok (.aload_n 0, 1) := by decide +kernel
theorem dX11_holdsAs_64 : decode cX11_holdsAs 64 = .ok (.iconst 1, 1) := by decide +kernel
theorem dX11_holdsAs_65 : decode cX11_holdsAs 65 = .ok (.invokestatic 275, 3) := by decide +kernel
theorem dX11_holdsAs_68 : decode cX11_holdsAs 68 = .ok (.iload_n 2, 1) := by decide +kernel
theorem dX11_holdsAs_69 : decode cX11_holdsAs 69 = .ok (.invokevirtual 278, 3) := by decide +kernel
theorem dX11_holdsAs_72 : decode cX11_holdsAs 72 = .ok (.bipush 8, 2) := by decide +kernel
theorem dX11_holdsAs_74 : decode cX11_holdsAs 74 = .ok (.isub, 1) := by decide +kernel
theorem dX11_holdsAs_75 : decode cX11_holdsAs 75 = .ok (.ireturn, 1) := by decide +kernel
theorem dX11_holdsAs_76 : decode cX11_holdsAs 76 = .ok (.aload_n 0, 1) := by decide +kernel
theorem dX11_holdsAs_77 : decode cX11_holdsAs 77 = .ok (.bipush 50, 2) := by decide +kernel
theorem dX11_holdsAs_79 : decode cX11_holdsAs 79 = .ok (.invokevirtual 272, 3) := by decide +kernel
theorem dX11_holdsAs_82 : decode cX11_holdsAs 82 = .ok (.aload_n 0, 1) := by decide +kernel
theorem dX11_holdsAs_83 : decode cX11_holdsAs 83 = .ok (.iconst 4, 1) := by decide +kernel
theorem dX11_holdsAs_84 : decode cX11_holdsAs 84 = .ok (.invokestatic 275, 3) := by decide +kernel
theorem dX11_holdsAs_87 : decode cX11_holdsAs 87 = .ok (.iload_n 2, 1) := by decide +kernel
theorem dX11_holdsAs_88 : decode cX11_holdsAs 88 = .ok (.invokevirtual 278, 3) := by decide +kernel
theorem dX11_holdsAs_91 : decode cX11_holdsAs 91 = .ok (.iconst 3, 1) := by decide +kernel
theorem dX11_holdsAs_92 : decode cX11_holdsAs 92 = .ok (.imul, 1) := by decide +kernel
theorem dX11_holdsAs_93 : decode cX11_holdsAs 93 = .ok (.ireturn, 1) := by decide +kernel
theorem dX11_holdsAs_94 : decode cX11_holdsAs 94 = .ok (.aload_n 0, 1) := by decide +kernel
theorem dX11_holdsAs_95 : decode cX11_holdsAs 95 = .ok (.bipush 70, 2) := by decide +kernel
theorem dX11_holdsAs_97 : decode cX11_holdsAs 97 = .ok (.invokevirtual 272, 3) := by decide +kernel
theorem dX11_holdsAs_100 : decode cX11_holdsAs 100 = .ok (.iconst 4, 1) := by decide +kernel
theorem dX11_holdsAs_101 : decode cX11_holdsAs 101 = .ok (.ireturn, 1) := by decide +kernel
theorem dX11_holdsAs_102 : decode cX11_holdsAs 102 = .ok (.aload_n 0, 1) := by decide +kernel
theorem dX11_holdsAs_103 : decode cX11_holdsAs 103 = .ok (.iload_n 1, 1) := by decide +kernel
theorem dX11_holdsAs_104 : decode cX11_holdsAs 104 = .ok (.invokestatic 275, 3) := by decide +kernel
theorem dX11_holdsAs_107 : decode cX11_holdsAs 107 = .ok (.iload_n 2, 1) := by decide +kernel
theorem dX11_holdsAs_108 : decode cX11_holdsAs 108 = .ok (.invokevirtual 278, 3) := by decide +kernel
theorem dX11_holdsAs_111 : decode cX11_holdsAs 111 = .ok (.ireturn, 1) := by decide +kernel
theorem dX11_slipsAs_0 : decode cX11_slipsAs 0 = .ok (.iload_n 1, 1) := by decide +kernel
theorem dX11_slipsAs_1 : decode cX11_slipsAs 1 = .ok (.tableswitch 119 0 6 #[43, 119, 61, 119, 119, 79, 97], 43) := by decide +kernel
theorem dX11_slipsAs_44 : decode cX11_slipsAs 44 = .ok (.aload_n 0, 1) := by decide +kernel
theorem dX11_slipsAs_45 : decode cX11_slipsAs 45 = .ok (.bipush 11, 2) := by decide +kernel
theorem dX11_slipsAs_47 : decode cX11_slipsAs 47 = .ok (.invokevirtual 272, 3) := by decide +kernel
theorem dX11_slipsAs_50 : decode cX11_slipsAs 50 = .ok (.aload_n 0, 1) := by decide +kernel
theorem dX11_slipsAs_51 : decode cX11_slipsAs 51 = .ok (.aload_n 0, 1) := by decide +kernel
theorem dX11_slipsAs_52 : decode cX11_slipsAs 52 = .ok (.invokevirtual 281, 3) := by decide +kernel
theorem dX11_slipsAs_55 : decode cX11_slipsAs 55 = .ok (.iload_n 2, 1) := by decide +kernel
theorem dX11_slipsAs_56 : decode cX11_slipsAs 56 = .ok (.invokevirtual 278, 3) := by decide +kernel
theorem dX11_slipsAs_59 : decode cX11_slipsAs 59 = .ok (.iconst 2, 1) := by decide +kernel
theorem dX11_slipsAs_60 : decode cX11_slipsAs 60 = .ok (.imul, 1) := by decide +kernel
theorem dX11_slipsAs_61 : decode cX11_slipsAs 61 = .ok (.ireturn, 1) := by decide +kernel
theorem dX11_slipsAs_62 : decode cX11_slipsAs 62 = .ok (.aload_n 0, 1) := by decide +kernel
theorem dX11_slipsAs_63 : decode cX11_slipsAs 63 = .ok (.bipush 30, 2) := by decide +kernel
theorem dX11_slipsAs_65 : decode cX11_slipsAs 65 = .ok (.invokevirtual 272, 3) := by decide +kernel
theorem dX11_slipsAs_68 : decode cX11_slipsAs 68 = .ok (.iconst 0, 1) := by decide +kernel
theorem dX11_slipsAs_69 : decode cX11_slipsAs 69 = .ok (.aload_n 0, 1) := by decide +kernel
theorem dX11_slipsAs_70 : decode cX11_slipsAs 70 = .ok (.iconst 2, 1) := by decide +kernel
theorem dX11_slipsAs_71 : decode cX11_slipsAs 71 = .ok (.invokestatic 275, 3) := by decide +kernel
theorem dX11_slipsAs_74 : decode cX11_slipsAs 74 = .ok (.iload_n 2, 1) := by decide +kernel
theorem dX11_slipsAs_75 : decode cX11_slipsAs 75 = .ok (.invokevirtual 284, 3) := by decide +kernel
theorem dX11_slipsAs_78 : decode cX11_slipsAs 78 = .ok (.isub, 1) := by decide +kernel
theorem dX11_slipsAs_79 : decode cX11_slipsAs 79 = .ok (.ireturn, 1) := by decide +kernel
theorem dX11_slipsAs_80 : decode cX11_slipsAs 80 = .ok (.aload_n 0, 1) := by decide +kernel
theorem dX11_slipsAs_81 : decode cX11_slipsAs 81 = .ok (.bipush 60, 2) := by decide +kernel
theorem dX11_slipsAs_83 : decode cX11_slipsAs 83 = .ok (.invokevirtual 272, 3) := by decide +kernel
theorem dX11_slipsAs_86 : decode cX11_slipsAs 86 = .ok (.aload_n 0, 1) := by decide +kernel
theorem dX11_slipsAs_87 : decode cX11_slipsAs 87 = .ok (.iconst 5, 1) := by decide +kernel
theorem dX11_slipsAs_88 : decode cX11_slipsAs 88 = .ok (.invokestatic 275, 3) := by decide +kernel
theorem dX11_slipsAs_91 : decode cX11_slipsAs 91 = .ok (.iload_n 2, 1) := by decide +kernel
theorem dX11_slipsAs_92 : decode cX11_slipsAs 92 = .ok (.iconst 1, 1) := by decide +kernel
theorem dX11_slipsAs_93 : decode cX11_slipsAs 93 = .ok (.iadd, 1) := by decide +kernel
theorem dX11_slipsAs_94 : decode cX11_slipsAs 94 = .ok (.invokevirtual 284, 3) := by decide +kernel
theorem dX11_slipsAs_97 : decode cX11_slipsAs 97 = .ok (.ireturn, 1) := by decide +kernel
theorem dX11_slipsAs_98 : decode cX11_slipsAs 98 = .ok (.aload_n 0, 1) := by decide +kernel
theorem dX11_slipsAs_99 : decode cX11_slipsAs 99 = .ok (.bipush 71, 2) := by decide +kernel
theorem dX11_slipsAs_101 : decode cX11_slipsAs 101 = .ok (.invokevirtual 272, 3) := by decide +kernel
theorem dX11_slipsAs_104 : decode cX11_slipsAs 104 = .ok (.aload_n 0, 1) := by decide +kernel
theorem dX11_slipsAs_105 : decode cX11_slipsAs 105 = .ok (.bipush 6, 2) := by decide +kernel
theorem dX11_slipsAs_107 : decode cX11_slipsAs 107 = .ok (.invokestatic 275, 3) := by decide +kernel
theorem dX11_slipsAs_110 : decode cX11_slipsAs 110 = .ok (.iload_n 2, 1) := by decide +kernel
theorem dX11_slipsAs_111 : decode cX11_slipsAs 111 = .ok (.invokevirtual 284, 3) := by decide +kernel
theorem dX11_slipsAs_114 : decode cX11_slipsAs 114 = .ok (.aload_n 0, 1) := by decide +kernel
theorem dX11_slipsAs_115 : decode cX11_slipsAs 115 = .ok (.invokevirtual 287, 3) := by decide +kernel
theorem dX11_slipsAs_118 : decode cX11_slipsAs 118 = .ok (.iadd, 1) := by decide +kernel
theorem dX11_slipsAs_119 : decode cX11_slipsAs 119 = .ok (.ireturn, 1) := by decide +kernel
theorem dX11_slipsAs_120 : decode cX11_slipsAs 120 = .ok (.aload_n 0, 1) := by decide +kernel
theorem dX11_slipsAs_121 : decode cX11_slipsAs 121 = .ok (.iload_n 1, 1) := by decide +kernel
theorem dX11_slipsAs_122 : decode cX11_slipsAs 122 = .ok (.invokestatic 275, 3) := by decide +kernel
theorem dX11_slipsAs_125 : decode cX11_slipsAs 125 = .ok (.iload_n 2, 1) := by decide +kernel
theorem dX11_slipsAs_126 : decode cX11_slipsAs 126 = .ok (.invokevirtual 284, 3) := by decide +kernel
theorem dX11_slipsAs_129 : decode cX11_slipsAs 129 = .ok (.ireturn, 1) := by decide +kernel
theorem dX11_tiesAs_0 : decode cX11_tiesAs 0 = .ok (.iload_n 1, 1) := by decide +kernel
theorem dX11_tiesAs_1 : decode cX11_tiesAs 1 = .ok (.tableswitch 95 0 4 #[35, 95, 95, 56, 74], 35) := by decide +kernel
theorem dX11_tiesAs_36 : decode cX11_tiesAs 36 = .ok (.aload_n 0, 1) := by decide +kernel
theorem dX11_tiesAs_37 : decode cX11_tiesAs 37 = .ok (.bipush 12, 2) := by decide +kernel
theorem dX11_tiesAs_39 : decode cX11_tiesAs 39 = .ok (.invokevirtual 272, 3) := by decide +kernel
theorem dX11_tiesAs_42 : decode cX11_tiesAs 42 = .ok (.aload_n 0, 1) := by decide +kernel
theorem dX11_tiesAs_43 : decode cX11_tiesAs 43 = .ok (.aload_n 0, 1) := by decide +kernel
theorem dX11_tiesAs_44 : decode cX11_tiesAs 44 = .ok (.invokevirtual 281, 3) := by decide +kernel
theorem dX11_tiesAs_47 : decode cX11_tiesAs 47 = .ok (.iload_n 2, 1) := by decide +kernel
theorem dX11_tiesAs_48 : decode cX11_tiesAs 48 = .ok (.invokevirtual 284, 3) := by decide +kernel
theorem dX11_tiesAs_51 : decode cX11_tiesAs 51 = .ok (.aload_n 0, 1) := by decide +kernel
theorem dX11_tiesAs_52 : decode cX11_tiesAs 52 = .ok (.invokevirtual 287, 3) := by decide +kernel
theorem dX11_tiesAs_55 : decode cX11_tiesAs 55 = .ok (.isub, 1) := by decide +kernel
theorem dX11_tiesAs_56 : decode cX11_tiesAs 56 = .ok (.ireturn, 1) := by decide +kernel
theorem dX11_tiesAs_57 : decode cX11_tiesAs 57 = .ok (.aload_n 0, 1) := by decide +kernel
theorem dX11_tiesAs_58 : decode cX11_tiesAs 58 = .ok (.bipush 40, 2) := by decide +kernel
theorem dX11_tiesAs_60 : decode cX11_tiesAs 60 = .ok (.invokevirtual 272, 3) := by decide +kernel
theorem dX11_tiesAs_63 : decode cX11_tiesAs 63 = .ok (.aload_n 0, 1) := by decide +kernel
theorem dX11_tiesAs_64 : decode cX11_tiesAs 64 = .ok (.iconst 3, 1) := by decide +kernel
theorem dX11_tiesAs_65 : decode cX11_tiesAs 65 = .ok (.invokestatic 275, 3) := by decide +kernel
theorem dX11_tiesAs_68 : decode cX11_tiesAs 68 = .ok (.iload_n 2, 1) := by decide +kernel
theorem dX11_tiesAs_69 : decode cX11_tiesAs 69 = .ok (.iconst 2, 1) := by decide +kernel
theorem dX11_tiesAs_70 : decode cX11_tiesAs 70 = .ok (.idiv, 1) := by decide +kernel
theorem dX11_tiesAs_71 : decode cX11_tiesAs 71 = .ok (.invokevirtual 290, 3) := by decide +kernel
theorem dX11_tiesAs_74 : decode cX11_tiesAs 74 = .ok (.ireturn, 1) := by decide +kernel
theorem dX11_tiesAs_75 : decode cX11_tiesAs 75 = .ok (.aload_n 0, 1) := by decide +kernel
theorem dX11_tiesAs_76 : decode cX11_tiesAs 76 = .ok (.bipush 51, 2) := by decide +kernel
theorem dX11_tiesAs_78 : decode cX11_tiesAs 78 = .ok (.invokevirtual 272, 3) := by decide +kernel
theorem dX11_tiesAs_81 : decode cX11_tiesAs 81 = .ok (.aload_n 0, 1) := by decide +kernel
theorem dX11_tiesAs_82 : decode cX11_tiesAs 82 = .ok (.iconst 4, 1) := by decide +kernel
theorem dX11_tiesAs_83 : decode cX11_tiesAs 83 = .ok (.invokestatic 275, 3) := by decide +kernel
theorem dX11_tiesAs_86 : decode cX11_tiesAs 86 = .ok (.iload_n 2, 1) := by decide +kernel
theorem dX11_tiesAs_87 : decode cX11_tiesAs 87 = .ok (.invokevirtual 290, 3) := by decide +kernel
theorem dX11_tiesAs_90 : decode cX11_tiesAs 90 = .ok (.aload_n 0, 1) := by decide +kernel
theorem dX11_tiesAs_91 : decode cX11_tiesAs 91 = .ok (.getfield 269, 3) := by decide +kernel
theorem dX11_tiesAs_94 : decode cX11_tiesAs 94 = .ok (.ixor, 1) := by decide +kernel
theorem dX11_tiesAs_95 : decode cX11_tiesAs 95 = .ok (.ireturn, 1) := by decide +kernel
theorem dX11_tiesAs_96 : decode cX11_tiesAs 96 = .ok (.aload_n 0, 1) := by decide +kernel
theorem dX11_tiesAs_97 : decode cX11_tiesAs 97 = .ok (.iload_n 1, 1) := by decide +kernel
theorem dX11_tiesAs_98 : decode cX11_tiesAs 98 = .ok (.invokestatic 275, 3) := by decide +kernel
theorem dX11_tiesAs_101 : decode cX11_tiesAs 101 = .ok (.iload_n 2, 1) := by decide +kernel
theorem dX11_tiesAs_102 : decode cX11_tiesAs 102 = .ok (.invokevirtual 290, 3) := by decide +kernel
theorem dX11_tiesAs_105 : decode cX11_tiesAs 105 = .ok (.ireturn, 1) := by decide +kernel
theorem dX11_partsAs_0 : decode cX11_partsAs 0 = .ok (.iload_n 1, 1) := by decide +kernel
theorem dX11_partsAs_1 : decode cX11_partsAs 1 = .ok (.lookupswitch 119 #[(0, 27), (1, 78)], 27) := by decide +kernel
theorem dX11_partsAs_28 : decode cX11_partsAs 28 = .ok (.aload_n 0, 1) := by decide +kernel
theorem dX11_partsAs_29 : decode cX11_partsAs 29 = .ok (.bipush 13, 2) := by decide +kernel
theorem dX11_partsAs_31 : decode cX11_partsAs 31 = .ok (.invokevirtual 272, 3) := by decide +kernel
theorem dX11_partsAs_34 : decode cX11_partsAs 34 = .ok (.aload_n 0, 1) := by decide +kernel
theorem dX11_partsAs_35 : decode cX11_partsAs 35 = .ok (.invokevirtual 287, 3) := by decide +kernel
theorem dX11_partsAs_38 : decode cX11_partsAs 38 = .ok (.aload_n 0, 1) := by decide +kernel
theorem dX11_partsAs_39 : decode cX11_partsAs 39 = .ok (.getfield 269, 3) := by decide +kernel
theorem dX11_partsAs_42 : decode cX11_partsAs 42 = .ok (.isub, 1) := by decide +kernel
theorem dX11_partsAs_43 : decode cX11_partsAs 43 = .ok (.istore_n 3, 1) := by decide +kernel
theorem dX11_partsAs_44 : decode cX11_partsAs 44 = .ok (.aload_n 0, 1) := by decide +kernel
theorem dX11_partsAs_45 : decode cX11_partsAs 45 = .ok (.iload_n 3, 1) := by decide +kernel
theorem dX11_partsAs_46 : decode cX11_partsAs 46 = .ok (.ifCond .ne 7, 3) := by decide +kernel
theorem dX11_partsAs_49 : decode cX11_partsAs 49 = .ok (.iconst 1, 1) := by decide +kernel
theorem dX11_partsAs_50 : decode cX11_partsAs 50 = .ok (.goto 4, 3) := by decide +kernel
theorem dX11_partsAs_53 : decode cX11_partsAs 53 = .ok (.iconst 0, 1) := by decide +kernel
theorem dX11_partsAs_54 : decode cX11_partsAs 54 = .ok (.putfield 293, 3) := by decide +kernel
theorem dX11_partsAs_57 : decode cX11_partsAs 57 = .ok (.iload_n 3, 1) := by decide +kernel
theorem dX11_partsAs_58 : decode cX11_partsAs 58 = .ok (.ifCond .ne 7, 3) := by decide +kernel
theorem dX11_partsAs_61 : decode cX11_partsAs 61 = .ok (.iconst 0, 1) := by decide +kernel
theorem dX11_partsAs_62 : decode cX11_partsAs 62 = .ok (.goto 16, 3) := by decide +kernel
theorem dX11_partsAs_65 : decode cX11_partsAs 65 = .ok (.iload_n 3, 1) := by decide +kernel
theorem dX11_partsAs_66 : decode cX11_partsAs 66 = .ok (.iconst (-1), 1) := by decide +kernel
theorem dX11_partsAs_67 : decode cX11_partsAs 67 = .ok (.if_icmp .ne 8, 3) := by decide +kernel
theorem dX11_partsAs_70 : decode cX11_partsAs 70 = .ok (.iload_n 2, 1) := by decide +kernel
theorem dX11_partsAs_71 : decode cX11_partsAs 71 = .ok (.ineg, 1) := by decide +kernel
theorem dX11_partsAs_72 : decode cX11_partsAs 72 = .ok (.goto 6, 3) := by decide +kernel
theorem dX11_partsAs_75 : decode cX11_partsAs 75 = .ok (.iload_n 2, 1) := by decide +kernel
theorem dX11_partsAs_76 : decode cX11_partsAs 76 = .ok (.iload_n 3, 1) := by decide +kernel
theorem dX11_partsAs_77 : decode cX11_partsAs 77 = .ok (.idiv, 1) := by decide +kernel
theorem dX11_partsAs_78 : decode cX11_partsAs 78 = .ok (.ireturn, 1) := by decide +kernel
theorem dX11_partsAs_79 : decode cX11_partsAs 79 = .ok (.aload_n 0, 1) := by decide +kernel
theorem dX11_partsAs_80 : decode cX11_partsAs 80 = .ok (.bipush 21, 2) := by decide +kernel
theorem dX11_partsAs_82 : decode cX11_partsAs 82 = .ok (.invokevirtual 272, 3) := by decide +kernel
theorem dX11_partsAs_85 : decode cX11_partsAs 85 = .ok (.aload_n 0, 1) := by decide +kernel
theorem dX11_partsAs_86 : decode cX11_partsAs 86 = .ok (.iconst 1, 1) := by decide +kernel
theorem dX11_partsAs_87 : decode cX11_partsAs 87 = .ok (.invokestatic 275, 3) := by decide +kernel
theorem dX11_partsAs_90 : decode cX11_partsAs 90 = .ok (.iload_n 2, 1) := by decide +kernel
theorem dX11_partsAs_91 : decode cX11_partsAs 91 = .ok (.invokevirtual 297, 3) := by decide +kernel
theorem dX11_partsAs_94 : decode cX11_partsAs 94 = .ok (.istore 4, 2) := by decide +kernel
theorem dX11_partsAs_96 : decode cX11_partsAs 96 = .ok (.aload_n 0, 1) := by decide +kernel
theorem dX11_partsAs_97 : decode cX11_partsAs 97 = .ok (.getfield 293, 3) := by decide +kernel
theorem dX11_partsAs_100 : decode cX11_partsAs 100 = .ok (.ifCond .eq 7, 3) := by decide +kernel
theorem dX11_partsAs_103 : decode cX11_partsAs 103 = .ok (.iconst 0, 1) := by decide +kernel
theorem dX11_partsAs_104 : decode cX11_partsAs 104 = .ok (.goto 15, 3) := by decide +kernel
theorem dX11_partsAs_107 : decode cX11_partsAs 107 = .ok (.iload 4, 2) := by decide +kernel
theorem dX11_partsAs_109 : decode cX11_partsAs 109 = .ok (.aload_n 0, 1) := by decide +kernel
theorem dX11_partsAs_110 : decode cX11_partsAs 110 = .ok (.aload_n 0, 1) := by decide +kernel
theorem dX11_partsAs_111 : decode cX11_partsAs 111 = .ok (.invokevirtual 281, 3) := by decide +kernel
theorem dX11_partsAs_114 : decode cX11_partsAs 114 = .ok (.iconst 1, 1) := by decide +kernel
theorem dX11_partsAs_115 : decode cX11_partsAs 115 = .ok (.invokevirtual 284, 3) := by decide +kernel
theorem dX11_partsAs_118 : decode cX11_partsAs 118 = .ok (.iadd, 1) := by decide +kernel
theorem dX11_partsAs_119 : decode cX11_partsAs 119 = .ok (.ireturn, 1) := by decide +kernel
theorem dX11_partsAs_120 : decode cX11_partsAs 120 = .ok (.aload_n 0, 1) := by decide +kernel
theorem dX11_partsAs_121 : decode cX11_partsAs 121 = .ok (.iload_n 1, 1) := by decide +kernel
theorem dX11_partsAs_122 : decode cX11_partsAs 122 = .ok (.invokestatic 275, 3) := by decide +kernel
theorem dX11_partsAs_125 : decode cX11_partsAs 125 = .ok (.iload_n 2, 1) := by decide +kernel
theorem dX11_partsAs_126 : decode cX11_partsAs 126 = .ok (.invokevirtual 297, 3) := by decide +kernel
theorem dX11_partsAs_129 : decode cX11_partsAs 129 = .ok (.ireturn, 1) := by decide +kernel
theorem dX11_voice_0 : decode cX11_voice 0 = .ok (.iload_n 1, 1) := by decide +kernel
theorem dX11_voice_1 : decode cX11_voice 1 = .ok (.invokestatic 162, 3) := by decide +kernel
theorem dX11_voice_4 : decode cX11_voice 4 = .ok (.ifCond .eq 12, 3) := by decide +kernel
theorem dX11_voice_7 : decode cX11_voice 7 = .ok (.iload_n 2, 1) := by decide +kernel
theorem dX11_voice_8 : decode cX11_voice 8 = .ok (.iconst 0, 1) := by decide +kernel
theorem dX11_voice_9 : decode cX11_voice 9 = .ok (.iconst 3, 1) := by decide +kernel
theorem dX11_voice_10 : decode cX11_voice 10 = .ok (.invokestatic 60, 3) := by decide +kernel
theorem dX11_voice_13 : decode cX11_voice 13 = .ok (.ifCond .ne 9, 3) := by decide +kernel
theorem dX11_voice_16 : decode cX11_voice 16 = .ok (.aload_n 0, 1) := by decide +kernel
theorem dX11_voice_17 : decode cX11_voice 17 = .ok (.iconst 1, 1) := by decide +kernel
theorem dX11_voice_18 : decode cX11_voice 18 = .ok (.invokevirtual 79, 3) := by decide +kernel
theorem dX11_voice_21 : decode cX11_voice 21 = .ok (.ireturn, 1) := by decide +kernel
theorem dX11_voice_22 : decode cX11_voice 22 = .ok (.aload_n 0, 1) := by decide +kernel
theorem dX11_voice_23 : decode cX11_voice 23 = .ok (.iconst 0, 1) := by decide +kernel
theorem dX11_voice_24 : decode cX11_voice 24 = .ok (.putfield 266, 3) := by decide +kernel
theorem dX11_voice_27 : decode cX11_voice 27 = .ok (.aload_n 0, 1) := by decide +kernel
theorem dX11_voice_28 : decode cX11_voice 28 = .ok (.iload_n 1, 1) := by decide +kernel
theorem dX11_voice_29 : decode cX11_voice 29 = .ok (.putfield 269, 3) := by decide +kernel
theorem dX11_voice_32 : decode cX11_voice 32 = .ok (.aload_n 0, 1) := by decide +kernel
theorem dX11_voice_33 : decode cX11_voice 33 = .ok (.iconst 0, 1) := by decide +kernel
theorem dX11_voice_34 : decode cX11_voice 34 = .ok (.putfield 293, 3) := by decide +kernel
theorem dX11_voice_37 : decode cX11_voice 37 = .ok (.aload_n 0, 1) := by decide +kernel
theorem dX11_voice_38 : decode cX11_voice 38 = .ok (.invokevirtual 281, 3) := by decide +kernel
theorem dX11_voice_41 : decode cX11_voice 41 = .ok (.istore 4, 2) := by decide +kernel
theorem dX11_voice_43 : decode cX11_voice 43 = .ok (.iload_n 2, 1) := by decide +kernel
theorem dX11_voice_44 : decode cX11_voice 44 = .ok (.ifCond .ne 13, 3) := by decide +kernel
theorem dX11_voice_47 : decode cX11_voice 47 = .ok (.aload_n 0, 1) := by decide +kernel
theorem dX11_voice_48 : decode cX11_voice 48 = .ok (.iload 4, 2) := by decide +kernel
theorem dX11_voice_50 : decode cX11_voice 50 = .ok (.iload_n 3, 1) := by decide +kernel
theorem dX11_voice_51 : decode cX11_voice 51 = .ok (.invokevirtual 278, 3) := by decide +kernel
theorem dX11_voice_54 : decode cX11_voice 54 = .ok (.goto 40, 3) := by decide +kernel
theorem dX11_voice_57 : decode cX11_voice 57 = .ok (.iload_n 2, 1) := by decide +kernel
theorem dX11_voice_58 : decode cX11_voice 58 = .ok (.iconst 1, 1) := by decide +kernel
theorem dX11_voice_59 : decode cX11_voice 59 = .ok (.if_icmp .ne 13, 3) := by decide +kernel
theorem dX11_voice_62 : decode cX11_voice 62 = .ok (.aload_n 0, 1) := by decide +kernel
theorem dX11_voice_63 : decode cX11_voice 63 = .ok (.iload 4, 2) := by decide +kernel
theorem dX11_voice_65 : decode cX11_voice 65 = .ok (.iload_n 3, 1) := by decide +kernel
theorem dX11_voice_66 : decode cX11_voice 66 = .ok (.invokevirtual 284, 3) := by decide +kernel
theorem dX11_voice_69 : decode cX11_voice 69 = .ok (.goto 25, 3) := by decide +kernel
theorem dX11_voice_72 : decode cX11_voice 72 = .ok (.iload_n 2, 1) := by decide +kernel
theorem dX11_voice_73 : decode cX11_voice 73 = .ok (.iconst 2, 1) := by decide +kernel
theorem dX11_voice_74 : decode cX11_voice 74 = .ok (.if_icmp .ne 13, 3) := by decide +kernel
theorem dX11_voice_77 : decode cX11_voice 77 = .ok (.aload_n 0, 1) := by decide +kernel
theorem dX11_voice_78 : decode cX11_voice 78 = .ok (.iload 4, 2) := by decide +kernel
theorem dX11_voice_80 : decode cX11_voice 80 = .ok (.iload_n 3, 1) := by decide +kernel
theorem dX11_voice_81 : decode cX11_voice 81 = .ok (.invokevirtual 290, 3) := by decide +kernel
theorem dX11_voice_84 : decode cX11_voice 84 = .ok (.goto 10, 3) := by decide +kernel
theorem dX11_voice_87 : decode cX11_voice 87 = .ok (.aload_n 0, 1) := by decide +kernel
theorem dX11_voice_88 : decode cX11_voice 88 = .ok (.iload 4, 2) := by decide +kernel
theorem dX11_voice_90 : decode cX11_voice 90 = .ok (.iload_n 3, 1) := by decide +kernel
theorem dX11_voice_91 : decode cX11_voice 91 = .ok (.invokevirtual 297, 3) := by decide +kernel
theorem dX11_voice_94 : decode cX11_voice 94 = .ok (.istore 5, 2) := by decide +kernel
theorem dX11_voice_96 : decode cX11_voice 96 = .ok (.aload_n 0, 1) := by decide +kernel
theorem dX11_voice_97 : decode cX11_voice 97 = .ok (.getfield 293, 3) := by decide +kernel
theorem dX11_voice_100 : decode cX11_voice 100 = .ok (.ifCond .eq 12, 3) := by decide +kernel
theorem dX11_voice_103 : decode cX11_voice 103 = .ok (.aload_n 0, 1) := by decide +kernel
theorem dX11_voice_104 : decode cX11_voice 104 = .ok (.bipush 6, 2) := by decide +kernel
theorem dX11_voice_106 : decode cX11_voice 106 = .ok (.invokevirtual 79, 3) := by decide +kernel
theorem dX11_voice_109 : decode cX11_voice 109 = .ok (.goto 5, 3) := by decide +kernel
theorem dX11_voice_112 : decode cX11_voice 112 = .ok (.iload 5, 2) := by decide +kernel
theorem dX11_voice_114 : decode cX11_voice 114 = .ok (.ireturn, 1) := by decide +kernel
theorem dX11_body_0 : decode cX11_body 0 = .ok (.iload_n 1, 1) := by decide +kernel
theorem dX11_body_1 : decode cX11_body 1 = .ok (.iconst 0, 1) := by decide +kernel
theorem dX11_body_2 : decode cX11_body 2 = .ok (.aload_n 0, 1) := by decide +kernel
theorem dX11_body_3 : decode cX11_body 3 = .ok (.getfield 266, 3) := by decide +kernel
theorem dX11_body_6 : decode cX11_body 6 = .ok (.iconst 1, 1) := by decide +kernel
theorem dX11_body_7 : decode cX11_body 7 = .ok (.isub, 1) := by decide +kernel
theorem dX11_body_8 : decode cX11_body 8 = .ok (.invokestatic 60, 3) := by decide +kernel
theorem dX11_body_11 : decode cX11_body 11 = .ok (.ifCond .eq 12, 3) := by decide +kernel
theorem dX11_body_14 : decode cX11_body 14 = .ok (.aload_n 0, 1) := by decide +kernel
theorem dX11_body_15 : decode cX11_body 15 = .ok (.getfield 40, 3) := by decide +kernel
theorem dX11_body_18 : decode cX11_body 18 = .ok (.iload_n 1, 1) := by decide +kernel
theorem dX11_body_19 : decode cX11_body 19 = .ok (.iaload, 1) := by decide +kernel
theorem dX11_body_20 : decode cX11_body 20 = .ok (.goto 8, 3) := by decide +kernel
theorem dX11_body_23 : decode cX11_body 23 = .ok (.aload_n 0, 1) := by decide +kernel
theorem dX11_body_24 : decode cX11_body 24 = .ok (.iconst 2, 1) := by decide +kernel
theorem dX11_body_25 : decode cX11_body 25 = .ok (.invokevirtual 79, 3) := by decide +kernel
theorem dX11_body_28 : decode cX11_body 28 = .ok (.ireturn, 1) := by decide +kernel
theorem dX11_isSheet_0 : decode cX11_isSheet 0 = .ok (.iload_n 0, 1) := by decide +kernel
theorem dX11_isSheet_1 : decode cX11_isSheet 1 = .ok (.iconst 0, 1) := by decide +kernel
theorem dX11_isSheet_2 : decode cX11_isSheet 2 = .ok (.iconst 3, 1) := by decide +kernel
theorem dX11_isSheet_3 : decode cX11_isSheet 3 = .ok (.invokestatic 60, 3) := by decide +kernel
theorem dX11_isSheet_6 : decode cX11_isSheet 6 = .ok (.ireturn, 1) := by decide +kernel
theorem dX11_sheet_0 : decode cX11_sheet 0 = .ok (.iload_n 1, 1) := by decide +kernel
theorem dX11_sheet_1 : decode cX11_sheet 1 = .ok (.invokestatic 202, 3) := by decide +kernel
theorem dX11_sheet_4 : decode cX11_sheet 4 = .ok (.ifCond .eq 25, 3) := by decide +kernel
theorem dX11_sheet_7 : decode cX11_sheet 7 = .ok (.iload_n 2, 1) := by decide +kernel
theorem dX11_sheet_8 : decode cX11_sheet 8 = .ok (.ifCond .eq 27, 3) := by decide +kernel
theorem dX11_sheet_11 : decode cX11_sheet 11 = .ok (.iload_n 2, 1) := by decide +kernel
theorem dX11_sheet_12 : decode cX11_sheet 12 = .ok (.bipush 8, 2) := by decide +kernel
theorem dX11_sheet_14 : decode cX11_sheet 14 = .ok (.if_icmp .eq 21, 3) := by decide +kernel
theorem dX11_sheet_17 : decode cX11_sheet 17 = .ok (.iload_n 2, 1) := by decide +kernel
theorem dX11_sheet_18 : decode cX11_sheet 18 = .ok (.bipush 16, 2) := by decide +kernel
theorem dX11_sheet_20 : decode cX11_sheet 20 = .ok (.if_icmp .eq 15, 3) := by decide +kernel
theorem dX11_sheet_23 : decode cX11_sheet 23 = .ok (.iload_n 2, 1) := by decide +kernel
theorem dX11_sheet_24 : decode cX11_sheet 24 = .ok (.bipush 32, 2) := by decide +kernel
theorem dX11_sheet_26 : decode cX11_sheet 26 = .ok (.if_icmp .eq 9, 3) := by decide +kernel
theorem dX11_sheet_29 : decode cX11_sheet 29 = .ok (.aload_n 0, 1) := by decide +kernel
theorem dX11_sheet_30 : decode cX11_sheet 30 = .ok (.iconst 1, 1) := by decide +kernel
theorem dX11_sheet_31 : decode cX11_sheet 31 = .ok (.invokevirtual 79, 3) := by decide +kernel
theorem dX11_sheet_34 : decode cX11_sheet 34 = .ok (.ireturn, 1) := by decide +kernel
theorem dX11_sheet_35 : decode cX11_sheet 35 = .ok (.iload_n 2, 1) := by decide +kernel
theorem dX11_sheet_36 : decode cX11_sheet 36 = .ok (.ifCond .eq 13, 3) := by decide +kernel
theorem dX11_sheet_39 : decode cX11_sheet 39 = .ok (.iload_n 3, 1) := by decide +kernel
theorem dX11_sheet_40 : decode cX11_sheet 40 = .ok (.ifCond .ge 9, 3) := by decide +kernel
theorem dX11_sheet_43 : decode cX11_sheet 43 = .ok (.aload_n 0, 1) := by decide +kernel
theorem dX11_sheet_44 : decode cX11_sheet 44 = .ok (.iconst 3, 1) := by decide +kernel
theorem dX11_sheet_45 : decode cX11_sheet 45 = .ok (.invokevirtual 79, 3) := by decide +kernel
theorem dX11_sheet_48 : decode cX11_sheet 48 = .ok (.ireturn, 1) := by decide +kernel
theorem dX11_sheet_49 : decode cX11_sheet 49 = .ok (.iload_n 2, 1) := by decide +kernel
theorem dX11_sheet_50 : decode cX11_sheet 50 = .ok (.ifCond .eq 15, 3) := by decide +kernel
theorem dX11_sheet_53 : decode cX11_sheet 53 = .ok (.iload_n 3, 1) := by decide +kernel
theorem dX11_sheet_54 : decode cX11_sheet 54 = .ok (.bipush 40, 2) := by decide +kernel
theorem dX11_sheet_56 : decode cX11_sheet 56 = .ok (.if_icmp .le 9, 3) := by decide +kernel
theorem dX11_sheet_59 : decode cX11_sheet 59 = .ok (.aload_n 0, 1) := by decide +kernel
theorem dX11_sheet_60 : decode cX11_sheet 60 = .ok (.iconst 1, 1) := by decide +kernel
theorem dX11_sheet_61 : decode cX11_sheet 61 = .ok (.invokevirtual 79, 3) := by decide +kernel
theorem dX11_sheet_64 : decode cX11_sheet 64 = .ok (.ireturn, 1) := by decide +kernel
theorem dX11_sheet_65 : decode cX11_sheet 65 = .ok (.aload_n 0, 1) := by decide +kernel
theorem dX11_sheet_66 : decode cX11_sheet 66 = .ok (.getfield 43, 3) := by decide +kernel
theorem dX11_sheet_69 : decode cX11_sheet 69 = .ok (.iload_n 1, 1) := by decide +kernel
theorem dX11_sheet_70 : decode cX11_sheet 70 = .ok (.iload_n 2, 1) := by decide +kernel
theorem dX11_sheet_71 : decode cX11_sheet 71 = .ok (.iastore, 1) := by decide +kernel
theorem dX11_sheet_72 : decode cX11_sheet 72 = .ok (.aload_n 0, 1) := by decide +kernel
theorem dX11_sheet_73 : decode cX11_sheet 73 = .ok (.getfield 46, 3) := by decide +kernel
theorem dX11_sheet_76 : decode cX11_sheet 76 = .ok (.iload_n 1, 1) := by decide +kernel
theorem dX11_sheet_77 : decode cX11_sheet 77 = .ok (.iload_n 2, 1) := by decide +kernel
theorem dX11_sheet_78 : decode cX11_sheet 78 = .ok (.ifCond .ne 7, 3) := by decide +kernel
theorem dX11_sheet_81 : decode cX11_sheet 81 = .ok (.iconst 0, 1) := by decide +kernel
theorem dX11_sheet_82 : decode cX11_sheet 82 = .ok (.goto 4, 3) := by decide +kernel
theorem dX11_sheet_85 : decode cX11_sheet 85 = .ok (.iload_n 3, 1) := by decide +kernel
theorem dX11_sheet_86 : decode cX11_sheet 86 = .ok (.iastore, 1) := by decide +kernel
theorem dX11_sheet_87 : decode cX11_sheet 87 = .ok (.iconst 0, 1) := by decide +kernel
theorem dX11_sheet_88 : decode cX11_sheet 88 = .ok (.istore 4, 2) := by decide +kernel
theorem dX11_sheet_90 : decode cX11_sheet 90 = .ok (.iload 4, 2) := by decide +kernel
theorem dX11_sheet_92 : decode cX11_sheet 92 = .ok (.bipush 40, 2) := by decide +kernel
theorem dX11_sheet_94 : decode cX11_sheet 94 = .ok (.if_icmp .ge 22, 3) := by decide +kernel
theorem dX11_sheet_97 : decode cX11_sheet 97 = .ok (.aload_n 0, 1) := by decide +kernel
theorem dX11_sheet_98 : decode cX11_sheet 98 = .ok (.getfield 49, 3) := by decide +kernel
theorem dX11_sheet_101 : decode cX11_sheet 101 = .ok (.bipush 40, 2) := by decide +kernel
theorem dX11_sheet_103 : decode cX11_sheet 103 = .ok (.iload_n 1, 1) := by decide +kernel
theorem dX11_sheet_104 : decode cX11_sheet 104 = .ok (.imul, 1) := by decide +kernel
theorem dX11_sheet_105 : decode cX11_sheet 105 = .ok (.iload 4, 2) := by decide +kernel
theorem dX11_sheet_107 : decode cX11_sheet 107 = .ok (.iadd, 1) := by decide +kernel
theorem dX11_sheet_108 : decode cX11_sheet 108 = .ok (.iconst 0, 1) := by decide +kernel
theorem dX11_sheet_109 : decode cX11_sheet 109 = .ok (.iastore, 1) := by decide +kernel
theorem dX11_sheet_110 : decode cX11_sheet 110 = .ok (.iinc 4 1, 3) := by decide +kernel
theorem dX11_sheet_113 : decode cX11_sheet 113 = .ok (.goto (-23), 3) := by decide +kernel
theorem dX11_sheet_116 : decode cX11_sheet 116 = .ok (.iconst 1, 1) := by decide +kernel
theorem dX11_sheet_117 : decode cX11_sheet 117 = .ok (.ireturn, 1) := by decide +kernel
theorem dX11_put_0 : decode cX11_put 0 = .ok (.iload_n 1, 1) := by decide +kernel
theorem dX11_put_1 : decode cX11_put 1 = .ok (.invokestatic 202, 3) := by decide +kernel
theorem dX11_put_4 : decode cX11_put 4 = .ok (.ifCond .ne 9, 3) := by decide +kernel
theorem dX11_put_7 : decode cX11_put 7 = .ok (.aload_n 0, 1) := by decide +kernel
theorem dX11_put_8 : decode cX11_put 8 = .ok (.iconst 1, 1) := by decide +kernel
theorem dX11_put_9 : decode cX11_put 9 = .ok (.invokevirtual 79, 3) := by decide +kernel
theorem dX11_put_12 : decode cX11_put 12 = .ok (.ireturn, 1) := by decide +kernel
theorem dX11_put_13 : decode cX11_put 13 = .ok (.aload_n 0, 1) := by decide +kernel
theorem dX11_put_14 : decode cX11_put 14 = .ok (.getfield 43, 3) := by decide +kernel
theorem dX11_put_17 : decode cX11_put 17 = .ok (.iload_n 1, 1) := by decide +kernel
theorem dX11_put_18 : decode cX11_put 18 = .ok (.iaload, 1) := by decide +kernel
theorem dX11_put_19 : decode cX11_put 19 = .ok (.ifCond .ne 9, 3) := by decide +kernel
theorem dX11_put_22 : decode cX11_put 22 = .ok (.aload_n 0, 1) := by decide +kernel
theorem dX11_put_23 : decode cX11_put 23 = .ok (.iconst 2, 1) := by decide +kernel
theorem dX11_put_24 : decode cX11_put 24 = .ok (.invokevirtual 79, 3) := by decide +kernel
theorem dX11_put_27 : decode cX11_put 27 = .ok (.ireturn, 1) := by decide +kernel
theorem dX11_put_28 : decode cX11_put 28 = .ok (.iload_n 2, 1) := by decide +kernel
theorem dX11_put_29 : decode cX11_put 29 = .ok (.iconst 0, 1) := by decide +kernel
theorem dX11_put_30 : decode cX11_put 30 = .ok (.aload_n 0, 1) := by decide +kernel
theorem dX11_put_31 : decode cX11_put 31 = .ok (.getfield 46, 3) := by decide +kernel
theorem dX11_put_34 : decode cX11_put 34 = .ok (.iload_n 1, 1) := by decide +kernel
theorem dX11_put_35 : decode cX11_put 35 = .ok (.iaload, 1) := by decide +kernel
theorem dX11_put_36 : decode cX11_put 36 = .ok (.iconst 1, 1) := by decide +kernel
theorem dX11_put_37 : decode cX11_put 37 = .ok (.isub, 1) := by decide +kernel
theorem dX11_put_38 : decode cX11_put 38 = .ok (.invokestatic 60, 3) := by decide +kernel
theorem dX11_put_41 : decode cX11_put 41 = .ok (.ifCond .ne 9, 3) := by decide +kernel
theorem dX11_put_44 : decode cX11_put 44 = .ok (.aload_n 0, 1) := by decide +kernel
theorem dX11_put_45 : decode cX11_put 45 = .ok (.iconst 1, 1) := by decide +kernel
theorem dX11_put_46 : decode cX11_put 46 = .ok (.invokevirtual 79, 3) := by decide +kernel
theorem dX11_put_49 : decode cX11_put 49 = .ok (.ireturn, 1) := by decide +kernel
theorem dX11_put_50 : decode cX11_put 50 = .ok (.bipush 32, 2) := by decide +kernel
theorem dX11_put_52 : decode cX11_put 52 = .ok (.aload_n 0, 1) := by decide +kernel
theorem dX11_put_53 : decode cX11_put 53 = .ok (.getfield 43, 3) := by decide +kernel
theorem dX11_put_56 : decode cX11_put 56 = .ok (.iload_n 1, 1) := by decide +kernel
theorem dX11_put_57 : decode cX11_put 57 = .ok (.iaload, 1) := by decide +kernel
theorem dX11_put_58 : decode cX11_put 58 = .ok (.isub, 1) := by decide +kernel
theorem dX11_put_59 : decode cX11_put 59 = .ok (.istore 4, 2) := by decide +kernel
theorem dX11_put_61 : decode cX11_put 61 = .ok (.aload_n 0, 1) := by decide +kernel
theorem dX11_put_62 : decode cX11_put 62 = .ok (.getfield 49, 3) := by decide +kernel
theorem dX11_put_65 : decode cX11_put 65 = .ok (.bipush 40, 2) := by decide +kernel
theorem dX11_put_67 : decode cX11_put 67 = .ok (.iload_n 1, 1) := by decide +kernel
theorem dX11_put_68 : decode cX11_put 68 = .ok (.imul, 1) := by decide +kernel
theorem dX11_put_69 : decode cX11_put 69 = .ok (.iload_n 2, 1) := by decide +kernel
theorem dX11_put_70 : decode cX11_put 70 = .ok (.iadd, 1) := by decide +kernel
theorem dX11_put_71 : decode cX11_put 71 = .ok (.iload_n 3, 1) := by decide +kernel
theorem dX11_put_72 : decode cX11_put 72 = .ok (.iload 4, 2) := by decide +kernel
theorem dX11_put_74 : decode cX11_put 74 = .ok (.ishl, 1) := by decide +kernel
theorem dX11_put_75 : decode cX11_put 75 = .ok (.iload 4, 2) := by decide +kernel
theorem dX11_put_77 : decode cX11_put 77 = .ok (.ishr, 1) := by decide +kernel
theorem dX11_put_78 : decode cX11_put 78 = .ok (.iastore, 1) := by decide +kernel
theorem dX11_put_79 : decode cX11_put 79 = .ok (.iconst 1, 1) := by decide +kernel
theorem dX11_put_80 : decode cX11_put 80 = .ok (.ireturn, 1) := by decide +kernel
theorem dX11_move_0 : decode cX11_move 0 = .ok (.iload_n 1, 1) := by decide +kernel
theorem dX11_move_1 : decode cX11_move 1 = .ok (.invokestatic 202, 3) := by decide +kernel
theorem dX11_move_4 : decode cX11_move 4 = .ok (.ifCond .eq 10, 3) := by decide +kernel
theorem dX11_move_7 : decode cX11_move 7 = .ok (.iload_n 3, 1) := by decide +kernel
theorem dX11_move_8 : decode cX11_move 8 = .ok (.invokestatic 202, 3) := by decide +kernel
theorem dX11_move_11 : decode cX11_move 11 = .ok (.ifCond .ne 9, 3) := by decide +kernel
theorem dX11_move_14 : decode cX11_move 14 = .ok (.aload_n 0, 1) := by decide +kernel
theorem dX11_move_15 : decode cX11_move 15 = .ok (.iconst 1, 1) := by decide +kernel
theorem dX11_move_16 : decode cX11_move 16 = .ok (.invokevirtual 79, 3) := by decide +kernel
theorem dX11_move_19 : decode cX11_move 19 = .ok (.ireturn, 1) := by decide +kernel
theorem dX11_move_20 : decode cX11_move 20 = .ok (.aload_n 0, 1) := by decide +kernel
theorem dX11_move_21 : decode cX11_move 21 = .ok (.getfield 43, 3) := by decide +kernel
theorem dX11_move_24 : decode cX11_move 24 = .ok (.iload_n 1, 1) := by decide +kernel
theorem dX11_move_25 : decode cX11_move 25 = .ok (.iaload, 1) := by decide +kernel
theorem dX11_move_26 : decode cX11_move 26 = .ok (.ifCond .eq 12, 3) := by decide +kernel
theorem dX11_move_29 : decode cX11_move 29 = .ok (.aload_n 0, 1) := by decide +kernel
theorem dX11_move_30 : decode cX11_move 30 = .ok (.getfield 43, 3) := by decide +kernel
theorem dX11_move_33 : decode cX11_move 33 = .ok (.iload_n 3, 1) := by decide +kernel
theorem dX11_move_34 : decode cX11_move 34 = .ok (.iaload, 1) := by decide +kernel
theorem dX11_move_35 : decode cX11_move 35 = .ok (.ifCond .ne 9, 3) := by decide +kernel
theorem dX11_move_38 : decode cX11_move 38 = .ok (.aload_n 0, 1) := by decide +kernel
theorem dX11_move_39 : decode cX11_move 39 = .ok (.iconst 2, 1) := by decide +kernel
theorem dX11_move_40 : decode cX11_move 40 = .ok (.invokevirtual 79, 3) := by decide +kernel
theorem dX11_move_43 : decode cX11_move 43 = .ok (.ireturn, 1) := by decide +kernel
theorem dX11_move_44 : decode cX11_move 44 = .ok (.aload_n 0, 1) := by decide +kernel
theorem dX11_move_45 : decode cX11_move 45 = .ok (.getfield 43, 3) := by decide +kernel
theorem dX11_move_48 : decode cX11_move 48 = .ok (.iload_n 1, 1) := by decide +kernel
theorem dX11_move_49 : decode cX11_move 49 = .ok (.iaload, 1) := by decide +kernel
theorem dX11_move_50 : decode cX11_move 50 = .ok (.aload_n 0, 1) := by decide +kernel
theorem dX11_move_51 : decode cX11_move 51 = .ok (.getfield 43, 3) := by decide +kernel
theorem dX11_move_54 : decode cX11_move 54 = .ok (.iload_n 3, 1) := by decide +kernel
theorem dX11_move_55 : decode cX11_move 55 = .ok (.iaload, 1) := by decide +kernel
theorem dX11_move_56 : decode cX11_move 56 = .ok (.if_icmp .eq 9, 3) := by decide +kernel
theorem dX11_move_59 : decode cX11_move 59 = .ok (.aload_n 0, 1) := by decide +kernel
theorem dX11_move_60 : decode cX11_move 60 = .ok (.iconst 5, 1) := by decide +kernel
theorem dX11_move_61 : decode cX11_move 61 = .ok (.invokevirtual 79, 3) := by decide +kernel
theorem dX11_move_64 : decode cX11_move 64 = .ok (.ireturn, 1) := by decide +kernel
theorem dX11_move_65 : decode cX11_move 65 = .ok (.iload 5, 2) := by decide +kernel
theorem dX11_move_67 : decode cX11_move 67 = .ok (.ifCond .lt 39, 3) := by decide +kernel
theorem dX11_move_70 : decode cX11_move 70 = .ok (.iload_n 2, 1) := by decide +kernel
theorem dX11_move_71 : decode cX11_move 71 = .ok (.ifCond .lt 35, 3) := by decide +kernel
theorem dX11_move_74 : decode cX11_move 74 = .ok (.iload 4, 2) := by decide +kernel
theorem dX11_move_76 : decode cX11_move 76 = .ok (.ifCond .lt 30, 3) := by decide +kernel
theorem dX11_move_79 : decode cX11_move 79 = .ok (.iload_n 2, 1) := by decide +kernel
theorem dX11_move_80 : decode cX11_move 80 = .ok (.aload_n 0, 1) := by decide +kernel
theorem dX11_move_81 : decode cX11_move 81 = .ok (.getfield 46, 3) := by decide +kernel
theorem dX11_move_84 : decode cX11_move 84 = .ok (.iload_n 1, 1) := by decide +kernel
theorem dX11_move_85 : decode cX11_move 85 = .ok (.iaload, 1) := by decide +kernel
theorem dX11_move_86 : decode cX11_move 86 = .ok (.iload 5, 2) := by decide +kernel
theorem dX11_move_88 : decode cX11_move 88 = .ok (.isub, 1) := by decide +kernel
theorem dX11_move_89 : decode cX11_move 89 = .ok (.if_icmp .gt 17, 3) := by decide +kernel
theorem dX11_move_92 : decode cX11_move 92 = .ok (.iload 4, 2) := by decide +kernel
theorem dX11_move_94 : decode cX11_move 94 = .ok (.aload_n 0, 1) := by decide +kernel
theorem dX11_move_95 : decode cX11_move 95 = .ok (.getfield 46, 3) := by decide +kernel
theorem dX11_move_98 : decode cX11_move 98 = .ok (.iload_n 3, 1) := by decide +kernel
theorem dX11_move_99 : decode cX11_move 99 = .ok (.iaload, 1) := by decide +kernel
theorem dX11_move_100 : decode cX11_move 100 = .ok (.iload 5, 2) := by decide +kernel
theorem dX11_move_102 : decode cX11_move 102 = .ok (.isub, 1) := by decide +kernel
theorem dX11_move_103 : decode cX11_move 103 = .ok (.if_icmp .le 9, 3) := by decide +kernel
theorem dX11_move_106 : decode cX11_move 106 = .ok (.aload_n 0, 1) := by decide +kernel
theorem dX11_move_107 : decode cX11_move 107 = .ok (.iconst 1, 1) := by decide +kernel
theorem dX11_move_108 : decode cX11_move 108 = .ok (.invokevirtual 79, 3) := by decide +kernel
theorem dX11_move_111 : decode cX11_move 111 = .ok (.ireturn, 1) := by decide +kernel
theorem dX11_move_112 : decode cX11_move 112 = .ok (.iconst 0, 1) := by decide +kernel
theorem dX11_move_113 : decode cX11_move 113 = .ok (.istore 6, 2) := by decide +kernel
theorem dX11_move_115 : decode cX11_move 115 = .ok (.iload 6, 2) := by decide +kernel
theorem dX11_move_117 : decode cX11_move 117 = .ok (.iload 5, 2) := by decide +kernel
theorem dX11_move_119 : decode cX11_move 119 = .ok (.if_icmp .ge 30, 3) := by decide +kernel
theorem dX11_move_122 : decode cX11_move 122 = .ok (.aload_n 0, 1) := by decide +kernel
theorem dX11_move_123 : decode cX11_move 123 = .ok (.getfield 52, 3) := by decide +kernel
theorem dX11_move_126 : decode cX11_move 126 = .ok (.iload 6, 2) := by decide +kernel
theorem dX11_move_128 : decode cX11_move 128 = .ok (.aload_n 0, 1) := by decide +kernel
theorem dX11_move_129 : decode cX11_move 129 = .ok (.getfield 49, 3) := by decide +kernel
theorem dX11_move_132 : decode cX11_move 132 = .ok (.bipush 40, 2) := by decide +kernel
theorem dX11_move_134 : decode cX11_move 134 = .ok (.iload_n 1, 1) := by decide +kernel
theorem dX11_move_135 : decode cX11_move 135 = .ok (.imul, 1) := by decide +kernel
theorem dX11_move_136 : decode cX11_move 136 = .ok (.iload_n 2, 1) := by decide +kernel
theorem dX11_move_137 : decode cX11_move 137 = .ok (.iadd, 1) := by decide +kernel
theorem dX11_move_138 : decode cX11_move 138 = .ok (.iload 6, 2) := by decide +kernel
theorem dX11_move_140 : decode cX11_move 140 = .ok (.iadd, 1) := by decide +kernel
theorem dX11_move_141 : decode cX11_move 141 = .ok (.iaload, 1) := by decide +kernel
theorem dX11_move_142 : decode cX11_move 142 = .ok (.iastore, 1) := by decide +kernel
theorem dX11_move_143 : decode cX11_move 143 = .ok (.iinc 6 1, 3) := by decide +kernel
theorem dX11_move_146 : decode cX11_move 146 = .ok (.goto (-31), 3) := by decide +kernel
theorem dX11_move_149 : decode cX11_move 149 = .ok (.iconst 0, 1) := by decide +kernel
theorem dX11_move_150 : decode cX11_move 150 = .ok (.istore 6, 2) := by decide +kernel
theorem dX11_move_152 : decode cX11_move 152 = .ok (.iload 6, 2) := by decide +kernel
theorem dX11_move_154 : decode cX11_move 154 = .ok (.iload 5, 2) := by decide +kernel
theorem dX11_move_156 : decode cX11_move 156 = .ok (.if_icmp .ge 31, 3) := by decide +kernel
theorem dX11_move_159 : decode cX11_move 159 = .ok (.aload_n 0, 1) := by decide +kernel
theorem dX11_move_160 : decode cX11_move 160 = .ok (.getfield 49, 3) := by decide +kernel
theorem dX11_move_163 : decode cX11_move 163 = .ok (.bipush 40, 2) := by decide +kernel
theorem dX11_move_165 : decode cX11_move 165 = .ok (.iload_n 3, 1) := by decide +kernel
theorem dX11_move_166 : decode cX11_move 166 = .ok (.imul, 1) := by decide +kernel
theorem dX11_move_167 : decode cX11_move 167 = .ok (.iload 4, 2) := by decide +kernel
theorem dX11_move_169 : decode cX11_move 169 = .ok (.iadd, 1) := by decide +kernel
theorem dX11_move_170 : decode cX11_move 170 = .ok (.iload 6, 2) := by decide +kernel
theorem dX11_move_172 : decode cX11_move 172 = .ok (.iadd, 1) := by decide +kernel
theorem dX11_move_173 : decode cX11_move 173 = .ok (.aload_n 0, 1) := by decide +kernel
theorem dX11_move_174 : decode cX11_move 174 = .ok (.getfield 52, 3) := by decide +kernel
theorem dX11_move_177 : decode cX11_move 177 = .ok (.iload 6, 2) := by decide +kernel
theorem dX11_move_179 : decode cX11_move 179 = .ok (.iaload, 1) := by decide +kernel
theorem dX11_move_180 : decode cX11_move 180 = .ok (.iastore, 1) := by decide +kernel
theorem dX11_move_181 : decode cX11_move 181 = .ok (.iinc 6 1, 3) := by decide +kernel
theorem dX11_move_184 : decode cX11_move 184 = .ok (.goto (-32), 3) := by decide +kernel
theorem dX11_move_187 : decode cX11_move 187 = .ok (.iload 5, 2) := by decide +kernel
theorem dX11_move_189 : decode cX11_move 189 = .ok (.ireturn, 1) := by decide +kernel
theorem dX11_lacks_0 : decode cX11_lacks 0 = .ok (.iload_n 1, 1) := by decide +kernel
theorem dX11_lacks_1 : decode cX11_lacks 1 = .ok (.invokestatic 202, 3) := by decide +kernel
theorem dX11_lacks_4 : decode cX11_lacks 4 = .ok (.ifCond .ne 7, 3) := by decide +kernel
theorem dX11_lacks_7 : decode cX11_lacks 7 = .ok (.iconst 1, 1) := by decide +kernel
theorem dX11_lacks_8 : decode cX11_lacks 8 = .ok (.goto 17, 3) := by decide +kernel
theorem dX11_lacks_11 : decode cX11_lacks 11 = .ok (.aload_n 0, 1) := by decide +kernel
theorem dX11_lacks_12 : decode cX11_lacks 12 = .ok (.getfield 43, 3) := by decide +kernel
theorem dX11_lacks_15 : decode cX11_lacks 15 = .ok (.iload_n 1, 1) := by decide +kernel
theorem dX11_lacks_16 : decode cX11_lacks 16 = .ok (.iaload, 1) := by decide +kernel
theorem dX11_lacks_17 : decode cX11_lacks 17 = .ok (.ifCond .ne 7, 3) := by decide +kernel
theorem dX11_lacks_20 : decode cX11_lacks 20 = .ok (.iconst 2, 1) := by decide +kernel
theorem dX11_lacks_21 : decode cX11_lacks 21 = .ok (.goto 4, 3) := by decide +kernel
theorem dX11_lacks_24 : decode cX11_lacks 24 = .ok (.iconst 0, 1) := by decide +kernel
theorem dX11_lacks_25 : decode cX11_lacks 25 = .ok (.ireturn, 1) := by decide +kernel
theorem dX11_cutAll_0 : decode cX11_cutAll 0 = .ok (.aload_n 0, 1) := by decide +kernel
theorem dX11_cutAll_1 : decode cX11_cutAll 1 = .ok (.iload_n 1, 1) := by decide +kernel
theorem dX11_cutAll_2 : decode cX11_cutAll 2 = .ok (.invokevirtual 300, 3) := by decide +kernel
theorem dX11_cutAll_5 : decode cX11_cutAll 5 = .ok (.istore_n 2, 1) := by decide +kernel
theorem dX11_cutAll_6 : decode cX11_cutAll 6 = .ok (.iload_n 2, 1) := by decide +kernel
theorem dX11_cutAll_7 : decode cX11_cutAll 7 = .ok (.ifCond .le 9, 3) := by decide +kernel
theorem dX11_cutAll_10 : decode cX11_cutAll 10 = .ok (.aload_n 0, 1) := by decide +kernel
theorem dX11_cutAll_11 : decode cX11_cutAll 11 = .ok (.iload_n 2, 1) := by decide +kernel
theorem dX11_cutAll_12 : decode cX11_cutAll 12 = .ok (.invokevirtual 79, 3) := by decide +kernel
theorem dX11_cutAll_15 : decode cX11_cutAll 15 = .ok (.ireturn, 1) := by decide +kernel
theorem dX11_cutAll_16 : decode cX11_cutAll 16 = .ok (.iconst 0, 1) := by decide +kernel
theorem dX11_cutAll_17 : decode cX11_cutAll 17 = .ok (.istore_n 3, 1) := by decide +kernel
theorem dX11_cutAll_18 : decode cX11_cutAll 18 = .ok (.iload_n 3, 1) := by decide +kernel
theorem dX11_cutAll_19 : decode cX11_cutAll 19 = .ok (.aload_n 0, 1) := by decide +kernel
theorem dX11_cutAll_20 : decode cX11_cutAll 20 = .ok (.getfield 46, 3) := by decide +kernel
theorem dX11_cutAll_23 : decode cX11_cutAll 23 = .ok (.iload_n 1, 1) := by decide +kernel
theorem dX11_cutAll_24 : decode cX11_cutAll 24 = .ok (.iaload, 1) := by decide +kernel
theorem dX11_cutAll_25 : decode cX11_cutAll 25 = .ok (.if_icmp .ge 59, 3) := by decide +kernel
theorem dX11_cutAll_28 : decode cX11_cutAll 28 = .ok (.aload_n 0, 1) := by decide +kernel
theorem dX11_cutAll_29 : decode cX11_cutAll 29 = .ok (.getfield 49, 3) := by decide +kernel
theorem dX11_cutAll_32 : decode cX11_cutAll 32 = .ok (.bipush 40, 2) := by decide +kernel
theorem dX11_cutAll_34 : decode cX11_cutAll 34 = .ok (.iload_n 1, 1) := by decide +kernel
theorem dX11_cutAll_35 : decode cX11_cutAll 35 = .ok (.imul, 1) := by decide +kernel
theorem dX11_cutAll_36 : decode cX11_cutAll 36 = .ok (.iload_n 3, 1) := by decide +kernel
theorem dX11_cutAll_37 : decode cX11_cutAll 37 = .ok (.iadd, 1) := by decide +kernel
theorem dX11_cutAll_38 : decode cX11_cutAll 38 = .ok (.iaload, 1) := by decide +kernel
theorem dX11_cutAll_39 : decode cX11_cutAll 39 = .ok (.invokestatic 186, 3) := by decide +kernel
theorem dX11_cutAll_42 : decode cX11_cutAll 42 = .ok (.ifCond .eq 42, 3) := by decide +kernel
theorem dX11_cutAll_45 : decode cX11_cutAll 45 = .ok (.aload_n 0, 1) := by decide +kernel
theorem dX11_cutAll_46 : decode cX11_cutAll 46 = .ok (.aload_n 0, 1) := by decide +kernel
theorem dX11_cutAll_47 : decode cX11_cutAll 47 = .ok (.getfield 49, 3) := by decide +kernel
theorem dX11_cutAll_50 : decode cX11_cutAll 50 = .ok (.bipush 40, 2) := by decide +kernel
theorem dX11_cutAll_52 : decode cX11_cutAll 52 = .ok (.iload_n 1, 1) := by decide +kernel
theorem dX11_cutAll_53 : decode cX11_cutAll 53 = .ok (.imul, 1) := by decide +kernel
theorem dX11_cutAll_54 : decode cX11_cutAll 54 = .ok (.iload_n 3, 1) := by decide +kernel
theorem dX11_cutAll_55 : decode cX11_cutAll 55 = .ok (.iadd, 1) := by decide +kernel
theorem dX11_cutAll_56 : decode cX11_cutAll 56 = .ok (.iaload, 1) := by decide +kernel
theorem dX11_cutAll_57 : decode cX11_cutAll 57 = .ok (.invokevirtual 75, 3) := by decide +kernel
theorem dX11_cutAll_60 : decode cX11_cutAll 60 = .ok (.ifCond .ne 24, 3) := by decide +kernel
theorem dX11_cutAll_63 : decode cX11_cutAll 63 = .ok (.aload_n 0, 1) := by decide +kernel
theorem dX11_cutAll_64 : decode cX11_cutAll 64 = .ok (.aload_n 0, 1) := by decide +kernel
theorem dX11_cutAll_65 : decode cX11_cutAll 65 = .ok (.getfield 49, 3) := by decide +kernel
theorem dX11_cutAll_68 : decode cX11_cutAll 68 = .ok (.bipush 40, 2) := by decide +kernel
theorem dX11_cutAll_70 : decode cX11_cutAll 70 = .ok (.iload_n 1, 1) := by decide +kernel
theorem dX11_cutAll_71 : decode cX11_cutAll 71 = .ok (.imul, 1) := by decide +kernel
theorem dX11_cutAll_72 : decode cX11_cutAll 72 = .ok (.iload_n 3, 1) := by decide +kernel
theorem dX11_cutAll_73 : decode cX11_cutAll 73 = .ok (.iadd, 1) := by decide +kernel
theorem dX11_cutAll_74 : decode cX11_cutAll 74 = .ok (.iaload, 1) := by decide +kernel
theorem dX11_cutAll_75 : decode cX11_cutAll 75 = .ok (.invokevirtual 192, 3) := by decide +kernel
theorem dX11_cutAll_78 : decode cX11_cutAll 78 = .ok (.iinc 3 1, 3) := by decide +kernel
theorem dX11_cutAll_81 : decode cX11_cutAll 81 = .ok (.goto (-63), 3) := by decide +kernel
theorem dX11_cutAll_84 : decode cX11_cutAll 84 = .ok (.iload_n 3, 1) := by decide +kernel
theorem dX11_cutAll_85 : decode cX11_cutAll 85 = .ok (.ireturn, 1) := by decide +kernel
theorem dX11_judge_0 : decode cX11_judge 0 = .ok (.aload_n 0, 1) := by decide +kernel
theorem dX11_judge_1 : decode cX11_judge 1 = .ok (.iload_n 1, 1) := by decide +kernel
theorem dX11_judge_2 : decode cX11_judge 2 = .ok (.invokevirtual 300, 3) := by decide +kernel
theorem dX11_judge_5 : decode cX11_judge 5 = .ok (.istore_n 2, 1) := by decide +kernel
theorem dX11_judge_6 : decode cX11_judge 6 = .ok (.iload_n 2, 1) := by decide +kernel
theorem dX11_judge_7 : decode cX11_judge 7 = .ok (.ifCond .le 9, 3) := by decide +kernel
theorem dX11_judge_10 : decode cX11_judge 10 = .ok (.aload_n 0, 1) := by decide +kernel
theorem dX11_judge_11 : decode cX11_judge 11 = .ok (.iload_n 2, 1) := by decide +kernel
theorem dX11_judge_12 : decode cX11_judge 12 = .ok (.invokevirtual 79, 3) := by decide +kernel
theorem dX11_judge_15 : decode cX11_judge 15 = .ok (.ireturn, 1) := by decide +kernel
theorem dX11_judge_16 : decode cX11_judge 16 = .ok (.iconst 0, 1) := by decide +kernel
theorem dX11_judge_17 : decode cX11_judge 17 = .ok (.istore_n 3, 1) := by decide +kernel
theorem dX11_judge_18 : decode cX11_judge 18 = .ok (.iload_n 3, 1) := by decide +kernel
theorem dX11_judge_19 : decode cX11_judge 19 = .ok (.aload_n 0, 1) := by decide +kernel
theorem dX11_judge_20 : decode cX11_judge 20 = .ok (.getfield 46, 3) := by decide +kernel
theorem dX11_judge_23 : decode cX11_judge 23 = .ok (.iload_n 1, 1) := by decide +kernel
theorem dX11_judge_24 : decode cX11_judge 24 = .ok (.iaload, 1) := by decide +kernel
theorem dX11_judge_25 : decode cX11_judge 25 = .ok (.if_icmp .ge 35, 3) := by decide +kernel
theorem dX11_judge_28 : decode cX11_judge 28 = .ok (.iload_n 3, 1) := by decide +kernel
theorem dX11_judge_29 : decode cX11_judge 29 = .ok (.bipush 31, 2) := by decide +kernel
theorem dX11_judge_31 : decode cX11_judge 31 = .ok (.if_icmp .ge 29, 3) := by decide +kernel
theorem dX11_judge_34 : decode cX11_judge 34 = .ok (.aload_n 0, 1) := by decide +kernel
theorem dX11_judge_35 : decode cX11_judge 35 = .ok (.getfield 49, 3) := by decide +kernel
theorem dX11_judge_38 : decode cX11_judge 38 = .ok (.bipush 40, 2) := by decide +kernel
theorem dX11_judge_40 : decode cX11_judge 40 = .ok (.iload_n 1, 1) := by decide +kernel
theorem dX11_judge_41 : decode cX11_judge 41 = .ok (.imul, 1) := by decide +kernel
theorem dX11_judge_42 : decode cX11_judge 42 = .ok (.iload_n 3, 1) := by decide +kernel
theorem dX11_judge_43 : decode cX11_judge 43 = .ok (.iadd, 1) := by decide +kernel
theorem dX11_judge_44 : decode cX11_judge 44 = .ok (.iaload, 1) := by decide +kernel
theorem dX11_judge_45 : decode cX11_judge 45 = .ok (.aload_n 0, 1) := by decide +kernel
theorem dX11_judge_46 : decode cX11_judge 46 = .ok (.iload_n 3, 1) := by decide +kernel
theorem dX11_judge_47 : decode cX11_judge 47 = .ok (.iconst 1, 1) := by decide +kernel
theorem dX11_judge_48 : decode cX11_judge 48 = .ok (.invokevirtual 64, 3) := by decide +kernel
theorem dX11_judge_51 : decode cX11_judge 51 = .ok (.if_icmp .ne 9, 3) := by decide +kernel
theorem dX11_judge_54 : decode cX11_judge 54 = .ok (.iinc 3 1, 3) := by decide +kernel
theorem dX11_judge_57 : decode cX11_judge 57 = .ok (.goto (-39), 3) := by decide +kernel
theorem dX11_judge_60 : decode cX11_judge 60 = .ok (.iload_n 3, 1) := by decide +kernel
theorem dX11_judge_61 : decode cX11_judge 61 = .ok (.ireturn, 1) := by decide +kernel
theorem dX11_image_0 : decode cX11_image 0 = .ok (.aload_n 0, 1) := by decide +kernel
theorem dX11_image_1 : decode cX11_image 1 = .ok (.getfield 7, 3) := by decide +kernel
theorem dX11_image_4 : decode cX11_image 4 = .ok (.aload_n 0, 1) := by decide +kernel
theorem dX11_image_5 : decode cX11_image 5 = .ok (.getfield 13, 3) := by decide +kernel
theorem dX11_image_8 : decode cX11_image 8 = .ok (.sipush 515, 3) := by decide +kernel
theorem dX11_image_11 : decode cX11_image 11 = .ok (.invokestatic 56, 3) := by decide +kernel
theorem dX11_image_14 : decode cX11_image 14 = .ok (.aload_n 0, 1) := by decide +kernel
theorem dX11_image_15 : decode cX11_image 15 = .ok (.dup, 1) := by decide +kernel
theorem dX11_image_16 : decode cX11_image 16 = .ok (.getfield 303, 3) := by decide +kernel
theorem dX11_image_19 : decode cX11_image 19 = .ok (.iconst 1, 1) := by decide +kernel
theorem dX11_image_20 : decode cX11_image 20 = .ok (.iadd, 1) := by decide +kernel
theorem dX11_image_21 : decode cX11_image 21 = .ok (.putfield 303, 3) := by decide +kernel
theorem dX11_image_24 : decode cX11_image 24 = .ok (.aload_n 0, 1) := by decide +kernel
theorem dX11_image_25 : decode cX11_image 25 = .ok (.getfield 303, 3) := by decide +kernel
theorem dX11_image_28 : decode cX11_image 28 = .ok (.ireturn, 1) := by decide +kernel
theorem dX11_restore_0 : decode cX11_restore 0 = .ok (.aload_n 0, 1) := by decide +kernel
theorem dX11_restore_1 : decode cX11_restore 1 = .ok (.getfield 303, 3) := by decide +kernel
theorem dX11_restore_4 : decode cX11_restore 4 = .ok (.ifCond .ne 9, 3) := by decide +kernel
theorem dX11_restore_7 : decode cX11_restore 7 = .ok (.aload_n 0, 1) := by decide +kernel
theorem dX11_restore_8 : decode cX11_restore 8 = .ok (.iconst 2, 1) := by decide +kernel
theorem dX11_restore_9 : decode cX11_restore 9 = .ok (.invokevirtual 79, 3) := by decide +kernel
theorem dX11_restore_12 : decode cX11_restore 12 = .ok (.ireturn, 1) := by decide +kernel
theorem dX11_restore_13 : decode cX11_restore 13 = .ok (.aload_n 0, 1) := by decide +kernel
theorem dX11_restore_14 : decode cX11_restore 14 = .ok (.getfield 13, 3) := by decide +kernel
theorem dX11_restore_17 : decode cX11_restore 17 = .ok (.aload_n 0, 1) := by decide +kernel
theorem dX11_restore_18 : decode cX11_restore 18 = .ok (.getfield 7, 3) := by decide +kernel
theorem dX11_restore_21 : decode cX11_restore 21 = .ok (.sipush 515, 3) := by decide +kernel
theorem dX11_restore_24 : decode cX11_restore 24 = .ok (.invokestatic 56, 3) := by decide +kernel
theorem dX11_restore_27 : decode cX11_restore 27 = .ok (.aload_n 0, 1) := by decide +kernel
theorem dX11_restore_28 : decode cX11_restore 28 = .ok (.getfield 7, 3) := by decide +kernel
theorem dX11_restore_31 : decode cX11_restore 31 = .ok (.iconst 0, 1) := by decide +kernel
theorem dX11_restore_32 : decode cX11_restore 32 = .ok (.iaload, 1) := by decide +kernel
theorem dX11_restore_33 : decode cX11_restore 33 = .ok (.ireturn, 1) := by decide +kernel
theorem dX11_tell_0 : decode cX11_tell 0 = .ok (.aload_n 0, 1) := by decide +kernel
theorem dX11_tell_1 : decode cX11_tell 1 = .ok (.getfield 7, 3) := by decide +kernel
theorem dX11_tell_4 : decode cX11_tell 4 = .ok (.iconst 3, 1) := by decide +kernel
theorem dX11_tell_5 : decode cX11_tell 5 = .ok (.iaload, 1) := by decide +kernel
theorem dX11_tell_6 : decode cX11_tell 6 = .ok (.bipush 24, 2) := by decide +kernel
theorem dX11_tell_8 : decode cX11_tell 8 = .ok (.if_icmp .ne 9, 3) := by decide +kernel
theorem dX11_tell_11 : decode cX11_tell 11 = .ok (.aload_n 0, 1) := by decide +kernel
theorem dX11_tell_12 : decode cX11_tell 12 = .ok (.iconst 4, 1) := by decide +kernel
theorem dX11_tell_13 : decode cX11_tell 13 = .ok (.invokevirtual 79, 3) := by decide +kernel
theorem dX11_tell_16 : decode cX11_tell 16 = .ok (.ireturn, 1) := by decide +kernel
theorem dX11_tell_17 : decode cX11_tell 17 = .ok (.aload_n 0, 1) := by decide +kernel
theorem dX11_tell_18 : decode cX11_tell 18 = .ok (.getfield 7, 3) := by decide +kernel
theorem dX11_tell_21 : decode cX11_tell 21 = .ok (.sipush 491, 3) := by decide +kernel
theorem dX11_tell_24 : decode cX11_tell 24 = .ok (.aload_n 0, 1) := by decide +kernel
theorem dX11_tell_25 : decode cX11_tell 25 = .ok (.getfield 7, 3) := by decide +kernel
theorem dX11_tell_28 : decode cX11_tell 28 = .ok (.iconst 3, 1) := by decide +kernel
theorem dX11_tell_29 : decode cX11_tell 29 = .ok (.iaload, 1) := by decide +kernel
theorem dX11_tell_30 : decode cX11_tell 30 = .ok (.iadd, 1) := by decide +kernel
theorem dX11_tell_31 : decode cX11_tell 31 = .ok (.iload_n 1, 1) := by decide +kernel
theorem dX11_tell_32 : decode cX11_tell 32 = .ok (.iastore, 1) := by decide +kernel
theorem dX11_tell_33 : decode cX11_tell 33 = .ok (.aload_n 0, 1) := by decide +kernel
theorem dX11_tell_34 : decode cX11_tell 34 = .ok (.getfield 7, 3) := by decide +kernel
theorem dX11_tell_37 : decode cX11_tell 37 = .ok (.iconst 3, 1) := by decide +kernel
theorem dX11_tell_38 : decode cX11_tell 38 = .ok (.dup2, 1) := by decide +kernel
theorem dX11_tell_39 : decode cX11_tell 39 = .ok (.iaload, 1) := by decide +kernel
theorem dX11_tell_40 : decode cX11_tell 40 = .ok (.iconst 1, 1) := by decide +kernel
theorem dX11_tell_41 : decode cX11_tell 41 = .ok (.iadd, 1) := by decide +kernel
theorem dX11_tell_42 : decode cX11_tell 42 = .ok (.iastore, 1) := by decide +kernel
theorem dX11_tell_43 : decode cX11_tell 43 = .ok (.aload_n 0, 1) := by decide +kernel
theorem dX11_tell_44 : decode cX11_tell 44 = .ok (.getfield 7, 3) := by decide +kernel
theorem dX11_tell_47 : decode cX11_tell 47 = .ok (.iconst 3, 1) := by decide +kernel
theorem dX11_tell_48 : decode cX11_tell 48 = .ok (.iaload, 1) := by decide +kernel
theorem dX11_tell_49 : decode cX11_tell 49 = .ok (.ireturn, 1) := by decide +kernel
theorem dX11_check_0 : decode cX11_check 0 = .ok (.aload_n 0, 1) := by decide +kernel
theorem dX11_check_1 : decode cX11_check 1 = .ok (.getfield 7, 3) := by decide +kernel
theorem dX11_check_4 : decode cX11_check 4 = .ok (.iconst 3, 1) := by decide +kernel
theorem dX11_check_5 : decode cX11_check 5 = .ok (.iaload, 1) := by decide +kernel
theorem dX11_check_6 : decode cX11_check 6 = .ok (.istore_n 1, 1) := by decide +kernel
theorem dX11_check_7 : decode cX11_check 7 = .ok (.aload_n 0, 1) := by decide +kernel
theorem dX11_check_8 : decode cX11_check 8 = .ok (.getfield 7, 3) := by decide +kernel
theorem dX11_check_11 : decode cX11_check 11 = .ok (.iconst 3, 1) := by decide +kernel
theorem dX11_check_12 : decode cX11_check 12 = .ok (.iconst 0, 1) := by decide +kernel
theorem dX11_check_13 : decode cX11_check 13 = .ok (.iastore, 1) := by decide +kernel
theorem dX11_check_14 : decode cX11_check 14 = .ok (.aload_n 0, 1) := by decide +kernel
theorem dX11_check_15 : decode cX11_check 15 = .ok (.invokevirtual 258, 3) := by decide +kernel
theorem dX11_check_18 : decode cX11_check 18 = .ok (.iconst 0, 1) := by decide +kernel
theorem dX11_check_19 : decode cX11_check 19 = .ok (.istore_n 2, 1) := by decide +kernel
theorem dX11_check_20 : decode cX11_check 20 = .ok (.iconst 1, 1) := by decide +kernel
theorem dX11_check_21 : decode cX11_check 21 = .ok (.istore_n 3, 1) := by decide +kernel
theorem dX11_check_22 : decode cX11_check 22 = .ok (.iload_n 2, 1) := by decide +kernel
theorem dX11_check_23 : decode cX11_check 23 = .ok (.iload_n 1, 1) := by decide +kernel
theorem dX11_check_24 : decode cX11_check 24 = .ok (.if_icmp .ge 49, 3) := by decide +kernel
theorem dX11_check_27 : decode cX11_check 27 = .ok (.iload_n 3, 1) := by decide +kernel
theorem dX11_check_28 : decode cX11_check 28 = .ok (.ifCond .eq 45, 3) := by decide +kernel
theorem dX11_check_31 : decode cX11_check 31 = .ok (.aload_n 0, 1) := by decide +kernel
theorem dX11_check_32 : decode cX11_check 32 = .ok (.invokevirtual 248, 3) := by decide +kernel
theorem dX11_check_35 : decode cX11_check 35 = .ok (.aload_n 0, 1) := by decide +kernel
theorem dX11_check_36 : decode cX11_check 36 = .ok (.getfield 7, 3) := by decide +kernel
theorem dX11_check_39 : decode cX11_check 39 = .ok (.sipush 491, 3) := by decide +kernel
theorem dX11_check_42 : decode cX11_check 42 = .ok (.iload_n 2, 1) := by decide +kernel
theorem dX11_check_43 : decode cX11_check 43 = .ok (.iadd, 1) := by decide +kernel
theorem dX11_check_44 : decode cX11_check 44 = .ok (.iaload, 1) := by decide +kernel
theorem dX11_check_45 : decode cX11_check 45 = .ok (.aload_n 0, 1) := by decide +kernel
theorem dX11_check_46 : decode cX11_check 46 = .ok (.invokevirtual 196, 3) := by decide +kernel
theorem dX11_check_49 : decode cX11_check 49 = .ok (.if_icmp .ne 7, 3) := by decide +kernel
theorem dX11_check_52 : decode cX11_check 52 = .ok (.iconst 1, 1) := by decide +kernel
theorem dX11_check_53 : decode cX11_check 53 = .ok (.goto 4, 3) := by decide +kernel
theorem dX11_check_56 : decode cX11_check 56 = .ok (.iconst 0, 1) := by decide +kernel
theorem dX11_check_57 : decode cX11_check 57 = .ok (.istore_n 3, 1) := by decide +kernel
theorem dX11_check_58 : decode cX11_check 58 = .ok (.iload_n 2, 1) := by decide +kernel
theorem dX11_check_59 : decode cX11_check 59 = .ok (.iload_n 3, 1) := by decide +kernel
theorem dX11_check_60 : decode cX11_check 60 = .ok (.ifCond .eq 7, 3) := by decide +kernel
theorem dX11_check_63 : decode cX11_check 63 = .ok (.iconst 1, 1) := by decide +kernel
theorem dX11_check_64 : decode cX11_check 64 = .ok (.goto 4, 3) := by decide +kernel
theorem dX11_check_67 : decode cX11_check 67 = .ok (.iconst 0, 1) := by decide +kernel
theorem dX11_check_68 : decode cX11_check 68 = .ok (.iadd, 1) := by decide +kernel
theorem dX11_check_69 : decode cX11_check 69 = .ok (.istore_n 2, 1) := by decide +kernel
theorem dX11_check_70 : decode cX11_check 70 = .ok (.goto (-48), 3) := by decide +kernel
theorem dX11_check_73 : decode cX11_check 73 = .ok (.aload_n 0, 1) := by decide +kernel
theorem dX11_check_74 : decode cX11_check 74 = .ok (.invokevirtual 261, 3) := by decide +kernel
theorem dX11_check_77 : decode cX11_check 77 = .ok (.iload_n 3, 1) := by decide +kernel
theorem dX11_check_78 : decode cX11_check 78 = .ok (.ifCond .eq 7, 3) := by decide +kernel
theorem dX11_check_81 : decode cX11_check 81 = .ok (.iconst 0, 1) := by decide +kernel
theorem dX11_check_82 : decode cX11_check 82 = .ok (.goto 6, 3) := by decide +kernel
theorem dX11_check_85 : decode cX11_check 85 = .ok (.iconst 1, 1) := by decide +kernel
theorem dX11_check_86 : decode cX11_check 86 = .ok (.iload_n 2, 1) := by decide +kernel
theorem dX11_check_87 : decode cX11_check 87 = .ok (.iadd, 1) := by decide +kernel
theorem dX11_check_88 : decode cX11_check 88 = .ok (.ireturn, 1) := by decide +kernel
theorem dX11_count_0 : decode cX11_count 0 = .ok (.iconst 0, 1) := by decide +kernel
theorem dX11_count_1 : decode cX11_count 1 = .ok (.istore_n 2, 1) := by decide +kernel
theorem dX11_count_2 : decode cX11_count 2 = .ok (.iconst 0, 1) := by decide +kernel
theorem dX11_count_3 : decode cX11_count 3 = .ok (.istore_n 3, 1) := by decide +kernel
theorem dX11_count_4 : decode cX11_count 4 = .ok (.iconst 0, 1) := by decide +kernel
theorem dX11_count_5 : decode cX11_count 5 = .ok (.istore 4, 2) := by decide +kernel
theorem dX11_count_7 : decode cX11_count 7 = .ok (.iload 4, 2) := by decide +kernel
theorem dX11_count_9 : decode cX11_count 9 = .ok (.bipush 31, 2) := by decide +kernel
theorem dX11_count_11 : decode cX11_count 11 = .ok (.if_icmp .ge 46, 3) := by decide +kernel
theorem dX11_count_14 : decode cX11_count 14 = .ok (.iload_n 2, 1) := by decide +kernel
theorem dX11_count_15 : decode cX11_count 15 = .ok (.aload_n 0, 1) := by decide +kernel
theorem dX11_count_16 : decode cX11_count 16 = .ok (.iload 4, 2) := by decide +kernel
theorem dX11_count_18 : decode cX11_count 18 = .ok (.invokevirtual 75, 3) := by decide +kernel
theorem dX11_count_21 : decode cX11_count 21 = .ok (.ifCond .ne 17, 3) := by decide +kernel
theorem dX11_count_24 : decode cX11_count 24 = .ok (.aload_n 0, 1) := by decide +kernel
theorem dX11_count_25 : decode cX11_count 25 = .ok (.iload 4, 2) := by decide +kernel
theorem dX11_count_27 : decode cX11_count 27 = .ok (.iconst 2, 1) := by decide +kernel
theorem dX11_count_28 : decode cX11_count 28 = .ok (.invokevirtual 64, 3) := by decide +kernel
theorem dX11_count_31 : decode cX11_count 31 = .ok (.ifCond .ne 7, 3) := by decide +kernel
theorem dX11_count_34 : decode cX11_count 34 = .ok (.iconst 1, 1) := by decide +kernel
theorem dX11_count_35 : decode cX11_count 35 = .ok (.goto 4, 3) := by decide +kernel
theorem dX11_count_38 : decode cX11_count 38 = .ok (.iconst 0, 1) := by decide +kernel
theorem dX11_count_39 : decode cX11_count 39 = .ok (.iadd, 1) := by decide +kernel
theorem dX11_count_40 : decode cX11_count 40 = .ok (.istore_n 2, 1) := by decide +kernel
theorem dX11_count_41 : decode cX11_count 41 = .ok (.iload_n 3, 1) := by decide +kernel
theorem dX11_count_42 : decode cX11_count 42 = .ok (.aload_n 0, 1) := by decide +kernel
theorem dX11_count_43 : decode cX11_count 43 = .ok (.iload 4, 2) := by decide +kernel
theorem dX11_count_45 : decode cX11_count 45 = .ok (.iconst 1, 1) := by decide +kernel
theorem dX11_count_46 : decode cX11_count 46 = .ok (.invokevirtual 64, 3) := by decide +kernel
theorem dX11_count_49 : decode cX11_count 49 = .ok (.iadd, 1) := by decide +kernel
theorem dX11_count_50 : decode cX11_count 50 = .ok (.istore_n 3, 1) := by decide +kernel
theorem dX11_count_51 : decode cX11_count 51 = .ok (.iinc 4 1, 3) := by decide +kernel
theorem dX11_count_54 : decode cX11_count 54 = .ok (.goto (-47), 3) := by decide +kernel
theorem dX11_count_57 : decode cX11_count 57 = .ok (.iload_n 1, 1) := by decide +kernel
theorem dX11_count_58 : decode cX11_count 58 = .ok (.tableswitch 99 0 8 #[50, 57, 62, 64, 71, 73, 80, 87, 92], 50) := by decide +kernel
theorem dX11_count_108 : decode cX11_count 108 = .ok (.aload_n 0, 1) := by decide +kernel
theorem dX11_count_109 : decode cX11_count 109 = .ok (.getfield 7, 3) := by decide +kernel
theorem dX11_count_112 : decode cX11_count 112 = .ok (.iconst 0, 1) := by decide +kernel
theorem dX11_count_113 : decode cX11_count 113 = .ok (.iaload, 1) := by decide +kernel
theorem dX11_count_114 : decode cX11_count 114 = .ok (.ireturn, 1) := by decide +kernel
theorem dX11_count_115 : decode cX11_count 115 = .ok (.aload_n 0, 1) := by decide +kernel
theorem dX11_count_116 : decode cX11_count 116 = .ok (.invokevirtual 196, 3) := by decide +kernel
theorem dX11_count_119 : decode cX11_count 119 = .ok (.ireturn, 1) := by decide +kernel
theorem dX11_count_120 : decode cX11_count 120 = .ok (.iload_n 2, 1) := by decide +kernel
theorem dX11_count_121 : decode cX11_count 121 = .ok (.ireturn, 1) := by decide +kernel
theorem dX11_count_122 : decode cX11_count 122 = .ok (.aload_n 0, 1) := by decide +kernel
theorem dX11_count_123 : decode cX11_count 123 = .ok (.getfield 7, 3) := by decide +kernel
theorem dX11_count_126 : decode cX11_count 126 = .ok (.iconst 1, 1) := by decide +kernel
theorem dX11_count_127 : decode cX11_count 127 = .ok (.iaload, 1) := by decide +kernel
theorem dX11_count_128 : decode cX11_count 128 = .ok (.ireturn, 1) := by decide +kernel
theorem dX11_count_129 : decode cX11_count 129 = .ok (.iload_n 3, 1) := by decide +kernel
theorem dX11_count_130 : decode cX11_count 130 = .ok (.ireturn, 1) := by decide +kernel
theorem dX11_count_131 : decode cX11_count 131 = .ok (.aload_n 0, 1) := by decide +kernel
theorem dX11_count_132 : decode cX11_count 132 = .ok (.getfield 7, 3) := by decide +kernel
theorem dX11_count_135 : decode cX11_count 135 = .ok (.iconst 2, 1) := by decide +kernel
theorem dX11_count_136 : decode cX11_count 136 = .ok (.iaload, 1) := by decide +kernel
theorem dX11_count_137 : decode cX11_count 137 = .ok (.ireturn, 1) := by decide +kernel
theorem dX11_count_138 : decode cX11_count 138 = .ok (.aload_n 0, 1) := by decide +kernel
theorem dX11_count_139 : decode cX11_count 139 = .ok (.getfield 7, 3) := by decide +kernel
theorem dX11_count_142 : decode cX11_count 142 = .ok (.iconst 3, 1) := by decide +kernel
theorem dX11_count_143 : decode cX11_count 143 = .ok (.iaload, 1) := by decide +kernel
theorem dX11_count_144 : decode cX11_count 144 = .ok (.ireturn, 1) := by decide +kernel
theorem dX11_count_145 : decode cX11_count 145 = .ok (.aload_n 0, 1) := by decide +kernel
theorem dX11_count_146 : decode cX11_count 146 = .ok (.getfield 266, 3) := by decide +kernel
theorem dX11_count_149 : decode cX11_count 149 = .ok (.ireturn, 1) := by decide +kernel
theorem dX11_count_150 : decode cX11_count 150 = .ok (.aload_n 0, 1) := by decide +kernel
theorem dX11_count_151 : decode cX11_count 151 = .ok (.getfield 7, 3) := by decide +kernel
theorem dX11_count_154 : decode cX11_count 154 = .ok (.iconst 4, 1) := by decide +kernel
theorem dX11_count_155 : decode cX11_count 155 = .ok (.iaload, 1) := by decide +kernel
theorem dX11_count_156 : decode cX11_count 156 = .ok (.ireturn, 1) := by decide +kernel
theorem dX11_count_157 : decode cX11_count 157 = .ok (.iload_n 1, 1) := by decide +kernel
theorem dX11_count_158 : decode cX11_count 158 = .ok (.bipush 9, 2) := by decide +kernel
theorem dX11_count_160 : decode cX11_count 160 = .ok (.bipush 11, 2) := by decide +kernel
theorem dX11_count_162 : decode cX11_count 162 = .ok (.invokestatic 60, 3) := by decide +kernel
theorem dX11_count_165 : decode cX11_count 165 = .ok (.ifCond .eq 17, 3) := by decide +kernel
theorem dX11_count_168 : decode cX11_count 168 = .ok (.aload_n 0, 1) := by decide +kernel
theorem dX11_count_169 : decode cX11_count 169 = .ok (.getfield 7, 3) := by decide +kernel
theorem dX11_count_172 : decode cX11_count 172 = .ok (.iconst 5, 1) := by decide +kernel
theorem dX11_count_173 : decode cX11_count 173 = .ok (.iload_n 1, 1) := by decide +kernel
theorem dX11_count_174 : decode cX11_count 174 = .ok (.iadd, 1) := by decide +kernel
theorem dX11_count_175 : decode cX11_count 175 = .ok (.bipush 9, 2) := by decide +kernel
theorem dX11_count_177 : decode cX11_count 177 = .ok (.isub, 1) := by decide +kernel
theorem dX11_count_178 : decode cX11_count 178 = .ok (.iaload, 1) := by decide +kernel
theorem dX11_count_179 : decode cX11_count 179 = .ok (.goto 8, 3) := by decide +kernel
theorem dX11_count_182 : decode cX11_count 182 = .ok (.aload_n 0, 1) := by decide +kernel
theorem dX11_count_183 : decode cX11_count 183 = .ok (.iconst 1, 1) := by decide +kernel
theorem dX11_count_184 : decode cX11_count 184 = .ok (.invokevirtual 79, 3) := by decide +kernel
theorem dX11_count_187 : decode cX11_count 187 = .ok (.ireturn, 1) := by decide +kernel
theorem dX11_told_0 : decode cX11_told 0 = .ok (.iload_n 1, 1) := by decide +kernel
theorem dX11_told_1 : decode cX11_told 1 = .ok (.iconst 1, 1) := by decide +kernel
theorem dX11_told_2 : decode cX11_told 2 = .ok (.bipush 6, 2) := by decide +kernel
theorem dX11_told_4 : decode cX11_told 4 = .ok (.invokestatic 60, 3) := by decide +kernel
theorem dX11_told_7 : decode cX11_told 7 = .ok (.ifCond .eq 12, 3) := by decide +kernel
theorem dX11_told_10 : decode cX11_told 10 = .ok (.aload_n 0, 1) := by decide +kernel
theorem dX11_told_11 : decode cX11_told 11 = .ok (.getfield 19, 3) := by decide +kernel
theorem dX11_told_14 : decode cX11_told 14 = .ok (.iload_n 1, 1) := by decide +kernel
theorem dX11_told_15 : decode cX11_told 15 = .ok (.iaload, 1) := by decide +kernel
theorem dX11_told_16 : decode cX11_told 16 = .ok (.goto 8, 3) := by decide +kernel
theorem dX11_told_19 : decode cX11_told 19 = .ok (.aload_n 0, 1) := by decide +kernel
theorem dX11_told_20 : decode cX11_told 20 = .ok (.iconst 1, 1) := by decide +kernel
theorem dX11_told_21 : decode cX11_told 21 = .ok (.invokevirtual 79, 3) := by decide +kernel
theorem dX11_told_24 : decode cX11_told 24 = .ok (.ireturn, 1) := by decide +kernel
theorem dJ6_bitCount_0f7a4_0 : decode cJ6_bitCount_0f7a4 0 = .ok (.iload_n 0, 1) := by decide +kernel
theorem dJ6_bitCount_0f7a4_1 : decode cJ6_bitCount_0f7a4 1 = .ok (.iload_n 0, 1) := by decide +kernel
theorem dJ6_bitCount_0f7a4_2 : decode cJ6_bitCount_0f7a4 2 = .ok (.iconst 1, 1) := by decide +kernel
theorem dJ6_bitCount_0f7a4_3 : decode cJ6_bitCount_0f7a4 3 = .ok (.iushr, 1) := by decide +kernel
theorem dJ6_bitCount_0f7a4_4 : decode cJ6_bitCount_0f7a4 4 = .ok (.ldc_w 265, 3) := by decide +kernel
theorem dJ6_bitCount_0f7a4_7 : decode cJ6_bitCount_0f7a4 7 = .ok (.iand, 1) := by decide +kernel
theorem dJ6_bitCount_0f7a4_8 : decode cJ6_bitCount_0f7a4 8 = .ok (.isub, 1) := by decide +kernel
theorem dJ6_bitCount_0f7a4_9 : decode cJ6_bitCount_0f7a4 9 = .ok (.istore_n 0, 1) := by decide +kernel
theorem dJ6_bitCount_0f7a4_10 : decode cJ6_bitCount_0f7a4 10 = .ok (.iload_n 0, 1) := by decide +kernel
theorem dJ6_bitCount_0f7a4_11 : decode cJ6_bitCount_0f7a4 11 = .ok (.ldc_w 266, 3) := by decide +kernel
theorem dJ6_bitCount_0f7a4_14 : decode cJ6_bitCount_0f7a4 14 = .ok (.iand, 1) := by decide +kernel
theorem dJ6_bitCount_0f7a4_15 : decode cJ6_bitCount_0f7a4 15 = .ok (.iload_n 0, 1) := by decide +kernel
theorem dJ6_bitCount_0f7a4_16 : decode cJ6_bitCount_0f7a4 16 = .ok (.iconst 2, 1) := by decide +kernel
theorem dJ6_bitCount_0f7a4_17 : decode cJ6_bitCount_0f7a4 17 = .ok (.iushr, 1) := by decide +kernel
theorem dJ6_bitCount_0f7a4_18 : decode cJ6_bitCount_0f7a4 18 = .ok (.ldc_w 266, 3) := by decide +kernel
theorem dJ6_bitCount_0f7a4_21 : decode cJ6_bitCount_0f7a4 21 = .ok (.iand, 1) := by decide +kernel
theorem dJ6_bitCount_0f7a4_22 : decode cJ6_bitCount_0f7a4 22 = .ok (.iadd, 1) := by decide +kernel
theorem dJ6_bitCount_0f7a4_23 : decode cJ6_bitCount_0f7a4 23 = .ok (.istore_n 0, 1) := by decide +kernel
theorem dJ6_bitCount_0f7a4_24 : decode cJ6_bitCount_0f7a4 24 = .ok (.iload_n 0, 1) := by decide +kernel
theorem dJ6_bitCount_0f7a4_25 : decode cJ6_bitCount_0f7a4 25 = .ok (.iload_n 0, 1) := by decide +kernel
theorem dJ6_bitCount_0f7a4_26 : decode cJ6_bitCount_0f7a4 26 = .ok (.iconst 4, 1) := by decide +kernel
theorem dJ6_bitCount_0f7a4_27 : decode cJ6_bitCount_0f7a4 27 = .ok (.iushr, 1) := by decide +kernel
theorem dJ6_bitCount_0f7a4_28 : decode cJ6_bitCount_0f7a4 28 = .ok (.iadd, 1) := by decide +kernel
theorem dJ6_bitCount_0f7a4_29 : decode cJ6_bitCount_0f7a4 29 = .ok (.ldc_w 267, 3) := by decide +kernel
theorem dJ6_bitCount_0f7a4_32 : decode cJ6_bitCount_0f7a4 32 = .ok (.iand, 1) := by decide +kernel
theorem dJ6_bitCount_0f7a4_33 : decode cJ6_bitCount_0f7a4 33 = .ok (.istore_n 0, 1) := by decide +kernel
theorem dJ6_bitCount_0f7a4_34 : decode cJ6_bitCount_0f7a4 34 = .ok (.iload_n 0, 1) := by decide +kernel
theorem dJ6_bitCount_0f7a4_35 : decode cJ6_bitCount_0f7a4 35 = .ok (.iload_n 0, 1) := by decide +kernel
theorem dJ6_bitCount_0f7a4_36 : decode cJ6_bitCount_0f7a4 36 = .ok (.bipush 8, 2) := by decide +kernel
theorem dJ6_bitCount_0f7a4_38 : decode cJ6_bitCount_0f7a4 38 = .ok (.iushr, 1) := by decide +kernel
theorem dJ6_bitCount_0f7a4_39 : decode cJ6_bitCount_0f7a4 39 = .ok (.iadd, 1) := by decide +kernel
theorem dJ6_bitCount_0f7a4_40 : decode cJ6_bitCount_0f7a4 40 = .ok (.istore_n 0, 1) := by decide +kernel
theorem dJ6_bitCount_0f7a4_41 : decode cJ6_bitCount_0f7a4 41 = .ok (.iload_n 0, 1) := by decide +kernel
theorem dJ6_bitCount_0f7a4_42 : decode cJ6_bitCount_0f7a4 42 = .ok (.iload_n 0, 1) := by decide +kernel
theorem dJ6_bitCount_0f7a4_43 : decode cJ6_bitCount_0f7a4 43 = .ok (.bipush 16, 2) := by decide +kernel
theorem dJ6_bitCount_0f7a4_45 : decode cJ6_bitCount_0f7a4 45 = .ok (.iushr, 1) := by decide +kernel
theorem dJ6_bitCount_0f7a4_46 : decode cJ6_bitCount_0f7a4 46 = .ok (.iadd, 1) := by decide +kernel
theorem dJ6_bitCount_0f7a4_47 : decode cJ6_bitCount_0f7a4 47 = .ok (.istore_n 0, 1) := by decide +kernel
theorem dJ6_bitCount_0f7a4_48 : decode cJ6_bitCount_0f7a4 48 = .ok (.iload_n 0, 1) := by decide +kernel
theorem dJ6_bitCount_0f7a4_49 : decode cJ6_bitCount_0f7a4 49 = .ok (.bipush 63, 2) := by decide +kernel
theorem dJ6_bitCount_0f7a4_51 : decode cJ6_bitCount_0f7a4 51 = .ok (.iand, 1) := by decide +kernel
theorem dJ6_bitCount_0f7a4_52 : decode cJ6_bitCount_0f7a4 52 = .ok (.ireturn, 1) := by decide +kernel
theorem dL_law_0 : decode code 0 = .ok (.new 7, 3) := by decide +kernel
theorem dL_law_3 : decode code 3 = .ok (.dup, 1) := by decide +kernel
theorem dL_law_4 : decode code 4 = .ok (.invokespecial 9, 3) := by decide +kernel
theorem dL_law_7 : decode code 7 = .ok (.astore_n 1, 1) := by decide +kernel
theorem dL_law_8 : decode code 8 = .ok (.new 10, 3) := by decide +kernel
theorem dL_law_11 : decode code 11 = .ok (.dup, 1) := by decide +kernel
theorem dL_law_12 : decode code 12 = .ok (.invokespecial 12, 3) := by decide +kernel
theorem dL_law_15 : decode code 15 = .ok (.astore_n 2, 1) := by decide +kernel
theorem dL_law_16 : decode code 16 = .ok (.iconst 0, 1) := by decide +kernel
theorem dL_law_17 : decode code 17 = .ok (.istore_n 3, 1) := by decide +kernel
theorem dL_law_18 : decode code 18 = .ok (.iload_n 3, 1) := by decide +kernel
theorem dL_law_19 : decode code 19 = .ok (.aload_n 0, 1) := by decide +kernel
theorem dL_law_20 : decode code 20 = .ok (.arraylength, 1) := by decide +kernel
theorem dL_law_21 : decode code 21 = .ok (.bipush 6, 2) := by decide +kernel
theorem dL_law_23 : decode code 23 = .ok (.isub, 1) := by decide +kernel
theorem dL_law_24 : decode code 24 = .ok (.if_icmp .gt 1314, 3) := by decide +kernel
theorem dL_law_27 : decode code 27 = .ok (.aload_n 0, 1) := by decide +kernel
theorem dL_law_28 : decode code 28 = .ok (.iload_n 3, 1) := by decide +kernel
theorem dL_law_29 : decode code 29 = .ok (.iaload, 1) := by decide +kernel
theorem dL_law_30 : decode code 30 = .ok (.bipush 63, 2) := by decide +kernel
theorem dL_law_32 : decode code 32 = .ok (.iand, 1) := by decide +kernel
theorem dL_law_33 : decode code 33 = .ok (.tableswitch 1299 0 38 #[171, 214, 247, 280, 313, 336, 369, 392, 425, 488, 511, 534, 567, 590, 613, 636, 659, 672, 695, 718, 741, 764, 807, 840, 873, 906, 930, 973, 996, 1039, 1082, 1145, 1168, 1191, 1204, 1217, 1240, 1253, 1276], 171) := by decide +kernel
theorem dL_law_204 : decode code 204 = .ok (.aload_n 1, 1) := by decide +kernel
theorem dL_law_205 : decode code 205 = .ok (.aload_n 0, 1) := by decide +kernel
theorem dL_law_206 : decode code 206 = .ok (.iload_n 3, 1) := by decide +kernel
theorem dL_law_207 : decode code 207 = .ok (.iconst 1, 1) := by decide +kernel
theorem dL_law_208 : decode code 208 = .ok (.iadd, 1) := by decide +kernel
theorem dL_law_209 : decode code 209 = .ok (.iaload, 1) := by decide +kernel
theorem dL_law_210 : decode code 210 = .ok (.aload_n 0, 1) := by decide +kernel
theorem dL_law_211 : decode code 211 = .ok (.iload_n 3, 1) := by decide +kernel
theorem dL_law_212 : decode code 212 = .ok (.iconst 2, 1) := by decide +kernel
theorem dL_law_213 : decode code 213 = .ok (.iadd, 1) := by decide +kernel
theorem dL_law_214 : decode code 214 = .ok (.iaload, 1) := by decide +kernel
theorem dL_law_215 : decode code 215 = .ok (.aload_n 0, 1) := by decide +kernel
theorem dL_law_216 : decode code 216 = .ok (.iload_n 3, 1) := by decide +kernel
theorem dL_law_217 : decode code 217 = .ok (.iconst 3, 1) := by decide +kernel
theorem dL_law_218 : decode code 218 = .ok (.iadd, 1) := by decide +kernel
theorem dL_law_219 : decode code 219 = .ok (.iaload, 1) := by decide +kernel
theorem dL_law_220 : decode code 220 = .ok (.invokevirtual 13, 3) := by decide +kernel
theorem dL_law_223 : decode code 223 = .ok (.aload_n 2, 1) := by decide +kernel
theorem dL_law_224 : decode code 224 = .ok (.aload_n 0, 1) := by decide +kernel
theorem dL_law_225 : decode code 225 = .ok (.iload_n 3, 1) := by decide +kernel
theorem dL_law_226 : decode code 226 = .ok (.iconst 1, 1) := by decide +kernel
theorem dL_law_227 : decode code 227 = .ok (.iadd, 1) := by decide +kernel
theorem dL_law_228 : decode code 228 = .ok (.iaload, 1) := by decide +kernel
theorem dL_law_229 : decode code 229 = .ok (.aload_n 0, 1) := by decide +kernel
theorem dL_law_230 : decode code 230 = .ok (.iload_n 3, 1) := by decide +kernel
theorem dL_law_231 : decode code 231 = .ok (.iconst 2, 1) := by decide +kernel
theorem dL_law_232 : decode code 232 = .ok (.iadd, 1) := by decide +kernel
theorem dL_law_233 : decode code 233 = .ok (.iaload, 1) := by decide +kernel
theorem dL_law_234 : decode code 234 = .ok (.aload_n 0, 1) := by decide +kernel
theorem dL_law_235 : decode code 235 = .ok (.iload_n 3, 1) := by decide +kernel
theorem dL_law_236 : decode code 236 = .ok (.iconst 3, 1) := by decide +kernel
theorem dL_law_237 : decode code 237 = .ok (.iadd, 1) := by decide +kernel
theorem dL_law_238 : decode code 238 = .ok (.iaload, 1) := by decide +kernel
theorem dL_law_239 : decode code 239 = .ok (.invokevirtual 17, 3) := by decide +kernel
theorem dL_law_242 : decode code 242 = .ok (.if_icmp .eq 1090, 3) := by decide +kernel
theorem dL_law_245 : decode code 245 = .ok (.iconst 0, 1) := by decide +kernel
theorem dL_law_246 : decode code 246 = .ok (.ireturn, 1) := by decide +kernel
theorem dL_law_247 : decode code 247 = .ok (.aload_n 1, 1) := by decide +kernel
theorem dL_law_248 : decode code 248 = .ok (.aload_n 0, 1) := by decide +kernel
theorem dL_law_249 : decode code 249 = .ok (.iload_n 3, 1) := by decide +kernel
theorem dL_law_250 : decode code 250 = .ok (.iconst 1, 1) := by decide +kernel
theorem dL_law_251 : decode code 251 = .ok (.iadd, 1) := by decide +kernel
theorem dL_law_252 : decode code 252 = .ok (.iaload, 1) := by decide +kernel
theorem dL_law_253 : decode code 253 = .ok (.aload_n 0, 1) := by decide +kernel
theorem dL_law_254 : decode code 254 = .ok (.iload_n 3, 1) := by decide +kernel
theorem dL_law_255 : decode code 255 = .ok (.iconst 2, 1) := by decide +kernel
theorem dL_law_256 : decode code 256 = .ok (.iadd, 1) := by decide +kernel
theorem dL_law_257 : decode code 257 = .ok (.iaload, 1) := by decide +kernel
theorem dL_law_258 : decode code 258 = .ok (.invokevirtual 18, 3) := by decide +kernel
theorem dL_law_261 : decode code 261 = .ok (.aload_n 2, 1) := by decide +kernel
theorem dL_law_262 : decode code 262 = .ok (.aload_n 0, 1) := by decide +kernel
theorem dL_law_263 : decode code 263 = .ok (.iload_n 3, 1) := by decide +kernel
theorem dL_law_264 : decode code 264 = .ok (.iconst 1, 1) := by decide +kernel
theorem dL_law_265 : decode code 265 = .ok (.iadd, 1) := by decide +kernel
theorem dL_law_266 : decode code 266 = .ok (.iaload, 1) := by decide +kernel
theorem dL_law_267 : decode code 267 = .ok (.aload_n 0, 1) := by decide +kernel
theorem dL_law_268 : decode code 268 = .ok (.iload_n 3, 1) := by decide +kernel
theorem dL_law_269 : decode code 269 = .ok (.iconst 2, 1) := by decide +kernel
theorem dL_law_270 : decode code 270 = .ok (.iadd, 1) := by decide +kernel
theorem dL_law_271 : decode code 271 = .ok (.iaload, 1) := by decide +kernel
theorem dL_law_272 : decode code 272 = .ok (.invokevirtual 22, 3) := by decide +kernel
theorem dL_law_275 : decode code 275 = .ok (.if_icmp .eq 1057, 3) := by decide +kernel
theorem dL_law_278 : decode code 278 = .ok (.iconst 0, 1) := by decide +kernel
theorem dL_law_279 : decode code 279 = .ok (.ireturn, 1) := by decide +kernel
theorem dL_law_280 : decode code 280 = .ok (.aload_n 1, 1) := by decide +kernel
theorem dL_law_281 : decode code 281 = .ok (.aload_n 0, 1) := by decide +kernel
theorem dL_law_282 : decode code 282 = .ok (.iload_n 3, 1) := by decide +kernel
theorem dL_law_283 : decode code 283 = .ok (.iconst 1, 1) := by decide +kernel
theorem dL_law_284 : decode code 284 = .ok (.iadd, 1) := by decide +kernel
theorem dL_law_285 : decode code 285 = .ok (.iaload, 1) := by decide +kernel
theorem dL_law_286 : decode code 286 = .ok (.aload_n 0, 1) := by decide +kernel
theorem dL_law_287 : decode code 287 = .ok (.iload_n 3, 1) := by decide +kernel
theorem dL_law_288 : decode code 288 = .ok (.iconst 2, 1) := by decide +kernel
theorem dL_law_289 : decode code 289 = .ok (.iadd, 1) := by decide +kernel
theorem dL_law_290 : decode code 290 = .ok (.iaload, 1) := by decide +kernel
theorem dL_law_291 : decode code 291 = .ok (.invokevirtual 23, 3) := by decide +kernel
theorem dL_law_294 : decode code 294 = .ok (.aload_n 2, 1) := by decide +kernel
theorem dL_law_295 : decode code 295 = .ok (.aload_n 0, 1) := by decide +kernel
theorem dL_law_296 : decode code 296 = .ok (.iload_n 3, 1) := by decide +kernel
theorem dL_law_297 : decode code 297 = .ok (.iconst 1, 1) := by decide +kernel
theorem dL_law_298 : decode code 298 = .ok (.iadd, 1) := by decide +kernel
theorem dL_law_299 : decode code 299 = .ok (.iaload, 1) := by decide +kernel
theorem dL_law_300 : decode code 300 = .ok (.aload_n 0, 1) := by decide +kernel
theorem dL_law_301 : decode code 301 = .ok (.iload_n 3, 1) := by decide +kernel
theorem dL_law_302 : decode code 302 = .ok (.iconst 2, 1) := by decide +kernel
theorem dL_law_303 : decode code 303 = .ok (.iadd, 1) := by decide +kernel
theorem dL_law_304 : decode code 304 = .ok (.iaload, 1) := by decide +kernel
theorem dL_law_305 : decode code 305 = .ok (.invokevirtual 26, 3) := by decide +kernel
theorem dL_law_308 : decode code 308 = .ok (.if_icmp .eq 1024, 3) := by decide +kernel
theorem dL_law_311 : decode code 311 = .ok (.iconst 0, 1) := by decide +kernel
theorem dL_law_312 : decode code 312 = .ok (.ireturn, 1) := by decide +kernel
theorem dL_law_313 : decode code 313 = .ok (.aload_n 1, 1) := by decide +kernel
theorem dL_law_314 : decode code 314 = .ok (.aload_n 0, 1) := by decide +kernel
theorem dL_law_315 : decode code 315 = .ok (.iload_n 3, 1) := by decide +kernel
theorem dL_law_316 : decode code 316 = .ok (.iconst 1, 1) := by decide +kernel
theorem dL_law_317 : decode code 317 = .ok (.iadd, 1) := by decide +kernel
theorem dL_law_318 : decode code 318 = .ok (.iaload, 1) := by decide +kernel
theorem dL_law_319 : decode code 319 = .ok (.aload_n 0, 1) := by decide +kernel
theorem dL_law_320 : decode code 320 = .ok (.iload_n 3, 1) := by decide +kernel
theorem dL_law_321 : decode code 321 = .ok (.iconst 2, 1) := by decide +kernel
theorem dL_law_322 : decode code 322 = .ok (.iadd, 1) := by decide +kernel
theorem dL_law_323 : decode code 323 = .ok (.iaload, 1) := by decide +kernel
theorem dL_law_324 : decode code 324 = .ok (.invokevirtual 27, 3) := by decide +kernel
theorem dL_law_327 : decode code 327 = .ok (.aload_n 2, 1) := by decide +kernel
theorem dL_law_328 : decode code 328 = .ok (.aload_n 0, 1) := by decide +kernel
theorem dL_law_329 : decode code 329 = .ok (.iload_n 3, 1) := by decide +kernel
theorem dL_law_330 : decode code 330 = .ok (.iconst 1, 1) := by decide +kernel
theorem dL_law_331 : decode code 331 = .ok (.iadd, 1) := by decide +kernel
theorem dL_law_332 : decode code 332 = .ok (.iaload, 1) := by decide +kernel
theorem dL_law_333 : decode code 333 = .ok (.aload_n 0, 1) := by decide +kernel
theorem dL_law_334 : decode code 334 = .ok (.iload_n 3, 1) := by decide +kernel
theorem dL_law_335 : decode code 335 = .ok (.iconst 2, 1) := by decide +kernel
theorem dL_law_336 : decode code 336 = .ok (.iadd, 1) := by decide +kernel
theorem dL_law_337 : decode code 337 = .ok (.iaload, 1) := by decide +kernel
theorem dL_law_338 : decode code 338 = .ok (.invokevirtual 30, 3) := by decide +kernel
theorem dL_law_341 : decode code 341 = .ok (.if_icmp .eq 991, 3) := by decide +kernel
theorem dL_law_344 : decode code 344 = .ok (.iconst 0, 1) := by decide +kernel
theorem dL_law_345 : decode code 345 = .ok (.ireturn, 1) := by decide +kernel
theorem dL_law_346 : decode code 346 = .ok (.aload_n 1, 1) := by decide +kernel
theorem dL_law_347 : decode code 347 = .ok (.aload_n 0, 1) := by decide +kernel
theorem dL_law_348 : decode code 348 = .ok (.iload_n 3, 1) := by decide +kernel
theorem dL_law_349 : decode code 349 = .ok (.iconst 1, 1) := by decide +kernel
theorem dL_law_350 : decode code 350 = .ok (.iadd, 1) := by decide +kernel
theorem dL_law_351 : decode code 351 = .ok (.iaload, 1) := by decide +kernel
theorem dL_law_352 : decode code 352 = .ok (.invokevirtual 31, 3) := by decide +kernel
theorem dL_law_355 : decode code 355 = .ok (.aload_n 2, 1) := by decide +kernel
theorem dL_law_356 : decode code 356 = .ok (.aload_n 0, 1) := by decide +kernel
theorem dL_law_357 : decode code 357 = .ok (.iload_n 3, 1) := by decide +kernel
theorem dL_law_358 : decode code 358 = .ok (.iconst 1, 1) := by decide +kernel
theorem dL_law_359 : decode code 359 = .ok (.iadd, 1) := by decide +kernel
theorem dL_law_360 : decode code 360 = .ok (.iaload, 1) := by decide +kernel
theorem dL_law_361 : decode code 361 = .ok (.invokevirtual 35, 3) := by decide +kernel
theorem dL_law_364 : decode code 364 = .ok (.if_icmp .eq 968, 3) := by decide +kernel
theorem dL_law_367 : decode code 367 = .ok (.iconst 0, 1) := by decide +kernel
theorem dL_law_368 : decode code 368 = .ok (.ireturn, 1) := by decide +kernel
theorem dL_law_369 : decode code 369 = .ok (.aload_n 1, 1) := by decide +kernel
theorem dL_law_370 : decode code 370 = .ok (.aload_n 0, 1) := by decide +kernel
theorem dL_law_371 : decode code 371 = .ok (.iload_n 3, 1) := by decide +kernel
theorem dL_law_372 : decode code 372 = .ok (.iconst 1, 1) := by decide +kernel
theorem dL_law_373 : decode code 373 = .ok (.iadd, 1) := by decide +kernel
theorem dL_law_374 : decode code 374 = .ok (.iaload, 1) := by decide +kernel
theorem dL_law_375 : decode code 375 = .ok (.aload_n 0, 1) := by decide +kernel
theorem dL_law_376 : decode code 376 = .ok (.iload_n 3, 1) := by decide +kernel
theorem dL_law_377 : decode code 377 = .ok (.iconst 2, 1) := by decide +kernel
theorem dL_law_378 : decode code 378 = .ok (.iadd, 1) := by decide +kernel
theorem dL_law_379 : decode code 379 = .ok (.iaload, 1) := by decide +kernel
theorem dL_law_380 : decode code 380 = .ok (.invokevirtual 36, 3) := by decide +kernel
theorem dL_law_383 : decode code 383 = .ok (.aload_n 2, 1) := by decide +kernel
theorem dL_law_384 : decode code 384 = .ok (.aload_n 0, 1) := by decide +kernel
theorem dL_law_385 : decode code 385 = .ok (.iload_n 3, 1) := by decide +kernel
theorem dL_law_386 : decode code 386 = .ok (.iconst 1, 1) := by decide +kernel
theorem dL_law_387 : decode code 387 = .ok (.iadd, 1) := by decide +kernel
theorem dL_law_388 : decode code 388 = .ok (.iaload, 1) := by decide +kernel
theorem dL_law_389 : decode code 389 = .ok (.aload_n 0, 1) := by decide +kernel
theorem dL_law_390 : decode code 390 = .ok (.iload_n 3, 1) := by decide +kernel
theorem dL_law_391 : decode code 391 = .ok (.iconst 2, 1) := by decide +kernel
theorem dL_law_392 : decode code 392 = .ok (.iadd, 1) := by decide +kernel
theorem dL_law_393 : decode code 393 = .ok (.iaload, 1) := by decide +kernel
theorem dL_law_394 : decode code 394 = .ok (.invokevirtual 39, 3) := by decide +kernel
theorem dL_law_397 : decode code 397 = .ok (.if_icmp .eq 935, 3) := by decide +kernel
theorem dL_law_400 : decode code 400 = .ok (.iconst 0, 1) := by decide +kernel
theorem dL_law_401 : decode code 401 = .ok (.ireturn, 1) := by decide +kernel
theorem dL_law_402 : decode code 402 = .ok (.aload_n 1, 1) := by decide +kernel
theorem dL_law_403 : decode code 403 = .ok (.aload_n 0, 1) := by decide +kernel
theorem dL_law_404 : decode code 404 = .ok (.iload_n 3, 1) := by decide +kernel
theorem dL_law_405 : decode code 405 = .ok (.iconst 1, 1) := by decide +kernel
theorem dL_law_406 : decode code 406 = .ok (.iadd, 1) := by decide +kernel
theorem dL_law_407 : decode code 407 = .ok (.iaload, 1) := by decide +kernel
theorem dL_law_408 : decode code 408 = .ok (.invokevirtual 40, 3) := by decide +kernel
theorem dL_law_411 : decode code 411 = .ok (.aload_n 2, 1) := by decide +kernel
theorem dL_law_412 : decode code 412 = .ok (.aload_n 0, 1) := by decide +kernel
theorem dL_law_413 : decode code 413 = .ok (.iload_n 3, 1) := by decide +kernel
theorem dL_law_414 : decode code 414 = .ok (.iconst 1, 1) := by decide +kernel
theorem dL_law_415 : decode code 415 = .ok (.iadd, 1) := by decide +kernel
theorem dL_law_416 : decode code 416 = .ok (.iaload, 1) := by decide +kernel
theorem dL_law_417 : decode code 417 = .ok (.invokevirtual 43, 3) := by decide +kernel
theorem dL_law_420 : decode code 420 = .ok (.if_icmp .eq 912, 3) := by decide +kernel
theorem dL_law_423 : decode code 423 = .ok (.iconst 0, 1) := by decide +kernel
theorem dL_law_424 : decode code 424 = .ok (.ireturn, 1) := by decide +kernel
theorem dL_law_425 : decode code 425 = .ok (.aload_n 1, 1) := by decide +kernel
theorem dL_law_426 : decode code 426 = .ok (.aload_n 0, 1) := by decide +kernel
theorem dL_law_427 : decode code 427 = .ok (.iload_n 3, 1) := by decide +kernel
theorem dL_law_428 : decode code 428 = .ok (.iconst 1, 1) := by decide +kernel
theorem dL_law_429 : decode code 429 = .ok (.iadd, 1) := by decide +kernel
theorem dL_law_430 : decode code 430 = .ok (.iaload, 1) := by decide +kernel
theorem dL_law_431 : decode code 431 = .ok (.aload_n 0, 1) := by decide +kernel
theorem dL_law_432 : decode code 432 = .ok (.iload_n 3, 1) := by decide +kernel
theorem dL_law_433 : decode code 433 = .ok (.iconst 2, 1) := by decide +kernel
theorem dL_law_434 : decode code 434 = .ok (.iadd, 1) := by decide +kernel
theorem dL_law_435 : decode code 435 = .ok (.iaload, 1) := by decide +kernel
theorem dL_law_436 : decode code 436 = .ok (.invokevirtual 44, 3) := by decide +kernel
theorem dL_law_439 : decode code 439 = .ok (.aload_n 2, 1) := by decide +kernel
theorem dL_law_440 : decode code 440 = .ok (.aload_n 0, 1) := by decide +kernel
theorem dL_law_441 : decode code 441 = .ok (.iload_n 3, 1) := by decide +kernel
theorem dL_law_442 : decode code 442 = .ok (.iconst 1, 1) := by decide +kernel
theorem dL_law_443 : decode code 443 = .ok (.iadd, 1) := by decide +kernel
theorem dL_law_444 : decode code 444 = .ok (.iaload, 1) := by decide +kernel
theorem dL_law_445 : decode code 445 = .ok (.aload_n 0, 1) := by decide +kernel
theorem dL_law_446 : decode code 446 = .ok (.iload_n 3, 1) := by decide +kernel
theorem dL_law_447 : decode code 447 = .ok (.iconst 2, 1) := by decide +kernel
theorem dL_law_448 : decode code 448 = .ok (.iadd, 1) := by decide +kernel
theorem dL_law_449 : decode code 449 = .ok (.iaload, 1) := by decide +kernel
theorem dL_law_450 : decode code 450 = .ok (.invokevirtual 47, 3) := by decide +kernel
theorem dL_law_453 : decode code 453 = .ok (.if_icmp .eq 879, 3) := by decide +kernel
theorem dL_law_456 : decode code 456 = .ok (.iconst 0, 1) := by decide +kernel
theorem dL_law_457 : decode code 457 = .ok (.ireturn, 1) := by decide +kernel
theorem dL_law_458 : decode code 458 = .ok (.aload_n 1, 1) := by decide +kernel
theorem dL_law_459 : decode code 459 = .ok (.aload_n 0, 1) := by decide +kernel
theorem dL_law_460 : decode code 460 = .ok (.iload_n 3, 1) := by decide +kernel
theorem dL_law_461 : decode code 461 = .ok (.iconst 1, 1) := by decide +kernel
theorem dL_law_462 : decode code 462 = .ok (.iadd, 1) := by decide +kernel
theorem dL_law_463 : decode code 463 = .ok (.iaload, 1) := by decide +kernel
theorem dL_law_464 : decode code 464 = .ok (.i2l, 1) := by decide +kernel
theorem dL_law_465 : decode code 465 = .ok (.bipush 32, 2) := by decide +kernel
theorem dL_law_467 : decode code 467 = .ok (.lshl, 1) := by decide +kernel
theorem dL_law_468 : decode code 468 = .ok (.aload_n 0, 1) := by decide +kernel
theorem dL_law_469 : decode code 469 = .ok (.iload_n 3, 1) := by decide +kernel
theorem dL_law_470 : decode code 470 = .ok (.iconst 2, 1) := by decide +kernel
theorem dL_law_471 : decode code 471 = .ok (.iadd, 1) := by decide +kernel
theorem dL_law_472 : decode code 472 = .ok (.iaload, 1) := by decide +kernel
theorem dL_law_473 : decode code 473 = .ok (.i2l, 1) := by decide +kernel
theorem dL_law_474 : decode code 474 = .ok (.ldc2_w 48, 3) := by decide +kernel
theorem dL_law_477 : decode code 477 = .ok (.land, 1) := by decide +kernel
theorem dL_law_478 : decode code 478 = .ok (.lor, 1) := by decide +kernel
theorem dL_law_479 : decode code 479 = .ok (.aload_n 0, 1) := by decide +kernel
theorem dL_law_480 : decode code 480 = .ok (.iload_n 3, 1) := by decide +kernel
theorem dL_law_481 : decode code 481 = .ok (.iconst 3, 1) := by decide +kernel
theorem dL_law_482 : decode code 482 = .ok (.iadd, 1) := by decide +kernel
theorem dL_law_483 : decode code 483 = .ok (.iaload, 1) := by decide +kernel
theorem dL_law_484 : decode code 484 = .ok (.invokevirtual 50, 3) := by decide +kernel
theorem dL_law_487 : decode code 487 = .ok (.aload_n 2, 1) := by decide +kernel
theorem dL_law_488 : decode code 488 = .ok (.aload_n 0, 1) := by decide +kernel
theorem dL_law_489 : decode code 489 = .ok (.iload_n 3, 1) := by decide +kernel
theorem dL_law_490 : decode code 490 = .ok (.iconst 1, 1) := by decide +kernel
theorem dL_law_491 : decode code 491 = .ok (.iadd, 1) := by decide +kernel
theorem dL_law_492 : decode code 492 = .ok (.iaload, 1) := by decide +kernel
theorem dL_law_493 : decode code 493 = .ok (.i2l, 1) := by decide +kernel
theorem dL_law_494 : decode code 494 = .ok (.bipush 32, 2) := by decide +kernel
theorem dL_law_496 : decode code 496 = .ok (.lshl, 1) := by decide +kernel
theorem dL_law_497 : decode code 497 = .ok (.aload_n 0, 1) := by decide +kernel
theorem dL_law_498 : decode code 498 = .ok (.iload_n 3, 1) := by decide +kernel
theorem dL_law_499 : decode code 499 = .ok (.iconst 2, 1) := by decide +kernel
theorem dL_law_500 : decode code 500 = .ok (.iadd, 1) := by decide +kernel
theorem dL_law_501 : decode code 501 = .ok (.iaload, 1) := by decide +kernel
theorem dL_law_502 : decode code 502 = .ok (.i2l, 1) := by decide +kernel
theorem dL_law_503 : decode code 503 = .ok (.ldc2_w 48, 3) := by decide +kernel
theorem dL_law_506 : decode code 506 = .ok (.land, 1) := by decide +kernel
theorem dL_law_507 : decode code 507 = .ok (.lor, 1) := by decide +kernel
theorem dL_law_508 : decode code 508 = .ok (.aload_n 0, 1) := by decide +kernel
theorem dL_law_509 : decode code 509 = .ok (.iload_n 3, 1) := by decide +kernel
theorem dL_law_510 : decode code 510 = .ok (.iconst 3, 1) := by decide +kernel
theorem dL_law_511 : decode code 511 = .ok (.iadd, 1) := by decide +kernel
theorem dL_law_512 : decode code 512 = .ok (.iaload, 1) := by decide +kernel
theorem dL_law_513 : decode code 513 = .ok (.invokevirtual 54, 3) := by decide +kernel
theorem dL_law_516 : decode code 516 = .ok (.if_icmp .eq 816, 3) := by decide +kernel
theorem dL_law_519 : decode code 519 = .ok (.iconst 0, 1) := by decide +kernel
theorem dL_law_520 : decode code 520 = .ok (.ireturn, 1) := by decide +kernel
theorem dL_law_521 : decode code 521 = .ok (.aload_n 1, 1) := by decide +kernel
theorem dL_law_522 : decode code 522 = .ok (.aload_n 0, 1) := by decide +kernel
theorem dL_law_523 : decode code 523 = .ok (.iload_n 3, 1) := by decide +kernel
theorem dL_law_524 : decode code 524 = .ok (.iconst 1, 1) := by decide +kernel
theorem dL_law_525 : decode code 525 = .ok (.iadd, 1) := by decide +kernel
theorem dL_law_526 : decode code 526 = .ok (.iaload, 1) := by decide +kernel
theorem dL_law_527 : decode code 527 = .ok (.invokevirtual 55, 3) := by decide +kernel
theorem dL_law_530 : decode code 530 = .ok (.aload_n 2, 1) := by decide +kernel
theorem dL_law_531 : decode code 531 = .ok (.aload_n 0, 1) := by decide +kernel
theorem dL_law_532 : decode code 532 = .ok (.iload_n 3, 1) := by decide +kernel
theorem dL_law_533 : decode code 533 = .ok (.iconst 1, 1) := by decide +kernel
theorem dL_law_534 : decode code 534 = .ok (.iadd, 1) := by decide +kernel
theorem dL_law_535 : decode code 535 = .ok (.iaload, 1) := by decide +kernel
theorem dL_law_536 : decode code 536 = .ok (.invokevirtual 58, 3) := by decide +kernel
theorem dL_law_539 : decode code 539 = .ok (.if_icmp .eq 793, 3) := by decide +kernel
theorem dL_law_542 : decode code 542 = .ok (.iconst 0, 1) := by decide +kernel
theorem dL_law_543 : decode code 543 = .ok (.ireturn, 1) := by decide +kernel
theorem dL_law_544 : decode code 544 = .ok (.aload_n 1, 1) := by decide +kernel
theorem dL_law_545 : decode code 545 = .ok (.aload_n 0, 1) := by decide +kernel
theorem dL_law_546 : decode code 546 = .ok (.iload_n 3, 1) := by decide +kernel
theorem dL_law_547 : decode code 547 = .ok (.iconst 1, 1) := by decide +kernel
theorem dL_law_548 : decode code 548 = .ok (.iadd, 1) := by decide +kernel
theorem dL_law_549 : decode code 549 = .ok (.iaload, 1) := by decide +kernel
theorem dL_law_550 : decode code 550 = .ok (.invokevirtual 59, 3) := by decide +kernel
theorem dL_law_553 : decode code 553 = .ok (.aload_n 2, 1) := by decide +kernel
theorem dL_law_554 : decode code 554 = .ok (.aload_n 0, 1) := by decide +kernel
theorem dL_law_555 : decode code 555 = .ok (.iload_n 3, 1) := by decide +kernel
theorem dL_law_556 : decode code 556 = .ok (.iconst 1, 1) := by decide +kernel
theorem dL_law_557 : decode code 557 = .ok (.iadd, 1) := by decide +kernel
theorem dL_law_558 : decode code 558 = .ok (.iaload, 1) := by decide +kernel
theorem dL_law_559 : decode code 559 = .ok (.invokevirtual 62, 3) := by decide +kernel
theorem dL_law_562 : decode code 562 = .ok (.if_icmp .eq 770, 3) := by decide +kernel
theorem dL_law_565 : decode code 565 = .ok (.iconst 0, 1) := by decide +kernel
theorem dL_law_566 : decode code 566 = .ok (.ireturn, 1) := by decide +kernel
theorem dL_law_567 : decode code 567 = .ok (.aload_n 1, 1) := by decide +kernel
theorem dL_law_568 : decode code 568 = .ok (.aload_n 0, 1) := by decide +kernel
theorem dL_law_569 : decode code 569 = .ok (.iload_n 3, 1) := by decide +kernel
theorem dL_law_570 : decode code 570 = .ok (.iconst 1, 1) := by decide +kernel
theorem dL_law_571 : decode code 571 = .ok (.iadd, 1) := by decide +kernel
theorem dL_law_572 : decode code 572 = .ok (.iaload, 1) := by decide +kernel
theorem dL_law_573 : decode code 573 = .ok (.aload_n 0, 1) := by decide +kernel
theorem dL_law_574 : decode code 574 = .ok (.iload_n 3, 1) := by decide +kernel
theorem dL_law_575 : decode code 575 = .ok (.iconst 2, 1) := by decide +kernel
theorem dL_law_576 : decode code 576 = .ok (.iadd, 1) := by decide +kernel
theorem dL_law_577 : decode code 577 = .ok (.iaload, 1) := by decide +kernel
theorem dL_law_578 : decode code 578 = .ok (.invokevirtual 63, 3) := by decide +kernel
theorem dL_law_581 : decode code 581 = .ok (.aload_n 2, 1) := by decide +kernel
theorem dL_law_582 : decode code 582 = .ok (.aload_n 0, 1) := by decide +kernel
theorem dL_law_583 : decode code 583 = .ok (.iload_n 3, 1) := by decide +kernel
theorem dL_law_584 : decode code 584 = .ok (.iconst 1, 1) := by decide +kernel
theorem dL_law_585 : decode code 585 = .ok (.iadd, 1) := by decide +kernel
theorem dL_law_586 : decode code 586 = .ok (.iaload, 1) := by decide +kernel
theorem dL_law_587 : decode code 587 = .ok (.aload_n 0, 1) := by decide +kernel
theorem dL_law_588 : decode code 588 = .ok (.iload_n 3, 1) := by decide +kernel
theorem dL_law_589 : decode code 589 = .ok (.iconst 2, 1) := by decide +kernel
theorem dL_law_590 : decode code 590 = .ok (.iadd, 1) := by decide +kernel
theorem dL_law_591 : decode code 591 = .ok (.iaload, 1) := by decide +kernel
theorem dL_law_592 : decode code 592 = .ok (.invokevirtual 66, 3) := by decide +kernel
theorem dL_law_595 : decode code 595 = .ok (.if_icmp .eq 737, 3) := by decide +kernel
theorem dL_law_598 : decode code 598 = .ok (.iconst 0, 1) := by decide +kernel
theorem dL_law_599 : decode code 599 = .ok (.ireturn, 1) := by decide +kernel
theorem dL_law_600 : decode code 600 = .ok (.aload_n 1, 1) := by decide +kernel
theorem dL_law_601 : decode code 601 = .ok (.aload_n 0, 1) := by decide +kernel
theorem dL_law_602 : decode code 602 = .ok (.iload_n 3, 1) := by decide +kernel
theorem dL_law_603 : decode code 603 = .ok (.iconst 1, 1) := by decide +kernel
theorem dL_law_604 : decode code 604 = .ok (.iadd, 1) := by decide +kernel
theorem dL_law_605 : decode code 605 = .ok (.iaload, 1) := by decide +kernel
theorem dL_law_606 : decode code 606 = .ok (.invokevirtual 67, 3) := by decide +kernel
theorem dL_law_609 : decode code 609 = .ok (.aload_n 2, 1) := by decide +kernel
theorem dL_law_610 : decode code 610 = .ok (.aload_n 0, 1) := by decide +kernel
theorem dL_law_611 : decode code 611 = .ok (.iload_n 3, 1) := by decide +kernel
theorem dL_law_612 : decode code 612 = .ok (.iconst 1, 1) := by decide +kernel
theorem dL_law_613 : decode code 613 = .ok (.iadd, 1) := by decide +kernel
theorem dL_law_614 : decode code 614 = .ok (.iaload, 1) := by decide +kernel
theorem dL_law_615 : decode code 615 = .ok (.invokevirtual 70, 3) := by decide +kernel
theorem dL_law_618 : decode code 618 = .ok (.if_icmp .eq 714, 3) := by decide +kernel
theorem dL_law_621 : decode code 621 = .ok (.iconst 0, 1) := by decide +kernel
theorem dL_law_622 : decode code 622 = .ok (.ireturn, 1) := by decide +kernel
theorem dL_law_623 : decode code 623 = .ok (.aload_n 1, 1) := by decide +kernel
theorem dL_law_624 : decode code 624 = .ok (.aload_n 0, 1) := by decide +kernel
theorem dL_law_625 : decode code 625 = .ok (.iload_n 3, 1) := by decide +kernel
theorem dL_law_626 : decode code 626 = .ok (.iconst 1, 1) := by decide +kernel
theorem dL_law_627 : decode code 627 = .ok (.iadd, 1) := by decide +kernel
theorem dL_law_628 : decode code 628 = .ok (.iaload, 1) := by decide +kernel
theorem dL_law_629 : decode code 629 = .ok (.invokevirtual 71, 3) := by decide +kernel
theorem dL_law_632 : decode code 632 = .ok (.aload_n 2, 1) := by decide +kernel
theorem dL_law_633 : decode code 633 = .ok (.aload_n 0, 1) := by decide +kernel
theorem dL_law_634 : decode code 634 = .ok (.iload_n 3, 1) := by decide +kernel
theorem dL_law_635 : decode code 635 = .ok (.iconst 1, 1) := by decide +kernel
theorem dL_law_636 : decode code 636 = .ok (.iadd, 1) := by decide +kernel
theorem dL_law_637 : decode code 637 = .ok (.iaload, 1) := by decide +kernel
theorem dL_law_638 : decode code 638 = .ok (.invokevirtual 74, 3) := by decide +kernel
theorem dL_law_641 : decode code 641 = .ok (.if_icmp .eq 691, 3) := by decide +kernel
theorem dL_law_644 : decode code 644 = .ok (.iconst 0, 1) := by decide +kernel
theorem dL_law_645 : decode code 645 = .ok (.ireturn, 1) := by decide +kernel
theorem dL_law_646 : decode code 646 = .ok (.aload_n 1, 1) := by decide +kernel
theorem dL_law_647 : decode code 647 = .ok (.aload_n 0, 1) := by decide +kernel
theorem dL_law_648 : decode code 648 = .ok (.iload_n 3, 1) := by decide +kernel
theorem dL_law_649 : decode code 649 = .ok (.iconst 1, 1) := by decide +kernel
theorem dL_law_650 : decode code 650 = .ok (.iadd, 1) := by decide +kernel
theorem dL_law_651 : decode code 651 = .ok (.iaload, 1) := by decide +kernel
theorem dL_law_652 : decode code 652 = .ok (.invokevirtual 75, 3) := by decide +kernel
theorem dL_law_655 : decode code 655 = .ok (.aload_n 2, 1) := by decide +kernel
theorem dL_law_656 : decode code 656 = .ok (.aload_n 0, 1) := by decide +kernel
theorem dL_law_657 : decode code 657 = .ok (.iload_n 3, 1) := by decide +kernel
theorem dL_law_658 : decode code 658 = .ok (.iconst 1, 1) := by decide +kernel
theorem dL_law_659 : decode code 659 = .ok (.iadd, 1) := by decide +kernel
theorem dL_law_660 : decode code 660 = .ok (.iaload, 1) := by decide +kernel
theorem dL_law_661 : decode code 661 = .ok (.invokevirtual 78, 3) := by decide +kernel
theorem dL_law_664 : decode code 664 = .ok (.if_icmp .eq 668, 3) := by decide +kernel
theorem dL_law_667 : decode code 667 = .ok (.iconst 0, 1) := by decide +kernel
theorem dL_law_668 : decode code 668 = .ok (.ireturn, 1) := by decide +kernel
theorem dL_law_669 : decode code 669 = .ok (.aload_n 1, 1) := by decide +kernel
theorem dL_law_670 : decode code 670 = .ok (.aload_n 0, 1) := by decide +kernel
theorem dL_law_671 : decode code 671 = .ok (.iload_n 3, 1) := by decide +kernel
theorem dL_law_672 : decode code 672 = .ok (.iconst 1, 1) := by decide +kernel
theorem dL_law_673 : decode code 673 = .ok (.iadd, 1) := by decide +kernel
theorem dL_law_674 : decode code 674 = .ok (.iaload, 1) := by decide +kernel
theorem dL_law_675 : decode code 675 = .ok (.invokevirtual 79, 3) := by decide +kernel
theorem dL_law_678 : decode code 678 = .ok (.aload_n 2, 1) := by decide +kernel
theorem dL_law_679 : decode code 679 = .ok (.aload_n 0, 1) := by decide +kernel
theorem dL_law_680 : decode code 680 = .ok (.iload_n 3, 1) := by decide +kernel
theorem dL_law_681 : decode code 681 = .ok (.iconst 1, 1) := by decide +kernel
theorem dL_law_682 : decode code 682 = .ok (.iadd, 1) := by decide +kernel
theorem dL_law_683 : decode code 683 = .ok (.iaload, 1) := by decide +kernel
theorem dL_law_684 : decode code 684 = .ok (.invokevirtual 82, 3) := by decide +kernel
theorem dL_law_687 : decode code 687 = .ok (.if_icmp .eq 645, 3) := by decide +kernel
theorem dL_law_690 : decode code 690 = .ok (.iconst 0, 1) := by decide +kernel
theorem dL_law_691 : decode code 691 = .ok (.ireturn, 1) := by decide +kernel
theorem dL_law_692 : decode code 692 = .ok (.aload_n 1, 1) := by decide +kernel
theorem dL_law_693 : decode code 693 = .ok (.invokevirtual 83, 3) := by decide +kernel
theorem dL_law_696 : decode code 696 = .ok (.aload_n 2, 1) := by decide +kernel
theorem dL_law_697 : decode code 697 = .ok (.invokevirtual 87, 3) := by decide +kernel
theorem dL_law_700 : decode code 700 = .ok (.if_icmp .eq 632, 3) := by decide +kernel
theorem dL_law_703 : decode code 703 = .ok (.iconst 0, 1) := by decide +kernel
theorem dL_law_704 : decode code 704 = .ok (.ireturn, 1) := by decide +kernel
theorem dL_law_705 : decode code 705 = .ok (.aload_n 1, 1) := by decide +kernel
theorem dL_law_706 : decode code 706 = .ok (.aload_n 0, 1) := by decide +kernel
theorem dL_law_707 : decode code 707 = .ok (.iload_n 3, 1) := by decide +kernel
theorem dL_law_708 : decode code 708 = .ok (.iconst 1, 1) := by decide +kernel
theorem dL_law_709 : decode code 709 = .ok (.iadd, 1) := by decide +kernel
theorem dL_law_710 : decode code 710 = .ok (.iaload, 1) := by decide +kernel
theorem dL_law_711 : decode code 711 = .ok (.invokevirtual 88, 3) := by decide +kernel
theorem dL_law_714 : decode code 714 = .ok (.aload_n 2, 1) := by decide +kernel
theorem dL_law_715 : decode code 715 = .ok (.aload_n 0, 1) := by decide +kernel
theorem dL_law_716 : decode code 716 = .ok (.iload_n 3, 1) := by decide +kernel
theorem dL_law_717 : decode code 717 = .ok (.iconst 1, 1) := by decide +kernel
theorem dL_law_718 : decode code 718 = .ok (.iadd, 1) := by decide +kernel
theorem dL_law_719 : decode code 719 = .ok (.iaload, 1) := by decide +kernel
theorem dL_law_720 : decode code 720 = .ok (.invokevirtual 91, 3) := by decide +kernel
theorem dL_law_723 : decode code 723 = .ok (.if_icmp .eq 609, 3) := by decide +kernel
theorem dL_law_726 : decode code 726 = .ok (.iconst 0, 1) := by decide +kernel
theorem dL_law_727 : decode code 727 = .ok (.ireturn, 1) := by decide +kernel
theorem dL_law_728 : decode code 728 = .ok (.aload_n 1, 1) := by decide +kernel
theorem dL_law_729 : decode code 729 = .ok (.aload_n 0, 1) := by decide +kernel
theorem dL_law_730 : decode code 730 = .ok (.iload_n 3, 1) := by decide +kernel
theorem dL_law_731 : decode code 731 = .ok (.iconst 1, 1) := by decide +kernel
theorem dL_law_732 : decode code 732 = .ok (.iadd, 1) := by decide +kernel
theorem dL_law_733 : decode code 733 = .ok (.iaload, 1) := by decide +kernel
theorem dL_law_734 : decode code 734 = .ok (.invokevirtual 92, 3) := by decide +kernel
theorem dL_law_737 : decode code 737 = .ok (.aload_n 2, 1) := by decide +kernel
theorem dL_law_738 : decode code 738 = .ok (.aload_n 0, 1) := by decide +kernel
theorem dL_law_739 : decode code 739 = .ok (.iload_n 3, 1) := by decide +kernel
theorem dL_law_740 : decode code 740 = .ok (.iconst 1, 1) := by decide +kernel
theorem dL_law_741 : decode code 741 = .ok (.iadd, 1) := by decide +kernel
theorem dL_law_742 : decode code 742 = .ok (.iaload, 1) := by decide +kernel
theorem dL_law_743 : decode code 743 = .ok (.invokevirtual 95, 3) := by decide +kernel
theorem dL_law_746 : decode code 746 = .ok (.if_icmp .eq 586, 3) := by decide +kernel
theorem dL_law_749 : decode code 749 = .ok (.iconst 0, 1) := by decide +kernel
theorem dL_law_750 : decode code 750 = .ok (.ireturn, 1) := by decide +kernel
theorem dL_law_751 : decode code 751 = .ok (.aload_n 1, 1) := by decide +kernel
theorem dL_law_752 : decode code 752 = .ok (.aload_n 0, 1) := by decide +kernel
theorem dL_law_753 : decode code 753 = .ok (.iload_n 3, 1) := by decide +kernel
theorem dL_law_754 : decode code 754 = .ok (.iconst 1, 1) := by decide +kernel
theorem dL_law_755 : decode code 755 = .ok (.iadd, 1) := by decide +kernel
theorem dL_law_756 : decode code 756 = .ok (.iaload, 1) := by decide +kernel
theorem dL_law_757 : decode code 757 = .ok (.invokevirtual 96, 3) := by decide +kernel
theorem dL_law_760 : decode code 760 = .ok (.aload_n 2, 1) := by decide +kernel
theorem dL_law_761 : decode code 761 = .ok (.aload_n 0, 1) := by decide +kernel
theorem dL_law_762 : decode code 762 = .ok (.iload_n 3, 1) := by decide +kernel
theorem dL_law_763 : decode code 763 = .ok (.iconst 1, 1) := by decide +kernel
theorem dL_law_764 : decode code 764 = .ok (.iadd, 1) := by decide +kernel
theorem dL_law_765 : decode code 765 = .ok (.iaload, 1) := by decide +kernel
theorem dL_law_766 : decode code 766 = .ok (.invokevirtual 99, 3) := by decide +kernel
theorem dL_law_769 : decode code 769 = .ok (.if_icmp .eq 563, 3) := by decide +kernel
theorem dL_law_772 : decode code 772 = .ok (.iconst 0, 1) := by decide +kernel
theorem dL_law_773 : decode code 773 = .ok (.ireturn, 1) := by decide +kernel
theorem dL_law_774 : decode code 774 = .ok (.aload_n 1, 1) := by decide +kernel
theorem dL_law_775 : decode code 775 = .ok (.aload_n 0, 1) := by decide +kernel
theorem dL_law_776 : decode code 776 = .ok (.iload_n 3, 1) := by decide +kernel
theorem dL_law_777 : decode code 777 = .ok (.iconst 1, 1) := by decide +kernel
theorem dL_law_778 : decode code 778 = .ok (.iadd, 1) := by decide +kernel
theorem dL_law_779 : decode code 779 = .ok (.iaload, 1) := by decide +kernel
theorem dL_law_780 : decode code 780 = .ok (.invokevirtual 100, 3) := by decide +kernel
theorem dL_law_783 : decode code 783 = .ok (.aload_n 2, 1) := by decide +kernel
theorem dL_law_784 : decode code 784 = .ok (.aload_n 0, 1) := by decide +kernel
theorem dL_law_785 : decode code 785 = .ok (.iload_n 3, 1) := by decide +kernel
theorem dL_law_786 : decode code 786 = .ok (.iconst 1, 1) := by decide +kernel
theorem dL_law_787 : decode code 787 = .ok (.iadd, 1) := by decide +kernel
theorem dL_law_788 : decode code 788 = .ok (.iaload, 1) := by decide +kernel
theorem dL_law_789 : decode code 789 = .ok (.invokevirtual 103, 3) := by decide +kernel
theorem dL_law_792 : decode code 792 = .ok (.if_icmp .eq 540, 3) := by decide +kernel
theorem dL_law_795 : decode code 795 = .ok (.iconst 0, 1) := by decide +kernel
theorem dL_law_796 : decode code 796 = .ok (.ireturn, 1) := by decide +kernel
theorem dL_law_797 : decode code 797 = .ok (.aload_n 1, 1) := by decide +kernel
theorem dL_law_798 : decode code 798 = .ok (.aload_n 0, 1) := by decide +kernel
theorem dL_law_799 : decode code 799 = .ok (.iload_n 3, 1) := by decide +kernel
theorem dL_law_800 : decode code 800 = .ok (.iconst 1, 1) := by decide +kernel
theorem dL_law_801 : decode code 801 = .ok (.iadd, 1) := by decide +kernel
theorem dL_law_802 : decode code 802 = .ok (.iaload, 1) := by decide +kernel
theorem dL_law_803 : decode code 803 = .ok (.aload_n 0, 1) := by decide +kernel
theorem dL_law_804 : decode code 804 = .ok (.iload_n 3, 1) := by decide +kernel
theorem dL_law_805 : decode code 805 = .ok (.iconst 2, 1) := by decide +kernel
theorem dL_law_806 : decode code 806 = .ok (.iadd, 1) := by decide +kernel
theorem dL_law_807 : decode code 807 = .ok (.iaload, 1) := by decide +kernel
theorem dL_law_808 : decode code 808 = .ok (.aload_n 0, 1) := by decide +kernel
theorem dL_law_809 : decode code 809 = .ok (.iload_n 3, 1) := by decide +kernel
theorem dL_law_810 : decode code 810 = .ok (.iconst 3, 1) := by decide +kernel
theorem dL_law_811 : decode code 811 = .ok (.iadd, 1) := by decide +kernel
theorem dL_law_812 : decode code 812 = .ok (.iaload, 1) := by decide +kernel
theorem dL_law_813 : decode code 813 = .ok (.invokevirtual 104, 3) := by decide +kernel
theorem dL_law_816 : decode code 816 = .ok (.aload_n 2, 1) := by decide +kernel
theorem dL_law_817 : decode code 817 = .ok (.aload_n 0, 1) := by decide +kernel
theorem dL_law_818 : decode code 818 = .ok (.iload_n 3, 1) := by decide +kernel
theorem dL_law_819 : decode code 819 = .ok (.iconst 1, 1) := by decide +kernel
theorem dL_law_820 : decode code 820 = .ok (.iadd, 1) := by decide +kernel
theorem dL_law_821 : decode code 821 = .ok (.iaload, 1) := by decide +kernel
theorem dL_law_822 : decode code 822 = .ok (.aload_n 0, 1) := by decide +kernel
theorem dL_law_823 : decode code 823 = .ok (.iload_n 3, 1) := by decide +kernel
theorem dL_law_824 : decode code 824 = .ok (.iconst 2, 1) := by decide +kernel
theorem dL_law_825 : decode code 825 = .ok (.iadd, 1) := by decide +kernel
theorem dL_law_826 : decode code 826 = .ok (.iaload, 1) := by decide +kernel
theorem dL_law_827 : decode code 827 = .ok (.aload_n 0, 1) := by decide +kernel
theorem dL_law_828 : decode code 828 = .ok (.iload_n 3, 1) := by decide +kernel
theorem dL_law_829 : decode code 829 = .ok (.iconst 3, 1) := by decide +kernel
theorem dL_law_830 : decode code 830 = .ok (.iadd, 1) := by decide +kernel
theorem dL_law_831 : decode code 831 = .ok (.iaload, 1) := by decide +kernel
theorem dL_law_832 : decode code 832 = .ok (.invokevirtual 107, 3) := by decide +kernel
theorem dL_law_835 : decode code 835 = .ok (.if_icmp .eq 497, 3) := by decide +kernel
theorem dL_law_838 : decode code 838 = .ok (.iconst 0, 1) := by decide +kernel
theorem dL_law_839 : decode code 839 = .ok (.ireturn, 1) := by decide +kernel
theorem dL_law_840 : decode code 840 = .ok (.aload_n 1, 1) := by decide +kernel
theorem dL_law_841 : decode code 841 = .ok (.aload_n 0, 1) := by decide +kernel
theorem dL_law_842 : decode code 842 = .ok (.iload_n 3, 1) := by decide +kernel
theorem dL_law_843 : decode code 843 = .ok (.iconst 1, 1) := by decide +kernel
theorem dL_law_844 : decode code 844 = .ok (.iadd, 1) := by decide +kernel
theorem dL_law_845 : decode code 845 = .ok (.iaload, 1) := by decide +kernel
theorem dL_law_846 : decode code 846 = .ok (.aload_n 0, 1) := by decide +kernel
theorem dL_law_847 : decode code 847 = .ok (.iload_n 3, 1) := by decide +kernel
theorem dL_law_848 : decode code 848 = .ok (.iconst 2, 1) := by decide +kernel
theorem dL_law_849 : decode code 849 = .ok (.iadd, 1) := by decide +kernel
theorem dL_law_850 : decode code 850 = .ok (.iaload, 1) := by decide +kernel
theorem dL_law_851 : decode code 851 = .ok (.invokevirtual 108, 3) := by decide +kernel
theorem dL_law_854 : decode code 854 = .ok (.aload_n 2, 1) := by decide +kernel
theorem dL_law_855 : decode code 855 = .ok (.aload_n 0, 1) := by decide +kernel
theorem dL_law_856 : decode code 856 = .ok (.iload_n 3, 1) := by decide +kernel
theorem dL_law_857 : decode code 857 = .ok (.iconst 1, 1) := by decide +kernel
theorem dL_law_858 : decode code 858 = .ok (.iadd, 1) := by decide +kernel
theorem dL_law_859 : decode code 859 = .ok (.iaload, 1) := by decide +kernel
theorem dL_law_860 : decode code 860 = .ok (.aload_n 0, 1) := by decide +kernel
theorem dL_law_861 : decode code 861 = .ok (.iload_n 3, 1) := by decide +kernel
theorem dL_law_862 : decode code 862 = .ok (.iconst 2, 1) := by decide +kernel
theorem dL_law_863 : decode code 863 = .ok (.iadd, 1) := by decide +kernel
theorem dL_law_864 : decode code 864 = .ok (.iaload, 1) := by decide +kernel
theorem dL_law_865 : decode code 865 = .ok (.invokevirtual 111, 3) := by decide +kernel
theorem dL_law_868 : decode code 868 = .ok (.if_icmp .eq 464, 3) := by decide +kernel
theorem dL_law_871 : decode code 871 = .ok (.iconst 0, 1) := by decide +kernel
theorem dL_law_872 : decode code 872 = .ok (.ireturn, 1) := by decide +kernel
theorem dL_law_873 : decode code 873 = .ok (.aload_n 1, 1) := by decide +kernel
theorem dL_law_874 : decode code 874 = .ok (.aload_n 0, 1) := by decide +kernel
theorem dL_law_875 : decode code 875 = .ok (.iload_n 3, 1) := by decide +kernel
theorem dL_law_876 : decode code 876 = .ok (.iconst 1, 1) := by decide +kernel
theorem dL_law_877 : decode code 877 = .ok (.iadd, 1) := by decide +kernel
theorem dL_law_878 : decode code 878 = .ok (.iaload, 1) := by decide +kernel
theorem dL_law_879 : decode code 879 = .ok (.aload_n 0, 1) := by decide +kernel
theorem dL_law_880 : decode code 880 = .ok (.iload_n 3, 1) := by decide +kernel
theorem dL_law_881 : decode code 881 = .ok (.iconst 2, 1) := by decide +kernel
theorem dL_law_882 : decode code 882 = .ok (.iadd, 1) := by decide +kernel
theorem dL_law_883 : decode code 883 = .ok (.iaload, 1) := by decide +kernel
theorem dL_law_884 : decode code 884 = .ok (.invokevirtual 112, 3) := by decide +kernel
theorem dL_law_887 : decode code 887 = .ok (.aload_n 2, 1) := by decide +kernel
theorem dL_law_888 : decode code 888 = .ok (.aload_n 0, 1) := by decide +kernel
theorem dL_law_889 : decode code 889 = .ok (.iload_n 3, 1) := by decide +kernel
theorem dL_law_890 : decode code 890 = .ok (.iconst 1, 1) := by decide +kernel
theorem dL_law_891 : decode code 891 = .ok (.iadd, 1) := by decide +kernel
theorem dL_law_892 : decode code 892 = .ok (.iaload, 1) := by decide +kernel
theorem dL_law_893 : decode code 893 = .ok (.aload_n 0, 1) := by decide +kernel
theorem dL_law_894 : decode code 894 = .ok (.iload_n 3, 1) := by decide +kernel
theorem dL_law_895 : decode code 895 = .ok (.iconst 2, 1) := by decide +kernel
theorem dL_law_896 : decode code 896 = .ok (.iadd, 1) := by decide +kernel
theorem dL_law_897 : decode code 897 = .ok (.iaload, 1) := by decide +kernel
theorem dL_law_898 : decode code 898 = .ok (.invokevirtual 115, 3) := by decide +kernel
theorem dL_law_901 : decode code 901 = .ok (.if_icmp .eq 431, 3) := by decide +kernel
theorem dL_law_904 : decode code 904 = .ok (.iconst 0, 1) := by decide +kernel
theorem dL_law_905 : decode code 905 = .ok (.ireturn, 1) := by decide +kernel
theorem dL_law_906 : decode code 906 = .ok (.aload_n 1, 1) := by decide +kernel
theorem dL_law_907 : decode code 907 = .ok (.aload_n 0, 1) := by decide +kernel
theorem dL_law_908 : decode code 908 = .ok (.iload_n 3, 1) := by decide +kernel
theorem dL_law_909 : decode code 909 = .ok (.iconst 1, 1) := by decide +kernel
theorem dL_law_910 : decode code 910 = .ok (.iadd, 1) := by decide +kernel
theorem dL_law_911 : decode code 911 = .ok (.iaload, 1) := by decide +kernel
theorem dL_law_912 : decode code 912 = .ok (.aload_n 0, 1) := by decide +kernel
theorem dL_law_913 : decode code 913 = .ok (.iload_n 3, 1) := by decide +kernel
theorem dL_law_914 : decode code 914 = .ok (.iconst 2, 1) := by decide +kernel
theorem dL_law_915 : decode code 915 = .ok (.iadd, 1) := by decide +kernel
theorem dL_law_916 : decode code 916 = .ok (.iaload, 1) := by decide +kernel
theorem dL_law_917 : decode code 917 = .ok (.invokevirtual 116, 3) := by decide +kernel
theorem dL_law_920 : decode code 920 = .ok (.aload_n 2, 1) := by decide +kernel
theorem dL_law_921 : decode code 921 = .ok (.aload_n 0, 1) := by decide +kernel
theorem dL_law_922 : decode code 922 = .ok (.iload_n 3, 1) := by decide +kernel
theorem dL_law_923 : decode code 923 = .ok (.iconst 1, 1) := by decide +kernel
theorem dL_law_924 : decode code 924 = .ok (.iadd, 1) := by decide +kernel
theorem dL_law_925 : decode code 925 = .ok (.iaload, 1) := by decide +kernel
theorem dL_law_926 : decode code 926 = .ok (.aload_n 0, 1) := by decide +kernel
theorem dL_law_927 : decode code 927 = .ok (.iload_n 3, 1) := by decide +kernel
theorem dL_law_928 : decode code 928 = .ok (.iconst 2, 1) := by decide +kernel
theorem dL_law_929 : decode code 929 = .ok (.iadd, 1) := by decide +kernel
theorem dL_law_930 : decode code 930 = .ok (.iaload, 1) := by decide +kernel
theorem dL_law_931 : decode code 931 = .ok (.invokevirtual 119, 3) := by decide +kernel
theorem dL_law_934 : decode code 934 = .ok (.if_icmp .eq 398, 3) := by decide +kernel
theorem dL_law_937 : decode code 937 = .ok (.iconst 0, 1) := by decide +kernel
theorem dL_law_938 : decode code 938 = .ok (.ireturn, 1) := by decide +kernel
theorem dL_law_939 : decode code 939 = .ok (.aload_n 1, 1) := by decide +kernel
theorem dL_law_940 : decode code 940 = .ok (.aload_n 0, 1) := by decide +kernel
theorem dL_law_941 : decode code 941 = .ok (.iload_n 3, 1) := by decide +kernel
theorem dL_law_942 : decode code 942 = .ok (.iconst 1, 1) := by decide +kernel
theorem dL_law_943 : decode code 943 = .ok (.iadd, 1) := by decide +kernel
theorem dL_law_944 : decode code 944 = .ok (.iaload, 1) := by decide +kernel
theorem dL_law_945 : decode code 945 = .ok (.invokevirtual 120, 3) := by decide +kernel
theorem dL_law_948 : decode code 948 = .ok (.aload_n 2, 1) := by decide +kernel
theorem dL_law_949 : decode code 949 = .ok (.aload_n 0, 1) := by decide +kernel
theorem dL_law_950 : decode code 950 = .ok (.iload_n 3, 1) := by decide +kernel
theorem dL_law_951 : decode code 951 = .ok (.iconst 1, 1) := by decide +kernel
theorem dL_law_952 : decode code 952 = .ok (.iadd, 1) := by decide +kernel
theorem dL_law_953 : decode code 953 = .ok (.iaload, 1) := by decide +kernel
theorem dL_law_954 : decode code 954 = .ok (.invokevirtual 124, 3) := by decide +kernel
theorem dL_law_957 : decode code 957 = .ok (.lcmp, 1) := by decide +kernel
theorem dL_law_958 : decode code 958 = .ok (.ifCond .eq 374, 3) := by decide +kernel
theorem dL_law_961 : decode code 961 = .ok (.iconst 0, 1) := by decide +kernel
theorem dL_law_962 : decode code 962 = .ok (.ireturn, 1) := by decide +kernel
theorem dL_law_963 : decode code 963 = .ok (.aload_n 1, 1) := by decide +kernel
theorem dL_law_964 : decode code 964 = .ok (.aload_n 0, 1) := by decide +kernel
theorem dL_law_965 : decode code 965 = .ok (.iload_n 3, 1) := by decide +kernel
theorem dL_law_966 : decode code 966 = .ok (.iconst 1, 1) := by decide +kernel
theorem dL_law_967 : decode code 967 = .ok (.iadd, 1) := by decide +kernel
theorem dL_law_968 : decode code 968 = .ok (.iaload, 1) := by decide +kernel
theorem dL_law_969 : decode code 969 = .ok (.aload_n 0, 1) := by decide +kernel
theorem dL_law_970 : decode code 970 = .ok (.iload_n 3, 1) := by decide +kernel
theorem dL_law_971 : decode code 971 = .ok (.iconst 2, 1) := by decide +kernel
theorem dL_law_972 : decode code 972 = .ok (.iadd, 1) := by decide +kernel
theorem dL_law_973 : decode code 973 = .ok (.iaload, 1) := by decide +kernel
theorem dL_law_974 : decode code 974 = .ok (.aload_n 0, 1) := by decide +kernel
theorem dL_law_975 : decode code 975 = .ok (.iload_n 3, 1) := by decide +kernel
theorem dL_law_976 : decode code 976 = .ok (.iconst 3, 1) := by decide +kernel
theorem dL_law_977 : decode code 977 = .ok (.iadd, 1) := by decide +kernel
theorem dL_law_978 : decode code 978 = .ok (.iaload, 1) := by decide +kernel
theorem dL_law_979 : decode code 979 = .ok (.invokevirtual 125, 3) := by decide +kernel
theorem dL_law_982 : decode code 982 = .ok (.aload_n 2, 1) := by decide +kernel
theorem dL_law_983 : decode code 983 = .ok (.aload_n 0, 1) := by decide +kernel
theorem dL_law_984 : decode code 984 = .ok (.iload_n 3, 1) := by decide +kernel
theorem dL_law_985 : decode code 985 = .ok (.iconst 1, 1) := by decide +kernel
theorem dL_law_986 : decode code 986 = .ok (.iadd, 1) := by decide +kernel
theorem dL_law_987 : decode code 987 = .ok (.iaload, 1) := by decide +kernel
theorem dL_law_988 : decode code 988 = .ok (.aload_n 0, 1) := by decide +kernel
theorem dL_law_989 : decode code 989 = .ok (.iload_n 3, 1) := by decide +kernel
theorem dL_law_990 : decode code 990 = .ok (.iconst 2, 1) := by decide +kernel
theorem dL_law_991 : decode code 991 = .ok (.iadd, 1) := by decide +kernel
theorem dL_law_992 : decode code 992 = .ok (.iaload, 1) := by decide +kernel
theorem dL_law_993 : decode code 993 = .ok (.aload_n 0, 1) := by decide +kernel
theorem dL_law_994 : decode code 994 = .ok (.iload_n 3, 1) := by decide +kernel
theorem dL_law_995 : decode code 995 = .ok (.iconst 3, 1) := by decide +kernel
theorem dL_law_996 : decode code 996 = .ok (.iadd, 1) := by decide +kernel
theorem dL_law_997 : decode code 997 = .ok (.iaload, 1) := by decide +kernel
theorem dL_law_998 : decode code 998 = .ok (.invokevirtual 128, 3) := by decide +kernel
theorem dL_law_1001 : decode code 1001 = .ok (.if_icmp .eq 331, 3) := by decide +kernel
theorem dL_law_1004 : decode code 1004 = .ok (.iconst 0, 1) := by decide +kernel
theorem dL_law_1005 : decode code 1005 = .ok (.ireturn, 1) := by decide +kernel
theorem dL_law_1006 : decode code 1006 = .ok (.aload_n 1, 1) := by decide +kernel
theorem dL_law_1007 : decode code 1007 = .ok (.aload_n 0, 1) := by decide +kernel
theorem dL_law_1008 : decode code 1008 = .ok (.iload_n 3, 1) := by decide +kernel
theorem dL_law_1009 : decode code 1009 = .ok (.iconst 1, 1) := by decide +kernel
theorem dL_law_1010 : decode code 1010 = .ok (.iadd, 1) := by decide +kernel
theorem dL_law_1011 : decode code 1011 = .ok (.iaload, 1) := by decide +kernel
theorem dL_law_1012 : decode code 1012 = .ok (.invokevirtual 129, 3) := by decide +kernel
theorem dL_law_1015 : decode code 1015 = .ok (.aload_n 2, 1) := by decide +kernel
theorem dL_law_1016 : decode code 1016 = .ok (.aload_n 0, 1) := by decide +kernel
theorem dL_law_1017 : decode code 1017 = .ok (.iload_n 3, 1) := by decide +kernel
theorem dL_law_1018 : decode code 1018 = .ok (.iconst 1, 1) := by decide +kernel
theorem dL_law_1019 : decode code 1019 = .ok (.iadd, 1) := by decide +kernel
theorem dL_law_1020 : decode code 1020 = .ok (.iaload, 1) := by decide +kernel
theorem dL_law_1021 : decode code 1021 = .ok (.invokevirtual 132, 3) := by decide +kernel
theorem dL_law_1024 : decode code 1024 = .ok (.if_icmp .eq 308, 3) := by decide +kernel
theorem dL_law_1027 : decode code 1027 = .ok (.iconst 0, 1) := by decide +kernel
theorem dL_law_1028 : decode code 1028 = .ok (.ireturn, 1) := by decide +kernel
theorem dL_law_1029 : decode code 1029 = .ok (.aload_n 1, 1) := by decide +kernel
theorem dL_law_1030 : decode code 1030 = .ok (.aload_n 0, 1) := by decide +kernel
theorem dL_law_1031 : decode code 1031 = .ok (.iload_n 3, 1) := by decide +kernel
theorem dL_law_1032 : decode code 1032 = .ok (.iconst 1, 1) := by decide +kernel
theorem dL_law_1033 : decode code 1033 = .ok (.iadd, 1) := by decide +kernel
theorem dL_law_1034 : decode code 1034 = .ok (.iaload, 1) := by decide +kernel
theorem dL_law_1035 : decode code 1035 = .ok (.aload_n 0, 1) := by decide +kernel
theorem dL_law_1036 : decode code 1036 = .ok (.iload_n 3, 1) := by decide +kernel
theorem dL_law_1037 : decode code 1037 = .ok (.iconst 2, 1) := by decide +kernel
theorem dL_law_1038 : decode code 1038 = .ok (.iadd, 1) := by decide +kernel
theorem dL_law_1039 : decode code 1039 = .ok (.iaload, 1) := by decide +kernel
theorem dL_law_1040 : decode code 1040 = .ok (.aload_n 0, 1) := by decide +kernel
theorem dL_law_1041 : decode code 1041 = .ok (.iload_n 3, 1) := by decide +kernel
theorem dL_law_1042 : decode code 1042 = .ok (.iconst 3, 1) := by decide +kernel
theorem dL_law_1043 : decode code 1043 = .ok (.iadd, 1) := by decide +kernel
theorem dL_law_1044 : decode code 1044 = .ok (.iaload, 1) := by decide +kernel
theorem dL_law_1045 : decode code 1045 = .ok (.invokevirtual 133, 3) := by decide +kernel
theorem dL_law_1048 : decode code 1048 = .ok (.aload_n 2, 1) := by decide +kernel
theorem dL_law_1049 : decode code 1049 = .ok (.aload_n 0, 1) := by decide +kernel
theorem dL_law_1050 : decode code 1050 = .ok (.iload_n 3, 1) := by decide +kernel
theorem dL_law_1051 : decode code 1051 = .ok (.iconst 1, 1) := by decide +kernel
theorem dL_law_1052 : decode code 1052 = .ok (.iadd, 1) := by decide +kernel
theorem dL_law_1053 : decode code 1053 = .ok (.iaload, 1) := by decide +kernel
theorem dL_law_1054 : decode code 1054 = .ok (.aload_n 0, 1) := by decide +kernel
theorem dL_law_1055 : decode code 1055 = .ok (.iload_n 3, 1) := by decide +kernel
theorem dL_law_1056 : decode code 1056 = .ok (.iconst 2, 1) := by decide +kernel
theorem dL_law_1057 : decode code 1057 = .ok (.iadd, 1) := by decide +kernel
theorem dL_law_1058 : decode code 1058 = .ok (.iaload, 1) := by decide +kernel
theorem dL_law_1059 : decode code 1059 = .ok (.aload_n 0, 1) := by decide +kernel
theorem dL_law_1060 : decode code 1060 = .ok (.iload_n 3, 1) := by decide +kernel
theorem dL_law_1061 : decode code 1061 = .ok (.iconst 3, 1) := by decide +kernel
theorem dL_law_1062 : decode code 1062 = .ok (.iadd, 1) := by decide +kernel
theorem dL_law_1063 : decode code 1063 = .ok (.iaload, 1) := by decide +kernel
theorem dL_law_1064 : decode code 1064 = .ok (.invokevirtual 136, 3) := by decide +kernel
theorem dL_law_1067 : decode code 1067 = .ok (.if_icmp .eq 265, 3) := by decide +kernel
theorem dL_law_1070 : decode code 1070 = .ok (.iconst 0, 1) := by decide +kernel
theorem dL_law_1071 : decode code 1071 = .ok (.ireturn, 1) := by decide +kernel
theorem dL_law_1072 : decode code 1072 = .ok (.aload_n 1, 1) := by decide +kernel
theorem dL_law_1073 : decode code 1073 = .ok (.aload_n 0, 1) := by decide +kernel
theorem dL_law_1074 : decode code 1074 = .ok (.iload_n 3, 1) := by decide +kernel
theorem dL_law_1075 : decode code 1075 = .ok (.iconst 1, 1) := by decide +kernel
theorem dL_law_1076 : decode code 1076 = .ok (.iadd, 1) := by decide +kernel
theorem dL_law_1077 : decode code 1077 = .ok (.iaload, 1) := by decide +kernel
theorem dL_law_1078 : decode code 1078 = .ok (.aload_n 0, 1) := by decide +kernel
theorem dL_law_1079 : decode code 1079 = .ok (.iload_n 3, 1) := by decide +kernel
theorem dL_law_1080 : decode code 1080 = .ok (.iconst 2, 1) := by decide +kernel
theorem dL_law_1081 : decode code 1081 = .ok (.iadd, 1) := by decide +kernel
theorem dL_law_1082 : decode code 1082 = .ok (.iaload, 1) := by decide +kernel
theorem dL_law_1083 : decode code 1083 = .ok (.aload_n 0, 1) := by decide +kernel
theorem dL_law_1084 : decode code 1084 = .ok (.iload_n 3, 1) := by decide +kernel
theorem dL_law_1085 : decode code 1085 = .ok (.iconst 3, 1) := by decide +kernel
theorem dL_law_1086 : decode code 1086 = .ok (.iadd, 1) := by decide +kernel
theorem dL_law_1087 : decode code 1087 = .ok (.iaload, 1) := by decide +kernel
theorem dL_law_1088 : decode code 1088 = .ok (.invokevirtual 137, 3) := by decide +kernel
theorem dL_law_1091 : decode code 1091 = .ok (.aload_n 2, 1) := by decide +kernel
theorem dL_law_1092 : decode code 1092 = .ok (.aload_n 0, 1) := by decide +kernel
theorem dL_law_1093 : decode code 1093 = .ok (.iload_n 3, 1) := by decide +kernel
theorem dL_law_1094 : decode code 1094 = .ok (.iconst 1, 1) := by decide +kernel
theorem dL_law_1095 : decode code 1095 = .ok (.iadd, 1) := by decide +kernel
theorem dL_law_1096 : decode code 1096 = .ok (.iaload, 1) := by decide +kernel
theorem dL_law_1097 : decode code 1097 = .ok (.aload_n 0, 1) := by decide +kernel
theorem dL_law_1098 : decode code 1098 = .ok (.iload_n 3, 1) := by decide +kernel
theorem dL_law_1099 : decode code 1099 = .ok (.iconst 2, 1) := by decide +kernel
theorem dL_law_1100 : decode code 1100 = .ok (.iadd, 1) := by decide +kernel
theorem dL_law_1101 : decode code 1101 = .ok (.iaload, 1) := by decide +kernel
theorem dL_law_1102 : decode code 1102 = .ok (.aload_n 0, 1) := by decide +kernel
theorem dL_law_1103 : decode code 1103 = .ok (.iload_n 3, 1) := by decide +kernel
theorem dL_law_1104 : decode code 1104 = .ok (.iconst 3, 1) := by decide +kernel
theorem dL_law_1105 : decode code 1105 = .ok (.iadd, 1) := by decide +kernel
theorem dL_law_1106 : decode code 1106 = .ok (.iaload, 1) := by decide +kernel
theorem dL_law_1107 : decode code 1107 = .ok (.invokevirtual 140, 3) := by decide +kernel
theorem dL_law_1110 : decode code 1110 = .ok (.if_icmp .eq 222, 3) := by decide +kernel
theorem dL_law_1113 : decode code 1113 = .ok (.iconst 0, 1) := by decide +kernel
theorem dL_law_1114 : decode code 1114 = .ok (.ireturn, 1) := by decide +kernel
theorem dL_law_1115 : decode code 1115 = .ok (.aload_n 1, 1) := by decide +kernel
theorem dL_law_1116 : decode code 1116 = .ok (.aload_n 0, 1) := by decide +kernel
theorem dL_law_1117 : decode code 1117 = .ok (.iload_n 3, 1) := by decide +kernel
theorem dL_law_1118 : decode code 1118 = .ok (.iconst 1, 1) := by decide +kernel
theorem dL_law_1119 : decode code 1119 = .ok (.iadd, 1) := by decide +kernel
theorem dL_law_1120 : decode code 1120 = .ok (.iaload, 1) := by decide +kernel
theorem dL_law_1121 : decode code 1121 = .ok (.aload_n 0, 1) := by decide +kernel
theorem dL_law_1122 : decode code 1122 = .ok (.iload_n 3, 1) := by decide +kernel
theorem dL_law_1123 : decode code 1123 = .ok (.iconst 2, 1) := by decide +kernel
theorem dL_law_1124 : decode code 1124 = .ok (.iadd, 1) := by decide +kernel
theorem dL_law_1125 : decode code 1125 = .ok (.iaload, 1) := by decide +kernel
theorem dL_law_1126 : decode code 1126 = .ok (.aload_n 0, 1) := by decide +kernel
theorem dL_law_1127 : decode code 1127 = .ok (.iload_n 3, 1) := by decide +kernel
theorem dL_law_1128 : decode code 1128 = .ok (.iconst 3, 1) := by decide +kernel
theorem dL_law_1129 : decode code 1129 = .ok (.iadd, 1) := by decide +kernel
theorem dL_law_1130 : decode code 1130 = .ok (.iaload, 1) := by decide +kernel
theorem dL_law_1131 : decode code 1131 = .ok (.aload_n 0, 1) := by decide +kernel
theorem dL_law_1132 : decode code 1132 = .ok (.iload_n 3, 1) := by decide +kernel
theorem dL_law_1133 : decode code 1133 = .ok (.iconst 4, 1) := by decide +kernel
theorem dL_law_1134 : decode code 1134 = .ok (.iadd, 1) := by decide +kernel
theorem dL_law_1135 : decode code 1135 = .ok (.iaload, 1) := by decide +kernel
theorem dL_law_1136 : decode code 1136 = .ok (.aload_n 0, 1) := by decide +kernel
theorem dL_law_1137 : decode code 1137 = .ok (.iload_n 3, 1) := by decide +kernel
theorem dL_law_1138 : decode code 1138 = .ok (.iconst 5, 1) := by decide +kernel
theorem dL_law_1139 : decode code 1139 = .ok (.iadd, 1) := by decide +kernel
theorem dL_law_1140 : decode code 1140 = .ok (.iaload, 1) := by decide +kernel
theorem dL_law_1141 : decode code 1141 = .ok (.invokevirtual 141, 3) := by decide +kernel
theorem dL_law_1144 : decode code 1144 = .ok (.aload_n 2, 1) := by decide +kernel
theorem dL_law_1145 : decode code 1145 = .ok (.aload_n 0, 1) := by decide +kernel
theorem dL_law_1146 : decode code 1146 = .ok (.iload_n 3, 1) := by decide +kernel
theorem dL_law_1147 : decode code 1147 = .ok (.iconst 1, 1) := by decide +kernel
theorem dL_law_1148 : decode code 1148 = .ok (.iadd, 1) := by decide +kernel
theorem dL_law_1149 : decode code 1149 = .ok (.iaload, 1) := by decide +kernel
theorem dL_law_1150 : decode code 1150 = .ok (.aload_n 0, 1) := by decide +kernel
theorem dL_law_1151 : decode code 1151 = .ok (.iload_n 3, 1) := by decide +kernel
theorem dL_law_1152 : decode code 1152 = .ok (.iconst 2, 1) := by decide +kernel
theorem dL_law_1153 : decode code 1153 = .ok (.iadd, 1) := by decide +kernel
theorem dL_law_1154 : decode code 1154 = .ok (.iaload, 1) := by decide +kernel
theorem dL_law_1155 : decode code 1155 = .ok (.aload_n 0, 1) := by decide +kernel
theorem dL_law_1156 : decode code 1156 = .ok (.iload_n 3, 1) := by decide +kernel
theorem dL_law_1157 : decode code 1157 = .ok (.iconst 3, 1) := by decide +kernel
theorem dL_law_1158 : decode code 1158 = .ok (.iadd, 1) := by decide +kernel
theorem dL_law_1159 : decode code 1159 = .ok (.iaload, 1) := by decide +kernel
theorem dL_law_1160 : decode code 1160 = .ok (.aload_n 0, 1) := by decide +kernel
theorem dL_law_1161 : decode code 1161 = .ok (.iload_n 3, 1) := by decide +kernel
theorem dL_law_1162 : decode code 1162 = .ok (.iconst 4, 1) := by decide +kernel
theorem dL_law_1163 : decode code 1163 = .ok (.iadd, 1) := by decide +kernel
theorem dL_law_1164 : decode code 1164 = .ok (.iaload, 1) := by decide +kernel
theorem dL_law_1165 : decode code 1165 = .ok (.aload_n 0, 1) := by decide +kernel
theorem dL_law_1166 : decode code 1166 = .ok (.iload_n 3, 1) := by decide +kernel
theorem dL_law_1167 : decode code 1167 = .ok (.iconst 5, 1) := by decide +kernel
theorem dL_law_1168 : decode code 1168 = .ok (.iadd, 1) := by decide +kernel
theorem dL_law_1169 : decode code 1169 = .ok (.iaload, 1) := by decide +kernel
theorem dL_law_1170 : decode code 1170 = .ok (.invokevirtual 145, 3) := by decide +kernel
theorem dL_law_1173 : decode code 1173 = .ok (.if_icmp .eq 159, 3) := by decide +kernel
theorem dL_law_1176 : decode code 1176 = .ok (.iconst 0, 1) := by decide +kernel
theorem dL_law_1177 : decode code 1177 = .ok (.ireturn, 1) := by decide +kernel
theorem dL_law_1178 : decode code 1178 = .ok (.aload_n 1, 1) := by decide +kernel
theorem dL_law_1179 : decode code 1179 = .ok (.aload_n 0, 1) := by decide +kernel
theorem dL_law_1180 : decode code 1180 = .ok (.iload_n 3, 1) := by decide +kernel
theorem dL_law_1181 : decode code 1181 = .ok (.iconst 1, 1) := by decide +kernel
theorem dL_law_1182 : decode code 1182 = .ok (.iadd, 1) := by decide +kernel
theorem dL_law_1183 : decode code 1183 = .ok (.iaload, 1) := by decide +kernel
theorem dL_law_1184 : decode code 1184 = .ok (.invokevirtual 146, 3) := by decide +kernel
theorem dL_law_1187 : decode code 1187 = .ok (.aload_n 2, 1) := by decide +kernel
theorem dL_law_1188 : decode code 1188 = .ok (.aload_n 0, 1) := by decide +kernel
theorem dL_law_1189 : decode code 1189 = .ok (.iload_n 3, 1) := by decide +kernel
theorem dL_law_1190 : decode code 1190 = .ok (.iconst 1, 1) := by decide +kernel
theorem dL_law_1191 : decode code 1191 = .ok (.iadd, 1) := by decide +kernel
theorem dL_law_1192 : decode code 1192 = .ok (.iaload, 1) := by decide +kernel
theorem dL_law_1193 : decode code 1193 = .ok (.invokevirtual 149, 3) := by decide +kernel
theorem dL_law_1196 : decode code 1196 = .ok (.if_icmp .eq 136, 3) := by decide +kernel
theorem dL_law_1199 : decode code 1199 = .ok (.iconst 0, 1) := by decide +kernel
theorem dL_law_1200 : decode code 1200 = .ok (.ireturn, 1) := by decide +kernel
theorem dL_law_1201 : decode code 1201 = .ok (.aload_n 1, 1) := by decide +kernel
theorem dL_law_1202 : decode code 1202 = .ok (.aload_n 0, 1) := by decide +kernel
theorem dL_law_1203 : decode code 1203 = .ok (.iload_n 3, 1) := by decide +kernel
theorem dL_law_1204 : decode code 1204 = .ok (.iconst 1, 1) := by decide +kernel
theorem dL_law_1205 : decode code 1205 = .ok (.iadd, 1) := by decide +kernel
theorem dL_law_1206 : decode code 1206 = .ok (.iaload, 1) := by decide +kernel
theorem dL_law_1207 : decode code 1207 = .ok (.invokevirtual 150, 3) := by decide +kernel
theorem dL_law_1210 : decode code 1210 = .ok (.aload_n 2, 1) := by decide +kernel
theorem dL_law_1211 : decode code 1211 = .ok (.aload_n 0, 1) := by decide +kernel
theorem dL_law_1212 : decode code 1212 = .ok (.iload_n 3, 1) := by decide +kernel
theorem dL_law_1213 : decode code 1213 = .ok (.iconst 1, 1) := by decide +kernel
theorem dL_law_1214 : decode code 1214 = .ok (.iadd, 1) := by decide +kernel
theorem dL_law_1215 : decode code 1215 = .ok (.iaload, 1) := by decide +kernel
theorem dL_law_1216 : decode code 1216 = .ok (.invokevirtual 153, 3) := by decide +kernel
theorem dL_law_1219 : decode code 1219 = .ok (.if_icmp .eq 113, 3) := by decide +kernel
theorem dL_law_1222 : decode code 1222 = .ok (.iconst 0, 1) := by decide +kernel
theorem dL_law_1223 : decode code 1223 = .ok (.ireturn, 1) := by decide +kernel
theorem dL_law_1224 : decode code 1224 = .ok (.aload_n 1, 1) := by decide +kernel
theorem dL_law_1225 : decode code 1225 = .ok (.invokevirtual 154, 3) := by decide +kernel
theorem dL_law_1228 : decode code 1228 = .ok (.aload_n 2, 1) := by decide +kernel
theorem dL_law_1229 : decode code 1229 = .ok (.invokevirtual 157, 3) := by decide +kernel
theorem dL_law_1232 : decode code 1232 = .ok (.if_icmp .eq 100, 3) := by decide +kernel
theorem dL_law_1235 : decode code 1235 = .ok (.iconst 0, 1) := by decide +kernel
theorem dL_law_1236 : decode code 1236 = .ok (.ireturn, 1) := by decide +kernel
theorem dL_law_1237 : decode code 1237 = .ok (.aload_n 1, 1) := by decide +kernel
theorem dL_law_1238 : decode code 1238 = .ok (.invokevirtual 158, 3) := by decide +kernel
theorem dL_law_1241 : decode code 1241 = .ok (.aload_n 2, 1) := by decide +kernel
theorem dL_law_1242 : decode code 1242 = .ok (.invokevirtual 161, 3) := by decide +kernel
theorem dL_law_1245 : decode code 1245 = .ok (.if_icmp .eq 87, 3) := by decide +kernel
theorem dL_law_1248 : decode code 1248 = .ok (.iconst 0, 1) := by decide +kernel
theorem dL_law_1249 : decode code 1249 = .ok (.ireturn, 1) := by decide +kernel
theorem dL_law_1250 : decode code 1250 = .ok (.aload_n 1, 1) := by decide +kernel
theorem dL_law_1251 : decode code 1251 = .ok (.aload_n 0, 1) := by decide +kernel
theorem dL_law_1252 : decode code 1252 = .ok (.iload_n 3, 1) := by decide +kernel
theorem dL_law_1253 : decode code 1253 = .ok (.iconst 1, 1) := by decide +kernel
theorem dL_law_1254 : decode code 1254 = .ok (.iadd, 1) := by decide +kernel
theorem dL_law_1255 : decode code 1255 = .ok (.iaload, 1) := by decide +kernel
theorem dL_law_1256 : decode code 1256 = .ok (.invokevirtual 162, 3) := by decide +kernel
theorem dL_law_1259 : decode code 1259 = .ok (.aload_n 2, 1) := by decide +kernel
theorem dL_law_1260 : decode code 1260 = .ok (.aload_n 0, 1) := by decide +kernel
theorem dL_law_1261 : decode code 1261 = .ok (.iload_n 3, 1) := by decide +kernel
theorem dL_law_1262 : decode code 1262 = .ok (.iconst 1, 1) := by decide +kernel
theorem dL_law_1263 : decode code 1263 = .ok (.iadd, 1) := by decide +kernel
theorem dL_law_1264 : decode code 1264 = .ok (.iaload, 1) := by decide +kernel
theorem dL_law_1265 : decode code 1265 = .ok (.invokevirtual 165, 3) := by decide +kernel
theorem dL_law_1268 : decode code 1268 = .ok (.if_icmp .eq 64, 3) := by decide +kernel
theorem dL_law_1271 : decode code 1271 = .ok (.iconst 0, 1) := by decide +kernel
theorem dL_law_1272 : decode code 1272 = .ok (.ireturn, 1) := by decide +kernel
theorem dL_law_1273 : decode code 1273 = .ok (.aload_n 1, 1) := by decide +kernel
theorem dL_law_1274 : decode code 1274 = .ok (.invokevirtual 166, 3) := by decide +kernel
theorem dL_law_1277 : decode code 1277 = .ok (.aload_n 2, 1) := by decide +kernel
theorem dL_law_1278 : decode code 1278 = .ok (.invokevirtual 169, 3) := by decide +kernel
theorem dL_law_1281 : decode code 1281 = .ok (.if_icmp .eq 51, 3) := by decide +kernel
theorem dL_law_1284 : decode code 1284 = .ok (.iconst 0, 1) := by decide +kernel
theorem dL_law_1285 : decode code 1285 = .ok (.ireturn, 1) := by decide +kernel
theorem dL_law_1286 : decode code 1286 = .ok (.aload_n 1, 1) := by decide +kernel
theorem dL_law_1287 : decode code 1287 = .ok (.aload_n 0, 1) := by decide +kernel
theorem dL_law_1288 : decode code 1288 = .ok (.iload_n 3, 1) := by decide +kernel
theorem dL_law_1289 : decode code 1289 = .ok (.iconst 1, 1) := by decide +kernel
theorem dL_law_1290 : decode code 1290 = .ok (.iadd, 1) := by decide +kernel
theorem dL_law_1291 : decode code 1291 = .ok (.iaload, 1) := by decide +kernel
theorem dL_law_1292 : decode code 1292 = .ok (.invokevirtual 170, 3) := by decide +kernel
theorem dL_law_1295 : decode code 1295 = .ok (.aload_n 2, 1) := by decide +kernel
theorem dL_law_1296 : decode code 1296 = .ok (.aload_n 0, 1) := by decide +kernel
theorem dL_law_1297 : decode code 1297 = .ok (.iload_n 3, 1) := by decide +kernel
theorem dL_law_1298 : decode code 1298 = .ok (.iconst 1, 1) := by decide +kernel
theorem dL_law_1299 : decode code 1299 = .ok (.iadd, 1) := by decide +kernel
theorem dL_law_1300 : decode code 1300 = .ok (.iaload, 1) := by decide +kernel
theorem dL_law_1301 : decode code 1301 = .ok (.invokevirtual 173, 3) := by decide +kernel
theorem dL_law_1304 : decode code 1304 = .ok (.if_icmp .eq 28, 3) := by decide +kernel
theorem dL_law_1307 : decode code 1307 = .ok (.iconst 0, 1) := by decide +kernel
theorem dL_law_1308 : decode code 1308 = .ok (.ireturn, 1) := by decide +kernel
theorem dL_law_1309 : decode code 1309 = .ok (.aload_n 1, 1) := by decide +kernel
theorem dL_law_1310 : decode code 1310 = .ok (.aload_n 0, 1) := by decide +kernel
theorem dL_law_1311 : decode code 1311 = .ok (.iload_n 3, 1) := by decide +kernel
theorem dL_law_1312 : decode code 1312 = .ok (.iconst 1, 1) := by decide +kernel
theorem dL_law_1313 : decode code 1313 = .ok (.iadd, 1) := by decide +kernel
theorem dL_law_1314 : decode code 1314 = .ok (.iaload, 1) := by decide +kernel
theorem dL_law_1315 : decode code 1315 = .ok (.invokevirtual 174, 3) := by decide +kernel
theorem dL_law_1318 : decode code 1318 = .ok (.aload_n 2, 1) := by decide +kernel
theorem dL_law_1319 : decode code 1319 = .ok (.aload_n 0, 1) := by decide +kernel
theorem dL_law_1320 : decode code 1320 = .ok (.iload_n 3, 1) := by decide +kernel
theorem dL_law_1321 : decode code 1321 = .ok (.iconst 1, 1) := by decide +kernel
theorem dL_law_1322 : decode code 1322 = .ok (.iadd, 1) := by decide +kernel
theorem dL_law_1323 : decode code 1323 = .ok (.iaload, 1) := by decide +kernel
theorem dL_law_1324 : decode code 1324 = .ok (.invokevirtual 177, 3) := by decide +kernel
theorem dL_law_1327 : decode code 1327 = .ok (.if_icmp .eq 5, 3) := by decide +kernel
theorem dL_law_1330 : decode code 1330 = .ok (.iconst 0, 1) := by decide +kernel
theorem dL_law_1331 : decode code 1331 = .ok (.ireturn, 1) := by decide +kernel
theorem dL_law_1332 : decode code 1332 = .ok (.iinc 3 6, 3) := by decide +kernel
theorem dL_law_1335 : decode code 1335 = .ok (.goto (-1317), 3) := by decide +kernel
theorem dL_law_1338 : decode code 1338 = .ok (.iconst 1, 1) := by decide +kernel
theorem dL_law_1339 : decode code 1339 = .ok (.ireturn, 1) := by decide +kernel
