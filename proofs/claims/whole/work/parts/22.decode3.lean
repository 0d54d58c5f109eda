theorem dX11_feed_52 : decode cX11_feed 52 = .ok (.getfield 7, 3) := by decide +kernel
theorem dX11_feed_55 : decode cX11_feed 55 = .ok (.iconst 2, 1) := by decide +kernel
theorem dX11_feed_56 : decode cX11_feed 56 = .ok (.iaload, 1) := by decide +kernel
theorem dX11_feed_57 : decode cX11_feed 57 = .ok (.iadd, 1) := by decide +kernel
theorem dX11_feed_58 : decode cX11_feed 58 = .ok (.lload_n 1, 1) := by decide +kernel
theorem dX11_feed_59 : decode cX11_feed 59 = .ok (.bipush 8, 2) := by decide +kernel
theorem dX11_feed_61 : decode cX11_feed 61 = .ok (.iload 4, 2) := by decide +kernel
theorem dX11_feed_63 : decode cX11_feed 63 = .ok (.imul, 1) := by decide +kernel
theorem dX11_feed_64 : decode cX11_feed 64 = .ok (.lshr, 1) := by decide +kernel
theorem dX11_feed_65 : decode cX11_feed 65 = .ok (.ldc2_w 82, 3) := by decide +kernel
theorem dX11_feed_68 : decode cX11_feed 68 = .ok (.land, 1) := by decide +kernel
theorem dX11_feed_69 : decode cX11_feed 69 = .ok (.l2i, 1) := by decide +kernel
theorem dX11_feed_70 : decode cX11_feed 70 = .ok (.iastore, 1) := by decide +kernel
theorem dX11_feed_71 : decode cX11_feed 71 = .ok (.aload_n 0, 1) := by decide +kernel
theorem dX11_feed_72 : decode cX11_feed 72 = .ok (.getfield 7, 3) := by decide +kernel
theorem dX11_feed_75 : decode cX11_feed 75 = .ok (.iconst 2, 1) := by decide +kernel
theorem dX11_feed_76 : decode cX11_feed 76 = .ok (.dup2, 1) := by decide +kernel
theorem dX11_feed_77 : decode cX11_feed 77 = .ok (.iaload, 1) := by decide +kernel
theorem dX11_feed_78 : decode cX11_feed 78 = .ok (.iconst 1, 1) := by decide +kernel
theorem dX11_feed_79 : decode cX11_feed 79 = .ok (.iadd, 1) := by decide +kernel
theorem dX11_feed_80 : decode cX11_feed 80 = .ok (.iastore, 1) := by decide +kernel
theorem dX11_feed_81 : decode cX11_feed 81 = .ok (.iinc 4 1, 3) := by decide +kernel
theorem dX11_feed_84 : decode cX11_feed 84 = .ok (.goto (-46), 3) := by decide +kernel
theorem dX11_feed_87 : decode cX11_feed 87 = .ok (.aload_n 0, 1) := by decide +kernel
theorem dX11_feed_88 : decode cX11_feed 88 = .ok (.getfield 7, 3) := by decide +kernel
theorem dX11_feed_91 : decode cX11_feed 91 = .ok (.iconst 2, 1) := by decide +kernel
theorem dX11_feed_92 : decode cX11_feed 92 = .ok (.iaload, 1) := by decide +kernel
theorem dX11_feed_93 : decode cX11_feed 93 = .ok (.ireturn, 1) := by decide +kernel
theorem dX11_look_0 : decode cX11_look 0 = .ok (.aload_n 0, 1) := by decide +kernel
theorem dX11_look_1 : decode cX11_look 1 = .ok (.getfield 84, 3) := by decide +kernel
theorem dX11_look_4 : decode cX11_look 4 = .ok (.aload_n 0, 1) := by decide +kernel
theorem dX11_look_5 : decode cX11_look 5 = .ok (.getfield 7, 3) := by decide +kernel
theorem dX11_look_8 : decode cX11_look 8 = .ok (.iconst 2, 1) := by decide +kernel
theorem dX11_look_9 : decode cX11_look 9 = .ok (.iaload, 1) := by decide +kernel
theorem dX11_look_10 : decode cX11_look 10 = .ok (.if_icmp .ge 19, 3) := by decide +kernel
theorem dX11_look_13 : decode cX11_look 13 = .ok (.aload_n 0, 1) := by decide +kernel
theorem dX11_look_14 : decode cX11_look 14 = .ok (.getfield 7, 3) := by decide +kernel
theorem dX11_look_17 : decode cX11_look 17 = .ok (.sipush 431, 3) := by decide +kernel
theorem dX11_look_20 : decode cX11_look 20 = .ok (.aload_n 0, 1) := by decide +kernel
theorem dX11_look_21 : decode cX11_look 21 = .ok (.getfield 84, 3) := by decide +kernel
theorem dX11_look_24 : decode cX11_look 24 = .ok (.iadd, 1) := by decide +kernel
theorem dX11_look_25 : decode cX11_look 25 = .ok (.iaload, 1) := by decide +kernel
theorem dX11_look_26 : decode cX11_look 26 = .ok (.goto 4, 3) := by decide +kernel
theorem dX11_look_29 : decode cX11_look 29 = .ok (.iconst (-1), 1) := by decide +kernel
theorem dX11_look_30 : decode cX11_look 30 = .ok (.ireturn, 1) := by decide +kernel
theorem dX11_isName_0 : decode cX11_isName 0 = .ok (.aload_n 0, 1) := by decide +kernel
theorem dX11_isName_1 : decode cX11_isName 1 = .ok (.getfield 88, 3) := by decide +kernel
theorem dX11_isName_4 : decode cX11_isName 4 = .ok (.ifCond .ne 27, 3) := by decide +kernel
theorem dX11_isName_7 : decode cX11_isName 7 = .ok (.iload_n 1, 1) := by decide +kernel
theorem dX11_isName_8 : decode cX11_isName 8 = .ok (.bipush 109, 2) := by decide +kernel
theorem dX11_isName_10 : decode cX11_isName 10 = .ok (.if_icmp .eq 15, 3) := by decide +kernel
theorem dX11_isName_13 : decode cX11_isName 13 = .ok (.iload_n 1, 1) := by decide +kernel
theorem dX11_isName_14 : decode cX11_isName 14 = .ok (.bipush 100, 2) := by decide +kernel
theorem dX11_isName_16 : decode cX11_isName 16 = .ok (.if_icmp .eq 9, 3) := by decide +kernel
theorem dX11_isName_19 : decode cX11_isName 19 = .ok (.iload_n 1, 1) := by decide +kernel
theorem dX11_isName_20 : decode cX11_isName 20 = .ok (.bipush 104, 2) := by decide +kernel
theorem dX11_isName_22 : decode cX11_isName 22 = .ok (.if_icmp .ne 7, 3) := by decide +kernel
theorem dX11_isName_25 : decode cX11_isName 25 = .ok (.iconst 1, 1) := by decide +kernel
theorem dX11_isName_26 : decode cX11_isName 26 = .ok (.goto 4, 3) := by decide +kernel
theorem dX11_isName_29 : decode cX11_isName 29 = .ok (.iconst 0, 1) := by decide +kernel
theorem dX11_isName_30 : decode cX11_isName 30 = .ok (.ireturn, 1) := by decide +kernel
theorem dX11_isName_31 : decode cX11_isName 31 = .ok (.iload_n 1, 1) := by decide +kernel
theorem dX11_isName_32 : decode cX11_isName 32 = .ok (.bipush 116, 2) := by decide +kernel
theorem dX11_isName_34 : decode cX11_isName 34 = .ok (.if_icmp .eq 15, 3) := by decide +kernel
theorem dX11_isName_37 : decode cX11_isName 37 = .ok (.iload_n 1, 1) := by decide +kernel
theorem dX11_isName_38 : decode cX11_isName 38 = .ok (.bipush 119, 2) := by decide +kernel
theorem dX11_isName_40 : decode cX11_isName 40 = .ok (.if_icmp .eq 9, 3) := by decide +kernel
theorem dX11_isName_43 : decode cX11_isName 43 = .ok (.iload_n 1, 1) := by decide +kernel
theorem dX11_isName_44 : decode cX11_isName 44 = .ok (.bipush 97, 2) := by decide +kernel
theorem dX11_isName_46 : decode cX11_isName 46 = .ok (.if_icmp .ne 7, 3) := by decide +kernel
theorem dX11_isName_49 : decode cX11_isName 49 = .ok (.iconst 1, 1) := by decide +kernel
theorem dX11_isName_50 : decode cX11_isName 50 = .ok (.goto 4, 3) := by decide +kernel
theorem dX11_isName_53 : decode cX11_isName 53 = .ok (.iconst 0, 1) := by decide +kernel
theorem dX11_isName_54 : decode cX11_isName 54 = .ok (.ireturn, 1) := by decide +kernel
theorem dX11_step1_0 : decode cX11_step1 0 = .ok (.aload_n 0, 1) := by decide +kernel
theorem dX11_step1_1 : decode cX11_step1 1 = .ok (.getfield 22, 3) := by decide +kernel
theorem dX11_step1_4 : decode cX11_step1 4 = .ok (.iconst 2, 1) := by decide +kernel
theorem dX11_step1_5 : decode cX11_step1 5 = .ok (.aload_n 0, 1) := by decide +kernel
theorem dX11_step1_6 : decode cX11_step1 6 = .ok (.getfield 91, 3) := by decide +kernel
theorem dX11_step1_9 : decode cX11_step1 9 = .ok (.imul, 1) := by decide +kernel
theorem dX11_step1_10 : decode cX11_step1 10 = .ok (.iload_n 1, 1) := by decide +kernel
theorem dX11_step1_11 : decode cX11_step1 11 = .ok (.iastore, 1) := by decide +kernel
theorem dX11_step1_12 : decode cX11_step1 12 = .ok (.aload_n 0, 1) := by decide +kernel
theorem dX11_step1_13 : decode cX11_step1 13 = .ok (.getfield 22, 3) := by decide +kernel
theorem dX11_step1_16 : decode cX11_step1 16 = .ok (.iconst 2, 1) := by decide +kernel
theorem dX11_step1_17 : decode cX11_step1 17 = .ok (.aload_n 0, 1) := by decide +kernel
theorem dX11_step1_18 : decode cX11_step1 18 = .ok (.getfield 91, 3) := by decide +kernel
theorem dX11_step1_21 : decode cX11_step1 21 = .ok (.imul, 1) := by decide +kernel
theorem dX11_step1_22 : decode cX11_step1 22 = .ok (.iconst 1, 1) := by decide +kernel
theorem dX11_step1_23 : decode cX11_step1 23 = .ok (.iadd, 1) := by decide +kernel
theorem dX11_step1_24 : decode cX11_step1 24 = .ok (.iload_n 2, 1) := by decide +kernel
theorem dX11_step1_25 : decode cX11_step1 25 = .ok (.iastore, 1) := by decide +kernel
theorem dX11_step1_26 : decode cX11_step1 26 = .ok (.aload_n 0, 1) := by decide +kernel
theorem dX11_step1_27 : decode cX11_step1 27 = .ok (.dup, 1) := by decide +kernel
theorem dX11_step1_28 : decode cX11_step1 28 = .ok (.getfield 91, 3) := by decide +kernel
theorem dX11_step1_31 : decode cX11_step1 31 = .ok (.iconst 1, 1) := by decide +kernel
theorem dX11_step1_32 : decode cX11_step1 32 = .ok (.iadd, 1) := by decide +kernel
theorem dX11_step1_33 : decode cX11_step1 33 = .ok (.putfield 91, 3) := by decide +kernel
theorem dX11_step1_36 : decode cX11_step1 36 = .ok (.return_, 1) := by decide +kernel
theorem dX11_whole_0 : decode cX11_whole 0 = .ok (.aload_n 0, 1) := by decide +kernel
theorem dX11_whole_1 : decode cX11_whole 1 = .ok (.invokevirtual 94, 3) := by decide +kernel
theorem dX11_whole_4 : decode cX11_whole 4 = .ok (.ifCond .ne 5, 3) := by decide +kernel
theorem dX11_whole_7 : decode cX11_whole 7 = .ok (.iconst 0, 1) := by decide +kernel
theorem dX11_whole_8 : decode cX11_whole 8 = .ok (.ireturn, 1) := by decide +kernel
theorem dX11_whole_9 : decode cX11_whole 9 = .ok (.aload_n 0, 1) := by decide +kernel
theorem dX11_whole_10 : decode cX11_whole 10 = .ok (.invokevirtual 98, 3) := by decide +kernel
theorem dX11_whole_13 : decode cX11_whole 13 = .ok (.bipush 124, 2) := by decide +kernel
theorem dX11_whole_15 : decode cX11_whole 15 = .ok (.if_icmp .ne 32, 3) := by decide +kernel
theorem dX11_whole_18 : decode cX11_whole 18 = .ok (.aload_n 0, 1) := by decide +kernel
theorem dX11_whole_19 : decode cX11_whole 19 = .ok (.dup, 1) := by decide +kernel
theorem dX11_whole_20 : decode cX11_whole 20 = .ok (.getfield 84, 3) := by decide +kernel
theorem dX11_whole_23 : decode cX11_whole 23 = .ok (.iconst 1, 1) := by decide +kernel
theorem dX11_whole_24 : decode cX11_whole 24 = .ok (.iadd, 1) := by decide +kernel
theorem dX11_whole_25 : decode cX11_whole 25 = .ok (.putfield 84, 3) := by decide +kernel
theorem dX11_whole_28 : decode cX11_whole 28 = .ok (.aload_n 0, 1) := by decide +kernel
theorem dX11_whole_29 : decode cX11_whole 29 = .ok (.invokevirtual 94, 3) := by decide +kernel
theorem dX11_whole_32 : decode cX11_whole 32 = .ok (.ifCond .ne 5, 3) := by decide +kernel
theorem dX11_whole_35 : decode cX11_whole 35 = .ok (.iconst 0, 1) := by decide +kernel
theorem dX11_whole_36 : decode cX11_whole 36 = .ok (.ireturn, 1) := by decide +kernel
theorem dX11_whole_37 : decode cX11_whole 37 = .ok (.aload_n 0, 1) := by decide +kernel
theorem dX11_whole_38 : decode cX11_whole 38 = .ok (.iconst 3, 1) := by decide +kernel
theorem dX11_whole_39 : decode cX11_whole 39 = .ok (.bipush 124, 2) := by decide +kernel
theorem dX11_whole_41 : decode cX11_whole 41 = .ok (.invokevirtual 102, 3) := by decide +kernel
theorem dX11_whole_44 : decode cX11_whole 44 = .ok (.goto (-35), 3) := by decide +kernel
theorem dX11_whole_47 : decode cX11_whole 47 = .ok (.iconst 1, 1) := by decide +kernel
theorem dX11_whole_48 : decode cX11_whole 48 = .ok (.ireturn, 1) := by decide +kernel
theorem dX11_both_0 : decode cX11_both 0 = .ok (.aload_n 0, 1) := by decide +kernel
theorem dX11_both_1 : decode cX11_both 1 = .ok (.invokevirtual 106, 3) := by decide +kernel
theorem dX11_both_4 : decode cX11_both 4 = .ok (.ifCond .ne 5, 3) := by decide +kernel
theorem dX11_both_7 : decode cX11_both 7 = .ok (.iconst 0, 1) := by decide +kernel
theorem dX11_both_8 : decode cX11_both 8 = .ok (.ireturn, 1) := by decide +kernel
theorem dX11_both_9 : decode cX11_both 9 = .ok (.aload_n 0, 1) := by decide +kernel
theorem dX11_both_10 : decode cX11_both 10 = .ok (.invokevirtual 98, 3) := by decide +kernel
theorem dX11_both_13 : decode cX11_both 13 = .ok (.bipush 38, 2) := by decide +kernel
theorem dX11_both_15 : decode cX11_both 15 = .ok (.if_icmp .ne 32, 3) := by decide +kernel
theorem dX11_both_18 : decode cX11_both 18 = .ok (.aload_n 0, 1) := by decide +kernel
theorem dX11_both_19 : decode cX11_both 19 = .ok (.dup, 1) := by decide +kernel
theorem dX11_both_20 : decode cX11_both 20 = .ok (.getfield 84, 3) := by decide +kernel
theorem dX11_both_23 : decode cX11_both 23 = .ok (.iconst 1, 1) := by decide +kernel
theorem dX11_both_24 : decode cX11_both 24 = .ok (.iadd, 1) := by decide +kernel
theorem dX11_both_25 : decode cX11_both 25 = .ok (.putfield 84, 3) := by decide +kernel
theorem dX11_both_28 : decode cX11_both 28 = .ok (.aload_n 0, 1) := by decide +kernel
theorem dX11_both_29 : decode cX11_both 29 = .ok (.invokevirtual 106, 3) := by decide +kernel
theorem dX11_both_32 : decode cX11_both 32 = .ok (.ifCond .ne 5, 3) := by decide +kernel
theorem dX11_both_35 : decode cX11_both 35 = .ok (.iconst 0, 1) := by decide +kernel
theorem dX11_both_36 : decode cX11_both 36 = .ok (.ireturn, 1) := by decide +kernel
theorem dX11_both_37 : decode cX11_both 37 = .ok (.aload_n 0, 1) := by decide +kernel
theorem dX11_both_38 : decode cX11_both 38 = .ok (.iconst 3, 1) := by decide +kernel
theorem dX11_both_39 : decode cX11_both 39 = .ok (.bipush 38, 2) := by decide +kernel
theorem dX11_both_41 : decode cX11_both 41 = .ok (.invokevirtual 102, 3) := by decide +kernel
theorem dX11_both_44 : decode cX11_both 44 = .ok (.goto (-35), 3) := by decide +kernel
theorem dX11_both_47 : decode cX11_both 47 = .ok (.iconst 1, 1) := by decide +kernel
theorem dX11_both_48 : decode cX11_both 48 = .ok (.ireturn, 1) := by decide +kernel
theorem dX11_compared_0 : decode cX11_compared 0 = .ok (.aload_n 0, 1) := by decide +kernel
theorem dX11_compared_1 : decode cX11_compared 1 = .ok (.invokevirtual 109, 3) := by decide +kernel
theorem dX11_compared_4 : decode cX11_compared 4 = .ok (.ifCond .ne 5, 3) := by decide +kernel
theorem dX11_compared_7 : decode cX11_compared 7 = .ok (.iconst 0, 1) := by decide +kernel
theorem dX11_compared_8 : decode cX11_compared 8 = .ok (.ireturn, 1) := by decide +kernel
theorem dX11_compared_9 : decode cX11_compared 9 = .ok (.aload_n 0, 1) := by decide +kernel
theorem dX11_compared_10 : decode cX11_compared 10 = .ok (.invokevirtual 98, 3) := by decide +kernel
theorem dX11_compared_13 : decode cX11_compared 13 = .ok (.istore_n 1, 1) := by decide +kernel
theorem dX11_compared_14 : decode cX11_compared 14 = .ok (.iload_n 1, 1) := by decide +kernel
theorem dX11_compared_15 : decode cX11_compared 15 = .ok (.bipush 60, 2) := by decide +kernel
theorem dX11_compared_17 : decode cX11_compared 17 = .ok (.if_icmp .eq 17, 3) := by decide +kernel
theorem dX11_compared_20 : decode cX11_compared 20 = .ok (.iload_n 1, 1) := by decide +kernel
theorem dX11_compared_21 : decode cX11_compared 21 = .ok (.bipush 61, 2) := by decide +kernel
theorem dX11_compared_23 : decode cX11_compared 23 = .ok (.if_icmp .eq 11, 3) := by decide +kernel
theorem dX11_compared_26 : decode cX11_compared 26 = .ok (.iload_n 1, 1) := by decide +kernel
theorem dX11_compared_27 : decode cX11_compared 27 = .ok (.bipush 62, 2) := by decide +kernel
theorem dX11_compared_29 : decode cX11_compared 29 = .ok (.if_icmp .eq 5, 3) := by decide +kernel
theorem dX11_compared_32 : decode cX11_compared 32 = .ok (.iconst 1, 1) := by decide +kernel
theorem dX11_compared_33 : decode cX11_compared 33 = .ok (.ireturn, 1) := by decide +kernel
theorem dX11_compared_34 : decode cX11_compared 34 = .ok (.aload_n 0, 1) := by decide +kernel
theorem dX11_compared_35 : decode cX11_compared 35 = .ok (.dup, 1) := by decide +kernel
theorem dX11_compared_36 : decode cX11_compared 36 = .ok (.getfield 84, 3) := by decide +kernel
theorem dX11_compared_39 : decode cX11_compared 39 = .ok (.iconst 1, 1) := by decide +kernel
theorem dX11_compared_40 : decode cX11_compared 40 = .ok (.iadd, 1) := by decide +kernel
theorem dX11_compared_41 : decode cX11_compared 41 = .ok (.putfield 84, 3) := by decide +kernel
theorem dX11_compared_44 : decode cX11_compared 44 = .ok (.aload_n 0, 1) := by decide +kernel
theorem dX11_compared_45 : decode cX11_compared 45 = .ok (.invokevirtual 109, 3) := by decide +kernel
theorem dX11_compared_48 : decode cX11_compared 48 = .ok (.ifCond .ne 5, 3) := by decide +kernel
theorem dX11_compared_51 : decode cX11_compared 51 = .ok (.iconst 0, 1) := by decide +kernel
theorem dX11_compared_52 : decode cX11_compared 52 = .ok (.ireturn, 1) := by decide +kernel
theorem dX11_compared_53 : decode cX11_compared 53 = .ok (.aload_n 0, 1) := by decide +kernel
theorem dX11_compared_54 : decode cX11_compared 54 = .ok (.iconst 3, 1) := by decide +kernel
theorem dX11_compared_55 : decode cX11_compared 55 = .ok (.iload_n 1, 1) := by decide +kernel
theorem dX11_compared_56 : decode cX11_compared 56 = .ok (.invokevirtual 102, 3) := by decide +kernel
theorem dX11_compared_59 : decode cX11_compared 59 = .ok (.iconst 1, 1) := by decide +kernel
theorem dX11_compared_60 : decode cX11_compared 60 = .ok (.ireturn, 1) := by decide +kernel
theorem dX11_sum_0 : decode cX11_sum 0 = .ok (.aload_n 0, 1) := by decide +kernel
theorem dX11_sum_1 : decode cX11_sum 1 = .ok (.invokevirtual 112, 3) := by decide +kernel
theorem dX11_sum_4 : decode cX11_sum 4 = .ok (.ifCond .ne 5, 3) := by decide +kernel
theorem dX11_sum_7 : decode cX11_sum 7 = .ok (.iconst 0, 1) := by decide +kernel
theorem dX11_sum_8 : decode cX11_sum 8 = .ok (.ireturn, 1) := by decide +kernel
theorem dX11_sum_9 : decode cX11_sum 9 = .ok (.aload_n 0, 1) := by decide +kernel
theorem dX11_sum_10 : decode cX11_sum 10 = .ok (.invokevirtual 98, 3) := by decide +kernel
theorem dX11_sum_13 : decode cX11_sum 13 = .ok (.bipush 43, 2) := by decide +kernel
theorem dX11_sum_15 : decode cX11_sum 15 = .ok (.if_icmp .eq 12, 3) := by decide +kernel
theorem dX11_sum_18 : decode cX11_sum 18 = .ok (.aload_n 0, 1) := by decide +kernel
theorem dX11_sum_19 : decode cX11_sum 19 = .ok (.invokevirtual 98, 3) := by decide +kernel
theorem dX11_sum_22 : decode cX11_sum 22 = .ok (.bipush 45, 2) := by decide +kernel
theorem dX11_sum_24 : decode cX11_sum 24 = .ok (.if_icmp .ne 36, 3) := by decide +kernel
theorem dX11_sum_27 : decode cX11_sum 27 = .ok (.aload_n 0, 1) := by decide +kernel
theorem dX11_sum_28 : decode cX11_sum 28 = .ok (.invokevirtual 98, 3) := by decide +kernel
theorem dX11_sum_31 : decode cX11_sum 31 = .ok (.istore_n 1, 1) := by decide +kernel
theorem dX11_sum_32 : decode cX11_sum 32 = .ok (.aload_n 0, 1) := by decide +kernel
theorem dX11_sum_33 : decode cX11_sum 33 = .ok (.dup, 1) := by decide +kernel
theorem dX11_sum_34 : decode cX11_sum 34 = .ok (.getfield 84, 3) := by decide +kernel
theorem dX11_sum_37 : decode cX11_sum 37 = .ok (.iconst 1, 1) := by decide +kernel
theorem dX11_sum_38 : decode cX11_sum 38 = .ok (.iadd, 1) := by decide +kernel
theorem dX11_sum_39 : decode cX11_sum 39 = .ok (.putfield 84, 3) := by decide +kernel
theorem dX11_sum_42 : decode cX11_sum 42 = .ok (.aload_n 0, 1) := by decide +kernel
theorem dX11_sum_43 : decode cX11_sum 43 = .ok (.invokevirtual 112, 3) := by decide +kernel
theorem dX11_sum_46 : decode cX11_sum 46 = .ok (.ifCond .ne 5, 3) := by decide +kernel
theorem dX11_sum_49 : decode cX11_sum 49 = .ok (.iconst 0, 1) := by decide +kernel
theorem dX11_sum_50 : decode cX11_sum 50 = .ok (.ireturn, 1) := by decide +kernel
theorem dX11_sum_51 : decode cX11_sum 51 = .ok (.aload_n 0, 1) := by decide +kernel
theorem dX11_sum_52 : decode cX11_sum 52 = .ok (.iconst 3, 1) := by decide +kernel
theorem dX11_sum_53 : decode cX11_sum 53 = .ok (.iload_n 1, 1) := by decide +kernel
theorem dX11_sum_54 : decode cX11_sum 54 = .ok (.invokevirtual 102, 3) := by decide +kernel
theorem dX11_sum_57 : decode cX11_sum 57 = .ok (.goto (-48), 3) := by decide +kernel
theorem dX11_sum_60 : decode cX11_sum 60 = .ok (.iconst 1, 1) := by decide +kernel
theorem dX11_sum_61 : decode cX11_sum 61 = .ok (.ireturn, 1) := by decide +kernel
theorem dX11_product_0 : decode cX11_product 0 = .ok (.aload_n 0, 1) := by decide +kernel
theorem dX11_product_1 : decode cX11_product 1 = .ok (.invokevirtual 115, 3) := by decide +kernel
theorem dX11_product_4 : decode cX11_product 4 = .ok (.ifCond .ne 5, 3) := by decide +kernel
theorem dX11_product_7 : decode cX11_product 7 = .ok (.iconst 0, 1) := by decide +kernel
theorem dX11_product_8 : decode cX11_product 8 = .ok (.ireturn, 1) := by decide +kernel
theorem dX11_product_9 : decode cX11_product 9 = .ok (.aload_n 0, 1) := by decide +kernel
theorem dX11_product_10 : decode cX11_product 10 = .ok (.invokevirtual 98, 3) := by decide +kernel
theorem dX11_product_13 : decode cX11_product 13 = .ok (.bipush 42, 2) := by decide +kernel
theorem dX11_product_15 : decode cX11_product 15 = .ok (.if_icmp .eq 21, 3) := by decide +kernel
theorem dX11_product_18 : decode cX11_product 18 = .ok (.aload_n 0, 1) := by decide +kernel
theorem dX11_product_19 : decode cX11_product 19 = .ok (.invokevirtual 98, 3) := by decide +kernel
theorem dX11_product_22 : decode cX11_product 22 = .ok (.bipush 47, 2) := by decide +kernel
theorem dX11_product_24 : decode cX11_product 24 = .ok (.if_icmp .eq 12, 3) := by decide +kernel
theorem dX11_product_27 : decode cX11_product 27 = .ok (.aload_n 0, 1) := by decide +kernel
theorem dX11_product_28 : decode cX11_product 28 = .ok (.invokevirtual 98, 3) := by decide +kernel
theorem dX11_product_31 : decode cX11_product 31 = .ok (.bipush 37, 2) := by decide +kernel
theorem dX11_product_33 : decode cX11_product 33 = .ok (.if_icmp .ne 36, 3) := by decide +kernel
theorem dX11_product_36 : decode cX11_product 36 = .ok (.aload_n 0, 1) := by decide +kernel
theorem dX11_product_37 : decode cX11_product 37 = .ok (.invokevirtual 98, 3) := by decide +kernel
theorem dX11_product_40 : decode cX11_product 40 = .ok (.istore_n 1, 1) := by decide +kernel
theorem dX11_product_41 : decode cX11_product 41 = .ok (.aload_n 0, 1) := by decide +kernel
theorem dX11_product_42 : decode cX11_product 42 = .ok (.dup, 1) := by decide +kernel
theorem dX11_product_43 : decode cX11_product 43 = .ok (.getfield 84, 3) := by decide +kernel
theorem dX11_product_46 : decode cX11_product 46 = .ok (.iconst 1, 1) := by decide +kernel
theorem dX11_product_47 : decode cX11_product 47 = .ok (.iadd, 1) := by decide +kernel
theorem dX11_product_48 : decode cX11_product 48 = .ok (.putfield 84, 3) := by decide +kernel
theorem dX11_product_51 : decode cX11_product 51 = .ok (.aload_n 0, 1) := by decide +kernel
theorem dX11_product_52 : decode cX11_product 52 = .ok (.invokevirtual 115, 3) := by decide +kernel
theorem dX11_product_55 : decode cX11_product 55 = .ok (.ifCond .ne 5, 3) := by decide +kernel
theorem dX11_product_58 : decode cX11_product 58 = .ok (.iconst 0, 1) := by decide +kernel
theorem dX11_product_59 : decode cX11_product 59 = .ok (.ireturn, 1) := by decide +kernel
theorem dX11_product_60 : decode cX11_product 60 = .ok (.aload_n 0, 1) := by decide +kernel
theorem dX11_product_61 : decode cX11_product 61 = .ok (.iconst 3, 1) := by decide +kernel
theorem dX11_product_62 : decode cX11_product 62 = .ok (.iload_n 1, 1) := by decide +kernel
theorem dX11_product_63 : decode cX11_product 63 = .ok (.invokevirtual 102, 3) := by decide +kernel
theorem dX11_product_66 : decode cX11_product 66 = .ok (.goto (-57), 3) := by decide +kernel
theorem dX11_product_69 : decode cX11_product 69 = .ok (.iconst 1, 1) := by decide +kernel
theorem dX11_product_70 : decode cX11_product 70 = .ok (.ireturn, 1) := by decide +kernel
theorem dX11_opens_0 : decode cX11_opens 0 = .ok (.aload_n 0, 1) := by decide +kernel
theorem dX11_opens_1 : decode cX11_opens 1 = .ok (.getfield 118, 3) := by decide +kernel
theorem dX11_opens_4 : decode cX11_opens 4 = .ok (.iconst 5, 1) := by decide +kernel
theorem dX11_opens_5 : decode cX11_opens 5 = .ok (.if_icmp .ne 5, 3) := by decide +kernel
theorem dX11_opens_8 : decode cX11_opens 8 = .ok (.iconst 0, 1) := by decide +kernel
theorem dX11_opens_9 : decode cX11_opens 9 = .ok (.ireturn, 1) := by decide +kernel
theorem dX11_opens_10 : decode cX11_opens 10 = .ok (.aload_n 0, 1) := by decide +kernel
theorem dX11_opens_11 : decode cX11_opens 11 = .ok (.dup, 1) := by decide +kernel
theorem dX11_opens_12 : decode cX11_opens 12 = .ok (.getfield 118, 3) := by decide +kernel
theorem dX11_opens_15 : decode cX11_opens 15 = .ok (.iconst 1, 1) := by decide +kernel
theorem dX11_opens_16 : decode cX11_opens 16 = .ok (.iadd, 1) := by decide +kernel
theorem dX11_opens_17 : decode cX11_opens 17 = .ok (.putfield 118, 3) := by decide +kernel
theorem dX11_opens_20 : decode cX11_opens 20 = .ok (.aload_n 0, 1) := by decide +kernel
theorem dX11_opens_21 : decode cX11_opens 21 = .ok (.dup, 1) := by decide +kernel
theorem dX11_opens_22 : decode cX11_opens 22 = .ok (.getfield 84, 3) := by decide +kernel
theorem dX11_opens_25 : decode cX11_opens 25 = .ok (.iconst 1, 1) := by decide +kernel
theorem dX11_opens_26 : decode cX11_opens 26 = .ok (.iadd, 1) := by decide +kernel
theorem dX11_opens_27 : decode cX11_opens 27 = .ok (.putfield 84, 3) := by decide +kernel
theorem dX11_opens_30 : decode cX11_opens 30 = .ok (.iconst 1, 1) := by decide +kernel
theorem dX11_opens_31 : decode cX11_opens 31 = .ok (.ireturn, 1) := by decide +kernel
theorem dX11_one_0 : decode cX11_one 0 = .ok (.aload_n 0, 1) := by decide +kernel
theorem dX11_one_1 : decode cX11_one 1 = .ok (.invokevirtual 98, 3) := by decide +kernel
theorem dX11_one_4 : decode cX11_one 4 = .ok (.istore_n 1, 1) := by decide +kernel
theorem dX11_one_5 : decode cX11_one 5 = .ok (.aload_n 0, 1) := by decide +kernel
theorem dX11_one_6 : decode cX11_one 6 = .ok (.iload_n 1, 1) := by decide +kernel
theorem dX11_one_7 : decode cX11_one 7 = .ok (.invokevirtual 121, 3) := by decide +kernel
theorem dX11_one_10 : decode cX11_one 10 = .ok (.ifCond .eq 21, 3) := by decide +kernel
theorem dX11_one_13 : decode cX11_one 13 = .ok (.aload_n 0, 1) := by decide +kernel
theorem dX11_one_14 : decode cX11_one 14 = .ok (.dup, 1) := by decide +kernel
theorem dX11_one_15 : decode cX11_one 15 = .ok (.getfield 84, 3) := by decide +kernel
theorem dX11_one_18 : decode cX11_one 18 = .ok (.iconst 1, 1) := by decide +kernel
theorem dX11_one_19 : decode cX11_one 19 = .ok (.iadd, 1) := by decide +kernel
theorem dX11_one_20 : decode cX11_one 20 = .ok (.putfield 84, 3) := by decide +kernel
theorem dX11_one_23 : decode cX11_one 23 = .ok (.aload_n 0, 1) := by decide +kernel
theorem dX11_one_24 : decode cX11_one 24 = .ok (.iconst 1, 1) := by decide +kernel
theorem dX11_one_25 : decode cX11_one 25 = .ok (.iload_n 1, 1) := by decide +kernel
theorem dX11_one_26 : decode cX11_one 26 = .ok (.invokevirtual 102, 3) := by decide +kernel
theorem dX11_one_29 : decode cX11_one 29 = .ok (.iconst 1, 1) := by decide +kernel
theorem dX11_one_30 : decode cX11_one 30 = .ok (.ireturn, 1) := by decide +kernel
theorem dX11_one_31 : decode cX11_one 31 = .ok (.iload_n 1, 1) := by decide +kernel
theorem dX11_one_32 : decode cX11_one 32 = .ok (.bipush 48, 2) := by decide +kernel
theorem dX11_one_34 : decode cX11_one 34 = .ok (.bipush 57, 2) := by decide +kernel
theorem dX11_one_36 : decode cX11_one 36 = .ok (.invokestatic 60, 3) := by decide +kernel
theorem dX11_one_39 : decode cX11_one 39 = .ok (.ifCond .eq 63, 3) := by decide +kernel
theorem dX11_one_42 : decode cX11_one 42 = .ok (.iconst 0, 1) := by decide +kernel
theorem dX11_one_43 : decode cX11_one 43 = .ok (.istore_n 2, 1) := by decide +kernel
theorem dX11_one_44 : decode cX11_one 44 = .ok (.iconst 0, 1) := by decide +kernel
theorem dX11_one_45 : decode cX11_one 45 = .ok (.istore_n 3, 1) := by decide +kernel
theorem dX11_one_46 : decode cX11_one 46 = .ok (.iload_n 3, 1) := by decide +kernel
theorem dX11_one_47 : decode cX11_one 47 = .ok (.iconst 4, 1) := by decide +kernel
theorem dX11_one_48 : decode cX11_one 48 = .ok (.if_icmp .ge 46, 3) := by decide +kernel
theorem dX11_one_51 : decode cX11_one 51 = .ok (.aload_n 0, 1) := by decide +kernel
theorem dX11_one_52 : decode cX11_one 52 = .ok (.invokevirtual 98, 3) := by decide +kernel
theorem dX11_one_55 : decode cX11_one 55 = .ok (.bipush 48, 2) := by decide +kernel
theorem dX11_one_57 : decode cX11_one 57 = .ok (.bipush 57, 2) := by decide +kernel
theorem dX11_one_59 : decode cX11_one 59 = .ok (.invokestatic 60, 3) := by decide +kernel
theorem dX11_one_62 : decode cX11_one 62 = .ok (.ifCond .eq 32, 3) := by decide +kernel
theorem dX11_one_65 : decode cX11_one 65 = .ok (.bipush 10, 2) := by decide +kernel
theorem dX11_one_67 : decode cX11_one 67 = .ok (.iload_n 2, 1) := by decide +kernel
theorem dX11_one_68 : decode cX11_one 68 = .ok (.imul, 1) := by decide +kernel
theorem dX11_one_69 : decode cX11_one 69 = .ok (.aload_n 0, 1) := by decide +kernel
theorem dX11_one_70 : decode cX11_one 70 = .ok (.invokevirtual 98, 3) := by decide +kernel
theorem dX11_one_73 : decode cX11_one 73 = .ok (.iadd, 1) := by decide +kernel
theorem dX11_one_74 : decode cX11_one 74 = .ok (.bipush 48, 2) := by decide +kernel
theorem dX11_one_76 : decode cX11_one 76 = .ok (.isub, 1) := by decide +kernel
theorem dX11_one_77 : decode cX11_one 77 = .ok (.istore_n 2, 1) := by decide +kernel
theorem dX11_one_78 : decode cX11_one 78 = .ok (.aload_n 0, 1) := by decide +kernel
theorem dX11_one_79 : decode cX11_one 79 = .ok (.dup, 1) := by decide +kernel
theorem dX11_one_80 : decode cX11_one 80 = .ok (.getfield 84, 3) := by decide +kernel
theorem dX11_one_83 : decode cX11_one 83 = .ok (.iconst 1, 1) := by decide +kernel
theorem dX11_one_84 : decode cX11_one 84 = .ok (.iadd, 1) := by decide +kernel
theorem dX11_one_85 : decode cX11_one 85 = .ok (.putfield 84, 3) := by decide +kernel
theorem dX11_one_88 : decode cX11_one 88 = .ok (.iinc 3 1, 3) := by decide +kernel
theorem dX11_one_91 : decode cX11_one 91 = .ok (.goto (-45), 3) := by decide +kernel
theorem dX11_one_94 : decode cX11_one 94 = .ok (.aload_n 0, 1) := by decide +kernel
theorem dX11_one_95 : decode cX11_one 95 = .ok (.iconst 0, 1) := by decide +kernel
theorem dX11_one_96 : decode cX11_one 96 = .ok (.iload_n 2, 1) := by decide +kernel
theorem dX11_one_97 : decode cX11_one 97 = .ok (.invokevirtual 102, 3) := by decide +kernel
theorem dX11_one_100 : decode cX11_one 100 = .ok (.iconst 1, 1) := by decide +kernel
theorem dX11_one_101 : decode cX11_one 101 = .ok (.ireturn, 1) := by decide +kernel
theorem dX11_one_102 : decode cX11_one 102 = .ok (.iload_n 1, 1) := by decide +kernel
theorem dX11_one_103 : decode cX11_one 103 = .ok (.bipush 33, 2) := by decide +kernel
theorem dX11_one_105 : decode cX11_one 105 = .ok (.if_icmp .ne 37, 3) := by decide +kernel
theorem dX11_one_108 : decode cX11_one 108 = .ok (.aload_n 0, 1) := by decide +kernel
theorem dX11_one_109 : decode cX11_one 109 = .ok (.invokevirtual 124, 3) := by decide +kernel
theorem dX11_one_112 : decode cX11_one 112 = .ok (.ifCond .eq 10, 3) := by decide +kernel
theorem dX11_one_115 : decode cX11_one 115 = .ok (.aload_n 0, 1) := by decide +kernel
theorem dX11_one_116 : decode cX11_one 116 = .ok (.invokevirtual 115, 3) := by decide +kernel
theorem dX11_one_119 : decode cX11_one 119 = .ok (.ifCond .ne 5, 3) := by decide +kernel
theorem dX11_one_122 : decode cX11_one 122 = .ok (.iconst 0, 1) := by decide +kernel
theorem dX11_one_123 : decode cX11_one 123 = .ok (.ireturn, 1) := by decide +kernel
theorem dX11_one_124 : decode cX11_one 124 = .ok (.aload_n 0, 1) := by decide +kernel
theorem dX11_one_125 : decode cX11_one 125 = .ok (.dup, 1) := by decide +kernel
theorem dX11_one_126 : decode cX11_one 126 = .ok (.getfield 118, 3) := by decide +kernel
theorem dX11_one_129 : decode cX11_one 129 = .ok (.iconst 1, 1) := by decide +kernel
theorem dX11_one_130 : decode cX11_one 130 = .ok (.isub, 1) := by decide +kernel
theorem dX11_one_131 : decode cX11_one 131 = .ok (.putfield 118, 3) := by decide +kernel
theorem dX11_one_134 : decode cX11_one 134 = .ok (.aload_n 0, 1) := by decide +kernel
theorem dX11_one_135 : decode cX11_one 135 = .ok (.iconst 2, 1) := by decide +kernel
theorem dX11_one_136 : decode cX11_one 136 = .ok (.iconst 0, 1) := by decide +kernel
theorem dX11_one_137 : decode cX11_one 137 = .ok (.invokevirtual 102, 3) := by decide +kernel
theorem dX11_one_140 : decode cX11_one 140 = .ok (.iconst 1, 1) := by decide +kernel
theorem dX11_one_141 : decode cX11_one 141 = .ok (.ireturn, 1) := by decide +kernel
theorem dX11_one_142 : decode cX11_one 142 = .ok (.iload_n 1, 1) := by decide +kernel
theorem dX11_one_143 : decode cX11_one 143 = .ok (.bipush 40, 2) := by decide +kernel
theorem dX11_one_145 : decode cX11_one 145 = .ok (.if_icmp .ne 26, 3) := by decide +kernel
theorem dX11_one_148 : decode cX11_one 148 = .ok (.aload_n 0, 1) := by decide +kernel
theorem dX11_one_149 : decode cX11_one 149 = .ok (.invokevirtual 124, 3) := by decide +kernel
theorem dX11_one_152 : decode cX11_one 152 = .ok (.ifCond .eq 19, 3) := by decide +kernel
theorem dX11_one_155 : decode cX11_one 155 = .ok (.aload_n 0, 1) := by decide +kernel
theorem dX11_one_156 : decode cX11_one 156 = .ok (.invokevirtual 127, 3) := by decide +kernel
theorem dX11_one_159 : decode cX11_one 159 = .ok (.ifCond .eq 12, 3) := by decide +kernel
theorem dX11_one_162 : decode cX11_one 162 = .ok (.aload_n 0, 1) := by decide +kernel
theorem dX11_one_163 : decode cX11_one 163 = .ok (.invokevirtual 98, 3) := by decide +kernel
theorem dX11_one_166 : decode cX11_one 166 = .ok (.bipush 41, 2) := by decide +kernel
theorem dX11_one_168 : decode cX11_one 168 = .ok (.if_icmp .eq 5, 3) := by decide +kernel
theorem dX11_one_171 : decode cX11_one 171 = .ok (.iconst 0, 1) := by decide +kernel
theorem dX11_one_172 : decode cX11_one 172 = .ok (.ireturn, 1) := by decide +kernel
theorem dX11_one_173 : decode cX11_one 173 = .ok (.aload_n 0, 1) := by decide +kernel
theorem dX11_one_174 : decode cX11_one 174 = .ok (.dup, 1) := by decide +kernel
theorem dX11_one_175 : decode cX11_one 175 = .ok (.getfield 84, 3) := by decide +kernel
theorem dX11_one_178 : decode cX11_one 178 = .ok (.iconst 1, 1) := by decide +kernel
theorem dX11_one_179 : decode cX11_one 179 = .ok (.iadd, 1) := by decide +kernel
theorem dX11_one_180 : decode cX11_one 180 = .ok (.putfield 84, 3) := by decide +kernel
theorem dX11_one_183 : decode cX11_one 183 = .ok (.aload_n 0, 1) := by decide +kernel
theorem dX11_one_184 : decode cX11_one 184 = .ok (.dup, 1) := by decide +kernel
theorem dX11_one_185 : decode cX11_one 185 = .ok (.getfield 118, 3) := by decide +kernel
theorem dX11_one_188 : decode cX11_one 188 = .ok (.iconst 1, 1) := by decide +kernel
theorem dX11_one_189 : decode cX11_one 189 = .ok (.isub, 1) := by decide +kernel
theorem dX11_one_190 : decode cX11_one 190 = .ok (.putfield 118, 3) := by decide +kernel
theorem dX11_one_193 : decode cX11_one 193 = .ok (.iconst 1, 1) := by decide +kernel
theorem dX11_one_194 : decode cX11_one 194 = .ok (.ireturn, 1) := by decide +kernel
theorem dX11_hasText_0 : decode cX11_hasText 0 = .ok (.aload_n 0, 1) := by decide +kernel
theorem dX11_hasText_1 : decode cX11_hasText 1 = .ok (.getfield 7, 3) := by decide +kernel
theorem dX11_hasText_4 : decode cX11_hasText 4 = .ok (.sipush 181, 3) := by decide +kernel
theorem dX11_hasText_7 : decode cX11_hasText 7 = .ok (.bipush 125, 2) := by decide +kernel
theorem dX11_hasText_9 : decode cX11_hasText 9 = .ok (.iload_n 1, 1) := by decide +kernel
theorem dX11_hasText_10 : decode cX11_hasText 10 = .ok (.imul, 1) := by decide +kernel
theorem dX11_hasText_11 : decode cX11_hasText 11 = .ok (.iadd, 1) := by decide +kernel
theorem dX11_hasText_12 : decode cX11_hasText 12 = .ok (.iaload, 1) := by decide +kernel
theorem dX11_hasText_13 : decode cX11_hasText 13 = .ok (.ifCond .le 7, 3) := by decide +kernel
theorem dX11_hasText_16 : decode cX11_hasText 16 = .ok (.iconst 1, 1) := by decide +kernel
theorem dX11_hasText_17 : decode cX11_hasText 17 = .ok (.goto 4, 3) := by decide +kernel
theorem dX11_hasText_20 : decode cX11_hasText 20 = .ok (.iconst 0, 1) := by decide +kernel
theorem dX11_hasText_21 : decode cX11_hasText 21 = .ok (.ireturn, 1) := by decide +kernel
theorem dX11_text_0 : decode cX11_text 0 = .ok (.iload_n 1, 1) := by decide +kernel
theorem dX11_text_1 : decode cX11_text 1 = .ok (.iconst 0, 1) := by decide +kernel
theorem dX11_text_2 : decode cX11_text 2 = .ok (.iconst 1, 1) := by decide +kernel
theorem dX11_text_3 : decode cX11_text 3 = .ok (.invokestatic 60, 3) := by decide +kernel
theorem dX11_text_6 : decode cX11_text 6 = .ok (.ifCond .ne 9, 3) := by decide +kernel
theorem dX11_text_9 : decode cX11_text 9 = .ok (.aload_n 0, 1) := by decide +kernel
theorem dX11_text_10 : decode cX11_text 10 = .ok (.iconst 1, 1) := by decide +kernel
theorem dX11_text_11 : decode cX11_text 11 = .ok (.invokevirtual 79, 3) := by decide +kernel
theorem dX11_text_14 : decode cX11_text 14 = .ok (.ireturn, 1) := by decide +kernel
theorem dX11_text_15 : decode cX11_text 15 = .ok (.aload_n 0, 1) := by decide +kernel
theorem dX11_text_16 : decode cX11_text 16 = .ok (.iload_n 1, 1) := by decide +kernel
theorem dX11_text_17 : decode cX11_text 17 = .ok (.putfield 88, 3) := by decide +kernel
theorem dX11_text_20 : decode cX11_text 20 = .ok (.aload_n 0, 1) := by decide +kernel
theorem dX11_text_21 : decode cX11_text 21 = .ok (.iconst 0, 1) := by decide +kernel
theorem dX11_text_22 : decode cX11_text 22 = .ok (.putfield 84, 3) := by decide +kernel
theorem dX11_text_25 : decode cX11_text 25 = .ok (.aload_n 0, 1) := by decide +kernel
theorem dX11_text_26 : decode cX11_text 26 = .ok (.iconst 0, 1) := by decide +kernel
theorem dX11_text_27 : decode cX11_text 27 = .ok (.putfield 118, 3) := by decide +kernel
theorem dX11_text_30 : decode cX11_text 30 = .ok (.aload_n 0, 1) := by decide +kernel
theorem dX11_text_31 : decode cX11_text 31 = .ok (.iconst 0, 1) := by decide +kernel
theorem dX11_text_32 : decode cX11_text 32 = .ok (.putfield 91, 3) := by decide +kernel
theorem dX11_text_35 : decode cX11_text 35 = .ok (.aload_n 0, 1) := by decide +kernel
theorem dX11_text_36 : decode cX11_text 36 = .ok (.invokevirtual 127, 3) := by decide +kernel
theorem dX11_text_39 : decode cX11_text 39 = .ok (.ifCond .eq 20, 3) := by decide +kernel
theorem dX11_text_42 : decode cX11_text 42 = .ok (.aload_n 0, 1) := by decide +kernel
theorem dX11_text_43 : decode cX11_text 43 = .ok (.getfield 84, 3) := by decide +kernel
theorem dX11_text_46 : decode cX11_text 46 = .ok (.aload_n 0, 1) := by decide +kernel
theorem dX11_text_47 : decode cX11_text 47 = .ok (.getfield 7, 3) := by decide +kernel
theorem dX11_text_50 : decode cX11_text 50 = .ok (.iconst 2, 1) := by decide +kernel
theorem dX11_text_51 : decode cX11_text 51 = .ok (.iaload, 1) := by decide +kernel
theorem dX11_text_52 : decode cX11_text 52 = .ok (.if_icmp .ne 7, 3) := by decide +kernel
theorem dX11_text_55 : decode cX11_text 55 = .ok (.iconst 1, 1) := by decide +kernel
theorem dX11_text_56 : decode cX11_text 56 = .ok (.goto 4, 3) := by decide +kernel
theorem dX11_text_59 : decode cX11_text 59 = .ok (.iconst 0, 1) := by decide +kernel
theorem dX11_text_60 : decode cX11_text 60 = .ok (.istore_n 2, 1) := by decide +kernel
theorem dX11_text_61 : decode cX11_text 61 = .ok (.aload_n 0, 1) := by decide +kernel
theorem dX11_text_62 : decode cX11_text 62 = .ok (.getfield 7, 3) := by decide +kernel
theorem dX11_text_65 : decode cX11_text 65 = .ok (.iconst 2, 1) := by decide +kernel
theorem dX11_text_66 : decode cX11_text 66 = .ok (.iconst 0, 1) := by decide +kernel
theorem dX11_text_67 : decode cX11_text 67 = .ok (.iastore, 1) := by decide +kernel
theorem dX11_text_68 : decode cX11_text 68 = .ok (.iload_n 2, 1) := by decide +kernel
theorem dX11_text_69 : decode cX11_text 69 = .ok (.ifCond .ne 11, 3) := by decide +kernel
theorem dX11_text_72 : decode cX11_text 72 = .ok (.bipush (-10), 2) := by decide +kernel
theorem dX11_text_74 : decode cX11_text 74 = .ok (.aload_n 0, 1) := by decide +kernel
theorem dX11_text_75 : decode cX11_text 75 = .ok (.getfield 84, 3) := by decide +kernel
theorem dX11_text_78 : decode cX11_text 78 = .ok (.isub, 1) := by decide +kernel
theorem dX11_text_79 : decode cX11_text 79 = .ok (.ireturn, 1) := by decide +kernel
theorem dX11_text_80 : decode cX11_text 80 = .ok (.sipush 181, 3) := by decide +kernel
theorem dX11_text_83 : decode cX11_text 83 = .ok (.bipush 125, 2) := by decide +kernel
theorem dX11_text_85 : decode cX11_text 85 = .ok (.iload_n 1, 1) := by decide +kernel
theorem dX11_text_86 : decode cX11_text 86 = .ok (.imul, 1) := by decide +kernel
theorem dX11_text_87 : decode cX11_text 87 = .ok (.iadd, 1) := by decide +kernel
theorem dX11_text_88 : decode cX11_text 88 = .ok (.istore_n 3, 1) := by decide +kernel
theorem dX11_text_89 : decode cX11_text 89 = .ok (.aload_n 0, 1) := by decide +kernel
theorem dX11_text_90 : decode cX11_text 90 = .ok (.getfield 7, 3) := by decide +kernel
theorem dX11_text_93 : decode cX11_text 93 = .ok (.iload_n 3, 1) := by decide +kernel
theorem dX11_text_94 : decode cX11_text 94 = .ok (.aload_n 0, 1) := by decide +kernel
theorem dX11_text_95 : decode cX11_text 95 = .ok (.getfield 91, 3) := by decide +kernel
theorem dX11_text_98 : decode cX11_text 98 = .ok (.iastore, 1) := by decide +kernel
theorem dX11_text_99 : decode cX11_text 99 = .ok (.iconst 0, 1) := by decide +kernel
theorem dX11_text_100 : decode cX11_text 100 = .ok (.istore 4, 2) := by decide +kernel
theorem dX11_text_102 : decode cX11_text 102 = .ok (.iload 4, 2) := by decide +kernel
theorem dX11_text_104 : decode cX11_text 104 = .ok (.iconst 2, 1) := by decide +kernel
theorem dX11_text_105 : decode cX11_text 105 = .ok (.aload_n 0, 1) := by decide +kernel
theorem dX11_text_106 : decode cX11_text 106 = .ok (.getfield 91, 3) := by decide +kernel
theorem dX11_text_109 : decode cX11_text 109 = .ok (.imul, 1) := by decide +kernel
theorem dX11_text_110 : decode cX11_text 110 = .ok (.if_icmp .ge 27, 3) := by decide +kernel
theorem dX11_text_113 : decode cX11_text 113 = .ok (.aload_n 0, 1) := by decide +kernel
theorem dX11_text_114 : decode cX11_text 114 = .ok (.getfield 7, 3) := by decide +kernel
theorem dX11_text_117 : decode cX11_text 117 = .ok (.iload_n 3, 1) := by decide +kernel
theorem dX11_text_118 : decode cX11_text 118 = .ok (.iconst 1, 1) := by decide +kernel
theorem dX11_text_119 : decode cX11_text 119 = .ok (.iadd, 1) := by decide +kernel
theorem dX11_text_120 : decode cX11_text 120 = .ok (.iload 4, 2) := by decide +kernel
theorem dX11_text_122 : decode cX11_text 122 = .ok (.iadd, 1) := by decide +kernel
theorem dX11_text_123 : decode cX11_text 123 = .ok (.aload_n 0, 1) := by decide +kernel
theorem dX11_text_124 : decode cX11_text 124 = .ok (.getfield 22, 3) := by decide +kernel
theorem dX11_text_127 : decode cX11_text 127 = .ok (.iload 4, 2) := by decide +kernel
theorem dX11_text_129 : decode cX11_text 129 = .ok (.iaload, 1) := by decide +kernel
theorem dX11_text_130 : decode cX11_text 130 = .ok (.iastore, 1) := by decide +kernel
theorem dX11_text_131 : decode cX11_text 131 = .ok (.iinc 4 1, 3) := by decide +kernel
theorem dX11_text_134 : decode cX11_text 134 = .ok (.goto (-32), 3) := by decide +kernel
theorem dX11_text_137 : decode cX11_text 137 = .ok (.iconst 1, 1) := by decide +kernel
theorem dX11_text_138 : decode cX11_text 138 = .ok (.ireturn, 1) := by decide +kernel
theorem dX11_untell_0 : decode cX11_untell 0 = .ok (.iload_n 1, 1) := by decide +kernel
theorem dX11_untell_1 : decode cX11_untell 1 = .ok (.iconst 0, 1) := by decide +kernel
theorem dX11_untell_2 : decode cX11_untell 2 = .ok (.iconst 1, 1) := by decide +kernel
theorem dX11_untell_3 : decode cX11_untell 3 = .ok (.invokestatic 60, 3) := by decide +kernel
theorem dX11_untell_6 : decode cX11_untell 6 = .ok (.ifCond .ne 9, 3) := by decide +kernel
theorem dX11_untell_9 : decode cX11_untell 9 = .ok (.aload_n 0, 1) := by decide +kernel
theorem dX11_untell_10 : decode cX11_untell 10 = .ok (.iconst 1, 1) := by decide +kernel
theorem dX11_untell_11 : decode cX11_untell 11 = .ok (.invokevirtual 79, 3) := by decide +kernel
theorem dX11_untell_14 : decode cX11_untell 14 = .ok (.ireturn, 1) := by decide +kernel
theorem dX11_untell_15 : decode cX11_untell 15 = .ok (.aload_n 0, 1) := by decide +kernel
theorem dX11_untell_16 : decode cX11_untell 16 = .ok (.iload_n 1, 1) := by decide +kernel
theorem dX11_untell_17 : decode cX11_untell 17 = .ok (.invokevirtual 130, 3) := by decide +kernel
theorem dX11_untell_20 : decode cX11_untell 20 = .ok (.ifCond .eq 7, 3) := by decide +kernel
theorem dX11_untell_23 : decode cX11_untell 23 = .ok (.iconst 1, 1) := by decide +kernel
theorem dX11_untell_24 : decode cX11_untell 24 = .ok (.goto 4, 3) := by decide +kernel
theorem dX11_untell_27 : decode cX11_untell 27 = .ok (.iconst 0, 1) := by decide +kernel
theorem dX11_untell_28 : decode cX11_untell 28 = .ok (.istore_n 2, 1) := by decide +kernel
theorem dX11_untell_29 : decode cX11_untell 29 = .ok (.aload_n 0, 1) := by decide +kernel
theorem dX11_untell_30 : decode cX11_untell 30 = .ok (.getfield 7, 3) := by decide +kernel
theorem dX11_untell_33 : decode cX11_untell 33 = .ok (.sipush 181, 3) := by decide +kernel
theorem dX11_untell_36 : decode cX11_untell 36 = .ok (.bipush 125, 2) := by decide +kernel
theorem dX11_untell_38 : decode cX11_untell 38 = .ok (.iload_n 1, 1) := by decide +kernel
theorem dX11_untell_39 : decode cX11_untell 39 = .ok (.imul, 1) := by decide +kernel
theorem dX11_untell_40 : decode cX11_untell 40 = .ok (.iadd, 1) := by decide +kernel
theorem dX11_untell_41 : decode cX11_untell 41 = .ok (.iconst 0, 1) := by decide +kernel
theorem dX11_untell_42 : decode cX11_untell 42 = .ok (.iastore, 1) := by decide +kernel
theorem dX11_untell_43 : decode cX11_untell 43 = .ok (.iload_n 2, 1) := by decide +kernel
theorem dX11_untell_44 : decode cX11_untell 44 = .ok (.ireturn, 1) := by decide +kernel
theorem dX11_joined_0 : decode cX11_joined 0 = .ok (.iload_n 0, 1) := by decide +kernel
theorem dX11_joined_1 : decode cX11_joined 1 = .ok (.tableswitch 217 37 62 #[153, 203, 217, 217, 217, 127, 119, 217, 123, 217, 131, 217, 217, 217, 217, 217, 217, 217, 217, 217, 217, 217, 217, 170, 192, 181], 119) := by decide +kernel
theorem dX11_joined_120 : decode cX11_joined 120 = .ok (.iload_n 1, 1) := by decide +kernel
theorem dX11_joined_121 : decode cX11_joined 121 = .ok (.iload_n 2, 1) := by decide +kernel
theorem dX11_joined_122 : decode cX11_joined 122 = .ok (.iadd, 1) := by decide +kernel
theorem dX11_joined_123 : decode cX11_joined 123 = .ok (.ireturn, 1) := by decide +kernel
theorem dX11_joined_124 : decode cX11_joined 124 = .ok (.iload_n 1, 1) := by decide +kernel
theorem dX11_joined_125 : decode cX11_joined 125 = .ok (.iload_n 2, 1) := by decide +kernel
theorem dX11_joined_126 : decode cX11_joined 126 = .ok (.isub, 1) := by decide +kernel
theorem dX11_joined_127 : decode cX11_joined 127 = .ok (.ireturn, 1) := by decide +kernel
theorem dX11_joined_128 : decode cX11_joined 128 = .ok (.iload_n 1, 1) := by decide +kernel
theorem dX11_joined_129 : decode cX11_joined 129 = .ok (.iload_n 2, 1) := by decide +kernel
theorem dX11_joined_130 : decode cX11_joined 130 = .ok (.imul, 1) := by decide +kernel
theorem dX11_joined_131 : decode cX11_joined 131 = .ok (.ireturn, 1) := by decide +kernel
theorem dX11_joined_132 : decode cX11_joined 132 = .ok (.iload_n 2, 1) := by decide +kernel
theorem dX11_joined_133 : decode cX11_joined 133 = .ok (.ifCond .ne 7, 3) := by decide +kernel
theorem dX11_joined_136 : decode cX11_joined 136 = .ok (.iconst 0, 1) := by decide +kernel
theorem dX11_joined_137 : decode cX11_joined 137 = .ok (.goto 16, 3) := by decide +kernel
theorem dX11_joined_140 : decode cX11_joined 140 = .ok (.iload_n 2, 1) := by decide +kernel
theorem dX11_joined_141 : decode cX11_joined 141 = .ok (.iconst (-1), 1) := by decide +kernel
theorem dX11_joined_142 : decode cX11_joined 142 = .ok (.if_icmp .ne 8, 3) := by decide +kernel
theorem dX11_joined_145 : decode cX11_joined 145 = .ok (.iload_n 1, 1) := by decide +kernel
theorem dX11_joined_146 : decode cX11_joined 146 = .ok (.ineg, 1) := by decide +kernel
theorem dX11_joined_147 : decode cX11_joined 147 = .ok (.goto 6, 3) := by decide +kernel
theorem dX11_joined_150 : decode cX11_joined 150 = .ok (.iload_n 1, 1) := by decide +kernel
theorem dX11_joined_151 : decode cX11_joined 151 = .ok (.iload_n 2, 1) := by decide +kernel
theorem dX11_joined_152 : decode cX11_joined 152 = .ok (.idiv, 1) := by decide +kernel
theorem dX11_joined_153 : decode cX11_joined 153 = .ok (.ireturn, 1) := by decide +kernel
theorem dX11_joined_154 : decode cX11_joined 154 = .ok (.iload_n 2, 1) := by decide +kernel
theorem dX11_joined_155 : decode cX11_joined 155 = .ok (.ifCond .eq 8, 3) := by decide +kernel
theorem dX11_joined_158 : decode cX11_joined 158 = .ok (.iload_n 2, 1) := by decide +kernel
theorem dX11_joined_159 : decode cX11_joined 159 = .ok (.iconst (-1), 1) := by decide +kernel
theorem dX11_joined_160 : decode cX11_joined 160 = .ok (.if_icmp .ne 7, 3) := by decide +kernel
theorem dX11_joined_163 : decode cX11_joined 163 = .ok (.iconst 0, 1) := by decide +kernel
theorem dX11_joined_164 : decode cX11_joined 164 = .ok (.goto 6, 3) := by decide +kernel
theorem dX11_joined_167 : decode cX11_joined 167 = .ok (.iload_n 1, 1) := by decide +kernel
theorem dX11_joined_168 : decode cX11_joined 168 = .ok (.iload_n 2, 1) := by decide +kernel
theorem dX11_joined_169 : decode cX11_joined 169 = .ok (.irem, 1) := by decide +kernel
theorem dX11_joined_170 : decode cX11_joined 170 = .ok (.ireturn, 1) := by decide +kernel
theorem dX11_joined_171 : decode cX11_joined 171 = .ok (.iload_n 1, 1) := by decide +kernel
theorem dX11_joined_172 : decode cX11_joined 172 = .ok (.iload_n 2, 1) := by decide +kernel
theorem dX11_joined_173 : decode cX11_joined 173 = .ok (.if_icmp .ge 7, 3) := by decide +kernel
theorem dX11_joined_176 : decode cX11_joined 176 = .ok (.iconst 1, 1) := by decide +kernel
theorem dX11_joined_177 : decode cX11_joined 177 = .ok (.goto 4, 3) := by decide +kernel
theorem dX11_joined_180 : decode cX11_joined 180 = .ok (.iconst 0, 1) := by decide +kernel
theorem dX11_joined_181 : decode cX11_joined 181 = .ok (.ireturn, 1) := by decide +kernel
theorem dX11_joined_182 : decode cX11_joined 182 = .ok (.iload_n 1, 1) := by decide +kernel
theorem dX11_joined_183 : decode cX11_joined 183 = .ok (.iload_n 2, 1) := by decide +kernel
theorem dX11_joined_184 : decode cX11_joined 184 = .ok (.if_icmp .le 7, 3) := by decide +kernel
theorem dX11_joined_187 : decode cX11_joined 187 = .ok (.iconst 1, 1) := by decide +kernel
theorem dX11_joined_188 : decode cX11_joined 188 = .ok (.goto 4, 3) := by decide +kernel
theorem dX11_joined_191 : decode cX11_joined 191 = .ok (.iconst 0, 1) := by decide +kernel
theorem dX11_joined_192 : decode cX11_joined 192 = .ok (.ireturn, 1) := by decide +kernel
theorem dX11_joined_193 : decode cX11_joined 193 = .ok (.iload_n 1, 1) := by decide +kernel
theorem dX11_joined_194 : decode cX11_joined 194 = .ok (.iload_n 2, 1) := by decide +kernel
theorem dX11_joined_195 : decode cX11_joined 195 = .ok (.if_icmp .ne 7, 3) := by decide +kernel
theorem dX11_joined_198 : decode cX11_joined 198 = .ok (.iconst 1, 1) := by decide +kernel
theorem dX11_joined_199 : decode cX11_joined 199 = .ok (.goto 4, 3) := by decide +kernel
theorem dX11_joined_202 : decode cX11_joined 202 = .ok (.iconst 0, 1) := by decide +kernel
theorem dX11_joined_203 : decode cX11_joined 203 = .ok (.ireturn, 1) := by decide +kernel
theorem dX11_joined_204 : decode cX11_joined 204 = .ok (.iload_n 1, 1) := by decide +kernel
theorem dX11_joined_205 : decode cX11_joined 205 = .ok (.ifCond .eq 11, 3) := by decide +kernel
theorem dX11_joined_208 : decode cX11_joined 208 = .ok (.iload_n 2, 1) := by decide +kernel
theorem dX11_joined_209 : decode cX11_joined 209 = .ok (.ifCond .eq 7, 3) := by decide +kernel
theorem dX11_joined_212 : decode cX11_joined 212 = .ok (.iconst 1, 1) := by decide +kernel
theorem dX11_joined_213 : decode cX11_joined 213 = .ok (.goto 4, 3) := by decide +kernel
theorem dX11_joined_216 : decode cX11_joined 216 = .ok (.iconst 0, 1) := by decide +kernel
theorem dX11_joined_217 : decode cX11_joined 217 = .ok (.ireturn, 1) := by decide +kernel
theorem dX11_joined_218 : decode cX11_joined 218 = .ok (.iload_n 1, 1) := by decide +kernel
theorem dX11_joined_219 : decode cX11_joined 219 = .ok (.ifCond .ne 7, 3) := by decide +kernel
theorem dX11_joined_222 : decode cX11_joined 222 = .ok (.iload_n 2, 1) := by decide +kernel
theorem dX11_joined_223 : decode cX11_joined 223 = .ok (.ifCond .eq 7, 3) := by decide +kernel
theorem dX11_joined_226 : decode cX11_joined 226 = .ok (.iconst 1, 1) := by decide +kernel
theorem dX11_joined_227 : decode cX11_joined 227 = .ok (.goto 4, 3) := by decide +kernel
theorem dX11_joined_230 : decode cX11_joined 230 = .ok (.iconst 0, 1) := by decide +kernel
theorem dX11_joined_231 : decode cX11_joined 231 = .ok (.ireturn, 1) := by decide +kernel
theorem dX11_worked_0 : decode cX11_worked 0 = .ok (.sipush 181, 3) := by decide +kernel
theorem dX11_worked_3 : decode cX11_worked 3 = .ok (.bipush 125, 2) := by decide +kernel
theorem dX11_worked_5 : decode cX11_worked 5 = .ok (.iload_n 1, 1) := by decide +kernel
theorem dX11_worked_6 : decode cX11_worked 6 = .ok (.imul, 1) := by decide +kernel
theorem dX11_worked_7 : decode cX11_worked 7 = .ok (.iadd, 1) := by decide +kernel
theorem dX11_worked_8 : decode cX11_worked 8 = .ok (.istore_n 2, 1) := by decide +kernel
theorem dX11_worked_9 : decode cX11_worked 9 = .ok (.iconst 0, 1) := by decide +kernel
theorem dX11_worked_10 : decode cX11_worked 10 = .ok (.istore_n 3, 1) := by decide +kernel
theorem dX11_worked_11 : decode cX11_worked 11 = .ok (.iconst 0, 1) := by decide +kernel
theorem dX11_worked_12 : decode cX11_worked 12 = .ok (.istore 4, 2) := by decide +kernel
theorem dX11_worked_14 : decode cX11_worked 14 = .ok (.iload 4, 2) := by decide +kernel
theorem dX11_worked_16 : decode cX11_worked 16 = .ok (.aload_n 0, 1) := by decide +kernel
theorem dX11_worked_17 : decode cX11_worked 17 = .ok (.getfield 7, 3) := by decide +kernel
theorem dX11_worked_20 : decode cX11_worked 20 = .ok (.iload_n 2, 1) := by decide +kernel
theorem dX11_worked_21 : decode cX11_worked 21 = .ok (.iaload, 1) := by decide +kernel
theorem dX11_worked_22 : decode cX11_worked 22 = .ok (.if_icmp .ge 142, 3) := by decide +kernel
theorem dX11_worked_25 : decode cX11_worked 25 = .ok (.aload_n 0, 1) := by decide +kernel
theorem dX11_worked_26 : decode cX11_worked 26 = .ok (.getfield 7, 3) := by decide +kernel
theorem dX11_worked_29 : decode cX11_worked 29 = .ok (.iload_n 2, 1) := by decide +kernel
theorem dX11_worked_30 : decode cX11_worked 30 = .ok (.iconst 1, 1) := by decide +kernel
theorem dX11_worked_31 : decode cX11_worked 31 = .ok (.iadd, 1) := by decide +kernel
theorem dX11_worked_32 : decode cX11_worked 32 = .ok (.iconst 2, 1) := by decide +kernel
theorem dX11_worked_33 : decode cX11_worked 33 = .ok (.iload 4, 2) := by decide +kernel
theorem dX11_worked_35 : decode cX11_worked 35 = .ok (.imul, 1) := by decide +kernel
theorem dX11_worked_36 : decode cX11_worked 36 = .ok (.iadd, 1) := by decide +kernel
theorem dX11_worked_37 : decode cX11_worked 37 = .ok (.iaload, 1) := by decide +kernel
theorem dX11_worked_38 : decode cX11_worked 38 = .ok (.istore 5, 2) := by decide +kernel
theorem dX11_worked_40 : decode cX11_worked 40 = .ok (.aload_n 0, 1) := by decide +kernel
theorem dX11_worked_41 : decode cX11_worked 41 = .ok (.getfield 7, 3) := by decide +kernel
theorem dX11_worked_44 : decode cX11_worked 44 = .ok (.iload_n 2, 1) := by decide +kernel
theorem dX11_worked_45 : decode cX11_worked 45 = .ok (.iconst 2, 1) := by decide +kernel
theorem dX11_worked_46 : decode cX11_worked 46 = .ok (.iadd, 1) := by decide +kernel
theorem dX11_worked_47 : decode cX11_worked 47 = .ok (.iconst 2, 1) := by decide +kernel
theorem dX11_worked_48 : decode cX11_worked 48 = .ok (.iload 4, 2) := by decide +kernel
theorem dX11_worked_50 : decode cX11_worked 50 = .ok (.imul, 1) := by decide +kernel
theorem dX11_worked_51 : decode cX11_worked 51 = .ok (.iadd, 1) := by decide +kernel
theorem dX11_worked_52 : decode cX11_worked 52 = .ok (.iaload, 1) := by decide +kernel
theorem dX11_worked_53 : decode cX11_worked 53 = .ok (.istore 6, 2) := by decide +kernel
theorem dX11_worked_55 : decode cX11_worked 55 = .ok (.iload 5, 2) := by decide +kernel
theorem dX11_worked_57 : decode cX11_worked 57 = .ok (.ifCond .eq 9, 3) := by decide +kernel
theorem dX11_worked_60 : decode cX11_worked 60 = .ok (.iload 5, 2) := by decide +kernel
theorem dX11_worked_62 : decode cX11_worked 62 = .ok (.iconst 1, 1) := by decide +kernel
theorem dX11_worked_63 : decode cX11_worked 63 = .ok (.if_icmp .ne 32, 3) := by decide +kernel
theorem dX11_worked_66 : decode cX11_worked 66 = .ok (.aload_n 0, 1) := by decide +kernel
theorem dX11_worked_67 : decode cX11_worked 67 = .ok (.getfield 28, 3) := by decide +kernel
theorem dX11_worked_70 : decode cX11_worked 70 = .ok (.iload_n 3, 1) := by decide +kernel
theorem dX11_worked_71 : decode cX11_worked 71 = .ok (.iload 5, 2) := by decide +kernel
theorem dX11_worked_73 : decode cX11_worked 73 = .ok (.ifCond .ne 8, 3) := by decide +kernel
theorem dX11_worked_76 : decode cX11_worked 76 = .ok (.iload 6, 2) := by decide +kernel
theorem dX11_worked_78 : decode cX11_worked 78 = .ok (.goto 10, 3) := by decide +kernel
theorem dX11_worked_81 : decode cX11_worked 81 = .ok (.aload_n 0, 1) := by decide +kernel
theorem dX11_worked_82 : decode cX11_worked 82 = .ok (.getfield 25, 3) := by decide +kernel
theorem dX11_worked_85 : decode cX11_worked 85 = .ok (.iload 6, 2) := by decide +kernel
theorem dX11_worked_87 : decode cX11_worked 87 = .ok (.iaload, 1) := by decide +kernel
theorem dX11_worked_88 : decode cX11_worked 88 = .ok (.iastore, 1) := by decide +kernel
theorem dX11_worked_89 : decode cX11_worked 89 = .ok (.iinc 3 1, 3) := by decide +kernel
theorem dX11_worked_92 : decode cX11_worked 92 = .ok (.goto 66, 3) := by decide +kernel
theorem dX11_worked_95 : decode cX11_worked 95 = .ok (.iload 5, 2) := by decide +kernel
theorem dX11_worked_97 : decode cX11_worked 97 = .ok (.iconst 2, 1) := by decide +kernel
theorem dX11_worked_98 : decode cX11_worked 98 = .ok (.if_icmp .ne 30, 3) := by decide +kernel
theorem dX11_worked_101 : decode cX11_worked 101 = .ok (.aload_n 0, 1) := by decide +kernel
theorem dX11_worked_102 : decode cX11_worked 102 = .ok (.getfield 28, 3) := by decide +kernel
theorem dX11_worked_105 : decode cX11_worked 105 = .ok (.iload_n 3, 1) := by decide +kernel
theorem dX11_worked_106 : decode cX11_worked 106 = .ok (.iconst 1, 1) := by decide +kernel
theorem dX11_worked_107 : decode cX11_worked 107 = .ok (.isub, 1) := by decide +kernel
theorem dX11_worked_108 : decode cX11_worked 108 = .ok (.aload_n 0, 1) := by decide +kernel
theorem dX11_worked_109 : decode cX11_worked 109 = .ok (.getfield 28, 3) := by decide +kernel
theorem dX11_worked_112 : decode cX11_worked 112 = .ok (.iload_n 3, 1) := by decide +kernel
theorem dX11_worked_113 : decode cX11_worked 113 = .ok (.iconst 1, 1) := by decide +kernel
theorem dX11_worked_114 : decode cX11_worked 114 = .ok (.isub, 1) := by decide +kernel
theorem dX11_worked_115 : decode cX11_worked 115 = .ok (.iaload, 1) := by decide +kernel
theorem dX11_worked_116 : decode cX11_worked 116 = .ok (.ifCond .ne 7, 3) := by decide +kernel
theorem dX11_worked_119 : decode cX11_worked 119 = .ok (.iconst 1, 1) := by decide +kernel
theorem dX11_worked_120 : decode cX11_worked 120 = .ok (.goto 4, 3) := by decide +kernel
theorem dX11_worked_123 : decode cX11_worked 123 = .ok (.iconst 0, 1) := by decide +kernel
theorem dX11_worked_124 : decode cX11_worked 124 = .ok (.iastore, 1) := by decide +kernel
theorem dX11_worked_125 : decode cX11_worked 125 = .ok (.goto 33, 3) := by decide +kernel
theorem dX11_worked_128 : decode cX11_worked 128 = .ok (.iinc 3 (-1), 3) := by decide +kernel
theorem dX11_worked_131 : decode cX11_worked 131 = .ok (.aload_n 0, 1) := by decide +kernel
theorem dX11_worked_132 : decode cX11_worked 132 = .ok (.getfield 28, 3) := by decide +kernel
theorem dX11_worked_135 : decode cX11_worked 135 = .ok (.iload_n 3, 1) := by decide +kernel
theorem dX11_worked_136 : decode cX11_worked 136 = .ok (.iconst 1, 1) := by decide +kernel
theorem dX11_worked_137 : decode cX11_worked 137 = .ok (.isub, 1) := by decide +kernel
theorem dX11_worked_138 : decode cX11_worked 138 = .ok (.iload 6, 2) := by decide +kernel
theorem dX11_worked_140 : decode cX11_worked 140 = .ok (.aload_n 0, 1) := by decide +kernel
theorem dX11_worked_141 : decode cX11_worked 141 = .ok (.getfield 28, 3) := by decide +kernel
theorem dX11_worked_144 : decode cX11_worked 144 = .ok (.iload_n 3, 1) := by decide +kernel
theorem dX11_worked_145 : decode cX11_worked 145 = .ok (.iconst 1, 1) := by decide +kernel
theorem dX11_worked_146 : decode cX11_worked 146 = .ok (.isub, 1) := by decide +kernel
theorem dX11_worked_147 : decode cX11_worked 147 = .ok (.iaload, 1) := by decide +kernel
theorem dX11_worked_148 : decode cX11_worked 148 = .ok (.aload_n 0, 1) := by decide +kernel
theorem dX11_worked_149 : decode cX11_worked 149 = .ok (.getfield 28, 3) := by decide +kernel
theorem dX11_worked_152 : decode cX11_worked 152 = .ok (.iload_n 3, 1) := by decide +kernel
theorem dX11_worked_153 : decode cX11_worked 153 = .ok (.iaload, 1) := by decide +kernel
theorem dX11_worked_154 : decode cX11_worked 154 = .ok (.invokestatic 133, 3) := by decide +kernel
theorem dX11_worked_157 : decode cX11_worked 157 = .ok (.iastore, 1) := by decide +kernel
theorem dX11_worked_158 : decode cX11_worked 158 = .ok (.iinc 4 1, 3) := by decide +kernel
theorem dX11_worked_161 : decode cX11_worked 161 = .ok (.goto (-147), 3) := by decide +kernel
theorem dX11_worked_164 : decode cX11_worked 164 = .ok (.aload_n 0, 1) := by decide +kernel
theorem dX11_worked_165 : decode cX11_worked 165 = .ok (.getfield 28, 3) := by decide +kernel
theorem dX11_worked_168 : decode cX11_worked 168 = .ok (.iconst 0, 1) := by decide +kernel
theorem dX11_worked_169 : decode cX11_worked 169 = .ok (.iaload, 1) := by decide +kernel
theorem dX11_worked_170 : decode cX11_worked 170 = .ok (.ireturn, 1) := by decide +kernel
theorem dX11_holdsTold_0 : decode cX11_holdsTold 0 = .ok (.aload_n 0, 1) := by decide +kernel
theorem dX11_holdsTold_1 : decode cX11_holdsTold 1 = .ok (.iconst 0, 1) := by decide +kernel
theorem dX11_holdsTold_2 : decode cX11_holdsTold 2 = .ok (.invokevirtual 130, 3) := by decide +kernel
theorem dX11_holdsTold_5 : decode cX11_holdsTold 5 = .ok (.ifCond .ne 13, 3) := by decide +kernel
theorem dX11_holdsTold_8 : decode cX11_holdsTold 8 = .ok (.bipush 20, 2) := by decide +kernel
theorem dX11_holdsTold_10 : decode cX11_holdsTold 10 = .ok (.aload_n 0, 1) := by decide +kernel
theorem dX11_holdsTold_11 : decode cX11_holdsTold 11 = .ok (.iload_n 1, 1) := by decide +kernel
theorem dX11_holdsTold_12 : decode cX11_holdsTold 12 = .ok (.iconst 1, 1) := by decide +kernel
theorem dX11_holdsTold_13 : decode cX11_holdsTold 13 = .ok (.invokevirtual 137, 3) := by decide +kernel
theorem dX11_holdsTold_16 : decode cX11_holdsTold 16 = .ok (.iadd, 1) := by decide +kernel
theorem dX11_holdsTold_17 : decode cX11_holdsTold 17 = .ok (.ireturn, 1) := by decide +kernel
theorem dX11_holdsTold_18 : decode cX11_holdsTold 18 = .ok (.aload_n 0, 1) := by decide +kernel
theorem dX11_holdsTold_19 : decode cX11_holdsTold 19 = .ok (.getfield 25, 3) := by decide +kernel
theorem dX11_holdsTold_22 : decode cX11_holdsTold 22 = .ok (.bipush 109, 2) := by decide +kernel
theorem dX11_holdsTold_24 : decode cX11_holdsTold 24 = .ok (.aload_n 0, 1) := by decide +kernel
theorem dX11_holdsTold_25 : decode cX11_holdsTold 25 = .ok (.iload_n 1, 1) := by decide +kernel
theorem dX11_holdsTold_26 : decode cX11_holdsTold 26 = .ok (.iconst 1, 1) := by decide +kernel
theorem dX11_holdsTold_27 : decode cX11_holdsTold 27 = .ok (.invokevirtual 137, 3) := by decide +kernel
theorem dX11_holdsTold_30 : decode cX11_holdsTold 30 = .ok (.iastore, 1) := by decide +kernel
theorem dX11_holdsTold_31 : decode cX11_holdsTold 31 = .ok (.aload_n 0, 1) := by decide +kernel
theorem dX11_holdsTold_32 : decode cX11_holdsTold 32 = .ok (.getfield 25, 3) := by decide +kernel
theorem dX11_holdsTold_35 : decode cX11_holdsTold 35 = .ok (.bipush 100, 2) := by decide +kernel
theorem dX11_holdsTold_37 : decode cX11_holdsTold 37 = .ok (.aload_n 0, 1) := by decide +kernel
theorem dX11_holdsTold_38 : decode cX11_holdsTold 38 = .ok (.getfield 7, 3) := by decide +kernel
theorem dX11_holdsTold_41 : decode cX11_holdsTold 41 = .ok (.iconst 0, 1) := by decide +kernel
theorem dX11_holdsTold_42 : decode cX11_holdsTold 42 = .ok (.iaload, 1) := by decide +kernel
theorem dX11_holdsTold_43 : decode cX11_holdsTold 43 = .ok (.aload_n 0, 1) := by decide +kernel
theorem dX11_holdsTold_44 : decode cX11_holdsTold 44 = .ok (.iload_n 1, 1) := by decide +kernel
theorem dX11_holdsTold_45 : decode cX11_holdsTold 45 = .ok (.iconst 3, 1) := by decide +kernel
theorem dX11_holdsTold_46 : decode cX11_holdsTold 46 = .ok (.invokevirtual 137, 3) := by decide +kernel
theorem dX11_holdsTold_49 : decode cX11_holdsTold 49 = .ok (.isub, 1) := by decide +kernel
theorem dX11_holdsTold_50 : decode cX11_holdsTold 50 = .ok (.iastore, 1) := by decide +kernel
theorem dX11_holdsTold_51 : decode cX11_holdsTold 51 = .ok (.aload_n 0, 1) := by decide +kernel
theorem dX11_holdsTold_52 : decode cX11_holdsTold 52 = .ok (.getfield 25, 3) := by decide +kernel
theorem dX11_holdsTold_55 : decode cX11_holdsTold 55 = .ok (.bipush 104, 2) := by decide +kernel
theorem dX11_holdsTold_57 : decode cX11_holdsTold 57 = .ok (.aload_n 0, 1) := by decide +kernel
theorem dX11_holdsTold_58 : decode cX11_holdsTold 58 = .ok (.iload_n 1, 1) := by decide +kernel
theorem dX11_holdsTold_59 : decode cX11_holdsTold 59 = .ok (.iconst 2, 1) := by decide +kernel
theorem dX11_holdsTold_60 : decode cX11_holdsTold 60 = .ok (.invokevirtual 137, 3) := by decide +kernel
theorem dX11_holdsTold_63 : decode cX11_holdsTold 63 = .ok (.iastore, 1) := by decide +kernel
theorem dX11_holdsTold_64 : decode cX11_holdsTold 64 = .ok (.aload_n 0, 1) := by decide +kernel
theorem dX11_holdsTold_65 : decode cX11_holdsTold 65 = .ok (.iconst 0, 1) := by decide +kernel
theorem dX11_holdsTold_66 : decode cX11_holdsTold 66 = .ok (.invokevirtual 140, 3) := by decide +kernel
theorem dX11_holdsTold_69 : decode cX11_holdsTold 69 = .ok (.ireturn, 1) := by decide +kernel
theorem dX11_slipped_0 : decode cX11_slipped 0 = .ok (.bipush 20, 2) := by decide +kernel
theorem dX11_slipped_2 : decode cX11_slipped 2 = .ok (.aload_n 0, 1) := by decide +kernel
theorem dX11_slipped_3 : decode cX11_slipped 3 = .ok (.iload_n 1, 1) := by decide +kernel
theorem dX11_slipped_4 : decode cX11_slipped 4 = .ok (.iconst 1, 1) := by decide +kernel
theorem dX11_slipped_5 : decode cX11_slipped 5 = .ok (.invokevirtual 137, 3) := by decide +kernel
theorem dX11_slipped_8 : decode cX11_slipped 8 = .ok (.iadd, 1) := by decide +kernel
theorem dX11_slipped_9 : decode cX11_slipped 9 = .ok (.iconst 2, 1) := by decide +kernel
theorem dX11_slipped_10 : decode cX11_slipped 10 = .ok (.idiv, 1) := by decide +kernel
theorem dX11_slipped_11 : decode cX11_slipped 11 = .ok (.aload_n 0, 1) := by decide +kernel
theorem dX11_slipped_12 : decode cX11_slipped 12 = .ok (.getfield 7, 3) := by decide +kernel
theorem dX11_slipped_15 : decode cX11_slipped 15 = .ok (.iconst 0, 1) := by decide +kernel
theorem dX11_slipped_16 : decode cX11_slipped 16 = .ok (.iaload, 1) := by decide +kernel
theorem dX11_slipped_17 : decode cX11_slipped 17 = .ok (.aload_n 0, 1) := by decide +kernel
theorem dX11_slipped_18 : decode cX11_slipped 18 = .ok (.iload_n 1, 1) := by decide +kernel
theorem dX11_slipped_19 : decode cX11_slipped 19 = .ok (.iconst 3, 1) := by decide +kernel
theorem dX11_slipped_20 : decode cX11_slipped 20 = .ok (.invokevirtual 137, 3) := by decide +kernel
theorem dX11_slipped_23 : decode cX11_slipped 23 = .ok (.isub, 1) := by decide +kernel
theorem dX11_slipped_24 : decode cX11_slipped 24 = .ok (.iconst 0, 1) := by decide +kernel
theorem dX11_slipped_25 : decode cX11_slipped 25 = .ok (.bipush 9, 2) := by decide +kernel
theorem dX11_slipped_27 : decode cX11_slipped 27 = .ok (.invokestatic 143, 3) := by decide +kernel
theorem dX11_slipped_30 : decode cX11_slipped 30 = .ok (.isub, 1) := by decide +kernel
theorem dX11_slipped_31 : decode cX11_slipped 31 = .ok (.ireturn, 1) := by decide +kernel
theorem dX11_holds_0 : decode cX11_holds 0 = .ok (.aload_n 0, 1) := by decide +kernel
theorem dX11_holds_1 : decode cX11_holds 1 = .ok (.iload_n 1, 1) := by decide +kernel
theorem dX11_holds_2 : decode cX11_holds 2 = .ok (.iconst 1, 1) := by decide +kernel
theorem dX11_holds_3 : decode cX11_holds 3 = .ok (.invokevirtual 137, 3) := by decide +kernel
theorem dX11_holds_6 : decode cX11_holds 6 = .ok (.istore_n 2, 1) := by decide +kernel
theorem dX11_holds_7 : decode cX11_holds 7 = .ok (.bipush 20, 2) := by decide +kernel
theorem dX11_holds_9 : decode cX11_holds 9 = .ok (.iload_n 2, 1) := by decide +kernel
theorem dX11_holds_10 : decode cX11_holds 10 = .ok (.iadd, 1) := by decide +kernel
theorem dX11_holds_11 : decode cX11_holds 11 = .ok (.istore_n 3, 1) := by decide +kernel
theorem dX11_holds_12 : decode cX11_holds 12 = .ok (.aload_n 0, 1) := by decide +kernel
theorem dX11_holds_13 : decode cX11_holds 13 = .ok (.iload_n 1, 1) := by decide +kernel
theorem dX11_holds_14 : decode cX11_holds 14 = .ok (.iconst 0, 1) := by decide +kernel
theorem dX11_holds_15 : decode cX11_holds 15 = .ok (.invokevirtual 137, 3) := by decide +kernel
theorem dX11_holds_18 : decode cX11_holds 18 = .ok (.tableswitch 96 1 6 #[38, 47, 57, 63, 74, 87], 38) := by decide +kernel
theorem dX11_holds_56 : decode cX11_holds 56 = .ok (.aload_n 0, 1) := by decide +kernel
theorem dX11_holds_57 : decode cX11_holds 57 = .ok (.iload_n 1, 1) := by decide +kernel
theorem dX11_holds_58 : decode cX11_holds 58 = .ok (.invokevirtual 146, 3) := by decide +kernel
theorem dX11_holds_61 : decode cX11_holds 61 = .ok (.istore_n 3, 1) := by decide +kernel
theorem dX11_holds_62 : decode cX11_holds 62 = .ok (.goto 52, 3) := by decide +kernel
theorem dX11_holds_65 : decode cX11_holds 65 = .ok (.iconst 2, 1) := by decide +kernel
theorem dX11_holds_66 : decode cX11_holds 66 = .ok (.bipush 20, 2) := by decide +kernel
theorem dX11_holds_68 : decode cX11_holds 68 = .ok (.iload_n 2, 1) := by decide +kernel
theorem dX11_holds_69 : decode cX11_holds 69 = .ok (.iadd, 1) := by decide +kernel
theorem dX11_holds_70 : decode cX11_holds 70 = .ok (.imul, 1) := by decide +kernel
theorem dX11_holds_71 : decode cX11_holds 71 = .ok (.istore_n 3, 1) := by decide +kernel
theorem dX11_holds_72 : decode cX11_holds 72 = .ok (.goto 42, 3) := by decide +kernel
theorem dX11_holds_75 : decode cX11_holds 75 = .ok (.bipush 10, 2) := by decide +kernel
theorem dX11_holds_77 : decode cX11_holds 77 = .ok (.istore_n 3, 1) := by decide +kernel
theorem dX11_holds_78 : decode cX11_holds 78 = .ok (.goto 36, 3) := by decide +kernel
theorem dX11_holds_81 : decode cX11_holds 81 = .ok (.aload_n 0, 1) := by decide +kernel
theorem dX11_holds_82 : decode cX11_holds 82 = .ok (.iload_n 1, 1) := by decide +kernel
theorem dX11_holds_83 : decode cX11_holds 83 = .ok (.invokevirtual 146, 3) := by decide +kernel
theorem dX11_holds_86 : decode cX11_holds 86 = .ok (.iload_n 2, 1) := by decide +kernel
theorem dX11_holds_87 : decode cX11_holds 87 = .ok (.iadd, 1) := by decide +kernel
theorem dX11_holds_88 : decode cX11_holds 88 = .ok (.istore_n 3, 1) := by decide +kernel
theorem dX11_holds_89 : decode cX11_holds 89 = .ok (.goto 25, 3) := by decide +kernel
theorem dX11_holds_92 : decode cX11_holds 92 = .ok (.iconst 2, 1) := by decide +kernel
theorem dX11_holds_93 : decode cX11_holds 93 = .ok (.bipush 20, 2) := by decide +kernel
theorem dX11_holds_95 : decode cX11_holds 95 = .ok (.iload_n 2, 1) := by decide +kernel
theorem dX11_holds_96 : decode cX11_holds 96 = .ok (.iadd, 1) := by decide +kernel
theorem dX11_holds_97 : decode cX11_holds 97 = .ok (.imul, 1) := by decide +kernel
theorem dX11_holds_98 : decode cX11_holds 98 = .ok (.bipush 15, 2) := by decide +kernel
theorem dX11_holds_100 : decode cX11_holds 100 = .ok (.isub, 1) := by decide +kernel
theorem dX11_holds_101 : decode cX11_holds 101 = .ok (.istore_n 3, 1) := by decide +kernel
theorem dX11_holds_102 : decode cX11_holds 102 = .ok (.goto 12, 3) := by decide +kernel
theorem dX11_holds_105 : decode cX11_holds 105 = .ok (.aload_n 0, 1) := by decide +kernel
theorem dX11_holds_106 : decode cX11_holds 106 = .ok (.iload_n 1, 1) := by decide +kernel
theorem dX11_holds_107 : decode cX11_holds 107 = .ok (.invokevirtual 149, 3) := by decide +kernel
theorem dX11_holds_110 : decode cX11_holds 110 = .ok (.istore_n 3, 1) := by decide +kernel
theorem dX11_holds_111 : decode cX11_holds 111 = .ok (.goto 3, 3) := by decide +kernel
theorem dX11_holds_114 : decode cX11_holds 114 = .ok (.iload_n 3, 1) := by decide +kernel
theorem dX11_holds_115 : decode cX11_holds 115 = .ok (.iconst 0, 1) := by decide +kernel
theorem dX11_holds_116 : decode cX11_holds 116 = .ok (.bipush 99, 2) := by decide +kernel
theorem dX11_holds_118 : decode cX11_holds 118 = .ok (.invokestatic 143, 3) := by decide +kernel
theorem dX11_holds_121 : decode cX11_holds 121 = .ok (.ireturn, 1) := by decide +kernel
theorem dX11_takes_0 : decode cX11_takes 0 = .ok (.aload_n 0, 1) := by decide +kernel
theorem dX11_takes_1 : decode cX11_takes 1 = .ok (.iload_n 1, 1) := by decide +kernel
theorem dX11_takes_2 : decode cX11_takes 2 = .ok (.iconst 0, 1) := by decide +kernel
theorem dX11_takes_3 : decode cX11_takes 3 = .ok (.invokevirtual 137, 3) := by decide +kernel
theorem dX11_takes_6 : decode cX11_takes 6 = .ok (.istore_n 2, 1) := by decide +kernel
theorem dX11_takes_7 : decode cX11_takes 7 = .ok (.iload_n 2, 1) := by decide +kernel
theorem dX11_takes_8 : decode cX11_takes 8 = .ok (.iconst 2, 1) := by decide +kernel
theorem dX11_takes_9 : decode cX11_takes 9 = .ok (.if_icmp .eq 13, 3) := by decide +kernel
theorem dX11_takes_12 : decode cX11_takes 12 = .ok (.iload_n 2, 1) := by decide +kernel
theorem dX11_takes_13 : decode cX11_takes 13 = .ok (.iconst 4, 1) := by decide +kernel
theorem dX11_takes_14 : decode cX11_takes 14 = .ok (.if_icmp .eq 8, 3) := by decide +kernel
theorem dX11_takes_17 : decode cX11_takes 17 = .ok (.iload_n 2, 1) := by decide +kernel
theorem dX11_takes_18 : decode cX11_takes 18 = .ok (.iconst 5, 1) := by decide +kernel
theorem dX11_takes_19 : decode cX11_takes 19 = .ok (.if_icmp .ne 7, 3) := by decide +kernel
theorem dX11_takes_22 : decode cX11_takes 22 = .ok (.iconst 2, 1) := by decide +kernel
theorem dX11_takes_23 : decode cX11_takes 23 = .ok (.goto 4, 3) := by decide +kernel
theorem dX11_takes_26 : decode cX11_takes 26 = .ok (.iconst 1, 1) := by decide +kernel
theorem dX11_takes_27 : decode cX11_takes 27 = .ok (.ireturn, 1) := by decide +kernel
theorem dX11_strength_0 : decode cX11_strength 0 = .ok (.aload_n 0, 1) := by decide +kernel
theorem dX11_strength_1 : decode cX11_strength 1 = .ok (.iload_n 1, 1) := by decide +kernel
theorem dX11_strength_2 : decode cX11_strength 2 = .ok (.invokestatic 68, 3) := by decide +kernel
theorem dX11_strength_5 : decode cX11_strength 5 = .ok (.invokevirtual 152, 3) := by decide +kernel
theorem dX11_strength_8 : decode cX11_strength 8 = .ok (.aload_n 0, 1) := by decide +kernel
theorem dX11_strength_9 : decode cX11_strength 9 = .ok (.iload_n 1, 1) := by decide +kernel
theorem dX11_strength_10 : decode cX11_strength 10 = .ok (.invokestatic 72, 3) := by decide +kernel
theorem dX11_strength_13 : decode cX11_strength 13 = .ok (.invokevirtual 152, 3) := by decide +kernel
theorem dX11_strength_16 : decode cX11_strength 16 = .ok (.iadd, 1) := by decide +kernel
theorem dX11_strength_17 : decode cX11_strength 17 = .ok (.aload_n 0, 1) := by decide +kernel
theorem dX11_strength_18 : decode cX11_strength 18 = .ok (.iload_n 1, 1) := by decide +kernel
theorem dX11_strength_19 : decode cX11_strength 19 = .ok (.iconst 1, 1) := by decide +kernel
theorem dX11_strength_20 : decode cX11_strength 20 = .ok (.invokevirtual 64, 3) := by decide +kernel
theorem dX11_strength_23 : decode cX11_strength 23 = .ok (.isub, 1) := by decide +kernel
theorem dX11_strength_24 : decode cX11_strength 24 = .ok (.ireturn, 1) := by decide +kernel
theorem dX11_endsAt_0 : decode cX11_endsAt 0 = .ok (.iconst 0, 1) := by decide +kernel
theorem dX11_endsAt_1 : decode cX11_endsAt 1 = .ok (.istore_n 2, 1) := by decide +kernel
theorem dX11_endsAt_2 : decode cX11_endsAt 2 = .ok (.iconst 0, 1) := by decide +kernel
theorem dX11_endsAt_3 : decode cX11_endsAt 3 = .ok (.istore_n 3, 1) := by decide +kernel
theorem dX11_endsAt_4 : decode cX11_endsAt 4 = .ok (.iload_n 3, 1) := by decide +kernel
theorem dX11_endsAt_5 : decode cX11_endsAt 5 = .ok (.bipush 31, 2) := by decide +kernel
theorem dX11_endsAt_7 : decode cX11_endsAt 7 = .ok (.if_icmp .ge 33, 3) := by decide +kernel
theorem dX11_endsAt_10 : decode cX11_endsAt 10 = .ok (.iload_n 2, 1) := by decide +kernel
theorem dX11_endsAt_11 : decode cX11_endsAt 11 = .ok (.iload_n 0, 1) := by decide +kernel
theorem dX11_endsAt_12 : decode cX11_endsAt 12 = .ok (.iload_n 3, 1) := by decide +kernel
theorem dX11_endsAt_13 : decode cX11_endsAt 13 = .ok (.invokestatic 155, 3) := by decide +kernel
theorem dX11_endsAt_16 : decode cX11_endsAt 16 = .ok (.ifCond .eq 15, 3) := by decide +kernel
theorem dX11_endsAt_19 : decode cX11_endsAt 19 = .ok (.iload_n 3, 1) := by decide +kernel
theorem dX11_endsAt_20 : decode cX11_endsAt 20 = .ok (.iload_n 1, 1) := by decide +kernel
theorem dX11_endsAt_21 : decode cX11_endsAt 21 = .ok (.invokestatic 159, 3) := by decide +kernel
theorem dX11_endsAt_24 : decode cX11_endsAt 24 = .ok (.ifCond .eq 7, 3) := by decide +kernel
theorem dX11_endsAt_27 : decode cX11_endsAt 27 = .ok (.iconst 1, 1) := by decide +kernel
theorem dX11_endsAt_28 : decode cX11_endsAt 28 = .ok (.goto 4, 3) := by decide +kernel
theorem dX11_endsAt_31 : decode cX11_endsAt 31 = .ok (.iconst 0, 1) := by decide +kernel
theorem dX11_endsAt_32 : decode cX11_endsAt 32 = .ok (.iadd, 1) := by decide +kernel
theorem dX11_endsAt_33 : decode cX11_endsAt 33 = .ok (.istore_n 2, 1) := by decide +kernel
theorem dX11_endsAt_34 : decode cX11_endsAt 34 = .ok (.iinc 3 1, 3) := by decide +kernel
theorem dX11_endsAt_37 : decode cX11_endsAt 37 = .ok (.goto (-33), 3) := by decide +kernel
theorem dX11_endsAt_40 : decode cX11_endsAt 40 = .ok (.iload_n 2, 1) := by decide +kernel
theorem dX11_endsAt_41 : decode cX11_endsAt 41 = .ok (.ireturn, 1) := by decide +kernel
theorem dX11_tiedBy_0 : decode cX11_tiedBy 0 = .ok (.aload_n 0, 1) := by decide +kernel
theorem dX11_tiedBy_1 : decode cX11_tiedBy 1 = .ok (.getfield 7, 3) := by decide +kernel
theorem dX11_tiedBy_4 : decode cX11_tiedBy 4 = .ok (.bipush 8, 2) := by decide +kernel
theorem dX11_tiedBy_6 : decode cX11_tiedBy 6 = .ok (.iconst 4, 1) := by decide +kernel
theorem dX11_tiedBy_7 : decode cX11_tiedBy 7 = .ok (.iload_n 1, 1) := by decide +kernel
theorem dX11_tiedBy_8 : decode cX11_tiedBy 8 = .ok (.imul, 1) := by decide +kernel
theorem dX11_tiedBy_9 : decode cX11_tiedBy 9 = .ok (.iadd, 1) := by decide +kernel
theorem dX11_tiedBy_10 : decode cX11_tiedBy 10 = .ok (.iconst 2, 1) := by decide +kernel
theorem dX11_tiedBy_11 : decode cX11_tiedBy 11 = .ok (.iadd, 1) := by decide +kernel
theorem dX11_tiedBy_12 : decode cX11_tiedBy 12 = .ok (.iload_n 2, 1) := by decide +kernel
theorem dX11_tiedBy_13 : decode cX11_tiedBy 13 = .ok (.iastore, 1) := by decide +kernel
theorem dX11_tiedBy_14 : decode cX11_tiedBy 14 = .ok (.aload_n 0, 1) := by decide +kernel
theorem dX11_tiedBy_15 : decode cX11_tiedBy 15 = .ok (.getfield 7, 3) := by decide +kernel
theorem dX11_tiedBy_18 : decode cX11_tiedBy 18 = .ok (.bipush 8, 2) := by decide +kernel
theorem dX11_tiedBy_20 : decode cX11_tiedBy 20 = .ok (.iconst 4, 1) := by decide +kernel
theorem dX11_tiedBy_21 : decode cX11_tiedBy 21 = .ok (.iload_n 1, 1) := by decide +kernel
theorem dX11_tiedBy_22 : decode cX11_tiedBy 22 = .ok (.imul, 1) := by decide +kernel
theorem dX11_tiedBy_23 : decode cX11_tiedBy 23 = .ok (.iadd, 1) := by decide +kernel
theorem dX11_tiedBy_24 : decode cX11_tiedBy 24 = .ok (.iconst 3, 1) := by decide +kernel
theorem dX11_tiedBy_25 : decode cX11_tiedBy 25 = .ok (.iadd, 1) := by decide +kernel
theorem dX11_tiedBy_26 : decode cX11_tiedBy 26 = .ok (.aload_n 0, 1) := by decide +kernel
theorem dX11_tiedBy_27 : decode cX11_tiedBy 27 = .ok (.getfield 7, 3) := by decide +kernel
theorem dX11_tiedBy_30 : decode cX11_tiedBy 30 = .ok (.iconst 0, 1) := by decide +kernel
theorem dX11_tiedBy_31 : decode cX11_tiedBy 31 = .ok (.iaload, 1) := by decide +kernel
theorem dX11_tiedBy_32 : decode cX11_tiedBy 32 = .ok (.iastore, 1) := by decide +kernel
theorem dX11_tiedBy_33 : decode cX11_tiedBy 33 = .ok (.return_, 1) := by decide +kernel
theorem dX11_tie_0 : decode cX11_tie 0 = .ok (.iload_n 1, 1) := by decide +kernel
theorem dX11_tie_1 : decode cX11_tie 1 = .ok (.invokestatic 162, 3) := by decide +kernel
theorem dX11_tie_4 : decode cX11_tie 4 = .ok (.ifCond .eq 20, 3) := by decide +kernel
theorem dX11_tie_7 : decode cX11_tie 7 = .ok (.iload_n 2, 1) := by decide +kernel
theorem dX11_tie_8 : decode cX11_tie 8 = .ok (.iconst 0, 1) := by decide +kernel
theorem dX11_tie_9 : decode cX11_tie 9 = .ok (.bipush 69, 2) := by decide +kernel
theorem dX11_tie_11 : decode cX11_tie 11 = .ok (.invokestatic 60, 3) := by decide +kernel
theorem dX11_tie_14 : decode cX11_tie 14 = .ok (.ifCond .eq 10, 3) := by decide +kernel
theorem dX11_tie_17 : decode cX11_tie 17 = .ok (.iload_n 3, 1) := by decide +kernel
theorem dX11_tie_18 : decode cX11_tie 18 = .ok (.invokestatic 165, 3) := by decide +kernel
theorem dX11_tie_21 : decode cX11_tie 21 = .ok (.ifCond .ne 9, 3) := by decide +kernel
theorem dX11_tie_24 : decode cX11_tie 24 = .ok (.aload_n 0, 1) := by decide +kernel
theorem dX11_tie_25 : decode cX11_tie 25 = .ok (.iconst 1, 1) := by decide +kernel
theorem dX11_tie_26 : decode cX11_tie 26 = .ok (.invokevirtual 79, 3) := by decide +kernel
theorem dX11_tie_29 : decode cX11_tie 29 = .ok (.ireturn, 1) := by decide +kernel
theorem dX11_tie_30 : decode cX11_tie 30 = .ok (.bipush 10, 2) := by decide +kernel
theorem dX11_tie_32 : decode cX11_tie 32 = .ok (.aload_n 0, 1) := by decide +kernel
theorem dX11_tie_33 : decode cX11_tie 33 = .ok (.iload_n 1, 1) := by decide +kernel
theorem dX11_tie_34 : decode cX11_tie 34 = .ok (.iconst 0, 1) := by decide +kernel
theorem dX11_tie_35 : decode cX11_tie 35 = .ok (.invokevirtual 137, 3) := by decide +kernel
theorem dX11_tie_38 : decode cX11_tie 38 = .ok (.imul, 1) := by decide +kernel
theorem dX11_tie_39 : decode cX11_tie 39 = .ok (.aload_n 0, 1) := by decide +kernel
theorem dX11_tie_40 : decode cX11_tie 40 = .ok (.iload_n 1, 1) := by decide +kernel
theorem dX11_tie_41 : decode cX11_tie 41 = .ok (.iconst 1, 1) := by decide +kernel
theorem dX11_tie_42 : decode cX11_tie 42 = .ok (.invokevirtual 137, 3) := by decide +kernel
theorem dX11_tie_45 : decode cX11_tie 45 = .ok (.iadd, 1) := by decide +kernel
theorem dX11_tie_46 : decode cX11_tie 46 = .ok (.istore 4, 2) := by decide +kernel
theorem dX11_tie_48 : decode cX11_tie 48 = .ok (.aload_n 0, 1) := by decide +kernel
theorem dX11_tie_49 : decode cX11_tie 49 = .ok (.getfield 7, 3) := by decide +kernel
theorem dX11_tie_52 : decode cX11_tie 52 = .ok (.bipush 8, 2) := by decide +kernel
theorem dX11_tie_54 : decode cX11_tie 54 = .ok (.iconst 4, 1) := by decide +kernel
theorem dX11_tie_55 : decode cX11_tie 55 = .ok (.iload_n 1, 1) := by decide +kernel
theorem dX11_tie_56 : decode cX11_tie 56 = .ok (.imul, 1) := by decide +kernel
theorem dX11_tie_57 : decode cX11_tie 57 = .ok (.iadd, 1) := by decide +kernel
theorem dX11_tie_58 : decode cX11_tie 58 = .ok (.iconst 0, 1) := by decide +kernel
theorem dX11_tie_59 : decode cX11_tie 59 = .ok (.iadd, 1) := by decide +kernel
theorem dX11_tie_60 : decode cX11_tie 60 = .ok (.iload_n 2, 1) := by decide +kernel
theorem dX11_tie_61 : decode cX11_tie 61 = .ok (.bipush 10, 2) := by decide +kernel
theorem dX11_tie_63 : decode cX11_tie 63 = .ok (.idiv, 1) := by decide +kernel
theorem dX11_tie_64 : decode cX11_tie 64 = .ok (.iastore, 1) := by decide +kernel
theorem dX11_tie_65 : decode cX11_tie 65 = .ok (.aload_n 0, 1) := by decide +kernel
theorem dX11_tie_66 : decode cX11_tie 66 = .ok (.getfield 7, 3) := by decide +kernel
theorem dX11_tie_69 : decode cX11_tie 69 = .ok (.bipush 8, 2) := by decide +kernel
theorem dX11_tie_71 : decode cX11_tie 71 = .ok (.iconst 4, 1) := by decide +kernel
theorem dX11_tie_72 : decode cX11_tie 72 = .ok (.iload_n 1, 1) := by decide +kernel
theorem dX11_tie_73 : decode cX11_tie 73 = .ok (.imul, 1) := by decide +kernel
theorem dX11_tie_74 : decode cX11_tie 74 = .ok (.iadd, 1) := by decide +kernel
theorem dX11_tie_75 : decode cX11_tie 75 = .ok (.iconst 1, 1) := by decide +kernel
theorem dX11_tie_76 : decode cX11_tie 76 = .ok (.iadd, 1) := by decide +kernel
theorem dX11_tie_77 : decode cX11_tie 77 = .ok (.iload_n 2, 1) := by decide +kernel
theorem dX11_tie_78 : decode cX11_tie 78 = .ok (.bipush 10, 2) := by decide +kernel
theorem dX11_tie_80 : decode cX11_tie 80 = .ok (.irem, 1) := by decide +kernel
theorem dX11_tie_81 : decode cX11_tie 81 = .ok (.iastore, 1) := by decide +kernel
theorem dX11_tie_82 : decode cX11_tie 82 = .ok (.aload_n 0, 1) := by decide +kernel
theorem dX11_tie_83 : decode cX11_tie 83 = .ok (.iload_n 1, 1) := by decide +kernel
theorem dX11_tie_84 : decode cX11_tie 84 = .ok (.iload_n 3, 1) := by decide +kernel
theorem dX11_tie_85 : decode cX11_tie 85 = .ok (.invokevirtual 168, 3) := by decide +kernel
theorem dX11_tie_88 : decode cX11_tie 88 = .ok (.iload 4, 2) := by decide +kernel
theorem dX11_tie_90 : decode cX11_tie 90 = .ok (.ireturn, 1) := by decide +kernel
theorem dX11_knotIs_0 : decode cX11_knotIs 0 = .ok (.iload_n 1, 1) := by decide +kernel
theorem dX11_knotIs_1 : decode cX11_knotIs 1 = .ok (.invokestatic 162, 3) := by decide +kernel
theorem dX11_knotIs_4 : decode cX11_knotIs 4 = .ok (.ifCond .eq 13, 3) := by decide +kernel
theorem dX11_knotIs_7 : decode cX11_knotIs 7 = .ok (.iload_n 2, 1) := by decide +kernel
theorem dX11_knotIs_8 : decode cX11_knotIs 8 = .ok (.iconst 0, 1) := by decide +kernel
theorem dX11_knotIs_9 : decode cX11_knotIs 9 = .ok (.bipush 6, 2) := by decide +kernel
theorem dX11_knotIs_11 : decode cX11_knotIs 11 = .ok (.invokestatic 60, 3) := by decide +kernel
theorem dX11_knotIs_14 : decode cX11_knotIs 14 = .ok (.ifCond .ne 9, 3) := by decide +kernel
theorem dX11_knotIs_17 : decode cX11_knotIs 17 = .ok (.aload_n 0, 1) := by decide +kernel
theorem dX11_knotIs_18 : decode cX11_knotIs 18 = .ok (.iconst 1, 1) := by decide +kernel
theorem dX11_knotIs_19 : decode cX11_knotIs 19 = .ok (.invokevirtual 79, 3) := by decide +kernel
theorem dX11_knotIs_22 : decode cX11_knotIs 22 = .ok (.ireturn, 1) := by decide +kernel
theorem dX11_knotIs_23 : decode cX11_knotIs 23 = .ok (.iload_n 2, 1) := by decide +kernel
theorem dX11_knotIs_24 : decode cX11_knotIs 24 = .ok (.iconst 4, 1) := by decide +kernel
theorem dX11_knotIs_25 : decode cX11_knotIs 25 = .ok (.if_icmp .ge 12, 3) := by decide +kernel
theorem dX11_knotIs_28 : decode cX11_knotIs 28 = .ok (.aload_n 0, 1) := by decide +kernel
theorem dX11_knotIs_29 : decode cX11_knotIs 29 = .ok (.iload_n 1, 1) := by decide +kernel
theorem dX11_knotIs_30 : decode cX11_knotIs 30 = .ok (.iload_n 2, 1) := by decide +kernel
theorem dX11_knotIs_31 : decode cX11_knotIs 31 = .ok (.invokevirtual 137, 3) := by decide +kernel
theorem dX11_knotIs_34 : decode cX11_knotIs 34 = .ok (.goto 37, 3) := by decide +kernel
theorem dX11_knotIs_37 : decode cX11_knotIs 37 = .ok (.iload_n 2, 1) := by decide +kernel
theorem dX11_knotIs_38 : decode cX11_knotIs 38 = .ok (.iconst 4, 1) := by decide +kernel
theorem dX11_knotIs_39 : decode cX11_knotIs 39 = .ok (.if_icmp .ne 11, 3) := by decide +kernel
theorem dX11_knotIs_42 : decode cX11_knotIs 42 = .ok (.aload_n 0, 1) := by decide +kernel
theorem dX11_knotIs_43 : decode cX11_knotIs 43 = .ok (.iload_n 1, 1) := by decide +kernel
theorem dX11_knotIs_44 : decode cX11_knotIs 44 = .ok (.invokevirtual 152, 3) := by decide +kernel
theorem dX11_knotIs_47 : decode cX11_knotIs 47 = .ok (.goto 24, 3) := by decide +kernel
theorem dX11_knotIs_50 : decode cX11_knotIs 50 = .ok (.iload_n 2, 1) := by decide +kernel
theorem dX11_knotIs_51 : decode cX11_knotIs 51 = .ok (.iconst 5, 1) := by decide +kernel
theorem dX11_knotIs_52 : decode cX11_knotIs 52 = .ok (.if_icmp .ne 11, 3) := by decide +kernel
theorem dX11_knotIs_55 : decode cX11_knotIs 55 = .ok (.aload_n 0, 1) := by decide +kernel
theorem dX11_knotIs_56 : decode cX11_knotIs 56 = .ok (.iload_n 1, 1) := by decide +kernel
theorem dX11_knotIs_57 : decode cX11_knotIs 57 = .ok (.invokevirtual 171, 3) := by decide +kernel
theorem dX11_knotIs_60 : decode cX11_knotIs 60 = .ok (.goto 11, 3) := by decide +kernel
theorem dX11_knotIs_63 : decode cX11_knotIs 63 = .ok (.aload_n 0, 1) := by decide +kernel
theorem dX11_knotIs_64 : decode cX11_knotIs 64 = .ok (.invokevirtual 174, 3) := by decide +kernel
theorem dX11_knotIs_67 : decode cX11_knotIs 67 = .ok (.iload_n 1, 1) := by decide +kernel
theorem dX11_knotIs_68 : decode cX11_knotIs 68 = .ok (.invokestatic 177, 3) := by decide +kernel
theorem dX11_knotIs_71 : decode cX11_knotIs 71 = .ok (.ireturn, 1) := by decide +kernel
theorem dX11_isUnder_0 : decode cX11_isUnder 0 = .ok (.iload_n 1, 1) := by decide +kernel
theorem dX11_isUnder_1 : decode cX11_isUnder 1 = .ok (.ifCond .eq 28, 3) := by decide +kernel
theorem dX11_isUnder_4 : decode cX11_isUnder 4 = .ok (.iload_n 0, 1) := by decide +kernel
theorem dX11_isUnder_5 : decode cX11_isUnder 5 = .ok (.iload_n 1, 1) := by decide +kernel
theorem dX11_isUnder_6 : decode cX11_isUnder 6 = .ok (.if_icmp .eq 23, 3) := by decide +kernel
theorem dX11_isUnder_9 : decode cX11_isUnder 9 = .ok (.iload_n 1, 1) := by decide +kernel
theorem dX11_isUnder_10 : decode cX11_isUnder 10 = .ok (.iconst 1, 1) := by decide +kernel
theorem dX11_isUnder_11 : decode cX11_isUnder 11 = .ok (.if_icmp .ne 8, 3) := by decide +kernel
theorem dX11_isUnder_14 : decode cX11_isUnder 14 = .ok (.iload_n 0, 1) := by decide +kernel
theorem dX11_isUnder_15 : decode cX11_isUnder 15 = .ok (.iconst 4, 1) := by decide +kernel
theorem dX11_isUnder_16 : decode cX11_isUnder 16 = .ok (.if_icmp .eq 13, 3) := by decide +kernel
theorem dX11_isUnder_19 : decode cX11_isUnder 19 = .ok (.iload_n 1, 1) := by decide +kernel
theorem dX11_isUnder_20 : decode cX11_isUnder 20 = .ok (.iconst 2, 1) := by decide +kernel
theorem dX11_isUnder_21 : decode cX11_isUnder 21 = .ok (.if_icmp .ne 12, 3) := by decide +kernel
theorem dX11_isUnder_24 : decode cX11_isUnder 24 = .ok (.iload_n 0, 1) := by decide +kernel
theorem dX11_isUnder_25 : decode cX11_isUnder 25 = .ok (.iconst 5, 1) := by decide +kernel
theorem dX11_isUnder_26 : decode cX11_isUnder 26 = .ok (.if_icmp .ne 7, 3) := by decide +kernel
theorem dX11_isUnder_29 : decode cX11_isUnder 29 = .ok (.iconst 1, 1) := by decide +kernel
theorem dX11_isUnder_30 : decode cX11_isUnder 30 = .ok (.goto 4, 3) := by decide +kernel
theorem dX11_isUnder_33 : decode cX11_isUnder 33 = .ok (.iconst 0, 1) := by decide +kernel
theorem dX11_isUnder_34 : decode cX11_isUnder 34 = .ok (.ireturn, 1) := by decide +kernel
theorem dX11_as_0 : decode cX11_as 0 = .ok (.iload_n 1, 1) := by decide +kernel
theorem dX11_as_1 : decode cX11_as 1 = .ok (.invokestatic 162, 3) := by decide +kernel
theorem dX11_as_4 : decode cX11_as 4 = .ok (.ifCond .eq 13, 3) := by decide +kernel
theorem dX11_as_7 : decode cX11_as 7 = .ok (.iload_n 2, 1) := by decide +kernel
theorem dX11_as_8 : decode cX11_as 8 = .ok (.iconst 0, 1) := by decide +kernel
theorem dX11_as_9 : decode cX11_as 9 = .ok (.bipush 6, 2) := by decide +kernel
theorem dX11_as_11 : decode cX11_as 11 = .ok (.invokestatic 60, 3) := by decide +kernel
theorem dX11_as_14 : decode cX11_as 14 = .ok (.ifCond .ne 9, 3) := by decide +kernel
theorem dX11_as_17 : decode cX11_as 17 = .ok (.aload_n 0, 1) := by decide +kernel
theorem dX11_as_18 : decode cX11_as 18 = .ok (.iconst 1, 1) := by decide +kernel
theorem dX11_as_19 : decode cX11_as 19 = .ok (.invokevirtual 79, 3) := by decide +kernel
theorem dX11_as_22 : decode cX11_as 22 = .ok (.ireturn, 1) := by decide +kernel
theorem dX11_as_23 : decode cX11_as 23 = .ok (.aload_n 0, 1) := by decide +kernel
theorem dX11_as_24 : decode cX11_as 24 = .ok (.iload_n 1, 1) := by decide +kernel
theorem dX11_as_25 : decode cX11_as 25 = .ok (.iconst 0, 1) := by decide +kernel
theorem dX11_as_26 : decode cX11_as 26 = .ok (.invokevirtual 137, 3) := by decide +kernel
theorem dX11_as_29 : decode cX11_as 29 = .ok (.iload_n 2, 1) := by decide +kernel
theorem dX11_as_30 : decode cX11_as 30 = .ok (.invokestatic 180, 3) := by decide +kernel
theorem dX11_as_33 : decode cX11_as 33 = .ok (.ifCond .eq 11, 3) := by decide +kernel
theorem dX11_as_36 : decode cX11_as 36 = .ok (.aload_n 0, 1) := by decide +kernel
theorem dX11_as_37 : decode cX11_as 37 = .ok (.iload_n 1, 1) := by decide +kernel
theorem dX11_as_38 : decode cX11_as 38 = .ok (.invokevirtual 152, 3) := by decide +kernel
theorem dX11_as_41 : decode cX11_as 41 = .ok (.goto 8, 3) := by decide +kernel
theorem dX11_as_44 : decode cX11_as 44 = .ok (.aload_n 0, 1) := by decide +kernel
theorem dX11_as_45 : decode cX11_as 45 = .ok (.iconst 5, 1) := by decide +kernel
theorem dX11_as_46 : decode cX11_as 46 = .ok (.invokevirtual 79, 3) := by decide +kernel
theorem dX11_as_49 : decode cX11_as 49 = .ok (.ireturn, 1) := by decide +kernel
theorem dX11_toldThread_0 : decode cX11_toldThread 0 = .ok (.iload_n 2, 1) := by decide +kernel
theorem dX11_toldThread_1 : decode cX11_toldThread 1 = .ok (.iconst 3, 1) := by decide +kernel
theorem dX11_toldThread_2 : decode cX11_toldThread 2 = .ok (.if_icmp .ge 12, 3) := by decide +kernel
theorem dX11_toldThread_5 : decode cX11_toldThread 5 = .ok (.aload_n 0, 1) := by decide +kernel
theorem dX11_toldThread_6 : decode cX11_toldThread 6 = .ok (.iload_n 1, 1) := by decide +kernel
theorem dX11_toldThread_7 : decode cX11_toldThread 7 = .ok (.iload_n 2, 1) := by decide +kernel
theorem dX11_toldThread_8 : decode cX11_toldThread 8 = .ok (.invokevirtual 64, 3) := by decide +kernel
theorem dX11_toldThread_11 : decode cX11_toldThread 11 = .ok (.goto 32, 3) := by decide +kernel
theorem dX11_toldThread_14 : decode cX11_toldThread 14 = .ok (.iload_n 2, 1) := by decide +kernel
theorem dX11_toldThread_15 : decode cX11_toldThread 15 = .ok (.iconst 3, 1) := by decide +kernel
theorem dX11_toldThread_16 : decode cX11_toldThread 16 = .ok (.if_icmp .ne 11, 3) := by decide +kernel
theorem dX11_toldThread_19 : decode cX11_toldThread 19 = .ok (.aload_n 0, 1) := by decide +kernel
theorem dX11_toldThread_20 : decode cX11_toldThread 20 = .ok (.iload_n 1, 1) := by decide +kernel
theorem dX11_toldThread_21 : decode cX11_toldThread 21 = .ok (.invokevirtual 183, 3) := by decide +kernel
theorem dX11_toldThread_24 : decode cX11_toldThread 24 = .ok (.goto 19, 3) := by decide +kernel
theorem dX11_toldThread_27 : decode cX11_toldThread 27 = .ok (.iload_n 2, 1) := by decide +kernel
theorem dX11_toldThread_28 : decode cX11_toldThread 28 = .ok (.iconst 4, 1) := by decide +kernel
theorem dX11_toldThread_29 : decode cX11_toldThread 29 = .ok (.if_icmp .ne 10, 3) := by decide +kernel
theorem dX11_toldThread_32 : decode cX11_toldThread 32 = .ok (.iload_n 1, 1) := by decide +kernel
theorem dX11_toldThread_33 : decode cX11_toldThread 33 = .ok (.invokestatic 68, 3) := by decide +kernel
theorem dX11_toldThread_36 : decode cX11_toldThread 36 = .ok (.goto 7, 3) := by decide +kernel
theorem dX11_toldThread_39 : decode cX11_toldThread 39 = .ok (.iload_n 1, 1) := by decide +kernel
theorem dX11_toldThread_40 : decode cX11_toldThread 40 = .ok (.invokestatic 72, 3) := by decide +kernel
theorem dX11_toldThread_43 : decode cX11_toldThread 43 = .ok (.ireturn, 1) := by decide +kernel
theorem dX11_threadIs_0 : decode cX11_threadIs 0 = .ok (.iload_n 1, 1) := by decide +kernel
theorem dX11_threadIs_1 : decode cX11_threadIs 1 = .ok (.invokestatic 186, 3) := by decide +kernel
theorem dX11_threadIs_4 : decode cX11_threadIs 4 = .ok (.ifCond .eq 21, 3) := by decide +kernel
theorem dX11_threadIs_7 : decode cX11_threadIs 7 = .ok (.iload_n 2, 1) := by decide +kernel
theorem dX11_threadIs_8 : decode cX11_threadIs 8 = .ok (.iconst 0, 1) := by decide +kernel
theorem dX11_threadIs_9 : decode cX11_threadIs 9 = .ok (.iconst 5, 1) := by decide +kernel
theorem dX11_threadIs_10 : decode cX11_threadIs 10 = .ok (.invokestatic 60, 3) := by decide +kernel
theorem dX11_threadIs_13 : decode cX11_threadIs 13 = .ok (.ifCond .eq 12, 3) := by decide +kernel
theorem dX11_threadIs_16 : decode cX11_threadIs 16 = .ok (.aload_n 0, 1) := by decide +kernel
theorem dX11_threadIs_17 : decode cX11_threadIs 17 = .ok (.iload_n 1, 1) := by decide +kernel
theorem dX11_threadIs_18 : decode cX11_threadIs 18 = .ok (.iload_n 2, 1) := by decide +kernel
theorem dX11_threadIs_19 : decode cX11_threadIs 19 = .ok (.invokevirtual 189, 3) := by decide +kernel
theorem dX11_threadIs_22 : decode cX11_threadIs 22 = .ok (.goto 8, 3) := by decide +kernel
theorem dX11_threadIs_25 : decode cX11_threadIs 25 = .ok (.aload_n 0, 1) := by decide +kernel
theorem dX11_threadIs_26 : decode cX11_threadIs 26 = .ok (.iconst 1, 1) := by decide +kernel
theorem dX11_threadIs_27 : decode cX11_threadIs 27 = .ok (.invokevirtual 79, 3) := by decide +kernel
theorem dX11_threadIs_30 : decode cX11_threadIs 30 = .ok (.ireturn, 1) := by decide +kernel
theorem dX11_loses_0 : decode cX11_loses 0 = .ok (.aload_n 0, 1) := by decide +kernel
theorem dX11_loses_1 : decode cX11_loses 1 = .ok (.getfield 7, 3) := by decide +kernel
theorem dX11_loses_4 : decode cX11_loses 4 = .ok (.bipush 88, 2) := by decide +kernel
theorem dX11_loses_6 : decode cX11_loses 6 = .ok (.iconst 3, 1) := by decide +kernel
theorem dX11_loses_7 : decode cX11_loses 7 = .ok (.iload_n 1, 1) := by decide +kernel
theorem dX11_loses_8 : decode cX11_loses 8 = .ok (.imul, 1) := by decide +kernel
theorem dX11_loses_9 : decode cX11_loses 9 = .ok (.iadd, 1) := by decide +kernel
theorem dX11_loses_10 : decode cX11_loses 10 = .ok (.iconst 0, 1) := by decide +kernel
theorem dX11_loses_11 : decode cX11_loses 11 = .ok (.iadd, 1) := by decide +kernel
theorem dX11_loses_12 : decode cX11_loses 12 = .ok (.iconst 0, 1) := by decide +kernel
theorem dX11_loses_13 : decode cX11_loses 13 = .ok (.iastore, 1) := by decide +kernel
theorem dX11_loses_14 : decode cX11_loses 14 = .ok (.aload_n 0, 1) := by decide +kernel
theorem dX11_loses_15 : decode cX11_loses 15 = .ok (.getfield 7, 3) := by decide +kernel
theorem dX11_loses_18 : decode cX11_loses 18 = .ok (.bipush 88, 2) := by decide +kernel
theorem dX11_loses_20 : decode cX11_loses 20 = .ok (.iconst 3, 1) := by decide +kernel
theorem dX11_loses_21 : decode cX11_loses 21 = .ok (.iload_n 1, 1) := by decide +kernel
theorem dX11_loses_22 : decode cX11_loses 22 = .ok (.imul, 1) := by decide +kernel
theorem dX11_loses_23 : decode cX11_loses 23 = .ok (.iadd, 1) := by decide +kernel
theorem dX11_loses_24 : decode cX11_loses 24 = .ok (.iconst 1, 1) := by decide +kernel
theorem dX11_loses_25 : decode cX11_loses 25 = .ok (.iadd, 1) := by decide +kernel
theorem dX11_loses_26 : decode cX11_loses 26 = .ok (.iconst 0, 1) := by decide +kernel
theorem dX11_loses_27 : decode cX11_loses 27 = .ok (.iastore, 1) := by decide +kernel
theorem dX11_loses_28 : decode cX11_loses 28 = .ok (.return_, 1) := by decide +kernel
theorem dX11_renews_0 : decode cX11_renews 0 = .ok (.aload_n 0, 1) := by decide +kernel
theorem dX11_renews_1 : decode cX11_renews 1 = .ok (.getfield 7, 3) := by decide +kernel
theorem dX11_renews_4 : decode cX11_renews 4 = .ok (.bipush 88, 2) := by decide +kernel
theorem dX11_renews_6 : decode cX11_renews 6 = .ok (.iconst 3, 1) := by decide +kernel
theorem dX11_renews_7 : decode cX11_renews 7 = .ok (.iload_n 1, 1) := by decide +kernel
theorem dX11_renews_8 : decode cX11_renews 8 = .ok (.imul, 1) := by decide +kernel
theorem dX11_renews_9 : decode cX11_renews 9 = .ok (.iadd, 1) := by decide +kernel
theorem dX11_renews_10 : decode cX11_renews 10 = .ok (.iconst 0, 1) := by decide +kernel
theorem dX11_renews_11 : decode cX11_renews 11 = .ok (.iadd, 1) := by decide +kernel
theorem dX11_renews_12 : decode cX11_renews 12 = .ok (.iconst 1, 1) := by decide +kernel
theorem dX11_renews_13 : decode cX11_renews 13 = .ok (.iastore, 1) := by decide +kernel
theorem dX11_renews_14 : decode cX11_renews 14 = .ok (.aload_n 0, 1) := by decide +kernel
theorem dX11_renews_15 : decode cX11_renews 15 = .ok (.getfield 7, 3) := by decide +kernel
theorem dX11_renews_18 : decode cX11_renews 18 = .ok (.bipush 88, 2) := by decide +kernel
theorem dX11_renews_20 : decode cX11_renews 20 = .ok (.iconst 3, 1) := by decide +kernel
theorem dX11_renews_21 : decode cX11_renews 21 = .ok (.iload_n 1, 1) := by decide +kernel
theorem dX11_renews_22 : decode cX11_renews 22 = .ok (.imul, 1) := by decide +kernel
theorem dX11_renews_23 : decode cX11_renews 23 = .ok (.iadd, 1) := by decide +kernel
theorem dX11_renews_24 : decode cX11_renews 24 = .ok (.iconst 1, 1) := by decide +kernel
theorem dX11_renews_25 : decode cX11_renews 25 = .ok (.iadd, 1) := by decide +kernel
theorem dX11_renews_26 : decode cX11_renews 26 = .ok (.iconst 0, 1) := by decide +kernel
theorem dX11_renews_27 : decode cX11_renews 27 = .ok (.iastore, 1) := by decide +kernel
theorem dX11_renews_28 : decode cX11_renews 28 = .ok (.aload_n 0, 1) := by decide +kernel
theorem dX11_renews_29 : decode cX11_renews 29 = .ok (.getfield 7, 3) := by decide +kernel
theorem dX11_renews_32 : decode cX11_renews 32 = .ok (.bipush 88, 2) := by decide +kernel
theorem dX11_renews_34 : decode cX11_renews 34 = .ok (.iconst 3, 1) := by decide +kernel
theorem dX11_renews_35 : decode cX11_renews 35 = .ok (.iload_n 1, 1) := by decide +kernel
theorem dX11_renews_36 : decode cX11_renews 36 = .ok (.imul, 1) := by decide +kernel
theorem dX11_renews_37 : decode cX11_renews 37 = .ok (.iadd, 1) := by decide +kernel
theorem dX11_renews_38 : decode cX11_renews 38 = .ok (.iconst 2, 1) := by decide +kernel
theorem dX11_renews_39 : decode cX11_renews 39 = .ok (.iadd, 1) := by decide +kernel
theorem dX11_renews_40 : decode cX11_renews 40 = .ok (.aload_n 0, 1) := by decide +kernel
theorem dX11_renews_41 : decode cX11_renews 41 = .ok (.getfield 7, 3) := by decide +kernel
theorem dX11_renews_44 : decode cX11_renews 44 = .ok (.iconst 0, 1) := by decide +kernel
theorem dX11_renews_45 : decode cX11_renews 45 = .ok (.iaload, 1) := by decide +kernel
theorem dX11_renews_46 : decode cX11_renews 46 = .ok (.iastore, 1) := by decide +kernel
theorem dX11_renews_47 : decode cX11_renews 47 = .ok (.return_, 1) := by decide +kernel
theorem dX11_cut_0 : decode cX11_cut 0 = .ok (.iload_n 1, 1) := by decide +kernel
theorem dX11_cut_1 : decode cX11_cut 1 = .ok (.invokestatic 186, 3) := by decide +kernel
theorem dX11_cut_4 : decode cX11_cut 4 = .ok (.ifCond .ne 9, 3) := by decide +kernel
theorem dX11_cut_7 : decode cX11_cut 7 = .ok (.aload_n 0, 1) := by decide +kernel
theorem dX11_cut_8 : decode cX11_cut 8 = .ok (.iconst 1, 1) := by decide +kernel
theorem dX11_cut_9 : decode cX11_cut 9 = .ok (.invokevirtual 79, 3) := by decide +kernel
theorem dX11_cut_12 : decode cX11_cut 12 = .ok (.ireturn, 1) := by decide +kernel
theorem dX11_cut_13 : decode cX11_cut 13 = .ok (.aload_n 0, 1) := by decide +kernel
theorem dX11_cut_14 : decode cX11_cut 14 = .ok (.iload_n 1, 1) := by decide +kernel
theorem dX11_cut_15 : decode cX11_cut 15 = .ok (.invokevirtual 75, 3) := by decide +kernel
theorem dX11_cut_18 : decode cX11_cut 18 = .ok (.ifCond .eq 9, 3) := by decide +kernel
theorem dX11_cut_21 : decode cX11_cut 21 = .ok (.aload_n 0, 1) := by decide +kernel
theorem dX11_cut_22 : decode cX11_cut 22 = .ok (.iconst 3, 1) := by decide +kernel
theorem dX11_cut_23 : decode cX11_cut 23 = .ok (.invokevirtual 79, 3) := by decide +kernel
theorem dX11_cut_26 : decode cX11_cut 26 = .ok (.ireturn, 1) := by decide +kernel
theorem dX11_cut_27 : decode cX11_cut 27 = .ok (.aload_n 0, 1) := by decide +kernel
theorem dX11_cut_28 : decode cX11_cut 28 = .ok (.iload_n 1, 1) := by decide +kernel
theorem dX11_cut_29 : decode cX11_cut 29 = .ok (.invokevirtual 192, 3) := by decide +kernel
theorem dX11_cut_32 : decode cX11_cut 32 = .ok (.aload_n 0, 1) := by decide +kernel
theorem dX11_cut_33 : decode cX11_cut 33 = .ok (.invokevirtual 196, 3) := by decide +kernel
theorem dX11_cut_36 : decode cX11_cut 36 = .ok (.ireturn, 1) := by decide +kernel
theorem dX11_wear_0 : decode cX11_wear 0 = .ok (.iload_n 1, 1) := by decide +kernel
theorem dX11_wear_1 : decode cX11_wear 1 = .ok (.invokestatic 186, 3) := by decide +kernel
theorem dX11_wear_4 : decode cX11_wear 4 = .ok (.ifCond .eq 13, 3) := by decide +kernel
theorem dX11_wear_7 : decode cX11_wear 7 = .ok (.iload_n 2, 1) := by decide +kernel
theorem dX11_wear_8 : decode cX11_wear 8 = .ok (.iconst 0, 1) := by decide +kernel
theorem dX11_wear_9 : decode cX11_wear 9 = .ok (.bipush 99, 2) := by decide +kernel
theorem dX11_wear_11 : decode cX11_wear 11 = .ok (.invokestatic 60, 3) := by decide +kernel
theorem dX11_wear_14 : decode cX11_wear 14 = .ok (.ifCond .ne 9, 3) := by decide +kernel
theorem dX11_wear_17 : decode cX11_wear 17 = .ok (.aload_n 0, 1) := by decide +kernel
theorem dX11_wear_18 : decode cX11_wear 18 = .ok (.iconst 1, 1) := by decide +kernel
theorem dX11_wear_19 : decode cX11_wear 19 = .ok (.invokevirtual 79, 3) := by decide +kernel
theorem dX11_wear_22 : decode cX11_wear 22 = .ok (.ireturn, 1) := by decide +kernel
theorem dX11_wear_23 : decode cX11_wear 23 = .ok (.aload_n 0, 1) := by decide +kernel
theorem dX11_wear_24 : decode cX11_wear 24 = .ok (.iload_n 1, 1) := by decide +kernel
theorem dX11_wear_25 : decode cX11_wear 25 = .ok (.invokevirtual 75, 3) := by decide +kernel
theorem dX11_wear_28 : decode cX11_wear 28 = .ok (.ifCond .eq 11, 3) := by decide +kernel
theorem dX11_wear_31 : decode cX11_wear 31 = .ok (.aload_n 0, 1) := by decide +kernel
theorem dX11_wear_32 : decode cX11_wear 32 = .ok (.iconst 3, 1) := by decide +kernel
theorem dX11_wear_33 : decode cX11_wear 33 = .ok (.invokevirtual 79, 3) := by decide +kernel
theorem dX11_wear_36 : decode cX11_wear 36 = .ok (.goto 16, 3) := by decide +kernel
theorem dX11_wear_39 : decode cX11_wear 39 = .ok (.aload_n 0, 1) := by decide +kernel
theorem dX11_wear_40 : decode cX11_wear 40 = .ok (.bipush 88, 2) := by decide +kernel
theorem dX11_wear_42 : decode cX11_wear 42 = .ok (.iconst 3, 1) := by decide +kernel
theorem dX11_wear_43 : decode cX11_wear 43 = .ok (.iload_n 1, 1) := by decide +kernel
theorem dX11_wear_44 : decode cX11_wear 44 = .ok (.imul, 1) := by decide +kernel
theorem dX11_wear_45 : decode cX11_wear 45 = .ok (.iadd, 1) := by decide +kernel
theorem dX11_wear_46 : decode cX11_wear 46 = .ok (.iconst 1, 1) := by decide +kernel
theorem dX11_wear_47 : decode cX11_wear 47 = .ok (.iadd, 1) := by decide +kernel
theorem dX11_wear_48 : decode cX11_wear 48 = .ok (.iload_n 2, 1) := by decide +kernel
theorem dX11_wear_49 : decode cX11_wear 49 = .ok (.invokevirtual 199, 3) := by decide +kernel
theorem dX11_wear_52 : decode cX11_wear 52 = .ok (.ireturn, 1) := by decide +kernel
theorem dX11_twine_0 : decode cX11_twine 0 = .ok (.iload_n 1, 1) := by decide +kernel
theorem dX11_twine_1 : decode cX11_twine 1 = .ok (.iconst 0, 1) := by decide +kernel
theorem dX11_twine_2 : decode cX11_twine 2 = .ok (.sipush 9999, 3) := by decide +kernel
theorem dX11_twine_5 : decode cX11_twine 5 = .ok (.invokestatic 60, 3) := by decide +kernel
theorem dX11_twine_8 : decode cX11_twine 8 = .ok (.ifCond .eq 12, 3) := by decide +kernel
theorem dX11_twine_11 : decode cX11_twine 11 = .ok (.aload_n 0, 1) := by decide +kernel
theorem dX11_twine_12 : decode cX11_twine 12 = .ok (.iconst 1, 1) := by decide +kernel
theorem dX11_twine_13 : decode cX11_twine 13 = .ok (.iload_n 1, 1) := by decide +kernel
theorem dX11_twine_14 : decode cX11_twine 14 = .ok (.invokevirtual 199, 3) := by decide +kernel
theorem dX11_twine_17 : decode cX11_twine 17 = .ok (.goto 8, 3) := by decide +kernel
theorem dX11_twine_20 : decode cX11_twine 20 = .ok (.aload_n 0, 1) := by decide +kernel
theorem dX11_twine_21 : decode cX11_twine 21 = .ok (.iconst 1, 1) := by decide +kernel
theorem dX11_twine_22 : decode cX11_twine 22 = .ok (.invokevirtual 79, 3) := by decide +kernel
theorem dX11_twine_25 : decode cX11_twine 25 = .ok (.ireturn, 1) := by decide +kernel
theorem dX11_speed_0 : decode cX11_speed 0 = .ok (.iload_n 1, 1) := by decide +kernel
theorem dX11_speed_1 : decode cX11_speed 1 = .ok (.iconst 0, 1) := by decide +kernel
theorem dX11_speed_2 : decode cX11_speed 2 = .ok (.iconst 2, 1) := by decide +kernel
theorem dX11_speed_3 : decode cX11_speed 3 = .ok (.invokestatic 60, 3) := by decide +kernel
theorem dX11_speed_6 : decode cX11_speed 6 = .ok (.ifCond .eq 24, 3) := by decide +kernel
theorem dX11_speed_9 : decode cX11_speed 9 = .ok (.iload_n 2, 1) := by decide +kernel
theorem dX11_speed_10 : decode cX11_speed 10 = .ok (.iconst 1, 1) := by decide +kernel
theorem dX11_speed_11 : decode cX11_speed 11 = .ok (.bipush 30, 2) := by decide +kernel
theorem dX11_speed_13 : decode cX11_speed 13 = .ok (.invokestatic 60, 3) := by decide +kernel
theorem dX11_speed_16 : decode cX11_speed 16 = .ok (.ifCond .eq 14, 3) := by decide +kernel
theorem dX11_speed_19 : decode cX11_speed 19 = .ok (.aload_n 0, 1) := by decide +kernel
theorem dX11_speed_20 : decode cX11_speed 20 = .ok (.iconst 5, 1) := by decide +kernel
theorem dX11_speed_21 : decode cX11_speed 21 = .ok (.iload_n 1, 1) := by decide +kernel
theorem dX11_speed_22 : decode cX11_speed 22 = .ok (.iadd, 1) := by decide +kernel
theorem dX11_speed_23 : decode cX11_speed 23 = .ok (.iload_n 2, 1) := by decide +kernel
theorem dX11_speed_24 : decode cX11_speed 24 = .ok (.invokevirtual 199, 3) := by decide +kernel
theorem dX11_speed_27 : decode cX11_speed 27 = .ok (.goto 8, 3) := by decide +kernel
theorem dX11_speed_30 : decode cX11_speed 30 = .ok (.aload_n 0, 1) := by decide +kernel
theorem dX11_speed_31 : decode cX11_speed 31 = .ok (.iconst 1, 1) := by decide +kernel
theorem dX11_speed_32 : decode cX11_speed 32 = .ok (.invokevirtual 79, 3) := by decide +kernel
theorem dX11_speed_35 : decode cX11_speed 35 = .ok (.ireturn, 1) := by decide +kernel
theorem dX11_run_0 : decode cX11_run 0 = .ok (.iload_n 1, 1) := by decide +kernel
theorem dX11_run_1 : decode cX11_run 1 = .ok (.invokestatic 202, 3) := by decide +kernel
theorem dX11_run_4 : decode cX11_run 4 = .ok (.ifCond .eq 10, 3) := by decide +kernel
theorem dX11_run_7 : decode cX11_run 7 = .ok (.iload_n 2, 1) := by decide +kernel
theorem dX11_run_8 : decode cX11_run 8 = .ok (.invokestatic 165, 3) := by decide +kernel
theorem dX11_run_11 : decode cX11_run 11 = .ok (.ifCond .ne 9, 3) := by decide +kernel
theorem dX11_run_14 : decode cX11_run 14 = .ok (.aload_n 0, 1) := by decide +kernel
theorem dX11_run_15 : decode cX11_run 15 = .ok (.iconst 1, 1) := by decide +kernel
theorem dX11_run_16 : decode cX11_run 16 = .ok (.invokevirtual 79, 3) := by decide +kernel
theorem dX11_run_19 : decode cX11_run 19 = .ok (.ireturn, 1) := by decide +kernel
theorem dX11_run_20 : decode cX11_run 20 = .ok (.aload_n 0, 1) := by decide +kernel
theorem dX11_run_21 : decode cX11_run 21 = .ok (.getfield 43, 3) := by decide +kernel
theorem dX11_run_24 : decode cX11_run 24 = .ok (.iload_n 1, 1) := by decide +kernel
theorem dX11_run_25 : decode cX11_run 25 = .ok (.iaload, 1) := by decide +kernel
theorem dX11_run_26 : decode cX11_run 26 = .ok (.ifCond .eq 12, 3) := by decide +kernel
theorem dX11_run_29 : decode cX11_run 29 = .ok (.aload_n 0, 1) := by decide +kernel
theorem dX11_run_30 : decode cX11_run 30 = .ok (.getfield 46, 3) := by decide +kernel
theorem dX11_run_33 : decode cX11_run 33 = .ok (.iload_n 1, 1) := by decide +kernel
theorem dX11_run_34 : decode cX11_run 34 = .ok (.iaload, 1) := by decide +kernel
theorem dX11_run_35 : decode cX11_run 35 = .ok (.ifCond .ne 9, 3) := by decide +kernel
theorem dX11_run_38 : decode cX11_run 38 = .ok (.aload_n 0, 1) := by decide +kernel
theorem dX11_run_39 : decode cX11_run 39 = .ok (.iconst 2, 1) := by decide +kernel
theorem dX11_run_40 : decode cX11_run 40 = .ok (.invokevirtual 79, 3) := by decide +kernel
theorem dX11_run_43 : decode cX11_run 43 = .ok (.ireturn, 1) := by decide +kernel
theorem dX11_run_44 : decode cX11_run 44 = .ok (.aload_n 0, 1) := by decide +kernel
theorem dX11_run_45 : decode cX11_run 45 = .ok (.invokevirtual 174, 3) := by decide +kernel
theorem dX11_run_48 : decode cX11_run 48 = .ok (.istore_n 3, 1) := by decide +kernel
theorem dX11_run_49 : decode cX11_run 49 = .ok (.iconst 0, 1) := by decide +kernel
theorem dX11_run_50 : decode cX11_run 50 = .ok (.istore 4, 2) := by decide +kernel
theorem dX11_run_52 : decode cX11_run 52 = .ok (.bipush 40, 2) := by decide +kernel
theorem dX11_run_54 : decode cX11_run 54 = .ok (.iload_n 1, 1) := by decide +kernel
theorem dX11_run_55 : decode cX11_run 55 = .ok (.imul, 1) := by decide +kernel
theorem dX11_run_56 : decode cX11_run 56 = .ok (.istore 5, 2) := by decide +kernel
theorem dX11_run_58 : decode cX11_run 58 = .ok (.iconst 0, 1) := by decide +kernel
theorem dX11_run_59 : decode cX11_run 59 = .ok (.istore 6, 2) := by decide +kernel
theorem dX11_run_61 : decode cX11_run 61 = .ok (.iload 6, 2) := by decide +kernel
theorem dX11_run_63 : decode cX11_run 63 = .ok (.aload_n 0, 1) := by decide +kernel
theorem dX11_run_64 : decode cX11_run 64 = .ok (.getfield 46, 3) := by decide +kernel
theorem dX11_run_67 : decode cX11_run 67 = .ok (.iload_n 1, 1) := by decide +kernel
theorem dX11_run_68 : decode cX11_run 68 = .ok (.iaload, 1) := by decide +kernel
theorem dX11_run_69 : decode cX11_run 69 = .ok (.if_icmp .ge 102, 3) := by decide +kernel
theorem dX11_run_72 : decode cX11_run 72 = .ok (.aload_n 0, 1) := by decide +kernel
theorem dX11_run_73 : decode cX11_run 73 = .ok (.getfield 49, 3) := by decide +kernel
theorem dX11_run_76 : decode cX11_run 76 = .ok (.iload 5, 2) := by decide +kernel
theorem dX11_run_78 : decode cX11_run 78 = .ok (.iload 6, 2) := by decide +kernel
theorem dX11_run_80 : decode cX11_run 80 = .ok (.iadd, 1) := by decide +kernel
theorem dX11_run_81 : decode cX11_run 81 = .ok (.iaload, 1) := by decide +kernel
theorem dX11_run_82 : decode cX11_run 82 = .ok (.istore 7, 2) := by decide +kernel
theorem dX11_run_84 : decode cX11_run 84 = .ok (.iload 7, 2) := by decide +kernel
theorem dX11_run_86 : decode cX11_run 86 = .ok (.invokestatic 162, 3) := by decide +kernel
theorem dX11_run_89 : decode cX11_run 89 = .ok (.ifCond .ne 9, 3) := by decide +kernel
theorem dX11_run_92 : decode cX11_run 92 = .ok (.bipush (-10), 2) := by decide +kernel
theorem dX11_run_94 : decode cX11_run 94 = .ok (.iload 6, 2) := by decide +kernel
theorem dX11_run_96 : decode cX11_run 96 = .ok (.isub, 1) := by decide +kernel
theorem dX11_run_97 : decode cX11_run 97 = .ok (.ireturn, 1) := by decide +kernel
theorem dX11_run_98 : decode cX11_run 98 = .ok (.iload 6, 2) := by decide +kernel
theorem dX11_run_100 : decode cX11_run 100 = .ok (.ifCond .le 65, 3) := by decide +kernel
theorem dX11_run_103 : decode cX11_run 103 = .ok (.aload_n 0, 1) := by decide +kernel
theorem dX11_run_104 : decode cX11_run 104 = .ok (.getfield 49, 3) := by decide +kernel
theorem dX11_run_107 : decode cX11_run 107 = .ok (.iload 5, 2) := by decide +kernel
theorem dX11_run_109 : decode cX11_run 109 = .ok (.iload 6, 2) := by decide +kernel
theorem dX11_run_111 : decode cX11_run 111 = .ok (.iadd, 1) := by decide +kernel
theorem dX11_run_112 : decode cX11_run 112 = .ok (.iconst 1, 1) := by decide +kernel
theorem dX11_run_113 : decode cX11_run 113 = .ok (.isub, 1) := by decide +kernel
theorem dX11_run_114 : decode cX11_run 114 = .ok (.iaload, 1) := by decide +kernel
theorem dX11_run_115 : decode cX11_run 115 = .ok (.iload 7, 2) := by decide +kernel
theorem dX11_run_117 : decode cX11_run 117 = .ok (.invokestatic 205, 3) := by decide +kernel
theorem dX11_run_120 : decode cX11_run 120 = .ok (.istore 8, 2) := by decide +kernel
theorem dX11_run_122 : decode cX11_run 122 = .ok (.iload 8, 2) := by decide +kernel
theorem dX11_run_124 : decode cX11_run 124 = .ok (.iconst (-1), 1) := by decide +kernel
theorem dX11_run_125 : decode cX11_run 125 = .ok (.if_icmp .eq 12, 3) := by decide +kernel
theorem dX11_run_128 : decode cX11_run 128 = .ok (.iload_n 3, 1) := by decide +kernel
theorem dX11_run_129 : decode cX11_run 129 = .ok (.iload 8, 2) := by decide +kernel
theorem dX11_run_131 : decode cX11_run 131 = .ok (.invokestatic 155, 3) := by decide +kernel
theorem dX11_run_134 : decode cX11_run 134 = .ok (.ifCond .ne 9, 3) := by decide +kernel
theorem dX11_run_137 : decode cX11_run 137 = .ok (.bipush (-10), 2) := by decide +kernel
theorem dX11_run_139 : decode cX11_run 139 = .ok (.iload 6, 2) := by decide +kernel
theorem dX11_run_141 : decode cX11_run 141 = .ok (.isub, 1) := by decide +kernel
theorem dX11_run_142 : decode cX11_run 142 = .ok (.ireturn, 1) := by decide +kernel
theorem dX11_run_143 : decode cX11_run 143 = .ok (.iload_n 3, 1) := by decide +kernel
theorem dX11_run_144 : decode cX11_run 144 = .ok (.iconst 1, 1) := by decide +kernel
theorem dX11_run_145 : decode cX11_run 145 = .ok (.iload 8, 2) := by decide +kernel
theorem dX11_run_147 : decode cX11_run 147 = .ok (.ishl, 1) := by decide +kernel
theorem dX11_run_148 : decode cX11_run 148 = .ok (.iconst (-1), 1) := by decide +kernel
theorem dX11_run_149 : decode cX11_run 149 = .ok (.ixor, 1) := by decide +kernel
theorem dX11_run_150 : decode cX11_run 150 = .ok (.iand, 1) := by decide +kernel
theorem dX11_run_151 : decode cX11_run 151 = .ok (.istore_n 3, 1) := by decide +kernel
theorem dX11_run_152 : decode cX11_run 152 = .ok (.iload 4, 2) := by decide +kernel
theorem dX11_run_154 : decode cX11_run 154 = .ok (.iconst 2, 1) := by decide +kernel
theorem dX11_run_155 : decode cX11_run 155 = .ok (.aload_n 0, 1) := by decide +kernel
theorem dX11_run_156 : decode cX11_run 156 = .ok (.iload 7, 2) := by decide +kernel
theorem dX11_run_158 : decode cX11_run 158 = .ok (.invokevirtual 171, 3) := by decide +kernel
theorem dX11_run_161 : decode cX11_run 161 = .ok (.iadd, 1) := by decide +kernel
theorem dX11_run_162 : decode cX11_run 162 = .ok (.iadd, 1) := by decide +kernel
theorem dX11_run_163 : decode cX11_run 163 = .ok (.istore 4, 2) := by decide +kernel
theorem dX11_run_165 : decode cX11_run 165 = .ok (.iinc 6 1, 3) := by decide +kernel
theorem dX11_run_168 : decode cX11_run 168 = .ok (.goto (-107), 3) := by decide +kernel
theorem dX11_run_171 : decode cX11_run 171 = .ok (.aload_n 0, 1) := by decide +kernel
theorem dX11_run_172 : decode cX11_run 172 = .ok (.getfield 7, 3) := by decide +kernel
theorem dX11_run_175 : decode cX11_run 175 = .ok (.iconst 1, 1) := by decide +kernel
theorem dX11_run_176 : decode cX11_run 176 = .ok (.iaload, 1) := by decide +kernel
theorem dX11_run_177 : decode cX11_run 177 = .ok (.iload 4, 2) := by decide +kernel
theorem dX11_run_179 : decode cX11_run 179 = .ok (.if_icmp .ge 9, 3) := by decide +kernel
theorem dX11_run_182 : decode cX11_run 182 = .ok (.aload_n 0, 1) := by decide +kernel
theorem dX11_run_183 : decode cX11_run 183 = .ok (.iconst 4, 1) := by decide +kernel
theorem dX11_run_184 : decode cX11_run 184 = .ok (.invokevirtual 79, 3) := by decide +kernel
theorem dX11_run_187 : decode cX11_run 187 = .ok (.ireturn, 1) := by decide +kernel
theorem dX11_run_188 : decode cX11_run 188 = .ok (.aload_n 0, 1) := by decide +kernel
theorem dX11_run_189 : decode cX11_run 189 = .ok (.getfield 7, 3) := by decide +kernel
theorem dX11_run_192 : decode cX11_run 192 = .ok (.iconst 1, 1) := by decide +kernel
theorem dX11_run_193 : decode cX11_run 193 = .ok (.dup2, 1) := by decide +kernel
theorem dX11_run_194 : decode cX11_run 194 = .ok (.iaload, 1) := by decide +kernel
theorem dX11_run_195 : decode cX11_run 195 = .ok (.iload 4, 2) := by decide +kernel
theorem dX11_run_197 : decode cX11_run 197 = .ok (.isub, 1) := by decide +kernel
theorem dX11_run_198 : decode cX11_run 198 = .ok (.iastore, 1) := by decide +kernel
theorem dX11_run_199 : decode cX11_run 199 = .ok (.iconst 1, 1) := by decide +kernel
theorem dX11_run_200 : decode cX11_run 200 = .ok (.istore 6, 2) := by decide +kernel
theorem dX11_run_202 : decode cX11_run 202 = .ok (.iload 6, 2) := by decide +kernel
theorem dX11_run_204 : decode cX11_run 204 = .ok (.aload_n 0, 1) := by decide +kernel
theorem dX11_run_205 : decode cX11_run 205 = .ok (.getfield 46, 3) := by decide +kernel
theorem dX11_run_208 : decode cX11_run 208 = .ok (.iload_n 1, 1) := by decide +kernel
theorem dX11_run_209 : decode cX11_run 209 = .ok (.iaload, 1) := by decide +kernel
theorem dX11_run_210 : decode cX11_run 210 = .ok (.if_icmp .ge 53, 3) := by decide +kernel
theorem dX11_run_213 : decode cX11_run 213 = .ok (.aload_n 0, 1) := by decide +kernel
theorem dX11_run_214 : decode cX11_run 214 = .ok (.aload_n 0, 1) := by decide +kernel
theorem dX11_run_215 : decode cX11_run 215 = .ok (.getfield 49, 3) := by decide +kernel
theorem dX11_run_218 : decode cX11_run 218 = .ok (.iload 5, 2) := by decide +kernel
theorem dX11_run_220 : decode cX11_run 220 = .ok (.iload 6, 2) := by decide +kernel
theorem dX11_run_222 : decode cX11_run 222 = .ok (.iadd, 1) := by decide +kernel
theorem dX11_run_223 : decode cX11_run 223 = .ok (.iconst 1, 1) := by decide +kernel
theorem dX11_run_224 : decode cX11_run 224 = .ok (.isub, 1) := by decide +kernel
theorem dX11_run_225 : decode cX11_run 225 = .ok (.iaload, 1) := by decide +kernel
theorem dX11_run_226 : decode cX11_run 226 = .ok (.aload_n 0, 1) := by decide +kernel
theorem dX11_run_227 : decode cX11_run 227 = .ok (.getfield 49, 3) := by decide +kernel
theorem dX11_run_230 : decode cX11_run 230 = .ok (.iload 5, 2) := by decide +kernel
theorem dX11_run_232 : decode cX11_run 232 = .ok (.iload 6, 2) := by decide +kernel
theorem dX11_run_234 : decode cX11_run 234 = .ok (.iadd, 1) := by decide +kernel
theorem dX11_run_235 : decode cX11_run 235 = .ok (.iaload, 1) := by decide +kernel
theorem dX11_run_236 : decode cX11_run 236 = .ok (.invokestatic 205, 3) := by decide +kernel
theorem dX11_run_239 : decode cX11_run 239 = .ok (.invokevirtual 208, 3) := by decide +kernel
theorem dX11_run_242 : decode cX11_run 242 = .ok (.aload_n 0, 1) := by decide +kernel
theorem dX11_run_243 : decode cX11_run 243 = .ok (.aload_n 0, 1) := by decide +kernel
theorem dX11_run_244 : decode cX11_run 244 = .ok (.getfield 49, 3) := by decide +kernel
theorem dX11_run_247 : decode cX11_run 247 = .ok (.iload 5, 2) := by decide +kernel
theorem dX11_run_249 : decode cX11_run 249 = .ok (.iload 6, 2) := by decide +kernel
theorem dX11_run_251 : decode cX11_run 251 = .ok (.iadd, 1) := by decide +kernel
theorem dX11_run_252 : decode cX11_run 252 = .ok (.iaload, 1) := by decide +kernel
theorem dX11_run_253 : decode cX11_run 253 = .ok (.iload_n 2, 1) := by decide +kernel
theorem dX11_run_254 : decode cX11_run 254 = .ok (.invokevirtual 168, 3) := by decide +kernel
theorem dX11_run_257 : decode cX11_run 257 = .ok (.iinc 6 1, 3) := by decide +kernel
theorem dX11_run_260 : decode cX11_run 260 = .ok (.goto (-58), 3) := by decide +kernel
theorem dX11_run_263 : decode cX11_run 263 = .ok (.aload_n 0, 1) := by decide +kernel
theorem dX11_run_264 : decode cX11_run 264 = .ok (.getfield 46, 3) := by decide +kernel
theorem dX11_run_267 : decode cX11_run 267 = .ok (.iload_n 1, 1) := by decide +kernel
theorem dX11_run_268 : decode cX11_run 268 = .ok (.iaload, 1) := by decide +kernel
theorem dX11_run_269 : decode cX11_run 269 = .ok (.iconst 1, 1) := by decide +kernel
theorem dX11_run_270 : decode cX11_run 270 = .ok (.isub, 1) := by decide +kernel
theorem dX11_run_271 : decode cX11_run 271 = .ok (.ireturn, 1) := by decide +kernel
theorem dX11_oddOnes_0 : decode cX11_oddOnes 0 = .ok (.iconst 0, 1) := by decide +kernel
theorem dX11_oddOnes_1 : decode cX11_oddOnes 1 = .ok (.istore_n 1, 1) := by decide +kernel
theorem dX11_oddOnes_2 : decode cX11_oddOnes 2 = .ok (.iconst 0, 1) := by decide +kernel
theorem dX11_oddOnes_3 : decode cX11_oddOnes 3 = .ok (.istore_n 2, 1) := by decide +kernel
theorem dX11_oddOnes_4 : decode cX11_oddOnes 4 = .ok (.iload_n 2, 1) := by decide +kernel
theorem dX11_oddOnes_5 : decode cX11_oddOnes 5 = .ok (.bipush 20, 2) := by decide +kernel
theorem dX11_oddOnes_7 : decode cX11_oddOnes 7 = .ok (.if_icmp .ge 19, 3) := by decide +kernel
theorem dX11_oddOnes_10 : decode cX11_oddOnes 10 = .ok (.iload_n 1, 1) := by decide +kernel
theorem dX11_oddOnes_11 : decode cX11_oddOnes 11 = .ok (.iload_n 0, 1) := by decide +kernel
theorem dX11_oddOnes_12 : decode cX11_oddOnes 12 = .ok (.iload_n 2, 1) := by decide +kernel
theorem dX11_oddOnes_13 : decode cX11_oddOnes 13 = .ok (.invokestatic 177, 3) := by decide +kernel
theorem dX11_oddOnes_16 : decode cX11_oddOnes 16 = .ok (.iconst 2, 1) := by decide +kernel
theorem dX11_oddOnes_17 : decode cX11_oddOnes 17 = .ok (.irem, 1) := by decide +kernel
theorem dX11_oddOnes_18 : decode cX11_oddOnes 18 = .ok (.iadd, 1) := by decide +kernel
theorem dX11_oddOnes_19 : decode cX11_oddOnes 19 = .ok (.istore_n 1, 1) := by decide +kernel
theorem dX11_oddOnes_20 : decode cX11_oddOnes 20 = .ok (.iinc 2 1, 3) := by decide +kernel
theorem dX11_oddOnes_23 : decode cX11_oddOnes 23 = .ok (.goto (-19), 3) := by decide +kernel
theorem dX11_oddOnes_26 : decode cX11_oddOnes 26 = .ok (.iload_n 1, 1) := by decide +kernel
theorem dX11_oddOnes_27 : decode cX11_oddOnes 27 = .ok (.ireturn, 1) := by decide +kernel
theorem dX11_hangs_0 : decode cX11_hangs 0 = .ok (.iconst 1, 1) := by decide +kernel
theorem dX11_hangs_1 : decode cX11_hangs 1 = .ok (.iload_n 1, 1) := by decide +kernel
theorem dX11_hangs_2 : decode cX11_hangs 2 = .ok (.ishl, 1) := by decide +kernel
theorem dX11_hangs_3 : decode cX11_hangs 3 = .ok (.istore_n 2, 1) := by decide +kernel
theorem dX11_hangs_4 : decode cX11_hangs 4 = .ok (.iconst 1, 1) := by decide +kernel
theorem dX11_hangs_5 : decode cX11_hangs 5 = .ok (.iload_n 1, 1) := by decide +kernel
theorem dX11_hangs_6 : decode cX11_hangs 6 = .ok (.invokestatic 68, 3) := by decide +kernel
theorem dX11_hangs_9 : decode cX11_hangs 9 = .ok (.ishl, 1) := by decide +kernel
theorem dX11_hangs_10 : decode cX11_hangs 10 = .ok (.iconst 1, 1) := by decide +kernel
theorem dX11_hangs_11 : decode cX11_hangs 11 = .ok (.iload_n 1, 1) := by decide +kernel
theorem dX11_hangs_12 : decode cX11_hangs 12 = .ok (.invokestatic 72, 3) := by decide +kernel
theorem dX11_hangs_15 : decode cX11_hangs 15 = .ok (.ishl, 1) := by decide +kernel
theorem dX11_hangs_16 : decode cX11_hangs 16 = .ok (.ior, 1) := by decide +kernel
theorem dX11_hangs_17 : decode cX11_hangs 17 = .ok (.istore_n 3, 1) := by decide +kernel
theorem dX11_hangs_18 : decode cX11_hangs 18 = .ok (.iconst 0, 1) := by decide +kernel
theorem dX11_hangs_19 : decode cX11_hangs 19 = .ok (.istore 4, 2) := by decide +kernel
theorem dX11_hangs_21 : decode cX11_hangs 21 = .ok (.iload 4, 2) := by decide +kernel
theorem dX11_hangs_23 : decode cX11_hangs 23 = .ok (.iload_n 2, 1) := by decide +kernel
theorem dX11_hangs_24 : decode cX11_hangs 24 = .ok (.if_icmp .eq 70, 3) := by decide +kernel
theorem dX11_hangs_27 : decode cX11_hangs 27 = .ok (.iload_n 2, 1) := by decide +kernel
theorem dX11_hangs_28 : decode cX11_hangs 28 = .ok (.istore 4, 2) := by decide +kernel
theorem dX11_hangs_30 : decode cX11_hangs 30 = .ok (.iconst 0, 1) := by decide +kernel
theorem dX11_hangs_31 : decode cX11_hangs 31 = .ok (.istore 5, 2) := by decide +kernel
theorem dX11_hangs_33 : decode cX11_hangs 33 = .ok (.iload 5, 2) := by decide +kernel
theorem dX11_hangs_35 : decode cX11_hangs 35 = .ok (.bipush 31, 2) := by decide +kernel
theorem dX11_hangs_37 : decode cX11_hangs 37 = .ok (.if_icmp .ge 54, 3) := by decide +kernel
theorem dX11_hangs_40 : decode cX11_hangs 40 = .ok (.iconst 1, 1) := by decide +kernel
theorem dX11_hangs_41 : decode cX11_hangs 41 = .ok (.iload 5, 2) := by decide +kernel
theorem dX11_hangs_43 : decode cX11_hangs 43 = .ok (.invokestatic 68, 3) := by decide +kernel
theorem dX11_hangs_46 : decode cX11_hangs 46 = .ok (.ishl, 1) := by decide +kernel
theorem dX11_hangs_47 : decode cX11_hangs 47 = .ok (.iconst 1, 1) := by decide +kernel
theorem dX11_hangs_48 : decode cX11_hangs 48 = .ok (.iload 5, 2) := by decide +kernel
theorem dX11_hangs_50 : decode cX11_hangs 50 = .ok (.invokestatic 72, 3) := by decide +kernel
theorem dX11_hangs_53 : decode cX11_hangs 53 = .ok (.ishl, 1) := by decide +kernel
theorem dX11_hangs_54 : decode cX11_hangs 54 = .ok (.ior, 1) := by decide +kernel
theorem dX11_hangs_55 : decode cX11_hangs 55 = .ok (.istore 6, 2) := by decide +kernel
theorem dX11_hangs_57 : decode cX11_hangs 57 = .ok (.iload_n 0, 1) := by decide +kernel
theorem dX11_hangs_58 : decode cX11_hangs 58 = .ok (.iload 5, 2) := by decide +kernel
theorem dX11_hangs_60 : decode cX11_hangs 60 = .ok (.invokestatic 155, 3) := by decide +kernel
theorem dX11_hangs_63 : decode cX11_hangs 63 = .ok (.ifCond .eq 22, 3) := by decide +kernel
theorem dX11_hangs_66 : decode cX11_hangs 66 = .ok (.iload 6, 2) := by decide +kernel
theorem dX11_hangs_68 : decode cX11_hangs 68 = .ok (.iload_n 3, 1) := by decide +kernel
theorem dX11_hangs_69 : decode cX11_hangs 69 = .ok (.iand, 1) := by decide +kernel
theorem dX11_hangs_70 : decode cX11_hangs 70 = .ok (.ifCond .eq 15, 3) := by decide +kernel
theorem dX11_hangs_73 : decode cX11_hangs 73 = .ok (.iload_n 2, 1) := by decide +kernel
theorem dX11_hangs_74 : decode cX11_hangs 74 = .ok (.iconst 1, 1) := by decide +kernel
theorem dX11_hangs_75 : decode cX11_hangs 75 = .ok (.iload 5, 2) := by decide +kernel
theorem dX11_hangs_77 : decode cX11_hangs 77 = .ok (.ishl, 1) := by decide +kernel
theorem dX11_hangs_78 : decode cX11_hangs 78 = .ok (.ior, 1) := by decide +kernel
theorem dX11_hangs_79 : decode cX11_hangs 79 = .ok (.istore_n 2, 1) := by decide +kernel
theorem dX11_hangs_80 : decode cX11_hangs 80 = .ok (.iload_n 3, 1) := by decide +kernel
theorem dX11_hangs_81 : decode cX11_hangs 81 = .ok (.iload 6, 2) := by decide +kernel
theorem dX11_hangs_83 : decode cX11_hangs 83 = .ok (.ior, 1) := by decide +kernel
theorem dX11_hangs_84 : decode cX11_hangs 84 = .ok (.istore_n 3, 1) := by decide +kernel
theorem dX11_hangs_85 : decode cX11_hangs 85 = .ok (.iinc 5 1, 3) := by decide +kernel
theorem dX11_hangs_88 : decode cX11_hangs 88 = .ok (.goto (-55), 3) := by decide +kernel
theorem dX11_hangs_91 : decode cX11_hangs 91 = .ok (.goto (-70), 3) := by decide +kernel
theorem dX11_hangs_94 : decode cX11_hangs 94 = .ok (.iload_n 2, 1) := by decide +kernel
theorem dX11_hangs_95 : decode cX11_hangs 95 = .ok (.ireturn, 1) := by decide +kernel
theorem dX11_least_0 : decode cX11_least 0 = .ok (.iconst 0, 1) := by decide +kernel
theorem dX11_least_1 : decode cX11_least 1 = .ok (.istore_n 1, 1) := by decide +kernel
theorem dX11_least_2 : decode cX11_least 2 = .ok (.iload_n 0, 1) := by decide +kernel
theorem dX11_least_3 : decode cX11_least 3 = .ok (.iload_n 1, 1) := by decide +kernel
theorem dX11_least_4 : decode cX11_least 4 = .ok (.invokestatic 155, 3) := by decide +kernel
theorem dX11_least_7 : decode cX11_least 7 = .ok (.ifCond .ne 9, 3) := by decide +kernel
theorem dX11_least_10 : decode cX11_least 10 = .ok (.iinc 1 1, 3) := by decide +kernel
theorem dX11_least_13 : decode cX11_least 13 = .ok (.goto (-11), 3) := by decide +kernel
theorem dX11_least_16 : decode cX11_least 16 = .ok (.iload_n 1, 1) := by decide +kernel
theorem dX11_least_17 : decode cX11_least 17 = .ok (.ireturn, 1) := by decide +kernel
theorem dX11_isOneRun_0 : decode cX11_isOneRun 0 = .ok (.iload_n 0, 1) := by decide +kernel
theorem dX11_isOneRun_1 : decode cX11_isOneRun 1 = .ok (.ifCond .eq 27, 3) := by decide +kernel
theorem dX11_isOneRun_4 : decode cX11_isOneRun 4 = .ok (.iload_n 0, 1) := by decide +kernel
theorem dX11_isOneRun_5 : decode cX11_isOneRun 5 = .ok (.invokestatic 211, 3) := by decide +kernel
theorem dX11_isOneRun_8 : decode cX11_isOneRun 8 = .ok (.iconst 2, 1) := by decide +kernel
theorem dX11_isOneRun_9 : decode cX11_isOneRun 9 = .ok (.if_icmp .gt 19, 3) := by decide +kernel
theorem dX11_isOneRun_12 : decode cX11_isOneRun 12 = .ok (.iload_n 0, 1) := by decide +kernel
theorem dX11_isOneRun_13 : decode cX11_isOneRun 13 = .ok (.iload_n 0, 1) := by decide +kernel
theorem dX11_isOneRun_14 : decode cX11_isOneRun 14 = .ok (.invokestatic 214, 3) := by decide +kernel
theorem dX11_isOneRun_17 : decode cX11_isOneRun 17 = .ok (.invokestatic 217, 3) := by decide +kernel
theorem dX11_isOneRun_20 : decode cX11_isOneRun 20 = .ok (.iload_n 0, 1) := by decide +kernel
theorem dX11_isOneRun_21 : decode cX11_isOneRun 21 = .ok (.if_icmp .ne 7, 3) := by decide +kernel
theorem dX11_isOneRun_24 : decode cX11_isOneRun 24 = .ok (.iconst 1, 1) := by decide +kernel
theorem dX11_isOneRun_25 : decode cX11_isOneRun 25 = .ok (.goto 4, 3) := by decide +kernel
theorem dX11_isOneRun_28 : decode cX11_isOneRun 28 = .ok (.iconst 0, 1) := by decide +kernel
theorem dX11_isOneRun_29 : decode cX11_isOneRun 29 = .ok (.ireturn, 1) := by decide +kernel
theorem dX11_odd_0 : decode cX11_odd 0 = .ok (.iload_n 1, 1) := by decide +kernel
theorem dX11_odd_1 : decode cX11_odd 1 = .ok (.iconst 0, 1) := by decide +kernel
theorem dX11_odd_2 : decode cX11_odd 2 = .ok (.iconst 1, 1) := by decide +kernel
theorem dX11_odd_3 : decode cX11_odd 3 = .ok (.invokestatic 60, 3) := by decide +kernel
theorem dX11_odd_6 : decode cX11_odd 6 = .ok (.ifCond .ne 9, 3) := by decide +kernel
theorem dX11_odd_9 : decode cX11_odd 9 = .ok (.aload_n 0, 1) := by decide +kernel
theorem dX11_odd_10 : decode cX11_odd 10 = .ok (.iconst 1, 1) := by decide +kernel
theorem dX11_odd_11 : decode cX11_odd 11 = .ok (.invokevirtual 79, 3) := by decide +kernel
theorem dX11_odd_14 : decode cX11_odd 14 = .ok (.ireturn, 1) := by decide +kernel
theorem dX11_odd_15 : decode cX11_odd 15 = .ok (.iload_n 1, 1) := by decide +kernel
theorem dX11_odd_16 : decode cX11_odd 16 = .ok (.ifCond .ne 13, 3) := by decide +kernel
theorem dX11_odd_19 : decode cX11_odd 19 = .ok (.aload_n 0, 1) := by decide +kernel
theorem dX11_odd_20 : decode cX11_odd 20 = .ok (.invokevirtual 174, 3) := by decide +kernel
theorem dX11_odd_23 : decode cX11_odd 23 = .ok (.invokestatic 211, 3) := by decide +kernel
theorem dX11_odd_26 : decode cX11_odd 26 = .ok (.goto 18, 3) := by decide +kernel
theorem dX11_odd_29 : decode cX11_odd 29 = .ok (.aload_n 0, 1) := by decide +kernel
theorem dX11_odd_30 : decode cX11_odd 30 = .ok (.invokevirtual 174, 3) := by decide +kernel
theorem dX11_odd_33 : decode cX11_odd 33 = .ok (.invokestatic 220, 3) := by decide +kernel
theorem dX11_odd_36 : decode cX11_odd 36 = .ok (.ifCond .eq 7, 3) := by decide +kernel
theorem dX11_odd_39 : decode cX11_odd 39 = .ok (.iconst 1, 1) := by decide +kernel
theorem dX11_odd_40 : decode cX11_odd 40 = .ok (.goto 4, 3) := by decide +kernel
theorem dX11_odd_43 : decode cX11_odd 43 = .ok (.iconst 0, 1) := by decide +kernel
theorem dX11_odd_44 : decode cX11_odd 44 = .ok (.ireturn, 1) := by decide +kernel
theorem dX11_cutsTo_0 : decode cX11_cutsTo 0 = .ok (.iload_n 3, 1) := by decide +kernel
theorem dX11_cutsTo_1 : decode cX11_cutsTo 1 = .ok (.iload 4, 2) := by decide +kernel
theorem dX11_cutsTo_3 : decode cX11_cutsTo 3 = .ok (.if_icmp .ne 8, 3) := by decide +kernel
theorem dX11_cutsTo_6 : decode cX11_cutsTo 6 = .ok (.iload_n 1, 1) := by decide +kernel
theorem dX11_cutsTo_7 : decode cX11_cutsTo 7 = .ok (.invokestatic 220, 3) := by decide +kernel
theorem dX11_cutsTo_10 : decode cX11_cutsTo 10 = .ok (.ireturn, 1) := by decide +kernel
theorem dX11_cutsTo_11 : decode cX11_cutsTo 11 = .ok (.iload_n 2, 1) := by decide +kernel
theorem dX11_cutsTo_12 : decode cX11_cutsTo 12 = .ok (.istore 5, 2) := by decide +kernel
theorem dX11_cutsTo_14 : decode cX11_cutsTo 14 = .ok (.iload 5, 2) := by decide +kernel
theorem dX11_cutsTo_16 : decode cX11_cutsTo 16 = .ok (.bipush 31, 2) := by decide +kernel
theorem dX11_cutsTo_18 : decode cX11_cutsTo 18 = .ok (.if_icmp .ge 50, 3) := by decide +kernel
theorem dX11_cutsTo_21 : decode cX11_cutsTo 21 = .ok (.iload_n 1, 1) := by decide +kernel
theorem dX11_cutsTo_22 : decode cX11_cutsTo 22 = .ok (.iload 5, 2) := by decide +kernel
theorem dX11_cutsTo_24 : decode cX11_cutsTo 24 = .ok (.invokestatic 155, 3) := by decide +kernel
theorem dX11_cutsTo_27 : decode cX11_cutsTo 27 = .ok (.ifCond .ne 35, 3) := by decide +kernel
theorem dX11_cutsTo_30 : decode cX11_cutsTo 30 = .ok (.aload_n 0, 1) := by decide +kernel
theorem dX11_cutsTo_31 : decode cX11_cutsTo 31 = .ok (.getfield 31, 3) := by decide +kernel
theorem dX11_cutsTo_34 : decode cX11_cutsTo 34 = .ok (.iload_n 3, 1) := by decide +kernel
theorem dX11_cutsTo_35 : decode cX11_cutsTo 35 = .ok (.iload 5, 2) := by decide +kernel
theorem dX11_cutsTo_37 : decode cX11_cutsTo 37 = .ok (.iastore, 1) := by decide +kernel
theorem dX11_cutsTo_38 : decode cX11_cutsTo 38 = .ok (.aload_n 0, 1) := by decide +kernel
theorem dX11_cutsTo_39 : decode cX11_cutsTo 39 = .ok (.iload_n 1, 1) := by decide +kernel
theorem dX11_cutsTo_40 : decode cX11_cutsTo 40 = .ok (.iconst 1, 1) := by decide +kernel
theorem dX11_cutsTo_41 : decode cX11_cutsTo 41 = .ok (.iload 5, 2) := by decide +kernel
theorem dX11_cutsTo_43 : decode cX11_cutsTo 43 = .ok (.ishl, 1) := by decide +kernel
theorem dX11_cutsTo_44 : decode cX11_cutsTo 44 = .ok (.ior, 1) := by decide +kernel
theorem dX11_cutsTo_45 : decode cX11_cutsTo 45 = .ok (.iload 5, 2) := by decide +kernel
theorem dX11_cutsTo_47 : decode cX11_cutsTo 47 = .ok (.iconst 1, 1) := by decide +kernel
theorem dX11_cutsTo_48 : decode cX11_cutsTo 48 = .ok (.iadd, 1) := by decide +kernel
theorem dX11_cutsTo_49 : decode cX11_cutsTo 49 = .ok (.iload_n 3, 1) := by decide +kernel
theorem dX11_cutsTo_50 : decode cX11_cutsTo 50 = .ok (.iconst 1, 1) := by decide +kernel
theorem dX11_cutsTo_51 : decode cX11_cutsTo 51 = .ok (.iadd, 1) := by decide +kernel
theorem dX11_cutsTo_52 : decode cX11_cutsTo 52 = .ok (.iload 4, 2) := by decide +kernel
theorem dX11_cutsTo_54 : decode cX11_cutsTo 54 = .ok (.invokevirtual 223, 3) := by decide +kernel
theorem dX11_cutsTo_57 : decode cX11_cutsTo 57 = .ok (.ifCond .eq 5, 3) := by decide +kernel
theorem dX11_cutsTo_60 : decode cX11_cutsTo 60 = .ok (.iconst 1, 1) := by decide +kernel
theorem dX11_cutsTo_61 : decode cX11_cutsTo 61 = .ok (.ireturn, 1) := by decide +kernel
theorem dX11_cutsTo_62 : decode cX11_cutsTo 62 = .ok (.iinc 5 1, 3) := by decide +kernel
theorem dX11_cutsTo_65 : decode cX11_cutsTo 65 = .ok (.goto (-51), 3) := by decide +kernel
theorem dX11_cutsTo_68 : decode cX11_cutsTo 68 = .ok (.iconst 0, 1) := by decide +kernel
theorem dX11_cutsTo_69 : decode cX11_cutsTo 69 = .ok (.ireturn, 1) := by decide +kernel
theorem dX11_cuts_0 : decode cX11_cuts 0 = .ok (.iload_n 1, 1) := by decide +kernel
theorem dX11_cuts_1 : decode cX11_cuts 1 = .ok (.iconst (-1), 1) := by decide +kernel
theorem dX11_cuts_2 : decode cX11_cuts 2 = .ok (.iconst 2, 1) := by decide +kernel
theorem dX11_cuts_3 : decode cX11_cuts 3 = .ok (.invokestatic 60, 3) := by decide +kernel
theorem dX11_cuts_6 : decode cX11_cuts 6 = .ok (.ifCond .ne 9, 3) := by decide +kernel
theorem dX11_cuts_9 : decode cX11_cuts 9 = .ok (.aload_n 0, 1) := by decide +kernel
theorem dX11_cuts_10 : decode cX11_cuts 10 = .ok (.iconst 1, 1) := by decide +kernel
theorem dX11_cuts_11 : decode cX11_cuts 11 = .ok (.invokevirtual 79, 3) := by decide +kernel
theorem dX11_cuts_14 : decode cX11_cuts 14 = .ok (.ireturn, 1) := by decide +kernel
theorem dX11_cuts_15 : decode cX11_cuts 15 = .ok (.aload_n 0, 1) := by decide +kernel
theorem dX11_cuts_16 : decode cX11_cuts 16 = .ok (.invokevirtual 174, 3) := by decide +kernel
theorem dX11_cuts_19 : decode cX11_cuts 19 = .ok (.istore_n 2, 1) := by decide +kernel
theorem dX11_cuts_20 : decode cX11_cuts 20 = .ok (.iconst 0, 1) := by decide +kernel
theorem dX11_cuts_21 : decode cX11_cuts 21 = .ok (.istore_n 3, 1) := by decide +kernel
theorem dX11_cuts_22 : decode cX11_cuts 22 = .ok (.iload_n 2, 1) := by decide +kernel
theorem dX11_cuts_23 : decode cX11_cuts 23 = .ok (.ifCond .ne 7, 3) := by decide +kernel
theorem dX11_cuts_26 : decode cX11_cuts 26 = .ok (.iconst 1, 1) := by decide +kernel
theorem dX11_cuts_27 : decode cX11_cuts 27 = .ok (.goto 4, 3) := by decide +kernel
theorem dX11_cuts_30 : decode cX11_cuts 30 = .ok (.iconst 0, 1) := by decide +kernel
theorem dX11_cuts_31 : decode cX11_cuts 31 = .ok (.istore 4, 2) := by decide +kernel
theorem dX11_cuts_33 : decode cX11_cuts 33 = .ok (.iload 4, 2) := by decide +kernel
theorem dX11_cuts_35 : decode cX11_cuts 35 = .ok (.ifCond .ne 34, 3) := by decide +kernel
theorem dX11_cuts_38 : decode cX11_cuts 38 = .ok (.iload_n 3, 1) := by decide +kernel
theorem dX11_cuts_39 : decode cX11_cuts 39 = .ok (.iconst 4, 1) := by decide +kernel
theorem dX11_cuts_40 : decode cX11_cuts 40 = .ok (.if_icmp .ge 29, 3) := by decide +kernel
theorem dX11_cuts_43 : decode cX11_cuts 43 = .ok (.aload_n 0, 1) := by decide +kernel
theorem dX11_cuts_44 : decode cX11_cuts 44 = .ok (.iload_n 2, 1) := by decide +kernel
theorem dX11_cuts_45 : decode cX11_cuts 45 = .ok (.iconst 0, 1) := by decide +kernel
theorem dX11_cuts_46 : decode cX11_cuts 46 = .ok (.iconst 0, 1) := by decide +kernel
theorem dX11_cuts_47 : decode cX11_cuts 47 = .ok (.iload_n 3, 1) := by decide +kernel
theorem dX11_cuts_48 : decode cX11_cuts 48 = .ok (.invokevirtual 223, 3) := by decide +kernel
theorem dX11_cuts_51 : decode cX11_cuts 51 = .ok (.istore 4, 2) := by decide +kernel
theorem dX11_cuts_53 : decode cX11_cuts 53 = .ok (.iload_n 3, 1) := by decide +kernel
theorem dX11_cuts_54 : decode cX11_cuts 54 = .ok (.iload 4, 2) := by decide +kernel
theorem dX11_cuts_56 : decode cX11_cuts 56 = .ok (.ifCond .eq 7, 3) := by decide +kernel
theorem dX11_cuts_59 : decode cX11_cuts 59 = .ok (.iconst 0, 1) := by decide +kernel
theorem dX11_cuts_60 : decode cX11_cuts 60 = .ok (.goto 4, 3) := by decide +kernel
theorem dX11_cuts_63 : decode cX11_cuts 63 = .ok (.iconst 1, 1) := by decide +kernel
theorem dX11_cuts_64 : decode cX11_cuts 64 = .ok (.iadd, 1) := by decide +kernel
theorem dX11_cuts_65 : decode cX11_cuts 65 = .ok (.istore_n 3, 1) := by decide +kernel
theorem dX11_cuts_66 : decode cX11_cuts 66 = .ok (.goto (-33), 3) := by decide +kernel
theorem dX11_cuts_69 : decode cX11_cuts 69 = .ok (.iload_n 2, 1) := by decide +kernel
theorem dX11_cuts_70 : decode cX11_cuts 70 = .ok (.ifCond .eq 13, 3) := by decide +kernel
theorem dX11_cuts_73 : decode cX11_cuts 73 = .ok (.iload 4, 2) := by decide +kernel
theorem dX11_cuts_75 : decode cX11_cuts 75 = .ok (.ifCond .eq 8, 3) := by decide +kernel
theorem dX11_cuts_78 : decode cX11_cuts 78 = .ok (.iload_n 1, 1) := by decide +kernel
theorem dX11_cuts_79 : decode cX11_cuts 79 = .ok (.iload_n 3, 1) := by decide +kernel
theorem dX11_cuts_80 : decode cX11_cuts 80 = .ok (.if_icmp .lt 9, 3) := by decide +kernel
theorem dX11_cuts_83 : decode cX11_cuts 83 = .ok (.aload_n 0, 1) := by decide +kernel
theorem dX11_cuts_84 : decode cX11_cuts 84 = .ok (.iconst 2, 1) := by decide +kernel
theorem dX11_cuts_85 : decode cX11_cuts 85 = .ok (.invokevirtual 79, 3) := by decide +kernel
theorem dX11_cuts_88 : decode cX11_cuts 88 = .ok (.ireturn, 1) := by decide +kernel
theorem dX11_cuts_89 : decode cX11_cuts 89 = .ok (.iload_n 1, 1) := by decide +kernel
theorem dX11_cuts_90 : decode cX11_cuts 90 = .ok (.iconst (-1), 1) := by decide +kernel
theorem dX11_cuts_91 : decode cX11_cuts 91 = .ok (.if_icmp .ne 7, 3) := by decide +kernel
theorem dX11_cuts_94 : decode cX11_cuts 94 = .ok (.iload_n 3, 1) := by decide +kernel
theorem dX11_cuts_95 : decode cX11_cuts 95 = .ok (.goto 9, 3) := by decide +kernel
theorem dX11_cuts_98 : decode cX11_cuts 98 = .ok (.aload_n 0, 1) := by decide +kernel
theorem dX11_cuts_99 : decode cX11_cuts 99 = .ok (.getfield 31, 3) := by decide +kernel
theorem dX11_cuts_102 : decode cX11_cuts 102 = .ok (.iload_n 1, 1) := by decide +kernel
theorem dX11_cuts_103 : decode cX11_cuts 103 = .ok (.iaload, 1) := by decide +kernel
theorem dX11_cuts_104 : decode cX11_cuts 104 = .ok (.ireturn, 1) := by decide +kernel
theorem dX11_goesOn_0 : decode cX11_goesOn 0 = .ok (.iload_n 0, 1) := by decide +kernel
theorem dX11_goesOn_1 : decode cX11_goesOn 1 = .ok (.ifCond .ne 5, 3) := by decide +kernel
theorem dX11_goesOn_4 : decode cX11_goesOn 4 = .ok (.iconst 1, 1) := by decide +kernel
theorem dX11_goesOn_5 : decode cX11_goesOn 5 = .ok (.ireturn, 1) := by decide +kernel
theorem dX11_goesOn_6 : decode cX11_goesOn 6 = .ok (.iload_n 0, 1) := by decide +kernel
theorem dX11_goesOn_7 : decode cX11_goesOn 7 = .ok (.invokestatic 211, 3) := by decide +kernel
theorem dX11_goesOn_10 : decode cX11_goesOn 10 = .ok (.istore_n 2, 1) := by decide +kernel
theorem dX11_goesOn_11 : decode cX11_goesOn 11 = .ok (.iload_n 2, 1) := by decide +kernel
theorem dX11_goesOn_12 : decode cX11_goesOn 12 = .ok (.ifCond .ne 19, 3) := by decide +kernel
theorem dX11_goesOn_15 : decode cX11_goesOn 15 = .ok (.iload_n 0, 1) := by decide +kernel
theorem dX11_goesOn_16 : decode cX11_goesOn 16 = .ok (.iload_n 1, 1) := by decide +kernel
theorem dX11_goesOn_17 : decode cX11_goesOn 17 = .ok (.invokestatic 177, 3) := by decide +kernel
theorem dX11_goesOn_20 : decode cX11_goesOn 20 = .ok (.ifCond .le 7, 3) := by decide +kernel
theorem dX11_goesOn_23 : decode cX11_goesOn 23 = .ok (.iconst 1, 1) := by decide +kernel
theorem dX11_goesOn_24 : decode cX11_goesOn 24 = .ok (.goto 28, 3) := by decide +kernel
theorem dX11_goesOn_27 : decode cX11_goesOn 27 = .ok (.iconst 0, 1) := by decide +kernel
theorem dX11_goesOn_28 : decode cX11_goesOn 28 = .ok (.goto 24, 3) := by decide +kernel
theorem dX11_goesOn_31 : decode cX11_goesOn 31 = .ok (.iload_n 2, 1) := by decide +kernel
theorem dX11_goesOn_32 : decode cX11_goesOn 32 = .ok (.iconst 2, 1) := by decide +kernel
theorem dX11_goesOn_33 : decode cX11_goesOn 33 = .ok (.if_icmp .ne 18, 3) := by decide +kernel
theorem dX11_goesOn_36 : decode cX11_goesOn 36 = .ok (.iload_n 0, 1) := by decide +kernel
theorem dX11_goesOn_37 : decode cX11_goesOn 37 = .ok (.iload_n 1, 1) := by decide +kernel
theorem dX11_goesOn_38 : decode cX11_goesOn 38 = .ok (.invokestatic 177, 3) := by decide +kernel
theorem dX11_goesOn_41 : decode cX11_goesOn 41 = .ok (.iconst 2, 1) := by decide +kernel
theorem dX11_goesOn_42 : decode cX11_goesOn 42 = .ok (.irem, 1) := by decide +kernel
theorem dX11_goesOn_43 : decode cX11_goesOn 43 = .ok (.iconst 1, 1) := by decide +kernel
theorem dX11_goesOn_44 : decode cX11_goesOn 44 = .ok (.if_icmp .ne 7, 3) := by decide +kernel
theorem dX11_goesOn_47 : decode cX11_goesOn 47 = .ok (.iconst 1, 1) := by decide +kernel
theorem dX11_goesOn_48 : decode cX11_goesOn 48 = .ok (.goto 4, 3) := by decide +kernel
theorem dX11_goesOn_51 : decode cX11_goesOn 51 = .ok (.iconst 0, 1) := by decide +kernel
theorem dX11_goesOn_52 : decode cX11_goesOn 52 = .ok (.istore_n 3, 1) := by decide +kernel
theorem dX11_goesOn_53 : decode cX11_goesOn 53 = .ok (.iload_n 3, 1) := by decide +kernel
theorem dX11_goesOn_54 : decode cX11_goesOn 54 = .ok (.ifCond .eq 19, 3) := by decide +kernel
theorem dX11_goesOn_57 : decode cX11_goesOn 57 = .ok (.iload_n 0, 1) := by decide +kernel
theorem dX11_goesOn_58 : decode cX11_goesOn 58 = .ok (.iload_n 0, 1) := by decide +kernel
theorem dX11_goesOn_59 : decode cX11_goesOn 59 = .ok (.invokestatic 214, 3) := by decide +kernel
theorem dX11_goesOn_62 : decode cX11_goesOn 62 = .ok (.invokestatic 217, 3) := by decide +kernel
theorem dX11_goesOn_65 : decode cX11_goesOn 65 = .ok (.iload_n 0, 1) := by decide +kernel
theorem dX11_goesOn_66 : decode cX11_goesOn 66 = .ok (.if_icmp .ne 7, 3) := by decide +kernel
theorem dX11_goesOn_69 : decode cX11_goesOn 69 = .ok (.iconst 1, 1) := by decide +kernel
theorem dX11_goesOn_70 : decode cX11_goesOn 70 = .ok (.goto 4, 3) := by decide +kernel
theorem dX11_goesOn_73 : decode cX11_goesOn 73 = .ok (.iconst 0, 1) := by decide +kernel
theorem dX11_goesOn_74 : decode cX11_goesOn 74 = .ok (.ireturn, 1) := by decide +kernel
theorem dX11_way_0 : decode cX11_way 0 = .ok (.iload_n 1, 1) := by decide +kernel
theorem dX11_way_1 : decode cX11_way 1 = .ok (.ifCond .ge 9, 3) := by decide +kernel
theorem dX11_way_4 : decode cX11_way 4 = .ok (.aload_n 0, 1) := by decide +kernel
theorem dX11_way_5 : decode cX11_way 5 = .ok (.iconst 1, 1) := by decide +kernel
theorem dX11_way_6 : decode cX11_way 6 = .ok (.invokevirtual 79, 3) := by decide +kernel
theorem dX11_way_9 : decode cX11_way 9 = .ok (.ireturn, 1) := by decide +kernel
theorem dX11_way_10 : decode cX11_way 10 = .ok (.aload_n 0, 1) := by decide +kernel
theorem dX11_way_11 : decode cX11_way 11 = .ok (.invokevirtual 174, 3) := by decide +kernel
theorem dX11_way_14 : decode cX11_way 14 = .ok (.istore_n 2, 1) := by decide +kernel
theorem dX11_way_15 : decode cX11_way 15 = .ok (.iload_n 2, 1) := by decide +kernel
theorem dX11_way_16 : decode cX11_way 16 = .ok (.invokestatic 220, 3) := by decide +kernel
theorem dX11_way_19 : decode cX11_way 19 = .ok (.ifCond .ne 9, 3) := by decide +kernel
theorem dX11_way_22 : decode cX11_way 22 = .ok (.aload_n 0, 1) := by decide +kernel
theorem dX11_way_23 : decode cX11_way 23 = .ok (.iconst 3, 1) := by decide +kernel
theorem dX11_way_24 : decode cX11_way 24 = .ok (.invokevirtual 79, 3) := by decide +kernel
theorem dX11_way_27 : decode cX11_way 27 = .ok (.ireturn, 1) := by decide +kernel
theorem dX11_way_28 : decode cX11_way 28 = .ok (.iconst 0, 1) := by decide +kernel
theorem dX11_way_29 : decode cX11_way 29 = .ok (.istore_n 3, 1) := by decide +kernel
theorem dX11_way_30 : decode cX11_way 30 = .ok (.iload_n 2, 1) := by decide +kernel
theorem dX11_way_31 : decode cX11_way 31 = .ok (.iload_n 3, 1) := by decide +kernel
theorem dX11_way_32 : decode cX11_way 32 = .ok (.invokestatic 227, 3) := by decide +kernel
theorem dX11_way_35 : decode cX11_way 35 = .ok (.ifCond .ne 9, 3) := by decide +kernel
theorem dX11_way_38 : decode cX11_way 38 = .ok (.iinc 3 1, 3) := by decide +kernel
theorem dX11_way_41 : decode cX11_way 41 = .ok (.goto (-11), 3) := by decide +kernel
theorem dX11_way_44 : decode cX11_way 44 = .ok (.iconst 0, 1) := by decide +kernel
theorem dX11_way_45 : decode cX11_way 45 = .ok (.istore 4, 2) := by decide +kernel
theorem dX11_way_47 : decode cX11_way 47 = .ok (.iload 4, 2) := by decide +kernel
theorem dX11_way_49 : decode cX11_way 49 = .ok (.iload_n 1, 1) := by decide +kernel
theorem dX11_way_50 : decode cX11_way 50 = .ok (.if_icmp .ge 109, 3) := by decide +kernel
theorem dX11_way_53 : decode cX11_way 53 = .ok (.iconst (-1), 1) := by decide +kernel
theorem dX11_way_54 : decode cX11_way 54 = .ok (.istore 5, 2) := by decide +kernel
theorem dX11_way_56 : decode cX11_way 56 = .ok (.iconst 0, 1) := by decide +kernel
theorem dX11_way_57 : decode cX11_way 57 = .ok (.istore 6, 2) := by decide +kernel
theorem dX11_way_59 : decode cX11_way 59 = .ok (.iload 6, 2) := by decide +kernel
theorem dX11_way_61 : decode cX11_way 61 = .ok (.bipush 20, 2) := by decide +kernel
theorem dX11_way_63 : decode cX11_way 63 = .ok (.if_icmp .ge 62, 3) := by decide +kernel
theorem dX11_way_66 : decode cX11_way 66 = .ok (.iload 5, 2) := by decide +kernel
theorem dX11_way_68 : decode cX11_way 68 = .ok (.iconst (-1), 1) := by decide +kernel
theorem dX11_way_69 : decode cX11_way 69 = .ok (.if_icmp .ne 56, 3) := by decide +kernel
theorem dX11_way_72 : decode cX11_way 72 = .ok (.iload_n 3, 1) := by decide +kernel
theorem dX11_way_73 : decode cX11_way 73 = .ok (.iload 6, 2) := by decide +kernel
theorem dX11_way_75 : decode cX11_way 75 = .ok (.invokestatic 205, 3) := by decide +kernel
theorem dX11_way_78 : decode cX11_way 78 = .ok (.istore 7, 2) := by decide +kernel
theorem dX11_way_80 : decode cX11_way 80 = .ok (.iload 7, 2) := by decide +kernel
theorem dX11_way_82 : decode cX11_way 82 = .ok (.iconst (-1), 1) := by decide +kernel
theorem dX11_way_83 : decode cX11_way 83 = .ok (.if_icmp .eq 33, 3) := by decide +kernel
theorem dX11_way_86 : decode cX11_way 86 = .ok (.iload_n 2, 1) := by decide +kernel
theorem dX11_way_87 : decode cX11_way 87 = .ok (.iload 7, 2) := by decide +kernel
theorem dX11_way_89 : decode cX11_way 89 = .ok (.invokestatic 155, 3) := by decide +kernel
theorem dX11_way_92 : decode cX11_way 92 = .ok (.ifCond .eq 24, 3) := by decide +kernel
theorem dX11_way_95 : decode cX11_way 95 = .ok (.iload_n 2, 1) := by decide +kernel
theorem dX11_way_96 : decode cX11_way 96 = .ok (.iconst 1, 1) := by decide +kernel
theorem dX11_way_97 : decode cX11_way 97 = .ok (.iload 7, 2) := by decide +kernel
theorem dX11_way_99 : decode cX11_way 99 = .ok (.ishl, 1) := by decide +kernel
theorem dX11_way_100 : decode cX11_way 100 = .ok (.iconst (-1), 1) := by decide +kernel
theorem dX11_way_101 : decode cX11_way 101 = .ok (.ixor, 1) := by decide +kernel
theorem dX11_way_102 : decode cX11_way 102 = .ok (.iand, 1) := by decide +kernel
theorem dX11_way_103 : decode cX11_way 103 = .ok (.iload 6, 2) := by decide +kernel
theorem dX11_way_105 : decode cX11_way 105 = .ok (.invokestatic 227, 3) := by decide +kernel
theorem dX11_way_108 : decode cX11_way 108 = .ok (.ifCond .eq 8, 3) := by decide +kernel
theorem dX11_way_111 : decode cX11_way 111 = .ok (.iload 6, 2) := by decide +kernel
theorem dX11_way_113 : decode cX11_way 113 = .ok (.goto 4, 3) := by decide +kernel
theorem dX11_way_116 : decode cX11_way 116 = .ok (.iconst (-1), 1) := by decide +kernel
theorem dX11_way_117 : decode cX11_way 117 = .ok (.istore 5, 2) := by decide +kernel
theorem dX11_way_119 : decode cX11_way 119 = .ok (.iinc 6 1, 3) := by decide +kernel
theorem dX11_way_122 : decode cX11_way 122 = .ok (.goto (-63), 3) := by decide +kernel
theorem dX11_way_125 : decode cX11_way 125 = .ok (.iload 5, 2) := by decide +kernel
theorem dX11_way_127 : decode cX11_way 127 = .ok (.iconst (-1), 1) := by decide +kernel
theorem dX11_way_128 : decode cX11_way 128 = .ok (.if_icmp .ne 9, 3) := by decide +kernel
theorem dX11_way_131 : decode cX11_way 131 = .ok (.aload_n 0, 1) := by decide +kernel
theorem dX11_way_132 : decode cX11_way 132 = .ok (.iconst 2, 1) := by decide +kernel
theorem dX11_way_133 : decode cX11_way 133 = .ok (.invokevirtual 79, 3) := by decide +kernel
theorem dX11_way_136 : decode cX11_way 136 = .ok (.ireturn, 1) := by decide +kernel
theorem dX11_way_137 : decode cX11_way 137 = .ok (.iload_n 2, 1) := by decide +kernel
theorem dX11_way_138 : decode cX11_way 138 = .ok (.iconst 1, 1) := by decide +kernel
theorem dX11_way_139 : decode cX11_way 139 = .ok (.iload_n 3, 1) := by decide +kernel
theorem dX11_way_140 : decode cX11_way 140 = .ok (.iload 5, 2) := by decide +kernel
theorem dX11_way_142 : decode cX11_way 142 = .ok (.invokestatic 205, 3) := by decide +kernel
theorem dX11_way_145 : decode cX11_way 145 = .ok (.ishl, 1) := by decide +kernel
theorem dX11_way_146 : decode cX11_way 146 = .ok (.iconst (-1), 1) := by decide +kernel
theorem dX11_way_147 : decode cX11_way 147 = .ok (.ixor, 1) := by decide +kernel
theorem dX11_way_148 : decode cX11_way 148 = .ok (.iand, 1) := by decide +kernel
theorem dX11_way_149 : decode cX11_way 149 = .ok (.istore_n 2, 1) := by decide +kernel
theorem dX11_way_150 : decode cX11_way 150 = .ok (.iload 5, 2) := by decide +kernel
theorem dX11_way_152 : decode cX11_way 152 = .ok (.istore_n 3, 1) := by decide +kernel
theorem dX11_way_153 : decode cX11_way 153 = .ok (.iinc 4 1, 3) := by decide +kernel
theorem dX11_way_156 : decode cX11_way 156 = .ok (.goto (-109), 3) := by decide +kernel
theorem dX11_way_159 : decode cX11_way 159 = .ok (.iload_n 3, 1) := by decide +kernel
theorem dX11_way_160 : decode cX11_way 160 = .ok (.ireturn, 1) := by decide +kernel
theorem dX11_findHoles_0 : decode cX11_findHoles 0 = .ok (.aload_n 0, 1) := by decide +kernel
theorem dX11_findHoles_1 : decode cX11_findHoles 1 = .ok (.invokevirtual 174, 3) := by decide +kernel
theorem dX11_findHoles_4 : decode cX11_findHoles 4 = .ok (.istore_n 1, 1) := by decide +kernel
theorem dX11_findHoles_5 : decode cX11_findHoles 5 = .ok (.iconst 0, 1) := by decide +kernel
theorem dX11_findHoles_6 : decode cX11_findHoles 6 = .ok (.istore_n 2, 1) := by decide +kernel
theorem dX11_findHoles_7 : decode cX11_findHoles 7 = .ok (.iload_n 1, 1) := by decide +kernel
theorem dX11_findHoles_8 : decode cX11_findHoles 8 = .ok (.ifCond .eq 70, 3) := by decide +kernel
theorem dX11_findHoles_11 : decode cX11_findHoles 11 = .ok (.iload_n 1, 1) := by decide +kernel
theorem dX11_findHoles_12 : decode cX11_findHoles 12 = .ok (.iload_n 1, 1) := by decide +kernel
theorem dX11_findHoles_13 : decode cX11_findHoles 13 = .ok (.invokestatic 214, 3) := by decide +kernel
theorem dX11_findHoles_16 : decode cX11_findHoles 16 = .ok (.invokestatic 217, 3) := by decide +kernel
theorem dX11_findHoles_19 : decode cX11_findHoles 19 = .ok (.istore_n 3, 1) := by decide +kernel
theorem dX11_findHoles_20 : decode cX11_findHoles 20 = .ok (.aload_n 0, 1) := by decide +kernel
theorem dX11_findHoles_21 : decode cX11_findHoles 21 = .ok (.getfield 34, 3) := by decide +kernel
theorem dX11_findHoles_24 : decode cX11_findHoles 24 = .ok (.iload_n 2, 1) := by decide +kernel
theorem dX11_findHoles_25 : decode cX11_findHoles 25 = .ok (.iconst 0, 1) := by decide +kernel
theorem dX11_findHoles_26 : decode cX11_findHoles 26 = .ok (.iastore, 1) := by decide +kernel
theorem dX11_findHoles_27 : decode cX11_findHoles 27 = .ok (.iconst 0, 1) := by decide +kernel
theorem dX11_findHoles_28 : decode cX11_findHoles 28 = .ok (.istore 4, 2) := by decide +kernel
theorem dX11_findHoles_30 : decode cX11_findHoles 30 = .ok (.iload 4, 2) := by decide +kernel
theorem dX11_findHoles_32 : decode cX11_findHoles 32 = .ok (.bipush 31, 2) := by decide +kernel
theorem dX11_findHoles_34 : decode cX11_findHoles 34 = .ok (.if_icmp .ge 32, 3) := by decide +kernel
theorem dX11_findHoles_37 : decode cX11_findHoles 37 = .ok (.aload_n 0, 1) := by decide +kernel
theorem dX11_findHoles_38 : decode cX11_findHoles 38 = .ok (.getfield 34, 3) := by decide +kernel
theorem dX11_findHoles_41 : decode cX11_findHoles 41 = .ok (.iload_n 2, 1) := by decide +kernel
theorem dX11_findHoles_42 : decode cX11_findHoles 42 = .ok (.dup2, 1) := by decide +kernel
theorem dX11_findHoles_43 : decode cX11_findHoles 43 = .ok (.iaload, 1) := by decide +kernel
theorem dX11_findHoles_44 : decode cX11_findHoles 44 = .ok (.iload_n 3, 1) := by decide +kernel
theorem dX11_findHoles_45 : decode cX11_findHoles 45 = .ok (.iload 4, 2) := by decide +kernel
theorem dX11_findHoles_47 : decode cX11_findHoles 47 = .ok (.invokestatic 155, 3) := by decide +kernel
theorem dX11_findHoles_50 : decode cX11_findHoles 50 = .ok (.ifCond .eq 7, 3) := by decide +kernel
theorem dX11_findHoles_53 : decode cX11_findHoles 53 = .ok (.iconst 1, 1) := by decide +kernel
theorem dX11_findHoles_54 : decode cX11_findHoles 54 = .ok (.goto 4, 3) := by decide +kernel
theorem dX11_findHoles_57 : decode cX11_findHoles 57 = .ok (.iconst 0, 1) := by decide +kernel
theorem dX11_findHoles_58 : decode cX11_findHoles 58 = .ok (.iadd, 1) := by decide +kernel
theorem dX11_findHoles_59 : decode cX11_findHoles 59 = .ok (.iastore, 1) := by decide +kernel
theorem dX11_findHoles_60 : decode cX11_findHoles 60 = .ok (.iinc 4 1, 3) := by decide +kernel
theorem dX11_findHoles_63 : decode cX11_findHoles 63 = .ok (.goto (-33), 3) := by decide +kernel
theorem dX11_findHoles_66 : decode cX11_findHoles 66 = .ok (.iinc 2 1, 3) := by decide +kernel
theorem dX11_findHoles_69 : decode cX11_findHoles 69 = .ok (.iload_n 1, 1) := by decide +kernel
theorem dX11_findHoles_70 : decode cX11_findHoles 70 = .ok (.iload_n 3, 1) := by decide +kernel
theorem dX11_findHoles_71 : decode cX11_findHoles 71 = .ok (.iconst (-1), 1) := by decide +kernel
theorem dX11_findHoles_72 : decode cX11_findHoles 72 = .ok (.ixor, 1) := by decide +kernel
theorem dX11_findHoles_73 : decode cX11_findHoles 73 = .ok (.iand, 1) := by decide +kernel
theorem dX11_findHoles_74 : decode cX11_findHoles 74 = .ok (.istore_n 1, 1) := by decide +kernel
theorem dX11_findHoles_75 : decode cX11_findHoles 75 = .ok (.goto (-68), 3) := by decide +kernel
theorem dX11_findHoles_78 : decode cX11_findHoles 78 = .ok (.iload_n 2, 1) := by decide +kernel
theorem dX11_findHoles_79 : decode cX11_findHoles 79 = .ok (.ireturn, 1) := by decide +kernel
theorem dX11_hole_0 : decode cX11_hole 0 = .ok (.iload_n 1, 1) := by decide +kernel
theorem dX11_hole_1 : decode cX11_hole 1 = .ok (.iconst (-1), 1) := by decide +kernel
theorem dX11_hole_2 : decode cX11_hole 2 = .ok (.if_icmp .ge 9, 3) := by decide +kernel
theorem dX11_hole_5 : decode cX11_hole 5 = .ok (.aload_n 0, 1) := by decide +kernel
theorem dX11_hole_6 : decode cX11_hole 6 = .ok (.iconst 1, 1) := by decide +kernel
theorem dX11_hole_7 : decode cX11_hole 7 = .ok (.invokevirtual 79, 3) := by decide +kernel
theorem dX11_hole_10 : decode cX11_hole 10 = .ok (.ireturn, 1) := by decide +kernel
theorem dX11_hole_11 : decode cX11_hole 11 = .ok (.aload_n 0, 1) := by decide +kernel
theorem dX11_hole_12 : decode cX11_hole 12 = .ok (.invokevirtual 230, 3) := by decide +kernel
theorem dX11_hole_15 : decode cX11_hole 15 = .ok (.istore_n 2, 1) := by decide +kernel
theorem dX11_hole_16 : decode cX11_hole 16 = .ok (.iload_n 1, 1) := by decide +kernel
theorem dX11_hole_17 : decode cX11_hole 17 = .ok (.iconst (-1), 1) := by decide +kernel
theorem dX11_hole_18 : decode cX11_hole 18 = .ok (.if_icmp .ne 7, 3) := by decide +kernel
theorem dX11_hole_21 : decode cX11_hole 21 = .ok (.iload_n 2, 1) := by decide +kernel
theorem dX11_hole_22 : decode cX11_hole 22 = .ok (.goto 22, 3) := by decide +kernel
theorem dX11_hole_25 : decode cX11_hole 25 = .ok (.iload_n 1, 1) := by decide +kernel
theorem dX11_hole_26 : decode cX11_hole 26 = .ok (.iload_n 2, 1) := by decide +kernel
theorem dX11_hole_27 : decode cX11_hole 27 = .ok (.if_icmp .ge 12, 3) := by decide +kernel
theorem dX11_hole_30 : decode cX11_hole 30 = .ok (.aload_n 0, 1) := by decide +kernel
theorem dX11_hole_31 : decode cX11_hole 31 = .ok (.getfield 34, 3) := by decide +kernel
theorem dX11_hole_34 : decode cX11_hole 34 = .ok (.iload_n 1, 1) := by decide +kernel
theorem dX11_hole_35 : decode cX11_hole 35 = .ok (.iaload, 1) := by decide +kernel
theorem dX11_hole_36 : decode cX11_hole 36 = .ok (.goto 8, 3) := by decide +kernel
theorem dX11_hole_39 : decode cX11_hole 39 = .ok (.aload_n 0, 1) := by decide +kernel
theorem dX11_hole_40 : decode cX11_hole 40 = .ok (.iconst 2, 1) := by decide +kernel
theorem dX11_hole_41 : decode cX11_hole 41 = .ok (.invokevirtual 79, 3) := by decide +kernel
theorem dX11_hole_44 : decode cX11_hole 44 = .ok (.ireturn, 1) := by decide +kernel
theorem dX11_meshes_0 : decode cX11_meshes 0 = .ok (.iload_n 0, 1) := by decide +kernel
theorem dX11_meshes_1 : decode cX11_meshes 1 = .ok (.bipush 16, 2) := by decide +kernel
theorem dX11_meshes_3 : decode cX11_meshes 3 = .ok (.if_icmp .ge 30, 3) := by decide +kernel
theorem dX11_meshes_6 : decode cX11_meshes 6 = .ok (.iload_n 0, 1) := by decide +kernel
theorem dX11_meshes_7 : decode cX11_meshes 7 = .ok (.iconst 4, 1) := by decide +kernel
theorem dX11_meshes_8 : decode cX11_meshes 8 = .ok (.idiv, 1) := by decide +kernel
theorem dX11_meshes_9 : decode cX11_meshes 9 = .ok (.istore_n 1, 1) := by decide +kernel
theorem dX11_meshes_10 : decode cX11_meshes 10 = .ok (.iload_n 1, 1) := by decide +kernel
theorem dX11_meshes_11 : decode cX11_meshes 11 = .ok (.iconst 1, 1) := by decide +kernel
theorem dX11_meshes_12 : decode cX11_meshes 12 = .ok (.iconst 2, 1) := by decide +kernel
theorem dX11_meshes_13 : decode cX11_meshes 13 = .ok (.invokestatic 60, 3) := by decide +kernel
theorem dX11_meshes_16 : decode cX11_meshes 16 = .ok (.ifCond .eq 15, 3) := by decide +kernel
theorem dX11_meshes_19 : decode cX11_meshes 19 = .ok (.iconst 1, 1) := by decide +kernel
theorem dX11_meshes_20 : decode cX11_meshes 20 = .ok (.iload_n 0, 1) := by decide +kernel
theorem dX11_meshes_21 : decode cX11_meshes 21 = .ok (.iconst 4, 1) := by decide +kernel
theorem dX11_meshes_22 : decode cX11_meshes 22 = .ok (.isub, 1) := by decide +kernel
theorem dX11_meshes_23 : decode cX11_meshes 23 = .ok (.ishl, 1) := by decide +kernel
theorem dX11_meshes_24 : decode cX11_meshes 24 = .ok (.iconst 1, 1) := by decide +kernel
theorem dX11_meshes_25 : decode cX11_meshes 25 = .ok (.iload_n 0, 1) := by decide +kernel
theorem dX11_meshes_26 : decode cX11_meshes 26 = .ok (.ishl, 1) := by decide +kernel
theorem dX11_meshes_27 : decode cX11_meshes 27 = .ok (.ior, 1) := by decide +kernel
theorem dX11_meshes_28 : decode cX11_meshes 28 = .ok (.goto 4, 3) := by decide +kernel
theorem dX11_meshes_31 : decode cX11_meshes 31 = .ok (.iconst 0, 1) := by decide +kernel
theorem dX11_meshes_32 : decode cX11_meshes 32 = .ok (.ireturn, 1) := by decide +kernel
theorem dX11_meshes_33 : decode cX11_meshes 33 = .ok (.iload_n 0, 1) := by decide +kernel
theorem dX11_meshes_34 : decode cX11_meshes 34 = .ok (.bipush 16, 2) := by decide +kernel
theorem dX11_meshes_36 : decode cX11_meshes 36 = .ok (.isub, 1) := by decide +kernel
theorem dX11_meshes_37 : decode cX11_meshes 37 = .ok (.iconst 5, 1) := by decide +kernel
theorem dX11_meshes_38 : decode cX11_meshes 38 = .ok (.idiv, 1) := by decide +kernel
theorem dX11_meshes_39 : decode cX11_meshes 39 = .ok (.istore_n 1, 1) := by decide +kernel
theorem dX11_meshes_40 : decode cX11_meshes 40 = .ok (.iload_n 0, 1) := by decide +kernel
theorem dX11_meshes_41 : decode cX11_meshes 41 = .ok (.bipush 16, 2) := by decide +kernel
theorem dX11_meshes_43 : decode cX11_meshes 43 = .ok (.isub, 1) := by decide +kernel
theorem dX11_meshes_44 : decode cX11_meshes 44 = .ok (.iconst 5, 1) := by decide +kernel
theorem dX11_meshes_45 : decode cX11_meshes 45 = .ok (.irem, 1) := by decide +kernel
theorem dX11_meshes_46 : decode cX11_meshes 46 = .ok (.istore_n 2, 1) := by decide +kernel
theorem dX11_meshes_47 : decode cX11_meshes 47 = .ok (.iload_n 2, 1) := by decide +kernel
theorem dX11_meshes_48 : decode cX11_meshes 48 = .ok (.iconst 1, 1) := by decide +kernel
theorem dX11_meshes_49 : decode cX11_meshes 49 = .ok (.iconst 3, 1) := by decide +kernel
theorem dX11_meshes_50 : decode cX11_meshes 50 = .ok (.invokestatic 60, 3) := by decide +kernel
theorem dX11_meshes_53 : decode cX11_meshes 53 = .ok (.ifCond .eq 23, 3) := by decide +kernel
theorem dX11_meshes_56 : decode cX11_meshes 56 = .ok (.iconst 1, 1) := by decide +kernel
theorem dX11_meshes_57 : decode cX11_meshes 57 = .ok (.iconst 4, 1) := by decide +kernel
theorem dX11_meshes_58 : decode cX11_meshes 58 = .ok (.iload_n 1, 1) := by decide +kernel
theorem dX11_meshes_59 : decode cX11_meshes 59 = .ok (.imul, 1) := by decide +kernel
theorem dX11_meshes_60 : decode cX11_meshes 60 = .ok (.iload_n 2, 1) := by decide +kernel
theorem dX11_meshes_61 : decode cX11_meshes 61 = .ok (.iadd, 1) := by decide +kernel
theorem dX11_meshes_62 : decode cX11_meshes 62 = .ok (.iconst 1, 1) := by decide +kernel
theorem dX11_meshes_63 : decode cX11_meshes 63 = .ok (.isub, 1) := by decide +kernel
theorem dX11_meshes_64 : decode cX11_meshes 64 = .ok (.ishl, 1) := by decide +kernel
theorem dX11_meshes_65 : decode cX11_meshes 65 = .ok (.iconst 1, 1) := by decide +kernel
theorem dX11_meshes_66 : decode cX11_meshes 66 = .ok (.iconst 4, 1) := by decide +kernel
theorem dX11_meshes_67 : decode cX11_meshes 67 = .ok (.iload_n 1, 1) := by decide +kernel
theorem dX11_meshes_68 : decode cX11_meshes 68 = .ok (.imul, 1) := by decide +kernel
theorem dX11_meshes_69 : decode cX11_meshes 69 = .ok (.iload_n 2, 1) := by decide +kernel
theorem dX11_meshes_70 : decode cX11_meshes 70 = .ok (.iadd, 1) := by decide +kernel
theorem dX11_meshes_71 : decode cX11_meshes 71 = .ok (.ishl, 1) := by decide +kernel
theorem dX11_meshes_72 : decode cX11_meshes 72 = .ok (.ior, 1) := by decide +kernel
theorem dX11_meshes_73 : decode cX11_meshes 73 = .ok (.goto 4, 3) := by decide +kernel
theorem dX11_meshes_76 : decode cX11_meshes 76 = .ok (.iconst 0, 1) := by decide +kernel
theorem dX11_meshes_77 : decode cX11_meshes 77 = .ok (.ireturn, 1) := by decide +kernel
theorem dX11_bitsOf_0 : decode cX11_bitsOf 0 = .ok (.iconst 0, 1) := by decide +kernel
theorem dX11_bitsOf_1 : decode cX11_bitsOf 1 = .ok (.istore_n 1, 1) := by decide +kernel
theorem dX11_bitsOf_2 : decode cX11_bitsOf 2 = .ok (.iconst 0, 1) := by decide +kernel
theorem dX11_bitsOf_3 : decode cX11_bitsOf 3 = .ok (.istore_n 2, 1) := by decide +kernel
theorem dX11_bitsOf_4 : decode cX11_bitsOf 4 = .ok (.iload_n 2, 1) := by decide +kernel
theorem dX11_bitsOf_5 : decode cX11_bitsOf 5 = .ok (.bipush 31, 2) := by decide +kernel
theorem dX11_bitsOf_7 : decode cX11_bitsOf 7 = .ok (.if_icmp .ge 17, 3) := by decide +kernel
theorem dX11_bitsOf_10 : decode cX11_bitsOf 10 = .ok (.iload_n 1, 1) := by decide +kernel
theorem dX11_bitsOf_11 : decode cX11_bitsOf 11 = .ok (.iload_n 0, 1) := by decide +kernel
theorem dX11_bitsOf_12 : decode cX11_bitsOf 12 = .ok (.iload_n 2, 1) := by decide +kernel
theorem dX11_bitsOf_13 : decode cX11_bitsOf 13 = .ok (.iushr, 1) := by decide +kernel
theorem dX11_bitsOf_14 : decode cX11_bitsOf 14 = .ok (.iconst 1, 1) := by decide +kernel
theorem dX11_bitsOf_15 : decode cX11_bitsOf 15 = .ok (.iand, 1) := by decide +kernel
theorem dX11_bitsOf_16 : decode cX11_bitsOf 16 = .ok (.iadd, 1) := by decide +kernel
theorem dX11_bitsOf_17 : decode cX11_bitsOf 17 = .ok (.istore_n 1, 1) := by decide +kernel
theorem dX11_bitsOf_18 : decode cX11_bitsOf 18 = .ok (.iinc 2 1, 3) := by decide +kernel
theorem dX11_bitsOf_21 : decode cX11_bitsOf 21 = .ok (.goto (-17), 3) := by decide +kernel
theorem dX11_bitsOf_24 : decode cX11_bitsOf 24 = .ok (.iload_n 1, 1) := by decide +kernel
theorem dX11_bitsOf_25 : decode cX11_bitsOf 25 = .ok (.ireturn, 1) := by decide +kernel
theorem dX11_open_0 : decode cX11_open 0 = .ok (.aload_n 0, 1) := by decide +kernel
theorem dX11_open_1 : decode cX11_open 1 = .ok (.invokevirtual 174, 3) := by decide +kernel
theorem dX11_open_4 : decode cX11_open 4 = .ok (.istore_n 1, 1) := by decide +kernel
theorem dX11_open_5 : decode cX11_open 5 = .ok (.iconst 0, 1) := by decide +kernel
theorem dX11_open_6 : decode cX11_open 6 = .ok (.istore_n 2, 1) := by decide +kernel
theorem dX11_open_7 : decode cX11_open 7 = .ok (.iconst 0, 1) := by decide +kernel
theorem dX11_open_8 : decode cX11_open 8 = .ok (.istore_n 3, 1) := by decide +kernel
theorem dX11_open_9 : decode cX11_open 9 = .ok (.iload_n 3, 1) := by decide +kernel
theorem dX11_open_10 : decode cX11_open 10 = .ok (.bipush 12, 2) := by decide +kernel
theorem dX11_open_12 : decode cX11_open 12 = .ok (.if_icmp .ge 105, 3) := by decide +kernel
theorem dX11_open_15 : decode cX11_open 15 = .ok (.iconst 1, 1) := by decide +kernel
theorem dX11_open_16 : decode cX11_open 16 = .ok (.iload_n 3, 1) := by decide +kernel
theorem dX11_open_17 : decode cX11_open 17 = .ok (.ishl, 1) := by decide +kernel
theorem dX11_open_18 : decode cX11_open 18 = .ok (.istore 4, 2) := by decide +kernel
theorem dX11_open_20 : decode cX11_open 20 = .ok (.iconst 0, 1) := by decide +kernel
theorem dX11_open_21 : decode cX11_open 21 = .ok (.istore 5, 2) := by decide +kernel
theorem dX11_open_23 : decode cX11_open 23 = .ok (.iload 5, 2) := by decide +kernel
theorem dX11_open_25 : decode cX11_open 25 = .ok (.iload 4, 2) := by decide +kernel
theorem dX11_open_27 : decode cX11_open 27 = .ok (.if_icmp .eq 65, 3) := by decide +kernel
theorem dX11_open_30 : decode cX11_open 30 = .ok (.iload 4, 2) := by decide +kernel
theorem dX11_open_32 : decode cX11_open 32 = .ok (.istore 5, 2) := by decide +kernel
theorem dX11_open_34 : decode cX11_open 34 = .ok (.iconst 0, 1) := by decide +kernel
theorem dX11_open_35 : decode cX11_open 35 = .ok (.istore 6, 2) := by decide +kernel
theorem dX11_open_37 : decode cX11_open 37 = .ok (.iload 6, 2) := by decide +kernel
theorem dX11_open_39 : decode cX11_open 39 = .ok (.bipush 31, 2) := by decide +kernel
theorem dX11_open_41 : decode cX11_open 41 = .ok (.if_icmp .ge 48, 3) := by decide +kernel
theorem dX11_open_44 : decode cX11_open 44 = .ok (.iload_n 1, 1) := by decide +kernel
theorem dX11_open_45 : decode cX11_open 45 = .ok (.iload 6, 2) := by decide +kernel
theorem dX11_open_47 : decode cX11_open 47 = .ok (.invokestatic 155, 3) := by decide +kernel
theorem dX11_open_50 : decode cX11_open 50 = .ok (.ifCond .eq 11, 3) := by decide +kernel
theorem dX11_open_53 : decode cX11_open 53 = .ok (.iload 6, 2) := by decide +kernel
theorem dX11_open_55 : decode cX11_open 55 = .ok (.invokestatic 233, 3) := by decide +kernel
theorem dX11_open_58 : decode cX11_open 58 = .ok (.goto 4, 3) := by decide +kernel
theorem dX11_open_61 : decode cX11_open 61 = .ok (.iconst 0, 1) := by decide +kernel
theorem dX11_open_62 : decode cX11_open 62 = .ok (.istore 7, 2) := by decide +kernel
theorem dX11_open_64 : decode cX11_open 64 = .ok (.iload 4, 2) := by decide +kernel
theorem dX11_open_66 : decode cX11_open 66 = .ok (.iload 7, 2) := by decide +kernel
theorem dX11_open_68 : decode cX11_open 68 = .ok (.iload 4, 2) := by decide +kernel
theorem dX11_open_70 : decode cX11_open 70 = .ok (.iand, 1) := by decide +kernel
theorem dX11_open_71 : decode cX11_open 71 = .ok (.ifCond .eq 8, 3) := by decide +kernel
theorem dX11_open_74 : decode cX11_open 74 = .ok (.iload 7, 2) := by decide +kernel
theorem dX11_open_76 : decode cX11_open 76 = .ok (.goto 4, 3) := by decide +kernel
theorem dX11_open_79 : decode cX11_open 79 = .ok (.iconst 0, 1) := by decide +kernel
theorem dX11_open_80 : decode cX11_open 80 = .ok (.ior, 1) := by decide +kernel
theorem dX11_open_81 : decode cX11_open 81 = .ok (.istore 4, 2) := by decide +kernel
theorem dX11_open_83 : decode cX11_open 83 = .ok (.iinc 6 1, 3) := by decide +kernel
theorem dX11_open_86 : decode cX11_open 86 = .ok (.goto (-49), 3) := by decide +kernel
theorem dX11_open_89 : decode cX11_open 89 = .ok (.goto (-66), 3) := by decide +kernel
theorem dX11_open_92 : decode cX11_open 92 = .ok (.iload 4, 2) := by decide +kernel
theorem dX11_open_94 : decode cX11_open 94 = .ok (.invokestatic 236, 3) := by decide +kernel
theorem dX11_open_97 : decode cX11_open 97 = .ok (.iload_n 2, 1) := by decide +kernel
theorem dX11_open_98 : decode cX11_open 98 = .ok (.if_icmp .le 11, 3) := by decide +kernel
theorem dX11_open_101 : decode cX11_open 101 = .ok (.iload 4, 2) := by decide +kernel
theorem dX11_open_103 : decode cX11_open 103 = .ok (.invokestatic 236, 3) := by decide +kernel
theorem dX11_open_106 : decode cX11_open 106 = .ok (.goto 4, 3) := by decide +kernel
theorem dX11_open_109 : decode cX11_open 109 = .ok (.iload_n 2, 1) := by decide +kernel
theorem dX11_open_110 : decode cX11_open 110 = .ok (.istore_n 2, 1) := by decide +kernel
theorem dX11_open_111 : decode cX11_open 111 = .ok (.iinc 3 1, 3) := by decide +kernel
theorem dX11_open_114 : decode cX11_open 114 = .ok (.goto (-105), 3) := by decide +kernel
theorem dX11_open_117 : decode cX11_open 117 = .ok (.iload_n 2, 1) := by decide +kernel
theorem dX11_open_118 : decode cX11_open 118 = .ok (.ireturn, 1) := by decide +kernel
theorem dX11_minutesBy_0 : decode cX11_minutesBy 0 = .ok (.iload_n 1, 1) := by decide +kernel
theorem dX11_minutesBy_1 : decode cX11_minutesBy 1 = .ok (.istore_n 3, 1) := by decide +kernel
theorem dX11_minutesBy_2 : decode cX11_minutesBy 2 = .ok (.iconst 0, 1) := by decide +kernel
theorem dX11_minutesBy_3 : decode cX11_minutesBy 3 = .ok (.istore 4, 2) := by decide +kernel
theorem dX11_minutesBy_5 : decode cX11_minutesBy 5 = .ok (.iload 4, 2) := by decide +kernel
theorem dX11_minutesBy_7 : decode cX11_minutesBy 7 = .ok (.iconst 3, 1) := by decide +kernel
theorem dX11_minutesBy_8 : decode cX11_minutesBy 8 = .ok (.if_icmp .ge 17, 3) := by decide +kernel
theorem dX11_minutesBy_11 : decode cX11_minutesBy 11 = .ok (.aload_n 0, 1) := by decide +kernel
theorem dX11_minutesBy_12 : decode cX11_minutesBy 12 = .ok (.getfield 37, 3) := by decide +kernel
theorem dX11_minutesBy_15 : decode cX11_minutesBy 15 = .ok (.iload 4, 2) := by decide +kernel
theorem dX11_minutesBy_17 : decode cX11_minutesBy 17 = .ok (.iconst 0, 1) := by decide +kernel
theorem dX11_minutesBy_18 : decode cX11_minutesBy 18 = .ok (.iastore, 1) := by decide +kernel
theorem dX11_minutesBy_19 : decode cX11_minutesBy 19 = .ok (.iinc 4 1, 3) := by decide +kernel
theorem dX11_minutesBy_22 : decode cX11_minutesBy 22 = .ok (.goto (-17), 3) := by decide +kernel
theorem dX11_minutesBy_25 : decode cX11_minutesBy 25 = .ok (.iload_n 2, 1) := by decide +kernel
theorem dX11_minutesBy_26 : decode cX11_minutesBy 26 = .ok (.iconst 1, 1) := by decide +kernel
theorem dX11_minutesBy_27 : decode cX11_minutesBy 27 = .ok (.isub, 1) := by decide +kernel
theorem dX11_minutesBy_28 : decode cX11_minutesBy 28 = .ok (.istore 4, 2) := by decide +kernel
theorem dX11_minutesBy_30 : decode cX11_minutesBy 30 = .ok (.iload 4, 2) := by decide +kernel
theorem dX11_minutesBy_32 : decode cX11_minutesBy 32 = .ok (.ifCond .lt 42, 3) := by decide +kernel
theorem dX11_minutesBy_35 : decode cX11_minutesBy 35 = .ok (.aload_n 0, 1) := by decide +kernel
theorem dX11_minutesBy_36 : decode cX11_minutesBy 36 = .ok (.getfield 37, 3) := by decide +kernel
theorem dX11_minutesBy_39 : decode cX11_minutesBy 39 = .ok (.iload_n 3, 1) := by decide +kernel
theorem dX11_minutesBy_40 : decode cX11_minutesBy 40 = .ok (.iconst 3, 1) := by decide +kernel
theorem dX11_minutesBy_41 : decode cX11_minutesBy 41 = .ok (.irem, 1) := by decide +kernel
theorem dX11_minutesBy_42 : decode cX11_minutesBy 42 = .ok (.dup2, 1) := by decide +kernel
theorem dX11_minutesBy_43 : decode cX11_minutesBy 43 = .ok (.iaload, 1) := by decide +kernel
theorem dX11_minutesBy_44 : decode cX11_minutesBy 44 = .ok (.aload_n 0, 1) := by decide +kernel
theorem dX11_minutesBy_45 : decode cX11_minutesBy 45 = .ok (.getfield 34, 3) := by decide +kernel
theorem dX11_minutesBy_48 : decode cX11_minutesBy 48 = .ok (.iload 4, 2) := by decide +kernel
theorem dX11_minutesBy_50 : decode cX11_minutesBy 50 = .ok (.iaload, 1) := by decide +kernel
theorem dX11_minutesBy_51 : decode cX11_minutesBy 51 = .ok (.aload_n 0, 1) := by decide +kernel
theorem dX11_minutesBy_52 : decode cX11_minutesBy 52 = .ok (.getfield 7, 3) := by decide +kernel
theorem dX11_minutesBy_55 : decode cX11_minutesBy 55 = .ok (.iconst 5, 1) := by decide +kernel
theorem dX11_minutesBy_56 : decode cX11_minutesBy 56 = .ok (.iload_n 3, 1) := by decide +kernel
theorem dX11_minutesBy_57 : decode cX11_minutesBy 57 = .ok (.iconst 3, 1) := by decide +kernel
theorem dX11_minutesBy_58 : decode cX11_minutesBy 58 = .ok (.irem, 1) := by decide +kernel
theorem dX11_minutesBy_59 : decode cX11_minutesBy 59 = .ok (.iadd, 1) := by decide +kernel
theorem dX11_minutesBy_60 : decode cX11_minutesBy 60 = .ok (.iaload, 1) := by decide +kernel
theorem dX11_minutesBy_61 : decode cX11_minutesBy 61 = .ok (.imul, 1) := by decide +kernel
theorem dX11_minutesBy_62 : decode cX11_minutesBy 62 = .ok (.iadd, 1) := by decide +kernel
theorem dX11_minutesBy_63 : decode cX11_minutesBy 63 = .ok (.iastore, 1) := by decide +kernel
theorem dX11_minutesBy_64 : decode cX11_minutesBy 64 = .ok (.iload_n 3, 1) := by decide +kernel
theorem dX11_minutesBy_65 : decode cX11_minutesBy 65 = .ok (.iconst 3, 1) := by decide +kernel
theorem dX11_minutesBy_66 : decode cX11_minutesBy 66 = .ok (.idiv, 1) := by decide +kernel
theorem dX11_minutesBy_67 : decode cX11_minutesBy 67 = .ok (.istore_n 3, 1) := by decide +kernel
theorem dX11_minutesBy_68 : decode cX11_minutesBy 68 = .ok (.iinc 4 (-1), 3) := by decide +kernel
theorem dX11_minutesBy_71 : decode cX11_minutesBy 71 = .ok (.goto (-41), 3) := by decide +kernel
theorem dX11_minutesBy_74 : decode cX11_minutesBy 74 = .ok (.aload_n 0, 1) := by decide +kernel
theorem dX11_minutesBy_75 : decode cX11_minutesBy 75 = .ok (.getfield 37, 3) := by decide +kernel
theorem dX11_minutesBy_78 : decode cX11_minutesBy 78 = .ok (.iconst 0, 1) := by decide +kernel
theorem dX11_minutesBy_79 : decode cX11_minutesBy 79 = .ok (.iaload, 1) := by decide +kernel
theorem dX11_minutesBy_80 : decode cX11_minutesBy 80 = .ok (.aload_n 0, 1) := by decide +kernel
theorem dX11_minutesBy_81 : decode cX11_minutesBy 81 = .ok (.getfield 37, 3) := by decide +kernel
theorem dX11_minutesBy_84 : decode cX11_minutesBy 84 = .ok (.iconst 1, 1) := by decide +kernel
theorem dX11_minutesBy_85 : decode cX11_minutesBy 85 = .ok (.iaload, 1) := by decide +kernel
theorem dX11_minutesBy_86 : decode cX11_minutesBy 86 = .ok (.if_icmp .le 12, 3) := by decide +kernel
theorem dX11_minutesBy_89 : decode cX11_minutesBy 89 = .ok (.aload_n 0, 1) := by decide +kernel
theorem dX11_minutesBy_90 : decode cX11_minutesBy 90 = .ok (.getfield 37, 3) := by decide +kernel
theorem dX11_minutesBy_93 : decode cX11_minutesBy 93 = .ok (.iconst 0, 1) := by decide +kernel
theorem dX11_minutesBy_94 : decode cX11_minutesBy 94 = .ok (.iaload, 1) := by decide +kernel
theorem dX11_minutesBy_95 : decode cX11_minutesBy 95 = .ok (.goto 9, 3) := by decide +kernel
theorem dX11_minutesBy_98 : decode cX11_minutesBy 98 = .ok (.aload_n 0, 1) := by decide +kernel
theorem dX11_minutesBy_99 : decode cX11_minutesBy 99 = .ok (.getfield 37, 3) := by decide +kernel
theorem dX11_minutesBy_102 : decode cX11_minutesBy 102 = .ok (.iconst 1, 1) := by decide +kernel
theorem dX11_minutesBy_103 : decode cX11_minutesBy 103 = .ok (.iaload, 1) := by decide +kernel
theorem dX11_minutesBy_104 : decode cX11_minutesBy 104 = .ok (.istore 4, 2) := by decide +kernel
theorem dX11_minutesBy_106 : decode cX11_minutesBy 106 = .ok (.aload_n 0, 1) := by decide +kernel
theorem dX11_minutesBy_107 : decode cX11_minutesBy 107 = .ok (.getfield 37, 3) := by decide +kernel
theorem dX11_minutesBy_110 : decode cX11_minutesBy 110 = .ok (.iconst 2, 1) := by decide +kernel
theorem dX11_minutesBy_111 : decode cX11_minutesBy 111 = .ok (.iaload, 1) := by decide +kernel
theorem dX11_minutesBy_112 : decode cX11_minutesBy 112 = .ok (.iload 4, 2) := by decide +kernel
theorem dX11_minutesBy_114 : decode cX11_minutesBy 114 = .ok (.if_icmp .le 12, 3) := by decide +kernel
theorem dX11_minutesBy_117 : decode cX11_minutesBy 117 = .ok (.aload_n 0, 1) := by decide +kernel
theorem dX11_minutesBy_118 : decode cX11_minutesBy 118 = .ok (.getfield 37, 3) := by decide +kernel
theorem dX11_minutesBy_121 : decode cX11_minutesBy 121 = .ok (.iconst 2, 1) := by decide +kernel
theorem dX11_minutesBy_122 : decode cX11_minutesBy 122 = .ok (.iaload, 1) := by decide +kernel
theorem dX11_minutesBy_123 : decode cX11_minutesBy 123 = .ok (.goto 5, 3) := by decide +kernel
theorem dX11_minutesBy_126 : decode cX11_minutesBy 126 = .ok (.iload 4, 2) := by decide +kernel
theorem dX11_minutesBy_128 : decode cX11_minutesBy 128 = .ok (.ireturn, 1) := by decide +kernel
theorem dX11_threes_0 : decode cX11_threes 0 = .ok (.iconst 1, 1) := by decide +kernel
theorem dX11_threes_1 : decode cX11_threes 1 = .ok (.istore_n 1, 1) := by decide +kernel
theorem dX11_threes_2 : decode cX11_threes 2 = .ok (.iconst 0, 1) := by decide +kernel
theorem dX11_threes_3 : decode cX11_threes 3 = .ok (.istore_n 2, 1) := by decide +kernel
theorem dX11_threes_4 : decode cX11_threes 4 = .ok (.iload_n 2, 1) := by decide +kernel
theorem dX11_threes_5 : decode cX11_threes 5 = .ok (.iload_n 0, 1) := by decide +kernel
theorem dX11_threes_6 : decode cX11_threes 6 = .ok (.if_icmp .ge 13, 3) := by decide +kernel
theorem dX11_threes_9 : decode cX11_threes 9 = .ok (.iload_n 1, 1) := by decide +kernel
theorem dX11_threes_10 : decode cX11_threes 10 = .ok (.iconst 3, 1) := by decide +kernel
theorem dX11_threes_11 : decode cX11_threes 11 = .ok (.imul, 1) := by decide +kernel
theorem dX11_threes_12 : decode cX11_threes 12 = .ok (.istore_n 1, 1) := by decide +kernel
theorem dX11_threes_13 : decode cX11_threes 13 = .ok (.iinc 2 1, 3) := by decide +kernel
theorem dX11_threes_16 : decode cX11_threes 16 = .ok (.goto (-12), 3) := by decide +kernel
theorem dX11_threes_19 : decode cX11_threes 19 = .ok (.iload_n 1, 1) := by decide +kernel
theorem dX11_threes_20 : decode cX11_threes 20 = .ok (.ireturn, 1) := by decide +kernel
theorem dX11_minutes_0 : decode cX11_minutes 0 = .ok (.iload_n 1, 1) := by decide +kernel
theorem dX11_minutes_1 : decode cX11_minutes 1 = .ok (.iconst (-1), 1) := by decide +kernel
theorem dX11_minutes_2 : decode cX11_minutes 2 = .ok (.if_icmp .ge 9, 3) := by decide +kernel
theorem dX11_minutes_5 : decode cX11_minutes 5 = .ok (.aload_n 0, 1) := by decide +kernel
theorem dX11_minutes_6 : decode cX11_minutes 6 = .ok (.iconst 1, 1) := by decide +kernel
theorem dX11_minutes_7 : decode cX11_minutes 7 = .ok (.invokevirtual 79, 3) := by decide +kernel
theorem dX11_minutes_10 : decode cX11_minutes 10 = .ok (.ireturn, 1) := by decide +kernel
theorem dX11_minutes_11 : decode cX11_minutes 11 = .ok (.aload_n 0, 1) := by decide +kernel
theorem dX11_minutes_12 : decode cX11_minutes 12 = .ok (.invokevirtual 230, 3) := by decide +kernel
theorem dX11_minutes_15 : decode cX11_minutes 15 = .ok (.istore_n 2, 1) := by decide +kernel
theorem dX11_minutes_16 : decode cX11_minutes 16 = .ok (.iload_n 1, 1) := by decide +kernel
theorem dX11_minutes_17 : decode cX11_minutes 17 = .ok (.iload_n 2, 1) := by decide +kernel
theorem dX11_minutes_18 : decode cX11_minutes 18 = .ok (.if_icmp .lt 9, 3) := by decide +kernel
theorem dX11_minutes_21 : decode cX11_minutes 21 = .ok (.aload_n 0, 1) := by decide +kernel
theorem dX11_minutes_22 : decode cX11_minutes 22 = .ok (.iconst 2, 1) := by decide +kernel
theorem dX11_minutes_23 : decode cX11_minutes 23 = .ok (.invokevirtual 79, 3) := by decide +kernel
theorem dX11_minutes_26 : decode cX11_minutes 26 = .ok (.ireturn, 1) := by decide +kernel
theorem dX11_minutes_27 : decode cX11_minutes 27 = .ok (.iload_n 2, 1) := by decide +kernel
theorem dX11_minutes_28 : decode cX11_minutes 28 = .ok (.bipush 6, 2) := by decide +kernel
theorem dX11_minutes_30 : decode cX11_minutes 30 = .ok (.if_icmp .le 9, 3) := by decide +kernel
theorem dX11_minutes_33 : decode cX11_minutes 33 = .ok (.aload_n 0, 1) := by decide +kernel
theorem dX11_minutes_34 : decode cX11_minutes 34 = .ok (.iconst 4, 1) := by decide +kernel
theorem dX11_minutes_35 : decode cX11_minutes 35 = .ok (.invokevirtual 79, 3) := by decide +kernel
theorem dX11_minutes_38 : decode cX11_minutes 38 = .ok (.ireturn, 1) := by decide +kernel
theorem dX11_minutes_39 : decode cX11_minutes 39 = .ok (.iconst 0, 1) := by decide +kernel
theorem dX11_minutes_40 : decode cX11_minutes 40 = .ok (.istore_n 3, 1) := by decide +kernel
theorem dX11_minutes_41 : decode cX11_minutes 41 = .ok (.iconst 1, 1) := by decide +kernel
theorem dX11_minutes_42 : decode cX11_minutes 42 = .ok (.istore 4, 2) := by decide +kernel
theorem dX11_minutes_44 : decode cX11_minutes 44 = .ok (.iload 4, 2) := by decide +kernel
theorem dX11_minutes_46 : decode cX11_minutes 46 = .ok (.iload_n 2, 1) := by decide +kernel
theorem dX11_minutes_47 : decode cX11_minutes 47 = .ok (.invokestatic 239, 3) := by decide +kernel
theorem dX11_minutes_50 : decode cX11_minutes 50 = .ok (.if_icmp .ge 32, 3) := by decide +kernel
theorem dX11_minutes_53 : decode cX11_minutes 53 = .ok (.aload_n 0, 1) := by decide +kernel
theorem dX11_minutes_54 : decode cX11_minutes 54 = .ok (.iload 4, 2) := by decide +kernel
theorem dX11_minutes_56 : decode cX11_minutes 56 = .ok (.iload_n 2, 1) := by decide +kernel
theorem dX11_minutes_57 : decode cX11_minutes 57 = .ok (.invokevirtual 242, 3) := by decide +kernel
theorem dX11_minutes_60 : decode cX11_minutes 60 = .ok (.aload_n 0, 1) := by decide +kernel
theorem dX11_minutes_61 : decode cX11_minutes 61 = .ok (.iload_n 3, 1) := by decide +kernel
theorem dX11_minutes_62 : decode cX11_minutes 62 = .ok (.iload_n 2, 1) := by decide +kernel
theorem dX11_minutes_63 : decode cX11_minutes 63 = .ok (.invokevirtual 242, 3) := by decide +kernel
theorem dX11_minutes_66 : decode cX11_minutes 66 = .ok (.if_icmp .ge 8, 3) := by decide +kernel
theorem dX11_minutes_69 : decode cX11_minutes 69 = .ok (.iload 4, 2) := by decide +kernel
theorem dX11_minutes_71 : decode cX11_minutes 71 = .ok (.goto 4, 3) := by decide +kernel
theorem dX11_minutes_74 : decode cX11_minutes 74 = .ok (.iload_n 3, 1) := by decide +kernel
theorem dX11_minutes_75 : decode cX11_minutes 75 = .ok (.istore_n 3, 1) := by decide +kernel
theorem dX11_minutes_76 : decode cX11_minutes 76 = .ok (.iinc 4 1, 3) := by decide +kernel
theorem dX11_minutes_79 : decode cX11_minutes 79 = .ok (.goto (-35), 3) := by decide +kernel
theorem dX11_minutes_82 : decode cX11_minutes 82 = .ok (.iload_n 1, 1) := by decide +kernel
theorem dX11_minutes_83 : decode cX11_minutes 83 = .ok (.iconst (-1), 1) := by decide +kernel
theorem dX11_minutes_84 : decode cX11_minutes 84 = .ok (.if_icmp .ne 12, 3) := by decide +kernel
theorem dX11_minutes_87 : decode cX11_minutes 87 = .ok (.aload_n 0, 1) := by decide +kernel
theorem dX11_minutes_88 : decode cX11_minutes 88 = .ok (.iload_n 3, 1) := by decide +kernel
theorem dX11_minutes_89 : decode cX11_minutes 89 = .ok (.iload_n 2, 1) := by decide +kernel
theorem dX11_minutes_90 : decode cX11_minutes 90 = .ok (.invokevirtual 242, 3) := by decide +kernel
theorem dX11_minutes_93 : decode cX11_minutes 93 = .ok (.goto 15, 3) := by decide +kernel
theorem dX11_minutes_96 : decode cX11_minutes 96 = .ok (.iload_n 3, 1) := by decide +kernel
theorem dX11_minutes_97 : decode cX11_minutes 97 = .ok (.iload_n 2, 1) := by decide +kernel
theorem dX11_minutes_98 : decode cX11_minutes 98 = .ok (.iconst 1, 1) := by decide +kernel
theorem dX11_minutes_99 : decode cX11_minutes 99 = .ok (.isub, 1) := by decide +kernel
theorem dX11_minutes_100 : decode cX11_minutes 100 = .ok (.iload_n 1, 1) := by decide +kernel
theorem dX11_minutes_101 : decode cX11_minutes 101 = .ok (.isub, 1) := by decide +kernel
theorem dX11_minutes_102 : decode cX11_minutes 102 = .ok (.invokestatic 239, 3) := by decide +kernel
theorem dX11_minutes_105 : decode cX11_minutes 105 = .ok (.idiv, 1) := by decide +kernel
theorem dX11_minutes_106 : decode cX11_minutes 106 = .ok (.iconst 3, 1) := by decide +kernel
theorem dX11_minutes_107 : decode cX11_minutes 107 = .ok (.irem, 1) := by decide +kernel
theorem dX11_minutes_108 : decode cX11_minutes 108 = .ok (.ireturn, 1) := by decide +kernel
theorem dX11_wears_0 : decode cX11_wears 0 = .ok (.iconst 1, 1) := by decide +kernel
theorem dX11_wears_1 : decode cX11_wears 1 = .ok (.istore_n 2, 1) := by decide +kernel
theorem dX11_wears_2 : decode cX11_wears 2 = .ok (.aload_n 0, 1) := by decide +kernel
theorem dX11_wears_3 : decode cX11_wears 3 = .ok (.iconst 1, 1) := by decide +kernel
theorem dX11_wears_4 : decode cX11_wears 4 = .ok (.invokevirtual 130, 3) := by decide +kernel
theorem dX11_wears_7 : decode cX11_wears 7 = .ok (.ifCond .eq 50, 3) := by decide +kernel
theorem dX11_wears_10 : decode cX11_wears 10 = .ok (.aload_n 0, 1) := by decide +kernel
theorem dX11_wears_11 : decode cX11_wears 11 = .ok (.getfield 25, 3) := by decide +kernel
theorem dX11_wears_14 : decode cX11_wears 14 = .ok (.bipush 116, 2) := by decide +kernel
theorem dX11_wears_16 : decode cX11_wears 16 = .ok (.iload_n 1, 1) := by decide +kernel
theorem dX11_wears_17 : decode cX11_wears 17 = .ok (.iastore, 1) := by decide +kernel
theorem dX11_wears_18 : decode cX11_wears 18 = .ok (.aload_n 0, 1) := by decide +kernel
theorem dX11_wears_19 : decode cX11_wears 19 = .ok (.getfield 25, 3) := by decide +kernel
theorem dX11_wears_22 : decode cX11_wears 22 = .ok (.bipush 119, 2) := by decide +kernel
theorem dX11_wears_24 : decode cX11_wears 24 = .ok (.aload_n 0, 1) := by decide +kernel
theorem dX11_wears_25 : decode cX11_wears 25 = .ok (.iload_n 1, 1) := by decide +kernel
theorem dX11_wears_26 : decode cX11_wears 26 = .ok (.iconst 1, 1) := by decide +kernel
theorem dX11_wears_27 : decode cX11_wears 27 = .ok (.invokevirtual 64, 3) := by decide +kernel
theorem dX11_wears_30 : decode cX11_wears 30 = .ok (.iastore, 1) := by decide +kernel
theorem dX11_wears_31 : decode cX11_wears 31 = .ok (.aload_n 0, 1) := by decide +kernel
theorem dX11_wears_32 : decode cX11_wears 32 = .ok (.getfield 25, 3) := by decide +kernel
theorem dX11_wears_35 : decode cX11_wears 35 = .ok (.bipush 97, 2) := by decide +kernel
theorem dX11_wears_37 : decode cX11_wears 37 = .ok (.aload_n 0, 1) := by decide +kernel
theorem dX11_wears_38 : decode cX11_wears 38 = .ok (.getfield 7, 3) := by decide +kernel
theorem dX11_wears_41 : decode cX11_wears 41 = .ok (.iconst 0, 1) := by decide +kernel
theorem dX11_wears_42 : decode cX11_wears 42 = .ok (.iaload, 1) := by decide +kernel
theorem dX11_wears_43 : decode cX11_wears 43 = .ok (.aload_n 0, 1) := by decide +kernel
theorem dX11_wears_44 : decode cX11_wears 44 = .ok (.iload_n 1, 1) := by decide +kernel
theorem dX11_wears_45 : decode cX11_wears 45 = .ok (.iconst 2, 1) := by decide +kernel
theorem dX11_wears_46 : decode cX11_wears 46 = .ok (.invokevirtual 64, 3) := by decide +kernel
theorem dX11_wears_49 : decode cX11_wears 49 = .ok (.isub, 1) := by decide +kernel
theorem dX11_wears_50 : decode cX11_wears 50 = .ok (.iastore, 1) := by decide +kernel
theorem dX11_wears_51 : decode cX11_wears 51 = .ok (.aload_n 0, 1) := by decide +kernel
theorem dX11_wears_52 : decode cX11_wears 52 = .ok (.iconst 1, 1) := by decide +kernel
theorem dX11_wears_53 : decode cX11_wears 53 = .ok (.invokevirtual 140, 3) := by decide +kernel
theorem dX11_wears_56 : decode cX11_wears 56 = .ok (.istore_n 2, 1) := by decide +kernel
theorem dX11_wears_57 : decode cX11_wears 57 = .ok (.iload_n 2, 1) := by decide +kernel
theorem dX11_wears_58 : decode cX11_wears 58 = .ok (.iconst 0, 1) := by decide +kernel
theorem dX11_wears_59 : decode cX11_wears 59 = .ok (.bipush 20, 2) := by decide +kernel
theorem dX11_wears_61 : decode cX11_wears 61 = .ok (.invokestatic 143, 3) := by decide +kernel
theorem dX11_wears_64 : decode cX11_wears 64 = .ok (.ireturn, 1) := by decide +kernel
theorem dX11_day_0 : decode cX11_day 0 = .ok (.iconst 0, 1) := by decide +kernel
theorem dX11_day_1 : decode cX11_day 1 = .ok (.istore_n 1, 1) := by decide +kernel
theorem dX11_day_2 : decode cX11_day 2 = .ok (.iload_n 1, 1) := by decide +kernel
theorem dX11_day_3 : decode cX11_day 3 = .ok (.bipush 31, 2) := by decide +kernel
theorem dX11_day_5 : decode cX11_day 5 = .ok (.if_icmp .ge 48, 3) := by decide +kernel
theorem dX11_day_8 : decode cX11_day 8 = .ok (.aload_n 0, 1) := by decide +kernel
theorem dX11_day_9 : decode cX11_day 9 = .ok (.iload_n 1, 1) := by decide +kernel
theorem dX11_day_10 : decode cX11_day 10 = .ok (.invokevirtual 75, 3) := by decide +kernel
theorem dX11_day_13 : decode cX11_day 13 = .ok (.ifCond .ne 34, 3) := by decide +kernel
theorem dX11_day_16 : decode cX11_day 16 = .ok (.aload_n 0, 1) := by decide +kernel
theorem dX11_day_17 : decode cX11_day 17 = .ok (.getfield 7, 3) := by decide +kernel
theorem dX11_day_20 : decode cX11_day 20 = .ok (.bipush 88, 2) := by decide +kernel
theorem dX11_day_22 : decode cX11_day 22 = .ok (.iconst 3, 1) := by decide +kernel
theorem dX11_day_23 : decode cX11_day 23 = .ok (.iload_n 1, 1) := by decide +kernel
theorem dX11_day_24 : decode cX11_day 24 = .ok (.imul, 1) := by decide +kernel
theorem dX11_day_25 : decode cX11_day 25 = .ok (.iadd, 1) := by decide +kernel
theorem dX11_day_26 : decode cX11_day 26 = .ok (.iconst 1, 1) := by decide +kernel
theorem dX11_day_27 : decode cX11_day 27 = .ok (.iadd, 1) := by decide +kernel
theorem dX11_day_28 : decode cX11_day 28 = .ok (.aload_n 0, 1) := by decide +kernel
theorem dX11_day_29 : decode cX11_day 29 = .ok (.iload_n 1, 1) := by decide +kernel
theorem dX11_day_30 : decode cX11_day 30 = .ok (.iconst 1, 1) := by decide +kernel
theorem dX11_day_31 : decode cX11_day 31 = .ok (.invokevirtual 64, 3) := by decide +kernel
theorem dX11_day_34 : decode cX11_day 34 = .ok (.aload_n 0, 1) := by decide +kernel
theorem dX11_day_35 : decode cX11_day 35 = .ok (.iload_n 1, 1) := by decide +kernel
