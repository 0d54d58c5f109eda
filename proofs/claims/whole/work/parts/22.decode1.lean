theorem dX0_lesserKnot_0 : decode cX0_lesserKnot 0 = .ok (.iload_n 0, 1) := by decide +kernel
theorem dX0_lesserKnot_1 : decode cX0_lesserKnot 1 = .ok (.bipush 16, 2) := by decide +kernel
theorem dX0_lesserKnot_3 : decode cX0_lesserKnot 3 = .ok (.if_icmp .ge 15, 3) := by decide +kernel
theorem dX0_lesserKnot_6 : decode cX0_lesserKnot 6 = .ok (.iload_n 0, 1) := by decide +kernel
theorem dX0_lesserKnot_7 : decode cX0_lesserKnot 7 = .ok (.iconst 4, 1) := by decide +kernel
theorem dX0_lesserKnot_8 : decode cX0_lesserKnot 8 = .ok (.idiv, 1) := by decide +kernel
theorem dX0_lesserKnot_9 : decode cX0_lesserKnot 9 = .ok (.iconst 5, 1) := by decide +kernel
theorem dX0_lesserKnot_10 : decode cX0_lesserKnot 10 = .ok (.imul, 1) := by decide +kernel
theorem dX0_lesserKnot_11 : decode cX0_lesserKnot 11 = .ok (.iload_n 0, 1) := by decide +kernel
theorem dX0_lesserKnot_12 : decode cX0_lesserKnot 12 = .ok (.iconst 4, 1) := by decide +kernel
theorem dX0_lesserKnot_13 : decode cX0_lesserKnot 13 = .ok (.irem, 1) := by decide +kernel
theorem dX0_lesserKnot_14 : decode cX0_lesserKnot 14 = .ok (.iadd, 1) := by decide +kernel
theorem dX0_lesserKnot_15 : decode cX0_lesserKnot 15 = .ok (.goto 7, 3) := by decide +kernel
theorem dX0_lesserKnot_18 : decode cX0_lesserKnot 18 = .ok (.iload_n 0, 1) := by decide +kernel
theorem dX0_lesserKnot_19 : decode cX0_lesserKnot 19 = .ok (.bipush 16, 2) := by decide +kernel
theorem dX0_lesserKnot_21 : decode cX0_lesserKnot 21 = .ok (.isub, 1) := by decide +kernel
theorem dX0_lesserKnot_22 : decode cX0_lesserKnot 22 = .ok (.ireturn, 1) := by decide +kernel
theorem dX0_greaterKnot_0 : decode cX0_greaterKnot 0 = .ok (.iload_n 0, 1) := by decide +kernel
theorem dX0_greaterKnot_1 : decode cX0_greaterKnot 1 = .ok (.invokestatic 9, 3) := by decide +kernel
theorem dX0_greaterKnot_4 : decode cX0_greaterKnot 4 = .ok (.iload_n 0, 1) := by decide +kernel
theorem dX0_greaterKnot_5 : decode cX0_greaterKnot 5 = .ok (.bipush 16, 2) := by decide +kernel
theorem dX0_greaterKnot_7 : decode cX0_greaterKnot 7 = .ok (.if_icmp .ge 7, 3) := by decide +kernel
theorem dX0_greaterKnot_10 : decode cX0_greaterKnot 10 = .ok (.iconst 1, 1) := by decide +kernel
theorem dX0_greaterKnot_11 : decode cX0_greaterKnot 11 = .ok (.goto 4, 3) := by decide +kernel
theorem dX0_greaterKnot_14 : decode cX0_greaterKnot 14 = .ok (.iconst 5, 1) := by decide +kernel
theorem dX0_greaterKnot_15 : decode cX0_greaterKnot 15 = .ok (.iadd, 1) := by decide +kernel
theorem dX0_greaterKnot_16 : decode cX0_greaterKnot 16 = .ok (.ireturn, 1) := by decide +kernel
theorem dX0_endsOf_0 : decode cX0_endsOf 0 = .ok (.iload_n 0, 1) := by decide +kernel
theorem dX0_endsOf_1 : decode cX0_endsOf 1 = .ok (.bipush 16, 2) := by decide +kernel
theorem dX0_endsOf_3 : decode cX0_endsOf 3 = .ok (.if_icmp .ge 7, 3) := by decide +kernel
theorem dX0_endsOf_6 : decode cX0_endsOf 6 = .ok (.iconst 3, 1) := by decide +kernel
theorem dX0_endsOf_7 : decode cX0_endsOf 7 = .ok (.goto 5, 3) := by decide +kernel
theorem dX0_endsOf_10 : decode cX0_endsOf 10 = .ok (.bipush 33, 2) := by decide +kernel
theorem dX0_endsOf_12 : decode cX0_endsOf 12 = .ok (.istore_n 1, 1) := by decide +kernel
theorem dX0_endsOf_13 : decode cX0_endsOf 13 = .ok (.iload_n 1, 1) := by decide +kernel
theorem dX0_endsOf_14 : decode cX0_endsOf 14 = .ok (.iload_n 0, 1) := by decide +kernel
theorem dX0_endsOf_15 : decode cX0_endsOf 15 = .ok (.invokestatic 9, 3) := by decide +kernel
theorem dX0_endsOf_18 : decode cX0_endsOf 18 = .ok (.ishl, 1) := by decide +kernel
theorem dX0_endsOf_19 : decode cX0_endsOf 19 = .ok (.ireturn, 1) := by decide +kernel
theorem dX0_between_0 : decode cX0_between 0 = .ok (.iload_n 0, 1) := by decide +kernel
theorem dX0_between_1 : decode cX0_between 1 = .ok (.iload_n 1, 1) := by decide +kernel
theorem dX0_between_2 : decode cX0_between 2 = .ok (.invokestatic 15, 3) := by decide +kernel
theorem dX0_between_5 : decode cX0_between 5 = .ok (.istore_n 2, 1) := by decide +kernel
theorem dX0_between_6 : decode cX0_between 6 = .ok (.iload_n 0, 1) := by decide +kernel
theorem dX0_between_7 : decode cX0_between 7 = .ok (.iload_n 1, 1) := by decide +kernel
theorem dX0_between_8 : decode cX0_between 8 = .ok (.invokestatic 21, 3) := by decide +kernel
theorem dX0_between_11 : decode cX0_between 11 = .ok (.istore_n 3, 1) := by decide +kernel
theorem dX0_between_12 : decode cX0_between 12 = .ok (.iload_n 2, 1) := by decide +kernel
theorem dX0_between_13 : decode cX0_between 13 = .ok (.ifCond .lt 9, 3) := by decide +kernel
theorem dX0_between_16 : decode cX0_between 16 = .ok (.iload_n 3, 1) := by decide +kernel
theorem dX0_between_17 : decode cX0_between 17 = .ok (.bipush 20, 2) := by decide +kernel
theorem dX0_between_19 : decode cX0_between 19 = .ok (.if_icmp .lt 5, 3) := by decide +kernel
theorem dX0_between_22 : decode cX0_between 22 = .ok (.iconst (-1), 1) := by decide +kernel
theorem dX0_between_23 : decode cX0_between 23 = .ok (.ireturn, 1) := by decide +kernel
theorem dX0_between_24 : decode cX0_between 24 = .ok (.iload_n 3, 1) := by decide +kernel
theorem dX0_between_25 : decode cX0_between 25 = .ok (.iload_n 2, 1) := by decide +kernel
theorem dX0_between_26 : decode cX0_between 26 = .ok (.isub, 1) := by decide +kernel
theorem dX0_between_27 : decode cX0_between 27 = .ok (.iconst 5, 1) := by decide +kernel
theorem dX0_between_28 : decode cX0_between 28 = .ok (.if_icmp .ne 8, 3) := by decide +kernel
theorem dX0_between_31 : decode cX0_between 31 = .ok (.bipush 16, 2) := by decide +kernel
theorem dX0_between_33 : decode cX0_between 33 = .ok (.iload_n 2, 1) := by decide +kernel
theorem dX0_between_34 : decode cX0_between 34 = .ok (.iadd, 1) := by decide +kernel
theorem dX0_between_35 : decode cX0_between 35 = .ok (.ireturn, 1) := by decide +kernel
theorem dX0_between_36 : decode cX0_between 36 = .ok (.iload_n 3, 1) := by decide +kernel
theorem dX0_between_37 : decode cX0_between 37 = .ok (.iload_n 2, 1) := by decide +kernel
theorem dX0_between_38 : decode cX0_between 38 = .ok (.isub, 1) := by decide +kernel
theorem dX0_between_39 : decode cX0_between 39 = .ok (.iconst 1, 1) := by decide +kernel
theorem dX0_between_40 : decode cX0_between 40 = .ok (.if_icmp .ne 20, 3) := by decide +kernel
theorem dX0_between_43 : decode cX0_between 43 = .ok (.iload_n 2, 1) := by decide +kernel
theorem dX0_between_44 : decode cX0_between 44 = .ok (.iconst 5, 1) := by decide +kernel
theorem dX0_between_45 : decode cX0_between 45 = .ok (.irem, 1) := by decide +kernel
theorem dX0_between_46 : decode cX0_between 46 = .ok (.iconst 4, 1) := by decide +kernel
theorem dX0_between_47 : decode cX0_between 47 = .ok (.if_icmp .ge 13, 3) := by decide +kernel
theorem dX0_between_50 : decode cX0_between 50 = .ok (.iload_n 2, 1) := by decide +kernel
theorem dX0_between_51 : decode cX0_between 51 = .ok (.iconst 5, 1) := by decide +kernel
theorem dX0_between_52 : decode cX0_between 52 = .ok (.idiv, 1) := by decide +kernel
theorem dX0_between_53 : decode cX0_between 53 = .ok (.iconst 4, 1) := by decide +kernel
theorem dX0_between_54 : decode cX0_between 54 = .ok (.imul, 1) := by decide +kernel
theorem dX0_between_55 : decode cX0_between 55 = .ok (.iload_n 2, 1) := by decide +kernel
theorem dX0_between_56 : decode cX0_between 56 = .ok (.iconst 5, 1) := by decide +kernel
theorem dX0_between_57 : decode cX0_between 57 = .ok (.irem, 1) := by decide +kernel
theorem dX0_between_58 : decode cX0_between 58 = .ok (.iadd, 1) := by decide +kernel
theorem dX0_between_59 : decode cX0_between 59 = .ok (.ireturn, 1) := by decide +kernel
theorem dX0_between_60 : decode cX0_between 60 = .ok (.iconst (-1), 1) := by decide +kernel
theorem dX0_between_61 : decode cX0_between 61 = .ok (.ireturn, 1) := by decide +kernel
theorem dX0_meshesBeside_0 : decode cX0_meshesBeside 0 = .ok (.iconst 0, 1) := by decide +kernel
theorem dX0_meshesBeside_1 : decode cX0_meshesBeside 1 = .ok (.istore_n 1, 1) := by decide +kernel
theorem dX0_meshesBeside_2 : decode cX0_meshesBeside 2 = .ok (.iload_n 0, 1) := by decide +kernel
theorem dX0_meshesBeside_3 : decode cX0_meshesBeside 3 = .ok (.bipush 16, 2) := by decide +kernel
theorem dX0_meshesBeside_5 : decode cX0_meshesBeside 5 = .ok (.if_icmp .ge 38, 3) := by decide +kernel
theorem dX0_meshesBeside_8 : decode cX0_meshesBeside 8 = .ok (.iload_n 1, 1) := by decide +kernel
theorem dX0_meshesBeside_9 : decode cX0_meshesBeside 9 = .ok (.iload_n 0, 1) := by decide +kernel
theorem dX0_meshesBeside_10 : decode cX0_meshesBeside 10 = .ok (.bipush 12, 2) := by decide +kernel
theorem dX0_meshesBeside_12 : decode cX0_meshesBeside 12 = .ok (.if_icmp .ge 9, 3) := by decide +kernel
theorem dX0_meshesBeside_15 : decode cX0_meshesBeside 15 = .ok (.iconst 1, 1) := by decide +kernel
theorem dX0_meshesBeside_16 : decode cX0_meshesBeside 16 = .ok (.iload_n 0, 1) := by decide +kernel
theorem dX0_meshesBeside_17 : decode cX0_meshesBeside 17 = .ok (.ishl, 1) := by decide +kernel
theorem dX0_meshesBeside_18 : decode cX0_meshesBeside 18 = .ok (.goto 4, 3) := by decide +kernel
theorem dX0_meshesBeside_21 : decode cX0_meshesBeside 21 = .ok (.iconst 0, 1) := by decide +kernel
theorem dX0_meshesBeside_22 : decode cX0_meshesBeside 22 = .ok (.ior, 1) := by decide +kernel
theorem dX0_meshesBeside_23 : decode cX0_meshesBeside 23 = .ok (.istore_n 1, 1) := by decide +kernel
theorem dX0_meshesBeside_24 : decode cX0_meshesBeside 24 = .ok (.iload_n 1, 1) := by decide +kernel
theorem dX0_meshesBeside_25 : decode cX0_meshesBeside 25 = .ok (.iload_n 0, 1) := by decide +kernel
theorem dX0_meshesBeside_26 : decode cX0_meshesBeside 26 = .ok (.iconst 4, 1) := by decide +kernel
theorem dX0_meshesBeside_27 : decode cX0_meshesBeside 27 = .ok (.if_icmp .lt 11, 3) := by decide +kernel
theorem dX0_meshesBeside_30 : decode cX0_meshesBeside 30 = .ok (.iconst 1, 1) := by decide +kernel
theorem dX0_meshesBeside_31 : decode cX0_meshesBeside 31 = .ok (.iload_n 0, 1) := by decide +kernel
theorem dX0_meshesBeside_32 : decode cX0_meshesBeside 32 = .ok (.iconst 4, 1) := by decide +kernel
theorem dX0_meshesBeside_33 : decode cX0_meshesBeside 33 = .ok (.isub, 1) := by decide +kernel
theorem dX0_meshesBeside_34 : decode cX0_meshesBeside 34 = .ok (.ishl, 1) := by decide +kernel
theorem dX0_meshesBeside_35 : decode cX0_meshesBeside 35 = .ok (.goto 4, 3) := by decide +kernel
theorem dX0_meshesBeside_38 : decode cX0_meshesBeside 38 = .ok (.iconst 0, 1) := by decide +kernel
theorem dX0_meshesBeside_39 : decode cX0_meshesBeside 39 = .ok (.ior, 1) := by decide +kernel
theorem dX0_meshesBeside_40 : decode cX0_meshesBeside 40 = .ok (.istore_n 1, 1) := by decide +kernel
theorem dX0_meshesBeside_41 : decode cX0_meshesBeside 41 = .ok (.iload_n 1, 1) := by decide +kernel
theorem dX0_meshesBeside_42 : decode cX0_meshesBeside 42 = .ok (.ireturn, 1) := by decide +kernel
theorem dX0_meshesBeside_43 : decode cX0_meshesBeside 43 = .ok (.iload_n 0, 1) := by decide +kernel
theorem dX0_meshesBeside_44 : decode cX0_meshesBeside 44 = .ok (.bipush 16, 2) := by decide +kernel
theorem dX0_meshesBeside_46 : decode cX0_meshesBeside 46 = .ok (.isub, 1) := by decide +kernel
theorem dX0_meshesBeside_47 : decode cX0_meshesBeside 47 = .ok (.iconst 5, 1) := by decide +kernel
theorem dX0_meshesBeside_48 : decode cX0_meshesBeside 48 = .ok (.idiv, 1) := by decide +kernel
theorem dX0_meshesBeside_49 : decode cX0_meshesBeside 49 = .ok (.istore_n 2, 1) := by decide +kernel
theorem dX0_meshesBeside_50 : decode cX0_meshesBeside 50 = .ok (.iload_n 0, 1) := by decide +kernel
theorem dX0_meshesBeside_51 : decode cX0_meshesBeside 51 = .ok (.bipush 16, 2) := by decide +kernel
theorem dX0_meshesBeside_53 : decode cX0_meshesBeside 53 = .ok (.isub, 1) := by decide +kernel
theorem dX0_meshesBeside_54 : decode cX0_meshesBeside 54 = .ok (.iconst 5, 1) := by decide +kernel
theorem dX0_meshesBeside_55 : decode cX0_meshesBeside 55 = .ok (.irem, 1) := by decide +kernel
theorem dX0_meshesBeside_56 : decode cX0_meshesBeside 56 = .ok (.istore_n 3, 1) := by decide +kernel
theorem dX0_meshesBeside_57 : decode cX0_meshesBeside 57 = .ok (.iload_n 1, 1) := by decide +kernel
theorem dX0_meshesBeside_58 : decode cX0_meshesBeside 58 = .ok (.iload_n 3, 1) := by decide +kernel
theorem dX0_meshesBeside_59 : decode cX0_meshesBeside 59 = .ok (.iconst 4, 1) := by decide +kernel
theorem dX0_meshesBeside_60 : decode cX0_meshesBeside 60 = .ok (.if_icmp .ge 13, 3) := by decide +kernel
theorem dX0_meshesBeside_63 : decode cX0_meshesBeside 63 = .ok (.iconst 1, 1) := by decide +kernel
theorem dX0_meshesBeside_64 : decode cX0_meshesBeside 64 = .ok (.iconst 4, 1) := by decide +kernel
theorem dX0_meshesBeside_65 : decode cX0_meshesBeside 65 = .ok (.iload_n 2, 1) := by decide +kernel
theorem dX0_meshesBeside_66 : decode cX0_meshesBeside 66 = .ok (.imul, 1) := by decide +kernel
theorem dX0_meshesBeside_67 : decode cX0_meshesBeside 67 = .ok (.iload_n 3, 1) := by decide +kernel
theorem dX0_meshesBeside_68 : decode cX0_meshesBeside 68 = .ok (.iadd, 1) := by decide +kernel
theorem dX0_meshesBeside_69 : decode cX0_meshesBeside 69 = .ok (.ishl, 1) := by decide +kernel
theorem dX0_meshesBeside_70 : decode cX0_meshesBeside 70 = .ok (.goto 4, 3) := by decide +kernel
theorem dX0_meshesBeside_73 : decode cX0_meshesBeside 73 = .ok (.iconst 0, 1) := by decide +kernel
theorem dX0_meshesBeside_74 : decode cX0_meshesBeside 74 = .ok (.ior, 1) := by decide +kernel
theorem dX0_meshesBeside_75 : decode cX0_meshesBeside 75 = .ok (.istore_n 1, 1) := by decide +kernel
theorem dX0_meshesBeside_76 : decode cX0_meshesBeside 76 = .ok (.iload_n 1, 1) := by decide +kernel
theorem dX0_meshesBeside_77 : decode cX0_meshesBeside 77 = .ok (.iload_n 3, 1) := by decide +kernel
theorem dX0_meshesBeside_78 : decode cX0_meshesBeside 78 = .ok (.ifCond .le 15, 3) := by decide +kernel
theorem dX0_meshesBeside_81 : decode cX0_meshesBeside 81 = .ok (.iconst 1, 1) := by decide +kernel
theorem dX0_meshesBeside_82 : decode cX0_meshesBeside 82 = .ok (.iconst 4, 1) := by decide +kernel
theorem dX0_meshesBeside_83 : decode cX0_meshesBeside 83 = .ok (.iload_n 2, 1) := by decide +kernel
theorem dX0_meshesBeside_84 : decode cX0_meshesBeside 84 = .ok (.imul, 1) := by decide +kernel
theorem dX0_meshesBeside_85 : decode cX0_meshesBeside 85 = .ok (.iload_n 3, 1) := by decide +kernel
theorem dX0_meshesBeside_86 : decode cX0_meshesBeside 86 = .ok (.iadd, 1) := by decide +kernel
theorem dX0_meshesBeside_87 : decode cX0_meshesBeside 87 = .ok (.iconst 1, 1) := by decide +kernel
theorem dX0_meshesBeside_88 : decode cX0_meshesBeside 88 = .ok (.isub, 1) := by decide +kernel
theorem dX0_meshesBeside_89 : decode cX0_meshesBeside 89 = .ok (.ishl, 1) := by decide +kernel
theorem dX0_meshesBeside_90 : decode cX0_meshesBeside 90 = .ok (.goto 4, 3) := by decide +kernel
theorem dX0_meshesBeside_93 : decode cX0_meshesBeside 93 = .ok (.iconst 0, 1) := by decide +kernel
theorem dX0_meshesBeside_94 : decode cX0_meshesBeside 94 = .ok (.ior, 1) := by decide +kernel
theorem dX0_meshesBeside_95 : decode cX0_meshesBeside 95 = .ok (.istore_n 1, 1) := by decide +kernel
theorem dX0_meshesBeside_96 : decode cX0_meshesBeside 96 = .ok (.iload_n 1, 1) := by decide +kernel
theorem dX0_meshesBeside_97 : decode cX0_meshesBeside 97 = .ok (.ireturn, 1) := by decide +kernel
theorem dX0_spread_0 : decode cX0_spread 0 = .ok (.iload_n 1, 1) := by decide +kernel
theorem dX0_spread_1 : decode cX0_spread 1 = .ok (.istore_n 3, 1) := by decide +kernel
theorem dX0_spread_2 : decode cX0_spread 2 = .ok (.iconst 0, 1) := by decide +kernel
theorem dX0_spread_3 : decode cX0_spread 3 = .ok (.istore 4, 2) := by decide +kernel
theorem dX0_spread_5 : decode cX0_spread 5 = .ok (.iload 4, 2) := by decide +kernel
theorem dX0_spread_7 : decode cX0_spread 7 = .ok (.bipush 31, 2) := by decide +kernel
theorem dX0_spread_9 : decode cX0_spread 9 = .ok (.if_icmp .ge 80, 3) := by decide +kernel
theorem dX0_spread_12 : decode cX0_spread 12 = .ok (.iload_n 3, 1) := by decide +kernel
theorem dX0_spread_13 : decode cX0_spread 13 = .ok (.istore 5, 2) := by decide +kernel
theorem dX0_spread_15 : decode cX0_spread 15 = .ok (.iconst 0, 1) := by decide +kernel
theorem dX0_spread_16 : decode cX0_spread 16 = .ok (.istore 6, 2) := by decide +kernel
theorem dX0_spread_18 : decode cX0_spread 18 = .ok (.iload 6, 2) := by decide +kernel
theorem dX0_spread_20 : decode cX0_spread 20 = .ok (.bipush 31, 2) := by decide +kernel
theorem dX0_spread_22 : decode cX0_spread 22 = .ok (.if_icmp .ge 53, 3) := by decide +kernel
theorem dX0_spread_25 : decode cX0_spread 25 = .ok (.iload_n 0, 1) := by decide +kernel
theorem dX0_spread_26 : decode cX0_spread 26 = .ok (.iload 6, 2) := by decide +kernel
theorem dX0_spread_28 : decode cX0_spread 28 = .ok (.iushr, 1) := by decide +kernel
theorem dX0_spread_29 : decode cX0_spread 29 = .ok (.iconst 1, 1) := by decide +kernel
theorem dX0_spread_30 : decode cX0_spread 30 = .ok (.iand, 1) := by decide +kernel
theorem dX0_spread_31 : decode cX0_spread 31 = .ok (.ifCond .eq 38, 3) := by decide +kernel
theorem dX0_spread_34 : decode cX0_spread 34 = .ok (.iload_n 2, 1) := by decide +kernel
theorem dX0_spread_35 : decode cX0_spread 35 = .ok (.ifCond .eq 11, 3) := by decide +kernel
theorem dX0_spread_38 : decode cX0_spread 38 = .ok (.iload 6, 2) := by decide +kernel
theorem dX0_spread_40 : decode cX0_spread 40 = .ok (.invokestatic 24, 3) := by decide +kernel
theorem dX0_spread_43 : decode cX0_spread 43 = .ok (.goto 8, 3) := by decide +kernel
theorem dX0_spread_46 : decode cX0_spread 46 = .ok (.iload 6, 2) := by decide +kernel
theorem dX0_spread_48 : decode cX0_spread 48 = .ok (.invokestatic 27, 3) := by decide +kernel
theorem dX0_spread_51 : decode cX0_spread 51 = .ok (.istore 7, 2) := by decide +kernel
theorem dX0_spread_53 : decode cX0_spread 53 = .ok (.iload_n 3, 1) := by decide +kernel
theorem dX0_spread_54 : decode cX0_spread 54 = .ok (.iload_n 3, 1) := by decide +kernel
theorem dX0_spread_55 : decode cX0_spread 55 = .ok (.iload 7, 2) := by decide +kernel
theorem dX0_spread_57 : decode cX0_spread 57 = .ok (.iand, 1) := by decide +kernel
theorem dX0_spread_58 : decode cX0_spread 58 = .ok (.ifCond .eq 8, 3) := by decide +kernel
theorem dX0_spread_61 : decode cX0_spread 61 = .ok (.iload 7, 2) := by decide +kernel
theorem dX0_spread_63 : decode cX0_spread 63 = .ok (.goto 4, 3) := by decide +kernel
theorem dX0_spread_66 : decode cX0_spread 66 = .ok (.iconst 0, 1) := by decide +kernel
theorem dX0_spread_67 : decode cX0_spread 67 = .ok (.ior, 1) := by decide +kernel
theorem dX0_spread_68 : decode cX0_spread 68 = .ok (.istore_n 3, 1) := by decide +kernel
theorem dX0_spread_69 : decode cX0_spread 69 = .ok (.iinc 6 1, 3) := by decide +kernel
theorem dX0_spread_72 : decode cX0_spread 72 = .ok (.goto (-54), 3) := by decide +kernel
theorem dX0_spread_75 : decode cX0_spread 75 = .ok (.iload_n 3, 1) := by decide +kernel
theorem dX0_spread_76 : decode cX0_spread 76 = .ok (.iload 5, 2) := by decide +kernel
theorem dX0_spread_78 : decode cX0_spread 78 = .ok (.if_icmp .ne 5, 3) := by decide +kernel
theorem dX0_spread_81 : decode cX0_spread 81 = .ok (.iload_n 3, 1) := by decide +kernel
theorem dX0_spread_82 : decode cX0_spread 82 = .ok (.ireturn, 1) := by decide +kernel
theorem dX0_spread_83 : decode cX0_spread 83 = .ok (.iinc 4 1, 3) := by decide +kernel
theorem dX0_spread_86 : decode cX0_spread 86 = .ok (.goto (-81), 3) := by decide +kernel
theorem dX0_spread_89 : decode cX0_spread 89 = .ok (.iload_n 3, 1) := by decide +kernel
theorem dX0_spread_90 : decode cX0_spread 90 = .ok (.ireturn, 1) := by decide +kernel
theorem dX0_threadsAt_0 : decode cX0_threadsAt 0 = .ok (.iconst 0, 1) := by decide +kernel
theorem dX0_threadsAt_1 : decode cX0_threadsAt 1 = .ok (.istore_n 2, 1) := by decide +kernel
theorem dX0_threadsAt_2 : decode cX0_threadsAt 2 = .ok (.iconst 0, 1) := by decide +kernel
theorem dX0_threadsAt_3 : decode cX0_threadsAt 3 = .ok (.istore_n 3, 1) := by decide +kernel
theorem dX0_threadsAt_4 : decode cX0_threadsAt 4 = .ok (.iload_n 3, 1) := by decide +kernel
theorem dX0_threadsAt_5 : decode cX0_threadsAt 5 = .ok (.bipush 31, 2) := by decide +kernel
theorem dX0_threadsAt_7 : decode cX0_threadsAt 7 = .ok (.if_icmp .ge 32, 3) := by decide +kernel
theorem dX0_threadsAt_10 : decode cX0_threadsAt 10 = .ok (.iload_n 0, 1) := by decide +kernel
theorem dX0_threadsAt_11 : decode cX0_threadsAt 11 = .ok (.iload_n 3, 1) := by decide +kernel
theorem dX0_threadsAt_12 : decode cX0_threadsAt 12 = .ok (.iushr, 1) := by decide +kernel
theorem dX0_threadsAt_13 : decode cX0_threadsAt 13 = .ok (.iconst 1, 1) := by decide +kernel
theorem dX0_threadsAt_14 : decode cX0_threadsAt 14 = .ok (.iand, 1) := by decide +kernel
theorem dX0_threadsAt_15 : decode cX0_threadsAt 15 = .ok (.ifCond .eq 18, 3) := by decide +kernel
theorem dX0_threadsAt_18 : decode cX0_threadsAt 18 = .ok (.iload_n 3, 1) := by decide +kernel
theorem dX0_threadsAt_19 : decode cX0_threadsAt 19 = .ok (.invokestatic 27, 3) := by decide +kernel
theorem dX0_threadsAt_22 : decode cX0_threadsAt 22 = .ok (.iload_n 1, 1) := by decide +kernel
theorem dX0_threadsAt_23 : decode cX0_threadsAt 23 = .ok (.iand, 1) := by decide +kernel
theorem dX0_threadsAt_24 : decode cX0_threadsAt 24 = .ok (.ifCond .eq 9, 3) := by decide +kernel
theorem dX0_threadsAt_27 : decode cX0_threadsAt 27 = .ok (.iload_n 2, 1) := by decide +kernel
theorem dX0_threadsAt_28 : decode cX0_threadsAt 28 = .ok (.iconst 1, 1) := by decide +kernel
theorem dX0_threadsAt_29 : decode cX0_threadsAt 29 = .ok (.iload_n 3, 1) := by decide +kernel
theorem dX0_threadsAt_30 : decode cX0_threadsAt 30 = .ok (.ishl, 1) := by decide +kernel
theorem dX0_threadsAt_31 : decode cX0_threadsAt 31 = .ok (.ior, 1) := by decide +kernel
theorem dX0_threadsAt_32 : decode cX0_threadsAt 32 = .ok (.istore_n 2, 1) := by decide +kernel
theorem dX0_threadsAt_33 : decode cX0_threadsAt 33 = .ok (.iinc 3 1, 3) := by decide +kernel
theorem dX0_threadsAt_36 : decode cX0_threadsAt 36 = .ok (.goto (-32), 3) := by decide +kernel
theorem dX0_threadsAt_39 : decode cX0_threadsAt 39 = .ok (.iload_n 2, 1) := by decide +kernel
theorem dX0_threadsAt_40 : decode cX0_threadsAt 40 = .ok (.ireturn, 1) := by decide +kernel
theorem dX0_knotsOf_0 : decode cX0_knotsOf 0 = .ok (.iconst 0, 1) := by decide +kernel
theorem dX0_knotsOf_1 : decode cX0_knotsOf 1 = .ok (.istore_n 1, 1) := by decide +kernel
theorem dX0_knotsOf_2 : decode cX0_knotsOf 2 = .ok (.iconst 0, 1) := by decide +kernel
theorem dX0_knotsOf_3 : decode cX0_knotsOf 3 = .ok (.istore_n 2, 1) := by decide +kernel
theorem dX0_knotsOf_4 : decode cX0_knotsOf 4 = .ok (.iload_n 2, 1) := by decide +kernel
theorem dX0_knotsOf_5 : decode cX0_knotsOf 5 = .ok (.bipush 31, 2) := by decide +kernel
theorem dX0_knotsOf_7 : decode cX0_knotsOf 7 = .ok (.if_icmp .ge 28, 3) := by decide +kernel
theorem dX0_knotsOf_10 : decode cX0_knotsOf 10 = .ok (.iload_n 1, 1) := by decide +kernel
theorem dX0_knotsOf_11 : decode cX0_knotsOf 11 = .ok (.iload_n 0, 1) := by decide +kernel
theorem dX0_knotsOf_12 : decode cX0_knotsOf 12 = .ok (.iload_n 2, 1) := by decide +kernel
theorem dX0_knotsOf_13 : decode cX0_knotsOf 13 = .ok (.iushr, 1) := by decide +kernel
theorem dX0_knotsOf_14 : decode cX0_knotsOf 14 = .ok (.iconst 1, 1) := by decide +kernel
theorem dX0_knotsOf_15 : decode cX0_knotsOf 15 = .ok (.iand, 1) := by decide +kernel
theorem dX0_knotsOf_16 : decode cX0_knotsOf 16 = .ok (.ifCond .eq 10, 3) := by decide +kernel
theorem dX0_knotsOf_19 : decode cX0_knotsOf 19 = .ok (.iload_n 2, 1) := by decide +kernel
theorem dX0_knotsOf_20 : decode cX0_knotsOf 20 = .ok (.invokestatic 27, 3) := by decide +kernel
theorem dX0_knotsOf_23 : decode cX0_knotsOf 23 = .ok (.goto 4, 3) := by decide +kernel
theorem dX0_knotsOf_26 : decode cX0_knotsOf 26 = .ok (.iconst 0, 1) := by decide +kernel
theorem dX0_knotsOf_27 : decode cX0_knotsOf 27 = .ok (.ior, 1) := by decide +kernel
theorem dX0_knotsOf_28 : decode cX0_knotsOf 28 = .ok (.istore_n 1, 1) := by decide +kernel
theorem dX0_knotsOf_29 : decode cX0_knotsOf 29 = .ok (.iinc 2 1, 3) := by decide +kernel
theorem dX0_knotsOf_32 : decode cX0_knotsOf 32 = .ok (.goto (-28), 3) := by decide +kernel
theorem dX0_knotsOf_35 : decode cX0_knotsOf 35 = .ok (.iload_n 1, 1) := by decide +kernel
theorem dX0_knotsOf_36 : decode cX0_knotsOf 36 = .ok (.ireturn, 1) := by decide +kernel
theorem dX0_oddKnots_0 : decode cX0_oddKnots 0 = .ok (.iconst 0, 1) := by decide +kernel
theorem dX0_oddKnots_1 : decode cX0_oddKnots 1 = .ok (.istore_n 1, 1) := by decide +kernel
theorem dX0_oddKnots_2 : decode cX0_oddKnots 2 = .ok (.iconst 0, 1) := by decide +kernel
theorem dX0_oddKnots_3 : decode cX0_oddKnots 3 = .ok (.istore_n 2, 1) := by decide +kernel
theorem dX0_oddKnots_4 : decode cX0_oddKnots 4 = .ok (.iload_n 2, 1) := by decide +kernel
theorem dX0_oddKnots_5 : decode cX0_oddKnots 5 = .ok (.bipush 31, 2) := by decide +kernel
theorem dX0_oddKnots_7 : decode cX0_oddKnots 7 = .ok (.if_icmp .ge 28, 3) := by decide +kernel
theorem dX0_oddKnots_10 : decode cX0_oddKnots 10 = .ok (.iload_n 1, 1) := by decide +kernel
theorem dX0_oddKnots_11 : decode cX0_oddKnots 11 = .ok (.iload_n 0, 1) := by decide +kernel
theorem dX0_oddKnots_12 : decode cX0_oddKnots 12 = .ok (.iload_n 2, 1) := by decide +kernel
theorem dX0_oddKnots_13 : decode cX0_oddKnots 13 = .ok (.iushr, 1) := by decide +kernel
theorem dX0_oddKnots_14 : decode cX0_oddKnots 14 = .ok (.iconst 1, 1) := by decide +kernel
theorem dX0_oddKnots_15 : decode cX0_oddKnots 15 = .ok (.iand, 1) := by decide +kernel
theorem dX0_oddKnots_16 : decode cX0_oddKnots 16 = .ok (.ifCond .eq 10, 3) := by decide +kernel
theorem dX0_oddKnots_19 : decode cX0_oddKnots 19 = .ok (.iload_n 2, 1) := by decide +kernel
theorem dX0_oddKnots_20 : decode cX0_oddKnots 20 = .ok (.invokestatic 27, 3) := by decide +kernel
theorem dX0_oddKnots_23 : decode cX0_oddKnots 23 = .ok (.goto 4, 3) := by decide +kernel
theorem dX0_oddKnots_26 : decode cX0_oddKnots 26 = .ok (.iconst 0, 1) := by decide +kernel
theorem dX0_oddKnots_27 : decode cX0_oddKnots 27 = .ok (.ixor, 1) := by decide +kernel
theorem dX0_oddKnots_28 : decode cX0_oddKnots 28 = .ok (.istore_n 1, 1) := by decide +kernel
theorem dX0_oddKnots_29 : decode cX0_oddKnots 29 = .ok (.iinc 2 1, 3) := by decide +kernel
theorem dX0_oddKnots_32 : decode cX0_oddKnots 32 = .ok (.goto (-28), 3) := by decide +kernel
theorem dX0_oddKnots_35 : decode cX0_oddKnots 35 = .ok (.iload_n 1, 1) := by decide +kernel
theorem dX0_oddKnots_36 : decode cX0_oddKnots 36 = .ok (.ireturn, 1) := by decide +kernel
theorem dX0_firstOf_0 : decode cX0_firstOf 0 = .ok (.iconst 0, 1) := by decide +kernel
theorem dX0_firstOf_1 : decode cX0_firstOf 1 = .ok (.istore_n 1, 1) := by decide +kernel
theorem dX0_firstOf_2 : decode cX0_firstOf 2 = .ok (.iload_n 1, 1) := by decide +kernel
theorem dX0_firstOf_3 : decode cX0_firstOf 3 = .ok (.bipush 31, 2) := by decide +kernel
theorem dX0_firstOf_5 : decode cX0_firstOf 5 = .ok (.if_icmp .ge 19, 3) := by decide +kernel
theorem dX0_firstOf_8 : decode cX0_firstOf 8 = .ok (.iload_n 0, 1) := by decide +kernel
theorem dX0_firstOf_9 : decode cX0_firstOf 9 = .ok (.iload_n 1, 1) := by decide +kernel
theorem dX0_firstOf_10 : decode cX0_firstOf 10 = .ok (.iushr, 1) := by decide +kernel
theorem dX0_firstOf_11 : decode cX0_firstOf 11 = .ok (.iconst 1, 1) := by decide +kernel
theorem dX0_firstOf_12 : decode cX0_firstOf 12 = .ok (.iand, 1) := by decide +kernel
theorem dX0_firstOf_13 : decode cX0_firstOf 13 = .ok (.ifCond .eq 5, 3) := by decide +kernel
theorem dX0_firstOf_16 : decode cX0_firstOf 16 = .ok (.iload_n 1, 1) := by decide +kernel
theorem dX0_firstOf_17 : decode cX0_firstOf 17 = .ok (.ireturn, 1) := by decide +kernel
theorem dX0_firstOf_18 : decode cX0_firstOf 18 = .ok (.iinc 1 1, 3) := by decide +kernel
theorem dX0_firstOf_21 : decode cX0_firstOf 21 = .ok (.goto (-19), 3) := by decide +kernel
theorem dX0_firstOf_24 : decode cX0_firstOf 24 = .ok (.iconst (-1), 1) := by decide +kernel
theorem dX0_firstOf_25 : decode cX0_firstOf 25 = .ok (.ireturn, 1) := by decide +kernel
theorem dX0_firstHole_0 : decode cX0_firstHole 0 = .ok (.iload_n 0, 1) := by decide +kernel
theorem dX0_firstHole_1 : decode cX0_firstHole 1 = .ok (.invokestatic 30, 3) := by decide +kernel
theorem dX0_firstHole_4 : decode cX0_firstHole 4 = .ok (.istore_n 1, 1) := by decide +kernel
theorem dX0_firstHole_5 : decode cX0_firstHole 5 = .ok (.iload_n 1, 1) := by decide +kernel
theorem dX0_firstHole_6 : decode cX0_firstHole 6 = .ok (.ifCond .ge 7, 3) := by decide +kernel
theorem dX0_firstHole_9 : decode cX0_firstHole 9 = .ok (.iconst 0, 1) := by decide +kernel
theorem dX0_firstHole_10 : decode cX0_firstHole 10 = .ok (.goto 16, 3) := by decide +kernel
theorem dX0_firstHole_13 : decode cX0_firstHole 13 = .ok (.iload_n 0, 1) := by decide +kernel
theorem dX0_firstHole_14 : decode cX0_firstHole 14 = .ok (.iload_n 0, 1) := by decide +kernel
theorem dX0_firstHole_15 : decode cX0_firstHole 15 = .ok (.iload_n 1, 1) := by decide +kernel
theorem dX0_firstHole_16 : decode cX0_firstHole 16 = .ok (.invokestatic 27, 3) := by decide +kernel
theorem dX0_firstHole_19 : decode cX0_firstHole 19 = .ok (.iconst 0, 1) := by decide +kernel
theorem dX0_firstHole_20 : decode cX0_firstHole 20 = .ok (.invokestatic 33, 3) := by decide +kernel
theorem dX0_firstHole_23 : decode cX0_firstHole 23 = .ok (.invokestatic 37, 3) := by decide +kernel
theorem dX0_firstHole_26 : decode cX0_firstHole 26 = .ok (.ireturn, 1) := by decide +kernel
theorem dX0_holesIn_0 : decode cX0_holesIn 0 = .ok (.iconst 0, 1) := by decide +kernel
theorem dX0_holesIn_1 : decode cX0_holesIn 1 = .ok (.istore_n 1, 1) := by decide +kernel
theorem dX0_holesIn_2 : decode cX0_holesIn 2 = .ok (.iload_n 0, 1) := by decide +kernel
theorem dX0_holesIn_3 : decode cX0_holesIn 3 = .ok (.istore_n 2, 1) := by decide +kernel
theorem dX0_holesIn_4 : decode cX0_holesIn 4 = .ok (.iconst 0, 1) := by decide +kernel
theorem dX0_holesIn_5 : decode cX0_holesIn 5 = .ok (.istore_n 3, 1) := by decide +kernel
theorem dX0_holesIn_6 : decode cX0_holesIn 6 = .ok (.iload_n 3, 1) := by decide +kernel
theorem dX0_holesIn_7 : decode cX0_holesIn 7 = .ok (.bipush 31, 2) := by decide +kernel
theorem dX0_holesIn_9 : decode cX0_holesIn 9 = .ok (.if_icmp .ge 25, 3) := by decide +kernel
theorem dX0_holesIn_12 : decode cX0_holesIn 12 = .ok (.iload_n 2, 1) := by decide +kernel
theorem dX0_holesIn_13 : decode cX0_holesIn 13 = .ok (.ifCond .eq 21, 3) := by decide +kernel
theorem dX0_holesIn_16 : decode cX0_holesIn 16 = .ok (.iload_n 2, 1) := by decide +kernel
theorem dX0_holesIn_17 : decode cX0_holesIn 17 = .ok (.iload_n 2, 1) := by decide +kernel
theorem dX0_holesIn_18 : decode cX0_holesIn 18 = .ok (.invokestatic 40, 3) := by decide +kernel
theorem dX0_holesIn_21 : decode cX0_holesIn 21 = .ok (.iconst (-1), 1) := by decide +kernel
theorem dX0_holesIn_22 : decode cX0_holesIn 22 = .ok (.ixor, 1) := by decide +kernel
theorem dX0_holesIn_23 : decode cX0_holesIn 23 = .ok (.iand, 1) := by decide +kernel
theorem dX0_holesIn_24 : decode cX0_holesIn 24 = .ok (.istore_n 2, 1) := by decide +kernel
theorem dX0_holesIn_25 : decode cX0_holesIn 25 = .ok (.iinc 1 1, 3) := by decide +kernel
theorem dX0_holesIn_28 : decode cX0_holesIn 28 = .ok (.iinc 3 1, 3) := by decide +kernel
theorem dX0_holesIn_31 : decode cX0_holesIn 31 = .ok (.goto (-25), 3) := by decide +kernel
theorem dX0_holesIn_34 : decode cX0_holesIn 34 = .ok (.iload_n 1, 1) := by decide +kernel
theorem dX0_holesIn_35 : decode cX0_holesIn 35 = .ok (.ireturn, 1) := by decide +kernel
theorem dX0_holeAt_0 : decode cX0_holeAt 0 = .ok (.iload_n 0, 1) := by decide +kernel
theorem dX0_holeAt_1 : decode cX0_holeAt 1 = .ok (.istore_n 2, 1) := by decide +kernel
theorem dX0_holeAt_2 : decode cX0_holeAt 2 = .ok (.iconst 0, 1) := by decide +kernel
theorem dX0_holeAt_3 : decode cX0_holeAt 3 = .ok (.istore_n 3, 1) := by decide +kernel
theorem dX0_holeAt_4 : decode cX0_holeAt 4 = .ok (.iload_n 3, 1) := by decide +kernel
theorem dX0_holeAt_5 : decode cX0_holeAt 5 = .ok (.iload_n 1, 1) := by decide +kernel
theorem dX0_holeAt_6 : decode cX0_holeAt 6 = .ok (.if_icmp .ge 22, 3) := by decide +kernel
theorem dX0_holeAt_9 : decode cX0_holeAt 9 = .ok (.iload_n 2, 1) := by decide +kernel
theorem dX0_holeAt_10 : decode cX0_holeAt 10 = .ok (.ifCond .eq 18, 3) := by decide +kernel
theorem dX0_holeAt_13 : decode cX0_holeAt 13 = .ok (.iload_n 2, 1) := by decide +kernel
theorem dX0_holeAt_14 : decode cX0_holeAt 14 = .ok (.iload_n 2, 1) := by decide +kernel
theorem dX0_holeAt_15 : decode cX0_holeAt 15 = .ok (.invokestatic 40, 3) := by decide +kernel
theorem dX0_holeAt_18 : decode cX0_holeAt 18 = .ok (.iconst (-1), 1) := by decide +kernel
theorem dX0_holeAt_19 : decode cX0_holeAt 19 = .ok (.ixor, 1) := by decide +kernel
theorem dX0_holeAt_20 : decode cX0_holeAt 20 = .ok (.iand, 1) := by decide +kernel
theorem dX0_holeAt_21 : decode cX0_holeAt 21 = .ok (.istore_n 2, 1) := by decide +kernel
theorem dX0_holeAt_22 : decode cX0_holeAt 22 = .ok (.iinc 3 1, 3) := by decide +kernel
theorem dX0_holeAt_25 : decode cX0_holeAt 25 = .ok (.goto (-21), 3) := by decide +kernel
theorem dX0_holeAt_28 : decode cX0_holeAt 28 = .ok (.iload_n 2, 1) := by decide +kernel
theorem dX0_holeAt_29 : decode cX0_holeAt 29 = .ok (.invokestatic 40, 3) := by decide +kernel
theorem dX0_holeAt_32 : decode cX0_holeAt 32 = .ok (.ireturn, 1) := by decide +kernel
theorem dX0_greatestOpening_0 : decode cX0_greatestOpening 0 = .ok (.iconst 1, 1) := by decide +kernel
theorem dX0_greatestOpening_1 : decode cX0_greatestOpening 1 = .ok (.istore_n 1, 1) := by decide +kernel
theorem dX0_greatestOpening_2 : decode cX0_greatestOpening 2 = .ok (.iconst 0, 1) := by decide +kernel
theorem dX0_greatestOpening_3 : decode cX0_greatestOpening 3 = .ok (.istore_n 2, 1) := by decide +kernel
theorem dX0_greatestOpening_4 : decode cX0_greatestOpening 4 = .ok (.iload_n 2, 1) := by decide +kernel
theorem dX0_greatestOpening_5 : decode cX0_greatestOpening 5 = .ok (.bipush 12, 2) := by decide +kernel
theorem dX0_greatestOpening_7 : decode cX0_greatestOpening 7 = .ok (.if_icmp .ge 25, 3) := by decide +kernel
theorem dX0_greatestOpening_10 : decode cX0_greatestOpening 10 = .ok (.iload_n 1, 1) := by decide +kernel
theorem dX0_greatestOpening_11 : decode cX0_greatestOpening 11 = .ok (.iload_n 0, 1) := by decide +kernel
theorem dX0_greatestOpening_12 : decode cX0_greatestOpening 12 = .ok (.iconst 1, 1) := by decide +kernel
theorem dX0_greatestOpening_13 : decode cX0_greatestOpening 13 = .ok (.iload_n 2, 1) := by decide +kernel
theorem dX0_greatestOpening_14 : decode cX0_greatestOpening 14 = .ok (.ishl, 1) := by decide +kernel
theorem dX0_greatestOpening_15 : decode cX0_greatestOpening 15 = .ok (.iconst 1, 1) := by decide +kernel
theorem dX0_greatestOpening_16 : decode cX0_greatestOpening 16 = .ok (.invokestatic 33, 3) := by decide +kernel
theorem dX0_greatestOpening_19 : decode cX0_greatestOpening 19 = .ok (.invokestatic 43, 3) := by decide +kernel
theorem dX0_greatestOpening_22 : decode cX0_greatestOpening 22 = .ok (.invokestatic 21, 3) := by decide +kernel
theorem dX0_greatestOpening_25 : decode cX0_greatestOpening 25 = .ok (.istore_n 1, 1) := by decide +kernel
theorem dX0_greatestOpening_26 : decode cX0_greatestOpening 26 = .ok (.iinc 2 1, 3) := by decide +kernel
theorem dX0_greatestOpening_29 : decode cX0_greatestOpening 29 = .ok (.goto (-25), 3) := by decide +kernel
theorem dX0_greatestOpening_32 : decode cX0_greatestOpening 32 = .ok (.iload_n 1, 1) := by decide +kernel
theorem dX0_greatestOpening_33 : decode cX0_greatestOpening 33 = .ok (.ireturn, 1) := by decide +kernel
theorem dX1_init_0 : decode cX1_init 0 = .ok (.aload_n 0, 1) := by decide +kernel
theorem dX1_init_1 : decode cX1_init 1 = .ok (.invokespecial 3, 3) := by decide +kernel
theorem dX1_init_4 : decode cX1_init 4 = .ok (.aload_n 0, 1) := by decide +kernel
theorem dX1_init_5 : decode cX1_init 5 = .ok (.bipush 6, 2) := by decide +kernel
theorem dX1_init_7 : decode cX1_init 7 = .ok (.newarray .int, 2) := by decide +kernel
theorem dX1_init_9 : decode cX1_init 9 = .ok (.putfield 9, 3) := by decide +kernel
theorem dX1_init_12 : decode cX1_init 12 = .ok (.aload_n 0, 1) := by decide +kernel
theorem dX1_init_13 : decode cX1_init 13 = .ok (.bipush 6, 2) := by decide +kernel
theorem dX1_init_15 : decode cX1_init 15 = .ok (.newarray .int, 2) := by decide +kernel
theorem dX1_init_17 : decode cX1_init 17 = .ok (.putfield 15, 3) := by decide +kernel
theorem dX1_init_20 : decode cX1_init 20 = .ok (.aload_n 0, 1) := by decide +kernel
theorem dX1_init_21 : decode cX1_init 21 = .ok (.bipush 6, 2) := by decide +kernel
theorem dX1_init_23 : decode cX1_init 23 = .ok (.newarray .int, 2) := by decide +kernel
theorem dX1_init_25 : decode cX1_init 25 = .ok (.putfield 18, 3) := by decide +kernel
theorem dX1_init_28 : decode cX1_init 28 = .ok (.aload_n 0, 1) := by decide +kernel
theorem dX1_init_29 : decode cX1_init 29 = .ok (.iconst 3, 1) := by decide +kernel
theorem dX1_init_30 : decode cX1_init 30 = .ok (.newarray .int, 2) := by decide +kernel
theorem dX1_init_32 : decode cX1_init 32 = .ok (.putfield 21, 3) := by decide +kernel
theorem dX1_init_35 : decode cX1_init 35 = .ok (.aload_n 0, 1) := by decide +kernel
theorem dX1_init_36 : decode cX1_init 36 = .ok (.iconst 0, 1) := by decide +kernel
theorem dX1_init_37 : decode cX1_init 37 = .ok (.putfield 24, 3) := by decide +kernel
theorem dX1_init_40 : decode cX1_init 40 = .ok (.return_, 1) := by decide +kernel
theorem dX1_plan_0 : decode cX1_plan 0 = .ok (.iload_n 2, 1) := by decide +kernel
theorem dX1_plan_1 : decode cX1_plan 1 = .ok (.bipush 6, 2) := by decide +kernel
theorem dX1_plan_3 : decode cX1_plan 3 = .ok (.invokestatic 28, 3) := by decide +kernel
theorem dX1_plan_6 : decode cX1_plan 6 = .ok (.istore 4, 2) := by decide +kernel
theorem dX1_plan_8 : decode cX1_plan 8 = .ok (.iconst 1, 1) := by decide +kernel
theorem dX1_plan_9 : decode cX1_plan 9 = .ok (.istore 5, 2) := by decide +kernel
theorem dX1_plan_11 : decode cX1_plan 11 = .ok (.iconst 0, 1) := by decide +kernel
theorem dX1_plan_12 : decode cX1_plan 12 = .ok (.istore 6, 2) := by decide +kernel
theorem dX1_plan_14 : decode cX1_plan 14 = .ok (.iload 6, 2) := by decide +kernel
theorem dX1_plan_16 : decode cX1_plan 16 = .ok (.iload 4, 2) := by decide +kernel
theorem dX1_plan_18 : decode cX1_plan 18 = .ok (.if_icmp .ge 31, 3) := by decide +kernel
theorem dX1_plan_21 : decode cX1_plan 21 = .ok (.aload_n 0, 1) := by decide +kernel
theorem dX1_plan_22 : decode cX1_plan 22 = .ok (.getfield 9, 3) := by decide +kernel
theorem dX1_plan_25 : decode cX1_plan 25 = .ok (.iload 6, 2) := by decide +kernel
theorem dX1_plan_27 : decode cX1_plan 27 = .ok (.iload_n 1, 1) := by decide +kernel
theorem dX1_plan_28 : decode cX1_plan 28 = .ok (.iload 6, 2) := by decide +kernel
theorem dX1_plan_30 : decode cX1_plan 30 = .ok (.invokestatic 34, 3) := by decide +kernel
theorem dX1_plan_33 : decode cX1_plan 33 = .ok (.invokestatic 39, 3) := by decide +kernel
theorem dX1_plan_36 : decode cX1_plan 36 = .ok (.iastore, 1) := by decide +kernel
theorem dX1_plan_37 : decode cX1_plan 37 = .ok (.iload 5, 2) := by decide +kernel
theorem dX1_plan_39 : decode cX1_plan 39 = .ok (.iconst 3, 1) := by decide +kernel
theorem dX1_plan_40 : decode cX1_plan 40 = .ok (.imul, 1) := by decide +kernel
theorem dX1_plan_41 : decode cX1_plan 41 = .ok (.istore 5, 2) := by decide +kernel
theorem dX1_plan_43 : decode cX1_plan 43 = .ok (.iinc 6 1, 3) := by decide +kernel
theorem dX1_plan_46 : decode cX1_plan 46 = .ok (.goto (-32), 3) := by decide +kernel
theorem dX1_plan_49 : decode cX1_plan 49 = .ok (.aload_n 0, 1) := by decide +kernel
theorem dX1_plan_50 : decode cX1_plan 50 = .ok (.sipush 931, 3) := by decide +kernel
theorem dX1_plan_53 : decode cX1_plan 53 = .ok (.putfield 24, 3) := by decide +kernel
theorem dX1_plan_56 : decode cX1_plan 56 = .ok (.iconst 0, 1) := by decide +kernel
theorem dX1_plan_57 : decode cX1_plan 57 = .ok (.istore 6, 2) := by decide +kernel
theorem dX1_plan_59 : decode cX1_plan 59 = .ok (.iload 6, 2) := by decide +kernel
theorem dX1_plan_61 : decode cX1_plan 61 = .ok (.iload 5, 2) := by decide +kernel
theorem dX1_plan_63 : decode cX1_plan 63 = .ok (.if_icmp .ge 86, 3) := by decide +kernel
theorem dX1_plan_66 : decode cX1_plan 66 = .ok (.iload 6, 2) := by decide +kernel
theorem dX1_plan_68 : decode cX1_plan 68 = .ok (.istore 7, 2) := by decide +kernel
theorem dX1_plan_70 : decode cX1_plan 70 = .ok (.iload 4, 2) := by decide +kernel
theorem dX1_plan_72 : decode cX1_plan 72 = .ok (.iconst 1, 1) := by decide +kernel
theorem dX1_plan_73 : decode cX1_plan 73 = .ok (.isub, 1) := by decide +kernel
theorem dX1_plan_74 : decode cX1_plan 74 = .ok (.istore 8, 2) := by decide +kernel
theorem dX1_plan_76 : decode cX1_plan 76 = .ok (.iload 8, 2) := by decide +kernel
theorem dX1_plan_78 : decode cX1_plan 78 = .ok (.ifCond .lt 26, 3) := by decide +kernel
theorem dX1_plan_81 : decode cX1_plan 81 = .ok (.aload_n 0, 1) := by decide +kernel
theorem dX1_plan_82 : decode cX1_plan 82 = .ok (.getfield 15, 3) := by decide +kernel
theorem dX1_plan_85 : decode cX1_plan 85 = .ok (.iload 8, 2) := by decide +kernel
theorem dX1_plan_87 : decode cX1_plan 87 = .ok (.iload 7, 2) := by decide +kernel
theorem dX1_plan_89 : decode cX1_plan 89 = .ok (.iconst 3, 1) := by decide +kernel
theorem dX1_plan_90 : decode cX1_plan 90 = .ok (.irem, 1) := by decide +kernel
theorem dX1_plan_91 : decode cX1_plan 91 = .ok (.iastore, 1) := by decide +kernel
theorem dX1_plan_92 : decode cX1_plan 92 = .ok (.iload 7, 2) := by decide +kernel
theorem dX1_plan_94 : decode cX1_plan 94 = .ok (.iconst 3, 1) := by decide +kernel
theorem dX1_plan_95 : decode cX1_plan 95 = .ok (.idiv, 1) := by decide +kernel
theorem dX1_plan_96 : decode cX1_plan 96 = .ok (.istore 7, 2) := by decide +kernel
theorem dX1_plan_98 : decode cX1_plan 98 = .ok (.iinc 8 (-1), 3) := by decide +kernel
theorem dX1_plan_101 : decode cX1_plan 101 = .ok (.goto (-25), 3) := by decide +kernel
theorem dX1_plan_104 : decode cX1_plan 104 = .ok (.aload_n 0, 1) := by decide +kernel
theorem dX1_plan_105 : decode cX1_plan 105 = .ok (.iload 4, 2) := by decide +kernel
theorem dX1_plan_107 : decode cX1_plan 107 = .ok (.aload_n 3, 1) := by decide +kernel
theorem dX1_plan_108 : decode cX1_plan 108 = .ok (.invokevirtual 45, 3) := by decide +kernel
theorem dX1_plan_111 : decode cX1_plan 111 = .ok (.istore 8, 2) := by decide +kernel
theorem dX1_plan_113 : decode cX1_plan 113 = .ok (.iload 8, 2) := by decide +kernel
theorem dX1_plan_115 : decode cX1_plan 115 = .ok (.aload_n 0, 1) := by decide +kernel
theorem dX1_plan_116 : decode cX1_plan 116 = .ok (.getfield 24, 3) := by decide +kernel
theorem dX1_plan_119 : decode cX1_plan 119 = .ok (.if_icmp .ge 24, 3) := by decide +kernel
theorem dX1_plan_122 : decode cX1_plan 122 = .ok (.aload_n 0, 1) := by decide +kernel
theorem dX1_plan_123 : decode cX1_plan 123 = .ok (.iload 8, 2) := by decide +kernel
theorem dX1_plan_125 : decode cX1_plan 125 = .ok (.putfield 24, 3) := by decide +kernel
theorem dX1_plan_128 : decode cX1_plan 128 = .ok (.aload_n 0, 1) := by decide +kernel
theorem dX1_plan_129 : decode cX1_plan 129 = .ok (.getfield 15, 3) := by decide +kernel
theorem dX1_plan_132 : decode cX1_plan 132 = .ok (.iconst 0, 1) := by decide +kernel
theorem dX1_plan_133 : decode cX1_plan 133 = .ok (.aload_n 0, 1) := by decide +kernel
theorem dX1_plan_134 : decode cX1_plan 134 = .ok (.getfield 18, 3) := by decide +kernel
theorem dX1_plan_137 : decode cX1_plan 137 = .ok (.iconst 0, 1) := by decide +kernel
theorem dX1_plan_138 : decode cX1_plan 138 = .ok (.iload 4, 2) := by decide +kernel
theorem dX1_plan_140 : decode cX1_plan 140 = .ok (.invokestatic 49, 3) := by decide +kernel
theorem dX1_plan_143 : decode cX1_plan 143 = .ok (.iinc 6 1, 3) := by decide +kernel
theorem dX1_plan_146 : decode cX1_plan 146 = .ok (.goto (-87), 3) := by decide +kernel
theorem dX1_plan_149 : decode cX1_plan 149 = .ok (.return_, 1) := by decide +kernel
theorem dX1_minutesOfTried_0 : decode cX1_minutesOfTried 0 = .ok (.iconst 0, 1) := by decide +kernel
theorem dX1_minutesOfTried_1 : decode cX1_minutesOfTried 1 = .ok (.istore_n 3, 1) := by decide +kernel
theorem dX1_minutesOfTried_2 : decode cX1_minutesOfTried 2 = .ok (.iload_n 3, 1) := by decide +kernel
theorem dX1_minutesOfTried_3 : decode cX1_minutesOfTried 3 = .ok (.iconst 3, 1) := by decide +kernel
theorem dX1_minutesOfTried_4 : decode cX1_minutesOfTried 4 = .ok (.if_icmp .ge 16, 3) := by decide +kernel
theorem dX1_minutesOfTried_7 : decode cX1_minutesOfTried 7 = .ok (.aload_n 0, 1) := by decide +kernel
theorem dX1_minutesOfTried_8 : decode cX1_minutesOfTried 8 = .ok (.getfield 21, 3) := by decide +kernel
theorem dX1_minutesOfTried_11 : decode cX1_minutesOfTried 11 = .ok (.iload_n 3, 1) := by decide +kernel
theorem dX1_minutesOfTried_12 : decode cX1_minutesOfTried 12 = .ok (.iconst 0, 1) := by decide +kernel
theorem dX1_minutesOfTried_13 : decode cX1_minutesOfTried 13 = .ok (.iastore, 1) := by decide +kernel
theorem dX1_minutesOfTried_14 : decode cX1_minutesOfTried 14 = .ok (.iinc 3 1, 3) := by decide +kernel
theorem dX1_minutesOfTried_17 : decode cX1_minutesOfTried 17 = .ok (.goto (-15), 3) := by decide +kernel
theorem dX1_minutesOfTried_20 : decode cX1_minutesOfTried 20 = .ok (.iconst 0, 1) := by decide +kernel
theorem dX1_minutesOfTried_21 : decode cX1_minutesOfTried 21 = .ok (.istore_n 3, 1) := by decide +kernel
theorem dX1_minutesOfTried_22 : decode cX1_minutesOfTried 22 = .ok (.iconst 0, 1) := by decide +kernel
theorem dX1_minutesOfTried_23 : decode cX1_minutesOfTried 23 = .ok (.istore 4, 2) := by decide +kernel
theorem dX1_minutesOfTried_25 : decode cX1_minutesOfTried 25 = .ok (.iload 4, 2) := by decide +kernel
theorem dX1_minutesOfTried_27 : decode cX1_minutesOfTried 27 = .ok (.iload_n 1, 1) := by decide +kernel
theorem dX1_minutesOfTried_28 : decode cX1_minutesOfTried 28 = .ok (.if_icmp .ge 52, 3) := by decide +kernel
theorem dX1_minutesOfTried_31 : decode cX1_minutesOfTried 31 = .ok (.aload_n 0, 1) := by decide +kernel
theorem dX1_minutesOfTried_32 : decode cX1_minutesOfTried 32 = .ok (.getfield 15, 3) := by decide +kernel
theorem dX1_minutesOfTried_35 : decode cX1_minutesOfTried 35 = .ok (.iload 4, 2) := by decide +kernel
theorem dX1_minutesOfTried_37 : decode cX1_minutesOfTried 37 = .ok (.iaload, 1) := by decide +kernel
theorem dX1_minutesOfTried_38 : decode cX1_minutesOfTried 38 = .ok (.istore 5, 2) := by decide +kernel
theorem dX1_minutesOfTried_40 : decode cX1_minutesOfTried 40 = .ok (.aload_n 0, 1) := by decide +kernel
theorem dX1_minutesOfTried_41 : decode cX1_minutesOfTried 41 = .ok (.getfield 21, 3) := by decide +kernel
theorem dX1_minutesOfTried_44 : decode cX1_minutesOfTried 44 = .ok (.iload 5, 2) := by decide +kernel
theorem dX1_minutesOfTried_46 : decode cX1_minutesOfTried 46 = .ok (.dup2, 1) := by decide +kernel
theorem dX1_minutesOfTried_47 : decode cX1_minutesOfTried 47 = .ok (.iaload, 1) := by decide +kernel
theorem dX1_minutesOfTried_48 : decode cX1_minutesOfTried 48 = .ok (.aload_n 0, 1) := by decide +kernel
theorem dX1_minutesOfTried_49 : decode cX1_minutesOfTried 49 = .ok (.getfield 9, 3) := by decide +kernel
theorem dX1_minutesOfTried_52 : decode cX1_minutesOfTried 52 = .ok (.iload 4, 2) := by decide +kernel
theorem dX1_minutesOfTried_54 : decode cX1_minutesOfTried 54 = .ok (.iaload, 1) := by decide +kernel
theorem dX1_minutesOfTried_55 : decode cX1_minutesOfTried 55 = .ok (.aload_n 2, 1) := by decide +kernel
theorem dX1_minutesOfTried_56 : decode cX1_minutesOfTried 56 = .ok (.iload 5, 2) := by decide +kernel
theorem dX1_minutesOfTried_58 : decode cX1_minutesOfTried 58 = .ok (.iaload, 1) := by decide +kernel
theorem dX1_minutesOfTried_59 : decode cX1_minutesOfTried 59 = .ok (.imul, 1) := by decide +kernel
theorem dX1_minutesOfTried_60 : decode cX1_minutesOfTried 60 = .ok (.iadd, 1) := by decide +kernel
theorem dX1_minutesOfTried_61 : decode cX1_minutesOfTried 61 = .ok (.iastore, 1) := by decide +kernel
theorem dX1_minutesOfTried_62 : decode cX1_minutesOfTried 62 = .ok (.iload_n 3, 1) := by decide +kernel
theorem dX1_minutesOfTried_63 : decode cX1_minutesOfTried 63 = .ok (.aload_n 0, 1) := by decide +kernel
theorem dX1_minutesOfTried_64 : decode cX1_minutesOfTried 64 = .ok (.getfield 21, 3) := by decide +kernel
theorem dX1_minutesOfTried_67 : decode cX1_minutesOfTried 67 = .ok (.iload 5, 2) := by decide +kernel
theorem dX1_minutesOfTried_69 : decode cX1_minutesOfTried 69 = .ok (.iaload, 1) := by decide +kernel
theorem dX1_minutesOfTried_70 : decode cX1_minutesOfTried 70 = .ok (.invokestatic 55, 3) := by decide +kernel
theorem dX1_minutesOfTried_73 : decode cX1_minutesOfTried 73 = .ok (.istore_n 3, 1) := by decide +kernel
theorem dX1_minutesOfTried_74 : decode cX1_minutesOfTried 74 = .ok (.iinc 4 1, 3) := by decide +kernel
theorem dX1_minutesOfTried_77 : decode cX1_minutesOfTried 77 = .ok (.goto (-52), 3) := by decide +kernel
theorem dX1_minutesOfTried_80 : decode cX1_minutesOfTried 80 = .ok (.iload_n 3, 1) := by decide +kernel
theorem dX1_minutesOfTried_81 : decode cX1_minutesOfTried 81 = .ok (.ireturn, 1) := by decide +kernel
theorem dX2_above_0 : decode cX2_above 0 = .ok (.iload_n 0, 1) := by decide +kernel
theorem dX2_above_1 : decode cX2_above 1 = .ok (.lookupswitch 41 #[(0, 35), (4, 37), (5, 39)], 35) := by decide +kernel
theorem dX2_above_36 : decode cX2_above 36 = .ok (.iconst (-1), 1) := by decide +kernel
theorem dX2_above_37 : decode cX2_above 37 = .ok (.ireturn, 1) := by decide +kernel
theorem dX2_above_38 : decode cX2_above 38 = .ok (.iconst 1, 1) := by decide +kernel
theorem dX2_above_39 : decode cX2_above 39 = .ok (.ireturn, 1) := by decide +kernel
theorem dX2_above_40 : decode cX2_above 40 = .ok (.iconst 2, 1) := by decide +kernel
theorem dX2_above_41 : decode cX2_above 41 = .ok (.ireturn, 1) := by decide +kernel
theorem dX2_above_42 : decode cX2_above 42 = .ok (.iconst 0, 1) := by decide +kernel
theorem dX2_above_43 : decode cX2_above 43 = .ok (.ireturn, 1) := by decide +kernel
theorem dX2_isUnder_0 : decode cX2_isUnder 0 = .ok (.iload_n 0, 1) := by decide +kernel
theorem dX2_isUnder_1 : decode cX2_isUnder 1 = .ok (.istore_n 2, 1) := by decide +kernel
theorem dX2_isUnder_2 : decode cX2_isUnder 2 = .ok (.iconst 0, 1) := by decide +kernel
theorem dX2_isUnder_3 : decode cX2_isUnder 3 = .ok (.istore_n 3, 1) := by decide +kernel
theorem dX2_isUnder_4 : decode cX2_isUnder 4 = .ok (.iload_n 3, 1) := by decide +kernel
theorem dX2_isUnder_5 : decode cX2_isUnder 5 = .ok (.bipush 7, 2) := by decide +kernel
theorem dX2_isUnder_7 : decode cX2_isUnder 7 = .ok (.if_icmp .ge 26, 3) := by decide +kernel
theorem dX2_isUnder_10 : decode cX2_isUnder 10 = .ok (.iload_n 2, 1) := by decide +kernel
theorem dX2_isUnder_11 : decode cX2_isUnder 11 = .ok (.iconst (-1), 1) := by decide +kernel
theorem dX2_isUnder_12 : decode cX2_isUnder 12 = .ok (.if_icmp .eq 21, 3) := by decide +kernel
theorem dX2_isUnder_15 : decode cX2_isUnder 15 = .ok (.iload_n 2, 1) := by decide +kernel
theorem dX2_isUnder_16 : decode cX2_isUnder 16 = .ok (.iload_n 1, 1) := by decide +kernel
theorem dX2_isUnder_17 : decode cX2_isUnder 17 = .ok (.if_icmp .ne 5, 3) := by decide +kernel
theorem dX2_isUnder_20 : decode cX2_isUnder 20 = .ok (.iconst 1, 1) := by decide +kernel
theorem dX2_isUnder_21 : decode cX2_isUnder 21 = .ok (.ireturn, 1) := by decide +kernel
theorem dX2_isUnder_22 : decode cX2_isUnder 22 = .ok (.iload_n 2, 1) := by decide +kernel
theorem dX2_isUnder_23 : decode cX2_isUnder 23 = .ok (.invokestatic 9, 3) := by decide +kernel
theorem dX2_isUnder_26 : decode cX2_isUnder 26 = .ok (.istore_n 2, 1) := by decide +kernel
theorem dX2_isUnder_27 : decode cX2_isUnder 27 = .ok (.iinc 3 1, 3) := by decide +kernel
theorem dX2_isUnder_30 : decode cX2_isUnder 30 = .ok (.goto (-26), 3) := by decide +kernel
theorem dX2_isUnder_33 : decode cX2_isUnder 33 = .ok (.iconst 0, 1) := by decide +kernel
theorem dX2_isUnder_34 : decode cX2_isUnder 34 = .ok (.ireturn, 1) := by decide +kernel
theorem dX2_takesOf_0 : decode cX2_takesOf 0 = .ok (.iload_n 0, 1) := by decide +kernel
theorem dX2_takesOf_1 : decode cX2_takesOf 1 = .ok (.iconst 2, 1) := by decide +kernel
theorem dX2_takesOf_2 : decode cX2_takesOf 2 = .ok (.if_icmp .eq 13, 3) := by decide +kernel
theorem dX2_takesOf_5 : decode cX2_takesOf 5 = .ok (.iload_n 0, 1) := by decide +kernel
theorem dX2_takesOf_6 : decode cX2_takesOf 6 = .ok (.iconst 4, 1) := by decide +kernel
theorem dX2_takesOf_7 : decode cX2_takesOf 7 = .ok (.if_icmp .eq 8, 3) := by decide +kernel
theorem dX2_takesOf_10 : decode cX2_takesOf 10 = .ok (.iload_n 0, 1) := by decide +kernel
theorem dX2_takesOf_11 : decode cX2_takesOf 11 = .ok (.iconst 5, 1) := by decide +kernel
theorem dX2_takesOf_12 : decode cX2_takesOf 12 = .ok (.if_icmp .ne 7, 3) := by decide +kernel
theorem dX2_takesOf_15 : decode cX2_takesOf 15 = .ok (.iconst 2, 1) := by decide +kernel
theorem dX2_takesOf_16 : decode cX2_takesOf 16 = .ok (.goto 4, 3) := by decide +kernel
theorem dX2_takesOf_19 : decode cX2_takesOf 19 = .ok (.iconst 1, 1) := by decide +kernel
theorem dX2_takesOf_20 : decode cX2_takesOf 20 = .ok (.ireturn, 1) := by decide +kernel
theorem dX3_init_0 : decode cX3_init 0 = .ok (.aload_n 0, 1) := by decide +kernel
theorem dX3_init_1 : decode cX3_init 1 = .ok (.invokespecial 3, 3) := by decide +kernel
theorem dX3_init_4 : decode cX3_init 4 = .ok (.aload_n 0, 1) := by decide +kernel
theorem dX3_init_5 : decode cX3_init 5 = .ok (.bipush 60, 2) := by decide +kernel
theorem dX3_init_7 : decode cX3_init 7 = .ok (.newarray .int, 2) := by decide +kernel
theorem dX3_init_9 : decode cX3_init 9 = .ok (.putfield 9, 3) := by decide +kernel
theorem dX3_init_12 : decode cX3_init 12 = .ok (.aload_n 0, 1) := by decide +kernel
theorem dX3_init_13 : decode cX3_init 13 = .ok (.bipush 60, 2) := by decide +kernel
theorem dX3_init_15 : decode cX3_init 15 = .ok (.newarray .int, 2) := by decide +kernel
theorem dX3_init_17 : decode cX3_init 17 = .ok (.putfield 15, 3) := by decide +kernel
theorem dX3_init_20 : decode cX3_init 20 = .ok (.aload_n 0, 1) := by decide +kernel
theorem dX3_init_21 : decode cX3_init 21 = .ok (.iconst 0, 1) := by decide +kernel
theorem dX3_init_22 : decode cX3_init 22 = .ok (.putfield 18, 3) := by decide +kernel
theorem dX3_init_25 : decode cX3_init 25 = .ok (.return_, 1) := by decide +kernel
theorem dX3_isThere_0 : decode cX3_isThere 0 = .ok (.aload_n 0, 1) := by decide +kernel
theorem dX3_isThere_1 : decode cX3_isThere 1 = .ok (.getfield 18, 3) := by decide +kernel
theorem dX3_isThere_4 : decode cX3_isThere 4 = .ok (.ifCond .le 7, 3) := by decide +kernel
theorem dX3_isThere_7 : decode cX3_isThere 7 = .ok (.iconst 1, 1) := by decide +kernel
theorem dX3_isThere_8 : decode cX3_isThere 8 = .ok (.goto 4, 3) := by decide +kernel
theorem dX3_isThere_11 : decode cX3_isThere 11 = .ok (.iconst 0, 1) := by decide +kernel
theorem dX3_isThere_12 : decode cX3_isThere 12 = .ok (.ireturn, 1) := by decide +kernel
theorem dX3_forget_0 : decode cX3_forget 0 = .ok (.aload_n 0, 1) := by decide +kernel
theorem dX3_forget_1 : decode cX3_forget 1 = .ok (.iconst 0, 1) := by decide +kernel
theorem dX3_forget_2 : decode cX3_forget 2 = .ok (.putfield 18, 3) := by decide +kernel
theorem dX3_forget_5 : decode cX3_forget 5 = .ok (.return_, 1) := by decide +kernel
theorem dX3_become_0 : decode cX3_become 0 = .ok (.aload_n 1, 1) := by decide +kernel
theorem dX3_become_1 : decode cX3_become 1 = .ok (.getfield 9, 3) := by decide +kernel
theorem dX3_become_4 : decode cX3_become 4 = .ok (.iconst 0, 1) := by decide +kernel
theorem dX3_become_5 : decode cX3_become 5 = .ok (.aload_n 0, 1) := by decide +kernel
theorem dX3_become_6 : decode cX3_become 6 = .ok (.getfield 9, 3) := by decide +kernel
theorem dX3_become_9 : decode cX3_become 9 = .ok (.iconst 0, 1) := by decide +kernel
theorem dX3_become_10 : decode cX3_become 10 = .ok (.bipush 60, 2) := by decide +kernel
theorem dX3_become_12 : decode cX3_become 12 = .ok (.invokestatic 22, 3) := by decide +kernel
theorem dX3_become_15 : decode cX3_become 15 = .ok (.aload_n 0, 1) := by decide +kernel
theorem dX3_become_16 : decode cX3_become 16 = .ok (.aload_n 1, 1) := by decide +kernel
theorem dX3_become_17 : decode cX3_become 17 = .ok (.getfield 18, 3) := by decide +kernel
theorem dX3_become_20 : decode cX3_become 20 = .ok (.putfield 18, 3) := by decide +kernel
theorem dX3_become_23 : decode cX3_become 23 = .ok (.return_, 1) := by decide +kernel
theorem dX3_add_0 : decode cX3_add 0 = .ok (.aload_n 0, 1) := by decide +kernel
theorem dX3_add_1 : decode cX3_add 1 = .ok (.getfield 18, 3) := by decide +kernel
theorem dX3_add_4 : decode cX3_add 4 = .ok (.bipush 60, 2) := by decide +kernel
theorem dX3_add_6 : decode cX3_add 6 = .ok (.if_icmp .ge 23, 3) := by decide +kernel
theorem dX3_add_9 : decode cX3_add 9 = .ok (.aload_n 0, 1) := by decide +kernel
theorem dX3_add_10 : decode cX3_add 10 = .ok (.getfield 9, 3) := by decide +kernel
theorem dX3_add_13 : decode cX3_add 13 = .ok (.aload_n 0, 1) := by decide +kernel
theorem dX3_add_14 : decode cX3_add 14 = .ok (.getfield 18, 3) := by decide +kernel
theorem dX3_add_17 : decode cX3_add 17 = .ok (.iload_n 1, 1) := by decide +kernel
theorem dX3_add_18 : decode cX3_add 18 = .ok (.iastore, 1) := by decide +kernel
theorem dX3_add_19 : decode cX3_add 19 = .ok (.aload_n 0, 1) := by decide +kernel
theorem dX3_add_20 : decode cX3_add 20 = .ok (.dup, 1) := by decide +kernel
theorem dX3_add_21 : decode cX3_add 21 = .ok (.getfield 18, 3) := by decide +kernel
theorem dX3_add_24 : decode cX3_add 24 = .ok (.iconst 1, 1) := by decide +kernel
theorem dX3_add_25 : decode cX3_add 25 = .ok (.iadd, 1) := by decide +kernel
theorem dX3_add_26 : decode cX3_add 26 = .ok (.putfield 18, 3) := by decide +kernel
theorem dX3_add_29 : decode cX3_add 29 = .ok (.return_, 1) := by decide +kernel
theorem dX3_worth_0 : decode cX3_worth 0 = .ok (.iconst 0, 1) := by decide +kernel
theorem dX3_worth_1 : decode cX3_worth 1 = .ok (.istore 4, 2) := by decide +kernel
theorem dX3_worth_3 : decode cX3_worth 3 = .ok (.iconst 0, 1) := by decide +kernel
theorem dX3_worth_4 : decode cX3_worth 4 = .ok (.istore 5, 2) := by decide +kernel
theorem dX3_worth_6 : decode cX3_worth 6 = .ok (.iload 5, 2) := by decide +kernel
theorem dX3_worth_8 : decode cX3_worth 8 = .ok (.aload_n 0, 1) := by decide +kernel
theorem dX3_worth_9 : decode cX3_worth 9 = .ok (.getfield 18, 3) := by decide +kernel
theorem dX3_worth_12 : decode cX3_worth 12 = .ok (.if_icmp .ge 135, 3) := by decide +kernel
theorem dX3_worth_15 : decode cX3_worth 15 = .ok (.aload_n 0, 1) := by decide +kernel
theorem dX3_worth_16 : decode cX3_worth 16 = .ok (.getfield 9, 3) := by decide +kernel
theorem dX3_worth_19 : decode cX3_worth 19 = .ok (.iload 5, 2) := by decide +kernel
theorem dX3_worth_21 : decode cX3_worth 21 = .ok (.iaload, 1) := by decide +kernel
theorem dX3_worth_22 : decode cX3_worth 22 = .ok (.istore 6, 2) := by decide +kernel
theorem dX3_worth_24 : decode cX3_worth 24 = .ok (.iload 6, 2) := by decide +kernel
theorem dX3_worth_26 : decode cX3_worth 26 = .ok (.bipush (-3), 2) := by decide +kernel
theorem dX3_worth_28 : decode cX3_worth 28 = .ok (.if_icmp .lt 31, 3) := by decide +kernel
theorem dX3_worth_31 : decode cX3_worth 31 = .ok (.iload 4, 2) := by decide +kernel
theorem dX3_worth_33 : decode cX3_worth 33 = .ok (.bipush 60, 2) := by decide +kernel
theorem dX3_worth_35 : decode cX3_worth 35 = .ok (.if_icmp .ge 106, 3) := by decide +kernel
theorem dX3_worth_38 : decode cX3_worth 38 = .ok (.aload_n 0, 1) := by decide +kernel
theorem dX3_worth_39 : decode cX3_worth 39 = .ok (.getfield 15, 3) := by decide +kernel
theorem dX3_worth_42 : decode cX3_worth 42 = .ok (.iload 4, 2) := by decide +kernel
theorem dX3_worth_44 : decode cX3_worth 44 = .ok (.iload 6, 2) := by decide +kernel
theorem dX3_worth_46 : decode cX3_worth 46 = .ok (.iload_n 1, 1) := by decide +kernel
theorem dX3_worth_47 : decode cX3_worth 47 = .ok (.iload_n 2, 1) := by decide +kernel
theorem dX3_worth_48 : decode cX3_worth 48 = .ok (.iload_n 3, 1) := by decide +kernel
theorem dX3_worth_49 : decode cX3_worth 49 = .ok (.invokestatic 28, 3) := by decide +kernel
theorem dX3_worth_52 : decode cX3_worth 52 = .ok (.iastore, 1) := by decide +kernel
theorem dX3_worth_53 : decode cX3_worth 53 = .ok (.iinc 4 1, 3) := by decide +kernel
theorem dX3_worth_56 : decode cX3_worth 56 = .ok (.goto 85, 3) := by decide +kernel
theorem dX3_worth_59 : decode cX3_worth 59 = .ok (.iload 6, 2) := by decide +kernel
theorem dX3_worth_61 : decode cX3_worth 61 = .ok (.bipush (-33), 2) := by decide +kernel
theorem dX3_worth_63 : decode cX3_worth 63 = .ok (.if_icmp .ne 38, 3) := by decide +kernel
theorem dX3_worth_66 : decode cX3_worth 66 = .ok (.iload 4, 2) := by decide +kernel
theorem dX3_worth_68 : decode cX3_worth 68 = .ok (.iconst 1, 1) := by decide +kernel
theorem dX3_worth_69 : decode cX3_worth 69 = .ok (.if_icmp .lt 72, 3) := by decide +kernel
theorem dX3_worth_72 : decode cX3_worth 72 = .ok (.aload_n 0, 1) := by decide +kernel
theorem dX3_worth_73 : decode cX3_worth 73 = .ok (.getfield 15, 3) := by decide +kernel
theorem dX3_worth_76 : decode cX3_worth 76 = .ok (.iload 4, 2) := by decide +kernel
theorem dX3_worth_78 : decode cX3_worth 78 = .ok (.iconst 1, 1) := by decide +kernel
theorem dX3_worth_79 : decode cX3_worth 79 = .ok (.isub, 1) := by decide +kernel
theorem dX3_worth_80 : decode cX3_worth 80 = .ok (.aload_n 0, 1) := by decide +kernel
theorem dX3_worth_81 : decode cX3_worth 81 = .ok (.getfield 15, 3) := by decide +kernel
theorem dX3_worth_84 : decode cX3_worth 84 = .ok (.iload 4, 2) := by decide +kernel
theorem dX3_worth_86 : decode cX3_worth 86 = .ok (.iconst 1, 1) := by decide +kernel
theorem dX3_worth_87 : decode cX3_worth 87 = .ok (.isub, 1) := by decide +kernel
theorem dX3_worth_88 : decode cX3_worth 88 = .ok (.iaload, 1) := by decide +kernel
theorem dX3_worth_89 : decode cX3_worth 89 = .ok (.ifCond .ne 7, 3) := by decide +kernel
theorem dX3_worth_92 : decode cX3_worth 92 = .ok (.iconst 1, 1) := by decide +kernel
theorem dX3_worth_93 : decode cX3_worth 93 = .ok (.goto 4, 3) := by decide +kernel
theorem dX3_worth_96 : decode cX3_worth 96 = .ok (.iconst 0, 1) := by decide +kernel
theorem dX3_worth_97 : decode cX3_worth 97 = .ok (.iastore, 1) := by decide +kernel
theorem dX3_worth_98 : decode cX3_worth 98 = .ok (.goto 43, 3) := by decide +kernel
theorem dX3_worth_101 : decode cX3_worth 101 = .ok (.iload 4, 2) := by decide +kernel
theorem dX3_worth_103 : decode cX3_worth 103 = .ok (.iconst 2, 1) := by decide +kernel
theorem dX3_worth_104 : decode cX3_worth 104 = .ok (.if_icmp .lt 37, 3) := by decide +kernel
theorem dX3_worth_107 : decode cX3_worth 107 = .ok (.iinc 4 (-1), 3) := by decide +kernel
theorem dX3_worth_110 : decode cX3_worth 110 = .ok (.aload_n 0, 1) := by decide +kernel
theorem dX3_worth_111 : decode cX3_worth 111 = .ok (.getfield 15, 3) := by decide +kernel
theorem dX3_worth_114 : decode cX3_worth 114 = .ok (.iload 4, 2) := by decide +kernel
theorem dX3_worth_116 : decode cX3_worth 116 = .ok (.iconst 1, 1) := by decide +kernel
theorem dX3_worth_117 : decode cX3_worth 117 = .ok (.isub, 1) := by decide +kernel
theorem dX3_worth_118 : decode cX3_worth 118 = .ok (.aload_n 0, 1) := by decide +kernel
theorem dX3_worth_119 : decode cX3_worth 119 = .ok (.getfield 15, 3) := by decide +kernel
theorem dX3_worth_122 : decode cX3_worth 122 = .ok (.iload 4, 2) := by decide +kernel
theorem dX3_worth_124 : decode cX3_worth 124 = .ok (.iconst 1, 1) := by decide +kernel
theorem dX3_worth_125 : decode cX3_worth 125 = .ok (.isub, 1) := by decide +kernel
theorem dX3_worth_126 : decode cX3_worth 126 = .ok (.iaload, 1) := by decide +kernel
theorem dX3_worth_127 : decode cX3_worth 127 = .ok (.iload 6, 2) := by decide +kernel
theorem dX3_worth_129 : decode cX3_worth 129 = .ok (.ineg, 1) := by decide +kernel
theorem dX3_worth_130 : decode cX3_worth 130 = .ok (.aload_n 0, 1) := by decide +kernel
theorem dX3_worth_131 : decode cX3_worth 131 = .ok (.getfield 15, 3) := by decide +kernel
theorem dX3_worth_134 : decode cX3_worth 134 = .ok (.iload 4, 2) := by decide +kernel
theorem dX3_worth_136 : decode cX3_worth 136 = .ok (.iaload, 1) := by decide +kernel
theorem dX3_worth_137 : decode cX3_worth 137 = .ok (.invokestatic 32, 3) := by decide +kernel
theorem dX3_worth_140 : decode cX3_worth 140 = .ok (.iastore, 1) := by decide +kernel
theorem dX3_worth_141 : decode cX3_worth 141 = .ok (.iinc 5 1, 3) := by decide +kernel
theorem dX3_worth_144 : decode cX3_worth 144 = .ok (.goto (-138), 3) := by decide +kernel
theorem dX3_worth_147 : decode cX3_worth 147 = .ok (.aload_n 0, 1) := by decide +kernel
theorem dX3_worth_148 : decode cX3_worth 148 = .ok (.getfield 15, 3) := by decide +kernel
theorem dX3_worth_151 : decode cX3_worth 151 = .ok (.iconst 0, 1) := by decide +kernel
theorem dX3_worth_152 : decode cX3_worth 152 = .ok (.iaload, 1) := by decide +kernel
theorem dX3_worth_153 : decode cX3_worth 153 = .ok (.ireturn, 1) := by decide +kernel
theorem dX3_valueOf_0 : decode cX3_valueOf 0 = .ok (.iload_n 0, 1) := by decide +kernel
theorem dX3_valueOf_1 : decode cX3_valueOf 1 = .ok (.tableswitch 33 (-3) (-1) #[31, 29, 27], 27) := by decide +kernel
theorem dX3_valueOf_28 : decode cX3_valueOf 28 = .ok (.iload_n 1, 1) := by decide +kernel
theorem dX3_valueOf_29 : decode cX3_valueOf 29 = .ok (.ireturn, 1) := by decide +kernel
theorem dX3_valueOf_30 : decode cX3_valueOf 30 = .ok (.iload_n 2, 1) := by decide +kernel
theorem dX3_valueOf_31 : decode cX3_valueOf 31 = .ok (.ireturn, 1) := by decide +kernel
theorem dX3_valueOf_32 : decode cX3_valueOf 32 = .ok (.iload_n 3, 1) := by decide +kernel
theorem dX3_valueOf_33 : decode cX3_valueOf 33 = .ok (.ireturn, 1) := by decide +kernel
theorem dX3_valueOf_34 : decode cX3_valueOf 34 = .ok (.iload_n 0, 1) := by decide +kernel
theorem dX3_valueOf_35 : decode cX3_valueOf 35 = .ok (.ireturn, 1) := by decide +kernel
theorem dX3_join_0 : decode cX3_join 0 = .ok (.iload_n 1, 1) := by decide +kernel
theorem dX3_join_1 : decode cX3_join 1 = .ok (.lookupswitch 168 #[(38, 97), (42, 152), (43, 144), (45, 148), (47, 156), (60, 111), (61, 122), (62, 133), (124, 83)], 83) := by decide +kernel
theorem dX3_join_84 : decode cX3_join 84 = .ok (.iload_n 0, 1) := by decide +kernel
theorem dX3_join_85 : decode cX3_join 85 = .ok (.ifCond .ne 7, 3) := by decide +kernel
theorem dX3_join_88 : decode cX3_join 88 = .ok (.iload_n 2, 1) := by decide +kernel
theorem dX3_join_89 : decode cX3_join 89 = .ok (.ifCond .eq 7, 3) := by decide +kernel
theorem dX3_join_92 : decode cX3_join 92 = .ok (.iconst 1, 1) := by decide +kernel
theorem dX3_join_93 : decode cX3_join 93 = .ok (.goto 4, 3) := by decide +kernel
theorem dX3_join_96 : decode cX3_join 96 = .ok (.iconst 0, 1) := by decide +kernel
theorem dX3_join_97 : decode cX3_join 97 = .ok (.ireturn, 1) := by decide +kernel
theorem dX3_join_98 : decode cX3_join 98 = .ok (.iload_n 0, 1) := by decide +kernel
theorem dX3_join_99 : decode cX3_join 99 = .ok (.ifCond .eq 11, 3) := by decide +kernel
theorem dX3_join_102 : decode cX3_join 102 = .ok (.iload_n 2, 1) := by decide +kernel
theorem dX3_join_103 : decode cX3_join 103 = .ok (.ifCond .eq 7, 3) := by decide +kernel
theorem dX3_join_106 : decode cX3_join 106 = .ok (.iconst 1, 1) := by decide +kernel
theorem dX3_join_107 : decode cX3_join 107 = .ok (.goto 4, 3) := by decide +kernel
theorem dX3_join_110 : decode cX3_join 110 = .ok (.iconst 0, 1) := by decide +kernel
theorem dX3_join_111 : decode cX3_join 111 = .ok (.ireturn, 1) := by decide +kernel
theorem dX3_join_112 : decode cX3_join 112 = .ok (.iload_n 0, 1) := by decide +kernel
theorem dX3_join_113 : decode cX3_join 113 = .ok (.iload_n 2, 1) := by decide +kernel
theorem dX3_join_114 : decode cX3_join 114 = .ok (.if_icmp .ge 7, 3) := by decide +kernel
theorem dX3_join_117 : decode cX3_join 117 = .ok (.iconst 1, 1) := by decide +kernel
theorem dX3_join_118 : decode cX3_join 118 = .ok (.goto 4, 3) := by decide +kernel
theorem dX3_join_121 : decode cX3_join 121 = .ok (.iconst 0, 1) := by decide +kernel
theorem dX3_join_122 : decode cX3_join 122 = .ok (.ireturn, 1) := by decide +kernel
theorem dX3_join_123 : decode cX3_join 123 = .ok (.iload_n 0, 1) := by decide +kernel
theorem dX3_join_124 : decode cX3_join 124 = .ok (.iload_n 2, 1) := by decide +kernel
theorem dX3_join_125 : decode cX3_join 125 = .ok (.if_icmp .ne 7, 3) := by decide +kernel
theorem dX3_join_128 : decode cX3_join 128 = .ok (.iconst 1, 1) := by decide +kernel
theorem dX3_join_129 : decode cX3_join 129 = .ok (.goto 4, 3) := by decide +kernel
theorem dX3_join_132 : decode cX3_join 132 = .ok (.iconst 0, 1) := by decide +kernel
theorem dX3_join_133 : decode cX3_join 133 = .ok (.ireturn, 1) := by decide +kernel
theorem dX3_join_134 : decode cX3_join 134 = .ok (.iload_n 0, 1) := by decide +kernel
theorem dX3_join_135 : decode cX3_join 135 = .ok (.iload_n 2, 1) := by decide +kernel
theorem dX3_join_136 : decode cX3_join 136 = .ok (.if_icmp .le 7, 3) := by decide +kernel
theorem dX3_join_139 : decode cX3_join 139 = .ok (.iconst 1, 1) := by decide +kernel
theorem dX3_join_140 : decode cX3_join 140 = .ok (.goto 4, 3) := by decide +kernel
theorem dX3_join_143 : decode cX3_join 143 = .ok (.iconst 0, 1) := by decide +kernel
theorem dX3_join_144 : decode cX3_join 144 = .ok (.ireturn, 1) := by decide +kernel
theorem dX3_join_145 : decode cX3_join 145 = .ok (.iload_n 0, 1) := by decide +kernel
theorem dX3_join_146 : decode cX3_join 146 = .ok (.iload_n 2, 1) := by decide +kernel
theorem dX3_join_147 : decode cX3_join 147 = .ok (.iadd, 1) := by decide +kernel
theorem dX3_join_148 : decode cX3_join 148 = .ok (.ireturn, 1) := by decide +kernel
theorem dX3_join_149 : decode cX3_join 149 = .ok (.iload_n 0, 1) := by decide +kernel
theorem dX3_join_150 : decode cX3_join 150 = .ok (.iload_n 2, 1) := by decide +kernel
theorem dX3_join_151 : decode cX3_join 151 = .ok (.isub, 1) := by decide +kernel
theorem dX3_join_152 : decode cX3_join 152 = .ok (.ireturn, 1) := by decide +kernel
theorem dX3_join_153 : decode cX3_join 153 = .ok (.iload_n 0, 1) := by decide +kernel
theorem dX3_join_154 : decode cX3_join 154 = .ok (.iload_n 2, 1) := by decide +kernel
theorem dX3_join_155 : decode cX3_join 155 = .ok (.imul, 1) := by decide +kernel
theorem dX3_join_156 : decode cX3_join 156 = .ok (.ireturn, 1) := by decide +kernel
theorem dX3_join_157 : decode cX3_join 157 = .ok (.iload_n 2, 1) := by decide +kernel
theorem dX3_join_158 : decode cX3_join 158 = .ok (.ifCond .ne 7, 3) := by decide +kernel
theorem dX3_join_161 : decode cX3_join 161 = .ok (.iconst 0, 1) := by decide +kernel
theorem dX3_join_162 : decode cX3_join 162 = .ok (.goto 6, 3) := by decide +kernel
theorem dX3_join_165 : decode cX3_join 165 = .ok (.iload_n 0, 1) := by decide +kernel
theorem dX3_join_166 : decode cX3_join 166 = .ok (.iload_n 2, 1) := by decide +kernel
theorem dX3_join_167 : decode cX3_join 167 = .ok (.idiv, 1) := by decide +kernel
theorem dX3_join_168 : decode cX3_join 168 = .ok (.ireturn, 1) := by decide +kernel
theorem dX3_join_169 : decode cX3_join 169 = .ok (.iload_n 2, 1) := by decide +kernel
theorem dX3_join_170 : decode cX3_join 170 = .ok (.ifCond .ne 7, 3) := by decide +kernel
theorem dX3_join_173 : decode cX3_join 173 = .ok (.iconst 0, 1) := by decide +kernel
theorem dX3_join_174 : decode cX3_join 174 = .ok (.goto 6, 3) := by decide +kernel
theorem dX3_join_177 : decode cX3_join 177 = .ok (.iload_n 0, 1) := by decide +kernel
theorem dX3_join_178 : decode cX3_join 178 = .ok (.iload_n 2, 1) := by decide +kernel
theorem dX3_join_179 : decode cX3_join 179 = .ok (.irem, 1) := by decide +kernel
theorem dX3_join_180 : decode cX3_join 180 = .ok (.ireturn, 1) := by decide +kernel
theorem dX4_init_0 : decode cX4_init 0 = .ok (.aload_n 0, 1) := by decide +kernel
theorem dX4_init_1 : decode cX4_init 1 = .ok (.invokespecial 3, 3) := by decide +kernel
theorem dX4_init_4 : decode cX4_init 4 = .ok (.aload_n 0, 1) := by decide +kernel
theorem dX4_init_5 : decode cX4_init 5 = .ok (.iconst 3, 1) := by decide +kernel
theorem dX4_init_6 : decode cX4_init 6 = .ok (.newarray .int, 2) := by decide +kernel
theorem dX4_init_8 : decode cX4_init 8 = .ok (.putfield 9, 3) := by decide +kernel
theorem dX4_init_11 : decode cX4_init 11 = .ok (.return_, 1) := by decide +kernel
theorem dX4_isOneRun_0 : decode cX4_isOneRun 0 = .ok (.iload_n 0, 1) := by decide +kernel
theorem dX4_isOneRun_1 : decode cX4_isOneRun 1 = .ok (.iload_n 0, 1) := by decide +kernel
theorem dX4_isOneRun_2 : decode cX4_isOneRun 2 = .ok (.invokestatic 15, 3) := by decide +kernel
theorem dX4_isOneRun_5 : decode cX4_isOneRun 5 = .ok (.invokestatic 21, 3) := by decide +kernel
theorem dX4_isOneRun_8 : decode cX4_isOneRun 8 = .ok (.ireturn, 1) := by decide +kernel
theorem dX4_isOneRunBy_0 : decode cX4_isOneRunBy 0 = .ok (.iload_n 1, 1) := by decide +kernel
theorem dX4_isOneRunBy_1 : decode cX4_isOneRunBy 1 = .ok (.invokestatic 25, 3) := by decide +kernel
theorem dX4_isOneRunBy_4 : decode cX4_isOneRunBy 4 = .ok (.istore_n 2, 1) := by decide +kernel
theorem dX4_isOneRunBy_5 : decode cX4_isOneRunBy 5 = .ok (.iload_n 0, 1) := by decide +kernel
theorem dX4_isOneRunBy_6 : decode cX4_isOneRunBy 6 = .ok (.ifCond .eq 24, 3) := by decide +kernel
theorem dX4_isOneRunBy_9 : decode cX4_isOneRunBy 9 = .ok (.iload_n 2, 1) := by decide +kernel
theorem dX4_isOneRunBy_10 : decode cX4_isOneRunBy 10 = .ok (.ifCond .eq 8, 3) := by decide +kernel
theorem dX4_isOneRunBy_13 : decode cX4_isOneRunBy 13 = .ok (.iload_n 2, 1) := by decide +kernel
theorem dX4_isOneRunBy_14 : decode cX4_isOneRunBy 14 = .ok (.iconst 2, 1) := by decide +kernel
theorem dX4_isOneRunBy_15 : decode cX4_isOneRunBy 15 = .ok (.if_icmp .ne 15, 3) := by decide +kernel
theorem dX4_isOneRunBy_18 : decode cX4_isOneRunBy 18 = .ok (.iload_n 0, 1) := by decide +kernel
theorem dX4_isOneRunBy_19 : decode cX4_isOneRunBy 19 = .ok (.invokestatic 30, 3) := by decide +kernel
theorem dX4_isOneRunBy_22 : decode cX4_isOneRunBy 22 = .ok (.iload_n 0, 1) := by decide +kernel
theorem dX4_isOneRunBy_23 : decode cX4_isOneRunBy 23 = .ok (.if_icmp .ne 7, 3) := by decide +kernel
theorem dX4_isOneRunBy_26 : decode cX4_isOneRunBy 26 = .ok (.iconst 1, 1) := by decide +kernel
theorem dX4_isOneRunBy_27 : decode cX4_isOneRunBy 27 = .ok (.goto 4, 3) := by decide +kernel
theorem dX4_isOneRunBy_30 : decode cX4_isOneRunBy 30 = .ok (.iconst 0, 1) := by decide +kernel
theorem dX4_isOneRunBy_31 : decode cX4_isOneRunBy 31 = .ok (.ireturn, 1) := by decide +kernel
theorem dX4_fewestCuts_0 : decode cX4_fewestCuts 0 = .ok (.iload_n 1, 1) := by decide +kernel
theorem dX4_fewestCuts_1 : decode cX4_fewestCuts 1 = .ok (.ifCond .ne 5, 3) := by decide +kernel
theorem dX4_fewestCuts_4 : decode cX4_fewestCuts 4 = .ok (.iconst (-1), 1) := by decide +kernel
theorem dX4_fewestCuts_5 : decode cX4_fewestCuts 5 = .ok (.ireturn, 1) := by decide +kernel
theorem dX4_fewestCuts_6 : decode cX4_fewestCuts 6 = .ok (.iload_n 1, 1) := by decide +kernel
theorem dX4_fewestCuts_7 : decode cX4_fewestCuts 7 = .ok (.invokestatic 15, 3) := by decide +kernel
theorem dX4_fewestCuts_10 : decode cX4_fewestCuts 10 = .ok (.istore_n 2, 1) := by decide +kernel
theorem dX4_fewestCuts_11 : decode cX4_fewestCuts 11 = .ok (.iconst 0, 1) := by decide +kernel
theorem dX4_fewestCuts_12 : decode cX4_fewestCuts 12 = .ok (.istore_n 3, 1) := by decide +kernel
theorem dX4_fewestCuts_13 : decode cX4_fewestCuts 13 = .ok (.iload_n 3, 1) := by decide +kernel
theorem dX4_fewestCuts_14 : decode cX4_fewestCuts 14 = .ok (.iconst 3, 1) := by decide +kernel
theorem dX4_fewestCuts_15 : decode cX4_fewestCuts 15 = .ok (.if_icmp .gt 26, 3) := by decide +kernel
theorem dX4_fewestCuts_18 : decode cX4_fewestCuts 18 = .ok (.aload_n 0, 1) := by decide +kernel
theorem dX4_fewestCuts_19 : decode cX4_fewestCuts 19 = .ok (.getfield 9, 3) := by decide +kernel
theorem dX4_fewestCuts_22 : decode cX4_fewestCuts 22 = .ok (.iconst 0, 1) := by decide +kernel
theorem dX4_fewestCuts_23 : decode cX4_fewestCuts 23 = .ok (.iload_n 3, 1) := by decide +kernel
theorem dX4_fewestCuts_24 : decode cX4_fewestCuts 24 = .ok (.iconst 0, 1) := by decide +kernel
theorem dX4_fewestCuts_25 : decode cX4_fewestCuts 25 = .ok (.iload_n 1, 1) := by decide +kernel
theorem dX4_fewestCuts_26 : decode cX4_fewestCuts 26 = .ok (.iload_n 2, 1) := by decide +kernel
theorem dX4_fewestCuts_27 : decode cX4_fewestCuts 27 = .ok (.invokestatic 33, 3) := by decide +kernel
theorem dX4_fewestCuts_30 : decode cX4_fewestCuts 30 = .ok (.ifCond .eq 5, 3) := by decide +kernel
theorem dX4_fewestCuts_33 : decode cX4_fewestCuts 33 = .ok (.iload_n 3, 1) := by decide +kernel
theorem dX4_fewestCuts_34 : decode cX4_fewestCuts 34 = .ok (.ireturn, 1) := by decide +kernel
theorem dX4_fewestCuts_35 : decode cX4_fewestCuts 35 = .ok (.iinc 3 1, 3) := by decide +kernel
theorem dX4_fewestCuts_38 : decode cX4_fewestCuts 38 = .ok (.goto (-25), 3) := by decide +kernel
theorem dX4_fewestCuts_41 : decode cX4_fewestCuts 41 = .ok (.iconst (-1), 1) := by decide +kernel
theorem dX4_fewestCuts_42 : decode cX4_fewestCuts 42 = .ok (.ireturn, 1) := by decide +kernel
theorem dX4_choose_0 : decode cX4_choose 0 = .ok (.iload_n 1, 1) := by decide +kernel
theorem dX4_choose_1 : decode cX4_choose 1 = .ok (.iload_n 2, 1) := by decide +kernel
theorem dX4_choose_2 : decode cX4_choose 2 = .ok (.if_icmp .ge 9, 3) := by decide +kernel
theorem dX4_choose_5 : decode cX4_choose 5 = .ok (.iload_n 1, 1) := by decide +kernel
theorem dX4_choose_6 : decode cX4_choose 6 = .ok (.aload_n 0, 1) := by decide +kernel
theorem dX4_choose_7 : decode cX4_choose 7 = .ok (.arraylength, 1) := by decide +kernel
theorem dX4_choose_8 : decode cX4_choose 8 = .ok (.if_icmp .lt 11, 3) := by decide +kernel
theorem dX4_choose_11 : decode cX4_choose 11 = .ok (.iload 4, 2) := by decide +kernel
theorem dX4_choose_13 : decode cX4_choose 13 = .ok (.iload 5, 2) := by decide +kernel
theorem dX4_choose_15 : decode cX4_choose 15 = .ok (.invokestatic 21, 3) := by decide +kernel
theorem dX4_choose_18 : decode cX4_choose 18 = .ok (.ireturn, 1) := by decide +kernel
theorem dX4_choose_19 : decode cX4_choose 19 = .ok (.iload_n 3, 1) := by decide +kernel
theorem dX4_choose_20 : decode cX4_choose 20 = .ok (.istore 6, 2) := by decide +kernel
theorem dX4_choose_22 : decode cX4_choose 22 = .ok (.iload 6, 2) := by decide +kernel
theorem dX4_choose_24 : decode cX4_choose 24 = .ok (.bipush 31, 2) := by decide +kernel
theorem dX4_choose_26 : decode cX4_choose 26 = .ok (.if_icmp .ge 56, 3) := by decide +kernel
theorem dX4_choose_29 : decode cX4_choose 29 = .ok (.iload 4, 2) := by decide +kernel
theorem dX4_choose_31 : decode cX4_choose 31 = .ok (.iload 6, 2) := by decide +kernel
theorem dX4_choose_33 : decode cX4_choose 33 = .ok (.iushr, 1) := by decide +kernel
theorem dX4_choose_34 : decode cX4_choose 34 = .ok (.iconst 1, 1) := by decide +kernel
theorem dX4_choose_35 : decode cX4_choose 35 = .ok (.iand, 1) := by decide +kernel
theorem dX4_choose_36 : decode cX4_choose 36 = .ok (.ifCond .ne 40, 3) := by decide +kernel
theorem dX4_choose_39 : decode cX4_choose 39 = .ok (.aload_n 0, 1) := by decide +kernel
theorem dX4_choose_40 : decode cX4_choose 40 = .ok (.iload_n 1, 1) := by decide +kernel
theorem dX4_choose_41 : decode cX4_choose 41 = .ok (.iconst 1, 1) := by decide +kernel
theorem dX4_choose_42 : decode cX4_choose 42 = .ok (.iadd, 1) := by decide +kernel
theorem dX4_choose_43 : decode cX4_choose 43 = .ok (.iload_n 2, 1) := by decide +kernel
theorem dX4_choose_44 : decode cX4_choose 44 = .ok (.iload 6, 2) := by decide +kernel
theorem dX4_choose_46 : decode cX4_choose 46 = .ok (.iconst 1, 1) := by decide +kernel
theorem dX4_choose_47 : decode cX4_choose 47 = .ok (.iadd, 1) := by decide +kernel
theorem dX4_choose_48 : decode cX4_choose 48 = .ok (.iload 4, 2) := by decide +kernel
theorem dX4_choose_50 : decode cX4_choose 50 = .ok (.iconst 1, 1) := by decide +kernel
theorem dX4_choose_51 : decode cX4_choose 51 = .ok (.iload 6, 2) := by decide +kernel
theorem dX4_choose_53 : decode cX4_choose 53 = .ok (.ishl, 1) := by decide +kernel
theorem dX4_choose_54 : decode cX4_choose 54 = .ok (.ior, 1) := by decide +kernel
theorem dX4_choose_55 : decode cX4_choose 55 = .ok (.iload 5, 2) := by decide +kernel
theorem dX4_choose_57 : decode cX4_choose 57 = .ok (.iload 6, 2) := by decide +kernel
theorem dX4_choose_59 : decode cX4_choose 59 = .ok (.invokestatic 37, 3) := by decide +kernel
theorem dX4_choose_62 : decode cX4_choose 62 = .ok (.ixor, 1) := by decide +kernel
theorem dX4_choose_63 : decode cX4_choose 63 = .ok (.invokestatic 33, 3) := by decide +kernel
theorem dX4_choose_66 : decode cX4_choose 66 = .ok (.ifCond .eq 10, 3) := by decide +kernel
theorem dX4_choose_69 : decode cX4_choose 69 = .ok (.aload_n 0, 1) := by decide +kernel
theorem dX4_choose_70 : decode cX4_choose 70 = .ok (.iload_n 1, 1) := by decide +kernel
theorem dX4_choose_71 : decode cX4_choose 71 = .ok (.iload 6, 2) := by decide +kernel
theorem dX4_choose_73 : decode cX4_choose 73 = .ok (.iastore, 1) := by decide +kernel
theorem dX4_choose_74 : decode cX4_choose 74 = .ok (.iconst 1, 1) := by decide +kernel
theorem dX4_choose_75 : decode cX4_choose 75 = .ok (.ireturn, 1) := by decide +kernel
theorem dX4_choose_76 : decode cX4_choose 76 = .ok (.iinc 6 1, 3) := by decide +kernel
theorem dX4_choose_79 : decode cX4_choose 79 = .ok (.goto (-57), 3) := by decide +kernel
theorem dX4_choose_82 : decode cX4_choose 82 = .ok (.iconst 0, 1) := by decide +kernel
theorem dX4_choose_83 : decode cX4_choose 83 = .ok (.ireturn, 1) := by decide +kernel
theorem dX4_wayKnot_0 : decode cX4_wayKnot 0 = .ok (.iload_n 0, 1) := by decide +kernel
theorem dX4_wayKnot_1 : decode cX4_wayKnot 1 = .ok (.invokestatic 15, 3) := by decide +kernel
theorem dX4_wayKnot_4 : decode cX4_wayKnot 4 = .ok (.istore_n 2, 1) := by decide +kernel
theorem dX4_wayKnot_5 : decode cX4_wayKnot 5 = .ok (.iload_n 2, 1) := by decide +kernel
theorem dX4_wayKnot_6 : decode cX4_wayKnot 6 = .ok (.ifCond .eq 7, 3) := by decide +kernel
theorem dX4_wayKnot_9 : decode cX4_wayKnot 9 = .ok (.iload_n 2, 1) := by decide +kernel
theorem dX4_wayKnot_10 : decode cX4_wayKnot 10 = .ok (.goto 7, 3) := by decide +kernel
theorem dX4_wayKnot_13 : decode cX4_wayKnot 13 = .ok (.iload_n 0, 1) := by decide +kernel
theorem dX4_wayKnot_14 : decode cX4_wayKnot 14 = .ok (.invokestatic 40, 3) := by decide +kernel
theorem dX4_wayKnot_17 : decode cX4_wayKnot 17 = .ok (.invokestatic 43, 3) := by decide +kernel
theorem dX4_wayKnot_20 : decode cX4_wayKnot 20 = .ok (.istore_n 3, 1) := by decide +kernel
theorem dX4_wayKnot_21 : decode cX4_wayKnot 21 = .ok (.iload_n 0, 1) := by decide +kernel
theorem dX4_wayKnot_22 : decode cX4_wayKnot 22 = .ok (.istore 4, 2) := by decide +kernel
theorem dX4_wayKnot_24 : decode cX4_wayKnot 24 = .ok (.iconst 0, 1) := by decide +kernel
theorem dX4_wayKnot_25 : decode cX4_wayKnot 25 = .ok (.istore 5, 2) := by decide +kernel
theorem dX4_wayKnot_27 : decode cX4_wayKnot 27 = .ok (.iload 5, 2) := by decide +kernel
theorem dX4_wayKnot_29 : decode cX4_wayKnot 29 = .ok (.iload_n 1, 1) := by decide +kernel
theorem dX4_wayKnot_30 : decode cX4_wayKnot 30 = .ok (.if_icmp .ge 51, 3) := by decide +kernel
theorem dX4_wayKnot_33 : decode cX4_wayKnot 33 = .ok (.iload 4, 2) := by decide +kernel
theorem dX4_wayKnot_35 : decode cX4_wayKnot 35 = .ok (.ifCond .eq 46, 3) := by decide +kernel
theorem dX4_wayKnot_38 : decode cX4_wayKnot 38 = .ok (.iload 4, 2) := by decide +kernel
theorem dX4_wayKnot_40 : decode cX4_wayKnot 40 = .ok (.iload_n 3, 1) := by decide +kernel
theorem dX4_wayKnot_41 : decode cX4_wayKnot 41 = .ok (.invokestatic 46, 3) := by decide +kernel
theorem dX4_wayKnot_44 : decode cX4_wayKnot 44 = .ok (.istore 6, 2) := by decide +kernel
theorem dX4_wayKnot_46 : decode cX4_wayKnot 46 = .ok (.iload_n 3, 1) := by decide +kernel
theorem dX4_wayKnot_47 : decode cX4_wayKnot 47 = .ok (.iload 6, 2) := by decide +kernel
theorem dX4_wayKnot_49 : decode cX4_wayKnot 49 = .ok (.invokestatic 50, 3) := by decide +kernel
theorem dX4_wayKnot_52 : decode cX4_wayKnot 52 = .ok (.istore 7, 2) := by decide +kernel
theorem dX4_wayKnot_54 : decode cX4_wayKnot 54 = .ok (.iload 7, 2) := by decide +kernel
theorem dX4_wayKnot_56 : decode cX4_wayKnot 56 = .ok (.ifCond .ge 5, 3) := by decide +kernel
theorem dX4_wayKnot_59 : decode cX4_wayKnot 59 = .ok (.iload_n 3, 1) := by decide +kernel
theorem dX4_wayKnot_60 : decode cX4_wayKnot 60 = .ok (.ireturn, 1) := by decide +kernel
theorem dX4_wayKnot_61 : decode cX4_wayKnot 61 = .ok (.iload 4, 2) := by decide +kernel
theorem dX4_wayKnot_63 : decode cX4_wayKnot 63 = .ok (.iconst 1, 1) := by decide +kernel
theorem dX4_wayKnot_64 : decode cX4_wayKnot 64 = .ok (.iload 7, 2) := by decide +kernel
theorem dX4_wayKnot_66 : decode cX4_wayKnot 66 = .ok (.ishl, 1) := by decide +kernel
theorem dX4_wayKnot_67 : decode cX4_wayKnot 67 = .ok (.iconst (-1), 1) := by decide +kernel
theorem dX4_wayKnot_68 : decode cX4_wayKnot 68 = .ok (.ixor, 1) := by decide +kernel
theorem dX4_wayKnot_69 : decode cX4_wayKnot 69 = .ok (.iand, 1) := by decide +kernel
theorem dX4_wayKnot_70 : decode cX4_wayKnot 70 = .ok (.istore 4, 2) := by decide +kernel
theorem dX4_wayKnot_72 : decode cX4_wayKnot 72 = .ok (.iload 6, 2) := by decide +kernel
theorem dX4_wayKnot_74 : decode cX4_wayKnot 74 = .ok (.istore_n 3, 1) := by decide +kernel
theorem dX4_wayKnot_75 : decode cX4_wayKnot 75 = .ok (.iinc 5 1, 3) := by decide +kernel
theorem dX4_wayKnot_78 : decode cX4_wayKnot 78 = .ok (.goto (-51), 3) := by decide +kernel
theorem dX4_wayKnot_81 : decode cX4_wayKnot 81 = .ok (.iload_n 3, 1) := by decide +kernel
theorem dX4_wayKnot_82 : decode cX4_wayKnot 82 = .ok (.ireturn, 1) := by decide +kernel
theorem dX4_nextKnot_0 : decode cX4_nextKnot 0 = .ok (.iconst 0, 1) := by decide +kernel
theorem dX4_nextKnot_1 : decode cX4_nextKnot 1 = .ok (.istore_n 2, 1) := by decide +kernel
theorem dX4_nextKnot_2 : decode cX4_nextKnot 2 = .ok (.iload_n 2, 1) := by decide +kernel
theorem dX4_nextKnot_3 : decode cX4_nextKnot 3 = .ok (.bipush 20, 2) := by decide +kernel
theorem dX4_nextKnot_5 : decode cX4_nextKnot 5 = .ok (.if_icmp .ge 57, 3) := by decide +kernel
theorem dX4_nextKnot_8 : decode cX4_nextKnot 8 = .ok (.iload_n 1, 1) := by decide +kernel
theorem dX4_nextKnot_9 : decode cX4_nextKnot 9 = .ok (.iload_n 2, 1) := by decide +kernel
theorem dX4_nextKnot_10 : decode cX4_nextKnot 10 = .ok (.invokestatic 50, 3) := by decide +kernel
theorem dX4_nextKnot_13 : decode cX4_nextKnot 13 = .ok (.istore_n 3, 1) := by decide +kernel
theorem dX4_nextKnot_14 : decode cX4_nextKnot 14 = .ok (.iload_n 3, 1) := by decide +kernel
theorem dX4_nextKnot_15 : decode cX4_nextKnot 15 = .ok (.ifCond .lt 41, 3) := by decide +kernel
theorem dX4_nextKnot_18 : decode cX4_nextKnot 18 = .ok (.iload_n 0, 1) := by decide +kernel
theorem dX4_nextKnot_19 : decode cX4_nextKnot 19 = .ok (.iload_n 3, 1) := by decide +kernel
theorem dX4_nextKnot_20 : decode cX4_nextKnot 20 = .ok (.iushr, 1) := by decide +kernel
theorem dX4_nextKnot_21 : decode cX4_nextKnot 21 = .ok (.iconst 1, 1) := by decide +kernel
theorem dX4_nextKnot_22 : decode cX4_nextKnot 22 = .ok (.iand, 1) := by decide +kernel
theorem dX4_nextKnot_23 : decode cX4_nextKnot 23 = .ok (.ifCond .eq 33, 3) := by decide +kernel
theorem dX4_nextKnot_26 : decode cX4_nextKnot 26 = .ok (.iload_n 0, 1) := by decide +kernel
theorem dX4_nextKnot_27 : decode cX4_nextKnot 27 = .ok (.iconst 1, 1) := by decide +kernel
theorem dX4_nextKnot_28 : decode cX4_nextKnot 28 = .ok (.iload_n 3, 1) := by decide +kernel
theorem dX4_nextKnot_29 : decode cX4_nextKnot 29 = .ok (.ishl, 1) := by decide +kernel
theorem dX4_nextKnot_30 : decode cX4_nextKnot 30 = .ok (.iconst (-1), 1) := by decide +kernel
theorem dX4_nextKnot_31 : decode cX4_nextKnot 31 = .ok (.ixor, 1) := by decide +kernel
theorem dX4_nextKnot_32 : decode cX4_nextKnot 32 = .ok (.iand, 1) := by decide +kernel
theorem dX4_nextKnot_33 : decode cX4_nextKnot 33 = .ok (.istore 4, 2) := by decide +kernel
theorem dX4_nextKnot_35 : decode cX4_nextKnot 35 = .ok (.iload 4, 2) := by decide +kernel
theorem dX4_nextKnot_37 : decode cX4_nextKnot 37 = .ok (.iload 4, 2) := by decide +kernel
theorem dX4_nextKnot_39 : decode cX4_nextKnot 39 = .ok (.iconst 1, 1) := by decide +kernel
theorem dX4_nextKnot_40 : decode cX4_nextKnot 40 = .ok (.iload_n 2, 1) := by decide +kernel
theorem dX4_nextKnot_41 : decode cX4_nextKnot 41 = .ok (.ishl, 1) := by decide +kernel
theorem dX4_nextKnot_42 : decode cX4_nextKnot 42 = .ok (.iconst 0, 1) := by decide +kernel
theorem dX4_nextKnot_43 : decode cX4_nextKnot 43 = .ok (.invokestatic 53, 3) := by decide +kernel
theorem dX4_nextKnot_46 : decode cX4_nextKnot 46 = .ok (.invokestatic 57, 3) := by decide +kernel
theorem dX4_nextKnot_49 : decode cX4_nextKnot 49 = .ok (.iload 4, 2) := by decide +kernel
theorem dX4_nextKnot_51 : decode cX4_nextKnot 51 = .ok (.if_icmp .ne 5, 3) := by decide +kernel
theorem dX4_nextKnot_54 : decode cX4_nextKnot 54 = .ok (.iload_n 2, 1) := by decide +kernel
theorem dX4_nextKnot_55 : decode cX4_nextKnot 55 = .ok (.ireturn, 1) := by decide +kernel
theorem dX4_nextKnot_56 : decode cX4_nextKnot 56 = .ok (.iinc 2 1, 3) := by decide +kernel
theorem dX4_nextKnot_59 : decode cX4_nextKnot 59 = .ok (.goto (-57), 3) := by decide +kernel
theorem dX4_nextKnot_62 : decode cX4_nextKnot 62 = .ok (.iconst (-1), 1) := by decide +kernel
theorem dX4_nextKnot_63 : decode cX4_nextKnot 63 = .ok (.ireturn, 1) := by decide +kernel
theorem dX5_init_0 : decode cX5_init 0 = .ok (.aload_n 0, 1) := by decide +kernel
theorem dX5_init_1 : decode cX5_init 1 = .ok (.invokespecial 3, 3) := by decide +kernel
theorem dX5_init_4 : decode cX5_init 4 = .ok (.aload_n 0, 1) := by decide +kernel
theorem dX5_init_5 : decode cX5_init 5 = .ok (.bipush 20, 2) := by decide +kernel
theorem dX5_init_7 : decode cX5_init 7 = .ok (.newarray .int, 2) := by decide +kernel
theorem dX5_init_9 : decode cX5_init 9 = .ok (.putfield 9, 3) := by decide +kernel
theorem dX5_init_12 : decode cX5_init 12 = .ok (.aload_n 0, 1) := by decide +kernel
theorem dX5_init_13 : decode cX5_init 13 = .ok (.bipush 20, 2) := by decide +kernel
theorem dX5_init_15 : decode cX5_init 15 = .ok (.newarray .int, 2) := by decide +kernel
theorem dX5_init_17 : decode cX5_init 17 = .ok (.putfield 15, 3) := by decide +kernel
theorem dX5_init_20 : decode cX5_init 20 = .ok (.aload_n 0, 1) := by decide +kernel
theorem dX5_init_21 : decode cX5_init 21 = .ok (.bipush 20, 2) := by decide +kernel
theorem dX5_init_23 : decode cX5_init 23 = .ok (.newarray .int, 2) := by decide +kernel
theorem dX5_init_25 : decode cX5_init 25 = .ok (.putfield 18, 3) := by decide +kernel
theorem dX5_init_28 : decode cX5_init 28 = .ok (.aload_n 0, 1) := by decide +kernel
theorem dX5_init_29 : decode cX5_init 29 = .ok (.bipush 20, 2) := by decide +kernel
theorem dX5_init_31 : decode cX5_init 31 = .ok (.newarray .int, 2) := by decide +kernel
theorem dX5_init_33 : decode cX5_init 33 = .ok (.putfield 21, 3) := by decide +kernel
theorem dX5_init_36 : decode cX5_init 36 = .ok (.aload_n 0, 1) := by decide +kernel
theorem dX5_init_37 : decode cX5_init 37 = .ok (.bipush 31, 2) := by decide +kernel
theorem dX5_init_39 : decode cX5_init 39 = .ok (.newarray .int, 2) := by decide +kernel
theorem dX5_init_41 : decode cX5_init 41 = .ok (.putfield 24, 3) := by decide +kernel
theorem dX5_init_44 : decode cX5_init 44 = .ok (.aload_n 0, 1) := by decide +kernel
theorem dX5_init_45 : decode cX5_init 45 = .ok (.bipush 31, 2) := by decide +kernel
theorem dX5_init_47 : decode cX5_init 47 = .ok (.newarray .int, 2) := by decide +kernel
theorem dX5_init_49 : decode cX5_init 49 = .ok (.putfield 27, 3) := by decide +kernel
theorem dX5_init_52 : decode cX5_init 52 = .ok (.aload_n 0, 1) := by decide +kernel
theorem dX5_init_53 : decode cX5_init 53 = .ok (.bipush 20, 2) := by decide +kernel
theorem dX5_init_55 : decode cX5_init 55 = .ok (.newarray .int, 2) := by decide +kernel
theorem dX5_init_57 : decode cX5_init 57 = .ok (.putfield 30, 3) := by decide +kernel
theorem dX5_init_60 : decode cX5_init 60 = .ok (.aload_n 0, 1) := by decide +kernel
theorem dX5_init_61 : decode cX5_init 61 = .ok (.new 33, 3) := by decide +kernel
theorem dX5_init_64 : decode cX5_init 64 = .ok (.dup, 1) := by decide +kernel
theorem dX5_init_65 : decode cX5_init 65 = .ok (.invokespecial 35, 3) := by decide +kernel
theorem dX5_init_68 : decode cX5_init 68 = .ok (.putfield 36, 3) := by decide +kernel
theorem dX5_init_71 : decode cX5_init 71 = .ok (.aload_n 0, 1) := by decide +kernel
theorem dX5_init_72 : decode cX5_init 72 = .ok (.new 33, 3) := by decide +kernel
theorem dX5_init_75 : decode cX5_init 75 = .ok (.dup, 1) := by decide +kernel
theorem dX5_init_76 : decode cX5_init 76 = .ok (.invokespecial 35, 3) := by decide +kernel
theorem dX5_init_79 : decode cX5_init 79 = .ok (.putfield 40, 3) := by decide +kernel
theorem dX5_init_82 : decode cX5_init 82 = .ok (.aload_n 0, 1) := by decide +kernel
theorem dX5_init_83 : decode cX5_init 83 = .ok (.iconst 0, 1) := by decide +kernel
theorem dX5_init_84 : decode cX5_init 84 = .ok (.putfield 43, 3) := by decide +kernel
theorem dX5_init_87 : decode cX5_init 87 = .ok (.aload_n 0, 1) := by decide +kernel
theorem dX5_init_88 : decode cX5_init 88 = .ok (.iconst 0, 1) := by decide +kernel
theorem dX5_init_89 : decode cX5_init 89 = .ok (.putfield 47, 3) := by decide +kernel
theorem dX5_init_92 : decode cX5_init 92 = .ok (.iconst 0, 1) := by decide +kernel
theorem dX5_init_93 : decode cX5_init 93 = .ok (.istore_n 1, 1) := by decide +kernel
theorem dX5_init_94 : decode cX5_init 94 = .ok (.iload_n 1, 1) := by decide +kernel
theorem dX5_init_95 : decode cX5_init 95 = .ok (.bipush 20, 2) := by decide +kernel
theorem dX5_init_97 : decode cX5_init 97 = .ok (.if_icmp .ge 16, 3) := by decide +kernel
theorem dX5_init_100 : decode cX5_init 100 = .ok (.aload_n 0, 1) := by decide +kernel
theorem dX5_init_101 : decode cX5_init 101 = .ok (.getfield 15, 3) := by decide +kernel
theorem dX5_init_104 : decode cX5_init 104 = .ok (.iload_n 1, 1) := by decide +kernel
theorem dX5_init_105 : decode cX5_init 105 = .ok (.iconst 5, 1) := by decide +kernel
theorem dX5_init_106 : decode cX5_init 106 = .ok (.iastore, 1) := by decide +kernel
theorem dX5_init_107 : decode cX5_init 107 = .ok (.iinc 1 1, 3) := by decide +kernel
theorem dX5_init_110 : decode cX5_init 110 = .ok (.goto (-16), 3) := by decide +kernel
theorem dX5_init_113 : decode cX5_init 113 = .ok (.return_, 1) := by decide +kernel
theorem dX5_become_0 : decode cX5_become 0 = .ok (.aload_n 1, 1) := by decide +kernel
theorem dX5_become_1 : decode cX5_become 1 = .ok (.getfield 9, 3) := by decide +kernel
theorem dX5_become_4 : decode cX5_become 4 = .ok (.iconst 0, 1) := by decide +kernel
theorem dX5_become_5 : decode cX5_become 5 = .ok (.aload_n 0, 1) := by decide +kernel
theorem dX5_become_6 : decode cX5_become 6 = .ok (.getfield 9, 3) := by decide +kernel
theorem dX5_become_9 : decode cX5_become 9 = .ok (.iconst 0, 1) := by decide +kernel
theorem dX5_become_10 : decode cX5_become 10 = .ok (.bipush 20, 2) := by decide +kernel
theorem dX5_become_12 : decode cX5_become 12 = .ok (.invokestatic 50, 3) := by decide +kernel
theorem dX5_become_15 : decode cX5_become 15 = .ok (.aload_n 1, 1) := by decide +kernel
theorem dX5_become_16 : decode cX5_become 16 = .ok (.getfield 15, 3) := by decide +kernel
theorem dX5_become_19 : decode cX5_become 19 = .ok (.iconst 0, 1) := by decide +kernel
theorem dX5_become_20 : decode cX5_become 20 = .ok (.aload_n 0, 1) := by decide +kernel
theorem dX5_become_21 : decode cX5_become 21 = .ok (.getfield 15, 3) := by decide +kernel
theorem dX5_become_24 : decode cX5_become 24 = .ok (.iconst 0, 1) := by decide +kernel
theorem dX5_become_25 : decode cX5_become 25 = .ok (.bipush 20, 2) := by decide +kernel
theorem dX5_become_27 : decode cX5_become 27 = .ok (.invokestatic 50, 3) := by decide +kernel
theorem dX5_become_30 : decode cX5_become 30 = .ok (.aload_n 1, 1) := by decide +kernel
theorem dX5_become_31 : decode cX5_become 31 = .ok (.getfield 18, 3) := by decide +kernel
theorem dX5_become_34 : decode cX5_become 34 = .ok (.iconst 0, 1) := by decide +kernel
theorem dX5_become_35 : decode cX5_become 35 = .ok (.aload_n 0, 1) := by decide +kernel
theorem dX5_become_36 : decode cX5_become 36 = .ok (.getfield 18, 3) := by decide +kernel
theorem dX5_become_39 : decode cX5_become 39 = .ok (.iconst 0, 1) := by decide +kernel
theorem dX5_become_40 : decode cX5_become 40 = .ok (.bipush 20, 2) := by decide +kernel
theorem dX5_become_42 : decode cX5_become 42 = .ok (.invokestatic 50, 3) := by decide +kernel
theorem dX5_become_45 : decode cX5_become 45 = .ok (.aload_n 1, 1) := by decide +kernel
theorem dX5_become_46 : decode cX5_become 46 = .ok (.getfield 21, 3) := by decide +kernel
theorem dX5_become_49 : decode cX5_become 49 = .ok (.iconst 0, 1) := by decide +kernel
theorem dX5_become_50 : decode cX5_become 50 = .ok (.aload_n 0, 1) := by decide +kernel
theorem dX5_become_51 : decode cX5_become 51 = .ok (.getfield 21, 3) := by decide +kernel
theorem dX5_become_54 : decode cX5_become 54 = .ok (.iconst 0, 1) := by decide +kernel
theorem dX5_become_55 : decode cX5_become 55 = .ok (.bipush 20, 2) := by decide +kernel
theorem dX5_become_57 : decode cX5_become 57 = .ok (.invokestatic 50, 3) := by decide +kernel
theorem dX5_become_60 : decode cX5_become 60 = .ok (.aload_n 1, 1) := by decide +kernel
theorem dX5_become_61 : decode cX5_become 61 = .ok (.getfield 24, 3) := by decide +kernel
theorem dX5_become_64 : decode cX5_become 64 = .ok (.iconst 0, 1) := by decide +kernel
theorem dX5_become_65 : decode cX5_become 65 = .ok (.aload_n 0, 1) := by decide +kernel
theorem dX5_become_66 : decode cX5_become 66 = .ok (.getfield 24, 3) := by decide +kernel
theorem dX5_become_69 : decode cX5_become 69 = .ok (.iconst 0, 1) := by decide +kernel
theorem dX5_become_70 : decode cX5_become 70 = .ok (.bipush 31, 2) := by decide +kernel
theorem dX5_become_72 : decode cX5_become 72 = .ok (.invokestatic 50, 3) := by decide +kernel
theorem dX5_become_75 : decode cX5_become 75 = .ok (.aload_n 1, 1) := by decide +kernel
theorem dX5_become_76 : decode cX5_become 76 = .ok (.getfield 27, 3) := by decide +kernel
theorem dX5_become_79 : decode cX5_become 79 = .ok (.iconst 0, 1) := by decide +kernel
theorem dX5_become_80 : decode cX5_become 80 = .ok (.aload_n 0, 1) := by decide +kernel
theorem dX5_become_81 : decode cX5_become 81 = .ok (.getfield 27, 3) := by decide +kernel
theorem dX5_become_84 : decode cX5_become 84 = .ok (.iconst 0, 1) := by decide +kernel
theorem dX5_become_85 : decode cX5_become 85 = .ok (.bipush 31, 2) := by decide +kernel
theorem dX5_become_87 : decode cX5_become 87 = .ok (.invokestatic 50, 3) := by decide +kernel
theorem dX5_become_90 : decode cX5_become 90 = .ok (.aload_n 0, 1) := by decide +kernel
theorem dX5_become_91 : decode cX5_become 91 = .ok (.getfield 36, 3) := by decide +kernel
theorem dX5_become_94 : decode cX5_become 94 = .ok (.aload_n 1, 1) := by decide +kernel
theorem dX5_become_95 : decode cX5_become 95 = .ok (.getfield 36, 3) := by decide +kernel
theorem dX5_become_98 : decode cX5_become 98 = .ok (.invokevirtual 56, 3) := by decide +kernel
theorem dX5_become_101 : decode cX5_become 101 = .ok (.aload_n 0, 1) := by decide +kernel
theorem dX5_become_102 : decode cX5_become 102 = .ok (.getfield 40, 3) := by decide +kernel
theorem dX5_become_105 : decode cX5_become 105 = .ok (.aload_n 1, 1) := by decide +kernel
theorem dX5_become_106 : decode cX5_become 106 = .ok (.getfield 40, 3) := by decide +kernel
theorem dX5_become_109 : decode cX5_become 109 = .ok (.invokevirtual 56, 3) := by decide +kernel
theorem dX5_become_112 : decode cX5_become 112 = .ok (.aload_n 0, 1) := by decide +kernel
theorem dX5_become_113 : decode cX5_become 113 = .ok (.aload_n 1, 1) := by decide +kernel
theorem dX5_become_114 : decode cX5_become 114 = .ok (.getfield 43, 3) := by decide +kernel
theorem dX5_become_117 : decode cX5_become 117 = .ok (.putfield 43, 3) := by decide +kernel
theorem dX5_become_120 : decode cX5_become 120 = .ok (.aload_n 0, 1) := by decide +kernel
theorem dX5_become_121 : decode cX5_become 121 = .ok (.aload_n 1, 1) := by decide +kernel
theorem dX5_become_122 : decode cX5_become 122 = .ok (.getfield 47, 3) := by decide +kernel
theorem dX5_become_125 : decode cX5_become 125 = .ok (.putfield 47, 3) := by decide +kernel
theorem dX5_become_128 : decode cX5_become 128 = .ok (.return_, 1) := by decide +kernel
theorem dX5_lawOf_0 : decode cX5_lawOf 0 = .ok (.iload_n 1, 1) := by decide +kernel
theorem dX5_lawOf_1 : decode cX5_lawOf 1 = .ok (.iconst 1, 1) := by decide +kernel
theorem dX5_lawOf_2 : decode cX5_lawOf 2 = .ok (.if_icmp .ne 10, 3) := by decide +kernel
theorem dX5_lawOf_5 : decode cX5_lawOf 5 = .ok (.aload_n 0, 1) := by decide +kernel
theorem dX5_lawOf_6 : decode cX5_lawOf 6 = .ok (.getfield 40, 3) := by decide +kernel
theorem dX5_lawOf_9 : decode cX5_lawOf 9 = .ok (.goto 7, 3) := by decide +kernel
theorem dX5_lawOf_12 : decode cX5_lawOf 12 = .ok (.aload_n 0, 1) := by decide +kernel
theorem dX5_lawOf_13 : decode cX5_lawOf 13 = .ok (.getfield 36, 3) := by decide +kernel
theorem dX5_lawOf_16 : decode cX5_lawOf 16 = .ok (.areturn, 1) := by decide +kernel
theorem dX5_tieAnew_0 : decode cX5_tieAnew 0 = .ok (.aload_n 0, 1) := by decide +kernel
theorem dX5_tieAnew_1 : decode cX5_tieAnew 1 = .ok (.getfield 18, 3) := by decide +kernel
theorem dX5_tieAnew_4 : decode cX5_tieAnew 4 = .ok (.iload_n 1, 1) := by decide +kernel
theorem dX5_tieAnew_5 : decode cX5_tieAnew 5 = .ok (.iload_n 2, 1) := by decide +kernel
theorem dX5_tieAnew_6 : decode cX5_tieAnew 6 = .ok (.iastore, 1) := by decide +kernel
theorem dX5_tieAnew_7 : decode cX5_tieAnew 7 = .ok (.aload_n 0, 1) := by decide +kernel
theorem dX5_tieAnew_8 : decode cX5_tieAnew 8 = .ok (.getfield 21, 3) := by decide +kernel
theorem dX5_tieAnew_11 : decode cX5_tieAnew 11 = .ok (.iload_n 1, 1) := by decide +kernel
theorem dX5_tieAnew_12 : decode cX5_tieAnew 12 = .ok (.aload_n 0, 1) := by decide +kernel
theorem dX5_tieAnew_13 : decode cX5_tieAnew 13 = .ok (.getfield 47, 3) := by decide +kernel
theorem dX5_tieAnew_16 : decode cX5_tieAnew 16 = .ok (.iastore, 1) := by decide +kernel
theorem dX5_tieAnew_17 : decode cX5_tieAnew 17 = .ok (.return_, 1) := by decide +kernel
theorem dX5_holdsOf_0 : decode cX5_holdsOf 0 = .ok (.aload_n 0, 1) := by decide +kernel
theorem dX5_holdsOf_1 : decode cX5_holdsOf 1 = .ok (.getfield 15, 3) := by decide +kernel
theorem dX5_holdsOf_4 : decode cX5_holdsOf 4 = .ok (.iload_n 1, 1) := by decide +kernel
theorem dX5_holdsOf_5 : decode cX5_holdsOf 5 = .ok (.iaload, 1) := by decide +kernel
theorem dX5_holdsOf_6 : decode cX5_holdsOf 6 = .ok (.istore_n 2, 1) := by decide +kernel
theorem dX5_holdsOf_7 : decode cX5_holdsOf 7 = .ok (.aload_n 0, 1) := by decide +kernel
theorem dX5_holdsOf_8 : decode cX5_holdsOf 8 = .ok (.getfield 47, 3) := by decide +kernel
theorem dX5_holdsOf_11 : decode cX5_holdsOf 11 = .ok (.aload_n 0, 1) := by decide +kernel
theorem dX5_holdsOf_12 : decode cX5_holdsOf 12 = .ok (.getfield 21, 3) := by decide +kernel
theorem dX5_holdsOf_15 : decode cX5_holdsOf 15 = .ok (.iload_n 1, 1) := by decide +kernel
theorem dX5_holdsOf_16 : decode cX5_holdsOf 16 = .ok (.iaload, 1) := by decide +kernel
theorem dX5_holdsOf_17 : decode cX5_holdsOf 17 = .ok (.isub, 1) := by decide +kernel
theorem dX5_holdsOf_18 : decode cX5_holdsOf 18 = .ok (.istore_n 3, 1) := by decide +kernel
theorem dX5_holdsOf_19 : decode cX5_holdsOf 19 = .ok (.bipush 20, 2) := by decide +kernel
theorem dX5_holdsOf_21 : decode cX5_holdsOf 21 = .ok (.iload_n 2, 1) := by decide +kernel
theorem dX5_holdsOf_22 : decode cX5_holdsOf 22 = .ok (.iadd, 1) := by decide +kernel
theorem dX5_holdsOf_23 : decode cX5_holdsOf 23 = .ok (.istore 4, 2) := by decide +kernel
theorem dX5_holdsOf_25 : decode cX5_holdsOf 25 = .ok (.iload 4, 2) := by decide +kernel
theorem dX5_holdsOf_27 : decode cX5_holdsOf 27 = .ok (.iconst 2, 1) := by decide +kernel
theorem dX5_holdsOf_28 : decode cX5_holdsOf 28 = .ok (.idiv, 1) := by decide +kernel
theorem dX5_holdsOf_29 : decode cX5_holdsOf 29 = .ok (.iload_n 3, 1) := by decide +kernel
theorem dX5_holdsOf_30 : decode cX5_holdsOf 30 = .ok (.bipush 9, 2) := by decide +kernel
theorem dX5_holdsOf_32 : decode cX5_holdsOf 32 = .ok (.invokestatic 60, 3) := by decide +kernel
theorem dX5_holdsOf_35 : decode cX5_holdsOf 35 = .ok (.isub, 1) := by decide +kernel
theorem dX5_holdsOf_36 : decode cX5_holdsOf 36 = .ok (.istore 5, 2) := by decide +kernel
theorem dX5_holdsOf_38 : decode cX5_holdsOf 38 = .ok (.iconst 2, 1) := by decide +kernel
theorem dX5_holdsOf_39 : decode cX5_holdsOf 39 = .ok (.iload 4, 2) := by decide +kernel
theorem dX5_holdsOf_41 : decode cX5_holdsOf 41 = .ok (.imul, 1) := by decide +kernel
theorem dX5_holdsOf_42 : decode cX5_holdsOf 42 = .ok (.istore 6, 2) := by decide +kernel
theorem dX5_holdsOf_44 : decode cX5_holdsOf 44 = .ok (.aload_n 0, 1) := by decide +kernel
theorem dX5_holdsOf_45 : decode cX5_holdsOf 45 = .ok (.getfield 9, 3) := by decide +kernel
theorem dX5_holdsOf_48 : decode cX5_holdsOf 48 = .ok (.iload_n 1, 1) := by decide +kernel
theorem dX5_holdsOf_49 : decode cX5_holdsOf 49 = .ok (.iaload, 1) := by decide +kernel
theorem dX5_holdsOf_50 : decode cX5_holdsOf 50 = .ok (.tableswitch 113 1 6 #[38, 45, 52, 59, 68, 78], 38) := by decide +kernel
theorem dX5_holdsOf_88 : decode cX5_holdsOf 88 = .ok (.iload 5, 2) := by decide +kernel
theorem dX5_holdsOf_90 : decode cX5_holdsOf 90 = .ok (.istore 7, 2) := by decide +kernel
theorem dX5_holdsOf_92 : decode cX5_holdsOf 92 = .ok (.goto 75, 3) := by decide +kernel
theorem dX5_holdsOf_95 : decode cX5_holdsOf 95 = .ok (.iload 6, 2) := by decide +kernel
theorem dX5_holdsOf_97 : decode cX5_holdsOf 97 = .ok (.istore 7, 2) := by decide +kernel
theorem dX5_holdsOf_99 : decode cX5_holdsOf 99 = .ok (.goto 68, 3) := by decide +kernel
theorem dX5_holdsOf_102 : decode cX5_holdsOf 102 = .ok (.bipush 10, 2) := by decide +kernel
theorem dX5_holdsOf_104 : decode cX5_holdsOf 104 = .ok (.istore 7, 2) := by decide +kernel
theorem dX5_holdsOf_106 : decode cX5_holdsOf 106 = .ok (.goto 61, 3) := by decide +kernel
theorem dX5_holdsOf_109 : decode cX5_holdsOf 109 = .ok (.iload 5, 2) := by decide +kernel
theorem dX5_holdsOf_111 : decode cX5_holdsOf 111 = .ok (.iload_n 2, 1) := by decide +kernel
theorem dX5_holdsOf_112 : decode cX5_holdsOf 112 = .ok (.iadd, 1) := by decide +kernel
theorem dX5_holdsOf_113 : decode cX5_holdsOf 113 = .ok (.istore 7, 2) := by decide +kernel
theorem dX5_holdsOf_115 : decode cX5_holdsOf 115 = .ok (.goto 52, 3) := by decide +kernel
theorem dX5_holdsOf_118 : decode cX5_holdsOf 118 = .ok (.iload 6, 2) := by decide +kernel
theorem dX5_holdsOf_120 : decode cX5_holdsOf 120 = .ok (.bipush 15, 2) := by decide +kernel
theorem dX5_holdsOf_122 : decode cX5_holdsOf 122 = .ok (.isub, 1) := by decide +kernel
theorem dX5_holdsOf_123 : decode cX5_holdsOf 123 = .ok (.istore 7, 2) := by decide +kernel
theorem dX5_holdsOf_125 : decode cX5_holdsOf 125 = .ok (.goto 42, 3) := by decide +kernel
theorem dX5_holdsOf_128 : decode cX5_holdsOf 128 = .ok (.aload_n 0, 1) := by decide +kernel
theorem dX5_holdsOf_129 : decode cX5_holdsOf 129 = .ok (.getfield 36, 3) := by decide +kernel
theorem dX5_holdsOf_132 : decode cX5_holdsOf 132 = .ok (.invokevirtual 66, 3) := by decide +kernel
theorem dX5_holdsOf_135 : decode cX5_holdsOf 135 = .ok (.ifCond .eq 21, 3) := by decide +kernel
theorem dX5_holdsOf_138 : decode cX5_holdsOf 138 = .ok (.aload_n 0, 1) := by decide +kernel
theorem dX5_holdsOf_139 : decode cX5_holdsOf 139 = .ok (.getfield 36, 3) := by decide +kernel
theorem dX5_holdsOf_142 : decode cX5_holdsOf 142 = .ok (.iload_n 2, 1) := by decide +kernel
theorem dX5_holdsOf_143 : decode cX5_holdsOf 143 = .ok (.iload_n 3, 1) := by decide +kernel
theorem dX5_holdsOf_144 : decode cX5_holdsOf 144 = .ok (.aload_n 0, 1) := by decide +kernel
theorem dX5_holdsOf_145 : decode cX5_holdsOf 145 = .ok (.getfield 18, 3) := by decide +kernel
theorem dX5_holdsOf_148 : decode cX5_holdsOf 148 = .ok (.iload_n 1, 1) := by decide +kernel
theorem dX5_holdsOf_149 : decode cX5_holdsOf 149 = .ok (.iaload, 1) := by decide +kernel
theorem dX5_holdsOf_150 : decode cX5_holdsOf 150 = .ok (.invokevirtual 70, 3) := by decide +kernel
theorem dX5_holdsOf_153 : decode cX5_holdsOf 153 = .ok (.goto 5, 3) := by decide +kernel
theorem dX5_holdsOf_156 : decode cX5_holdsOf 156 = .ok (.iload 4, 2) := by decide +kernel
theorem dX5_holdsOf_158 : decode cX5_holdsOf 158 = .ok (.istore 7, 2) := by decide +kernel
theorem dX5_holdsOf_160 : decode cX5_holdsOf 160 = .ok (.goto 7, 3) := by decide +kernel
theorem dX5_holdsOf_163 : decode cX5_holdsOf 163 = .ok (.iload 4, 2) := by decide +kernel
theorem dX5_holdsOf_165 : decode cX5_holdsOf 165 = .ok (.istore 7, 2) := by decide +kernel
theorem dX5_holdsOf_167 : decode cX5_holdsOf 167 = .ok (.iload 7, 2) := by decide +kernel
theorem dX5_holdsOf_169 : decode cX5_holdsOf 169 = .ok (.iconst 0, 1) := by decide +kernel
theorem dX5_holdsOf_170 : decode cX5_holdsOf 170 = .ok (.bipush 99, 2) := by decide +kernel
theorem dX5_holdsOf_172 : decode cX5_holdsOf 172 = .ok (.invokestatic 74, 3) := by decide +kernel
theorem dX5_holdsOf_175 : decode cX5_holdsOf 175 = .ok (.ireturn, 1) := by decide +kernel
theorem dX5_wearsOf_0 : decode cX5_wearsOf 0 = .ok (.aload_n 0, 1) := by decide +kernel
theorem dX5_wearsOf_1 : decode cX5_wearsOf 1 = .ok (.getfield 40, 3) := by decide +kernel
theorem dX5_wearsOf_4 : decode cX5_wearsOf 4 = .ok (.invokevirtual 66, 3) := by decide +kernel
theorem dX5_wearsOf_7 : decode cX5_wearsOf 7 = .ok (.ifCond .ne 5, 3) := by decide +kernel
theorem dX5_wearsOf_10 : decode cX5_wearsOf 10 = .ok (.iconst 1, 1) := by decide +kernel
theorem dX5_wearsOf_11 : decode cX5_wearsOf 11 = .ok (.ireturn, 1) := by decide +kernel
theorem dX5_wearsOf_12 : decode cX5_wearsOf 12 = .ok (.aload_n 0, 1) := by decide +kernel
theorem dX5_wearsOf_13 : decode cX5_wearsOf 13 = .ok (.getfield 40, 3) := by decide +kernel
theorem dX5_wearsOf_16 : decode cX5_wearsOf 16 = .ok (.iload_n 1, 1) := by decide +kernel
theorem dX5_wearsOf_17 : decode cX5_wearsOf 17 = .ok (.aload_n 0, 1) := by decide +kernel
theorem dX5_wearsOf_18 : decode cX5_wearsOf 18 = .ok (.getfield 24, 3) := by decide +kernel
theorem dX5_wearsOf_21 : decode cX5_wearsOf 21 = .ok (.iload_n 1, 1) := by decide +kernel
theorem dX5_wearsOf_22 : decode cX5_wearsOf 22 = .ok (.iaload, 1) := by decide +kernel
theorem dX5_wearsOf_23 : decode cX5_wearsOf 23 = .ok (.aload_n 0, 1) := by decide +kernel
theorem dX5_wearsOf_24 : decode cX5_wearsOf 24 = .ok (.getfield 47, 3) := by decide +kernel
theorem dX5_wearsOf_27 : decode cX5_wearsOf 27 = .ok (.aload_n 0, 1) := by decide +kernel
theorem dX5_wearsOf_28 : decode cX5_wearsOf 28 = .ok (.getfield 27, 3) := by decide +kernel
theorem dX5_wearsOf_31 : decode cX5_wearsOf 31 = .ok (.iload_n 1, 1) := by decide +kernel
theorem dX5_wearsOf_32 : decode cX5_wearsOf 32 = .ok (.iaload, 1) := by decide +kernel
theorem dX5_wearsOf_33 : decode cX5_wearsOf 33 = .ok (.isub, 1) := by decide +kernel
theorem dX5_wearsOf_34 : decode cX5_wearsOf 34 = .ok (.invokevirtual 70, 3) := by decide +kernel
theorem dX5_wearsOf_37 : decode cX5_wearsOf 37 = .ok (.iconst 0, 1) := by decide +kernel
theorem dX5_wearsOf_38 : decode cX5_wearsOf 38 = .ok (.bipush 20, 2) := by decide +kernel
theorem dX5_wearsOf_40 : decode cX5_wearsOf 40 = .ok (.invokestatic 74, 3) := by decide +kernel
theorem dX5_wearsOf_43 : decode cX5_wearsOf 43 = .ok (.ireturn, 1) := by decide +kernel
theorem dX5_strengthOf_0 : decode cX5_strengthOf 0 = .ok (.aload_n 0, 1) := by decide +kernel
theorem dX5_strengthOf_1 : decode cX5_strengthOf 1 = .ok (.iload_n 1, 1) := by decide +kernel
theorem dX5_strengthOf_2 : decode cX5_strengthOf 2 = .ok (.invokestatic 77, 3) := by decide +kernel
theorem dX5_strengthOf_5 : decode cX5_strengthOf 5 = .ok (.invokevirtual 83, 3) := by decide +kernel
theorem dX5_strengthOf_8 : decode cX5_strengthOf 8 = .ok (.aload_n 0, 1) := by decide +kernel
theorem dX5_strengthOf_9 : decode cX5_strengthOf 9 = .ok (.iload_n 1, 1) := by decide +kernel
theorem dX5_strengthOf_10 : decode cX5_strengthOf 10 = .ok (.invokestatic 86, 3) := by decide +kernel
theorem dX5_strengthOf_13 : decode cX5_strengthOf 13 = .ok (.invokevirtual 83, 3) := by decide +kernel
theorem dX5_strengthOf_16 : decode cX5_strengthOf 16 = .ok (.iadd, 1) := by decide +kernel
theorem dX5_strengthOf_17 : decode cX5_strengthOf 17 = .ok (.aload_n 0, 1) := by decide +kernel
theorem dX5_strengthOf_18 : decode cX5_strengthOf 18 = .ok (.getfield 24, 3) := by decide +kernel
theorem dX5_strengthOf_21 : decode cX5_strengthOf 21 = .ok (.iload_n 1, 1) := by decide +kernel
theorem dX5_strengthOf_22 : decode cX5_strengthOf 22 = .ok (.iaload, 1) := by decide +kernel
theorem dX5_strengthOf_23 : decode cX5_strengthOf 23 = .ok (.isub, 1) := by decide +kernel
theorem dX5_strengthOf_24 : decode cX5_strengthOf 24 = .ok (.ireturn, 1) := by decide +kernel
theorem dX5_threadFact_0 : decode cX5_threadFact 0 = .ok (.iload_n 2, 1) := by decide +kernel
theorem dX5_threadFact_1 : decode cX5_threadFact 1 = .ok (.tableswitch 74 0 4 #[35, 49, 56, 63, 69], 35) := by decide +kernel
theorem dX5_threadFact_36 : decode cX5_threadFact 36 = .ok (.aload_n 0, 1) := by decide +kernel
theorem dX5_threadFact_37 : decode cX5_threadFact 37 = .ok (.iload_n 1, 1) := by decide +kernel
theorem dX5_threadFact_38 : decode cX5_threadFact 38 = .ok (.invokevirtual 89, 3) := by decide +kernel
theorem dX5_threadFact_41 : decode cX5_threadFact 41 = .ok (.ifCond .eq 7, 3) := by decide +kernel
theorem dX5_threadFact_44 : decode cX5_threadFact 44 = .ok (.iconst 0, 1) := by decide +kernel
theorem dX5_threadFact_45 : decode cX5_threadFact 45 = .ok (.goto 4, 3) := by decide +kernel
theorem dX5_threadFact_48 : decode cX5_threadFact 48 = .ok (.iconst 1, 1) := by decide +kernel
theorem dX5_threadFact_49 : decode cX5_threadFact 49 = .ok (.ireturn, 1) := by decide +kernel
theorem dX5_threadFact_50 : decode cX5_threadFact 50 = .ok (.aload_n 0, 1) := by decide +kernel
theorem dX5_threadFact_51 : decode cX5_threadFact 51 = .ok (.getfield 24, 3) := by decide +kernel
theorem dX5_threadFact_54 : decode cX5_threadFact 54 = .ok (.iload_n 1, 1) := by decide +kernel
theorem dX5_threadFact_55 : decode cX5_threadFact 55 = .ok (.iaload, 1) := by decide +kernel
theorem dX5_threadFact_56 : decode cX5_threadFact 56 = .ok (.ireturn, 1) := by decide +kernel
theorem dX5_threadFact_57 : decode cX5_threadFact 57 = .ok (.aload_n 0, 1) := by decide +kernel
theorem dX5_threadFact_58 : decode cX5_threadFact 58 = .ok (.getfield 27, 3) := by decide +kernel
theorem dX5_threadFact_61 : decode cX5_threadFact 61 = .ok (.iload_n 1, 1) := by decide +kernel
theorem dX5_threadFact_62 : decode cX5_threadFact 62 = .ok (.iaload, 1) := by decide +kernel
theorem dX5_threadFact_63 : decode cX5_threadFact 63 = .ok (.ireturn, 1) := by decide +kernel
theorem dX5_threadFact_64 : decode cX5_threadFact 64 = .ok (.aload_n 0, 1) := by decide +kernel
theorem dX5_threadFact_65 : decode cX5_threadFact 65 = .ok (.iload_n 1, 1) := by decide +kernel
theorem dX5_threadFact_66 : decode cX5_threadFact 66 = .ok (.invokevirtual 93, 3) := by decide +kernel
theorem dX5_threadFact_69 : decode cX5_threadFact 69 = .ok (.ireturn, 1) := by decide +kernel
theorem dX5_threadFact_70 : decode cX5_threadFact 70 = .ok (.iload_n 1, 1) := by decide +kernel
theorem dX5_threadFact_71 : decode cX5_threadFact 71 = .ok (.invokestatic 77, 3) := by decide +kernel
theorem dX5_threadFact_74 : decode cX5_threadFact 74 = .ok (.ireturn, 1) := by decide +kernel
theorem dX5_threadFact_75 : decode cX5_threadFact 75 = .ok (.iload_n 1, 1) := by decide +kernel
theorem dX5_threadFact_76 : decode cX5_threadFact 76 = .ok (.invokestatic 86, 3) := by decide +kernel
theorem dX5_threadFact_79 : decode cX5_threadFact 79 = .ok (.ireturn, 1) := by decide +kernel
theorem dX5_isMissing_0 : decode cX5_isMissing 0 = .ok (.aload_n 0, 1) := by decide +kernel
theorem dX5_isMissing_1 : decode cX5_isMissing 1 = .ok (.getfield 43, 3) := by decide +kernel
theorem dX5_isMissing_4 : decode cX5_isMissing 4 = .ok (.iload_n 1, 1) := by decide +kernel
theorem dX5_isMissing_5 : decode cX5_isMissing 5 = .ok (.iushr, 1) := by decide +kernel
theorem dX5_isMissing_6 : decode cX5_isMissing 6 = .ok (.iconst 1, 1) := by decide +kernel
theorem dX5_isMissing_7 : decode cX5_isMissing 7 = .ok (.iand, 1) := by decide +kernel
theorem dX5_isMissing_8 : decode cX5_isMissing 8 = .ok (.ifCond .eq 7, 3) := by decide +kernel
theorem dX5_isMissing_11 : decode cX5_isMissing 11 = .ok (.iconst 1, 1) := by decide +kernel
theorem dX5_isMissing_12 : decode cX5_isMissing 12 = .ok (.goto 4, 3) := by decide +kernel
theorem dX5_isMissing_15 : decode cX5_isMissing 15 = .ok (.iconst 0, 1) := by decide +kernel
theorem dX5_isMissing_16 : decode cX5_isMissing 16 = .ok (.ireturn, 1) := by decide +kernel
theorem dX5_missingThreads_0 : decode cX5_missingThreads 0 = .ok (.aload_n 0, 1) := by decide +kernel
theorem dX5_missingThreads_1 : decode cX5_missingThreads 1 = .ok (.getfield 43, 3) := by decide +kernel
theorem dX5_missingThreads_4 : decode cX5_missingThreads 4 = .ok (.invokestatic 96, 3) := by decide +kernel
theorem dX5_missingThreads_7 : decode cX5_missingThreads 7 = .ok (.ireturn, 1) := by decide +kernel
theorem dX5_firstThreads_0 : decode cX5_firstThreads 0 = .ok (.iconst 0, 1) := by decide +kernel
theorem dX5_firstThreads_1 : decode cX5_firstThreads 1 = .ok (.istore_n 1, 1) := by decide +kernel
theorem dX5_firstThreads_2 : decode cX5_firstThreads 2 = .ok (.iconst 0, 1) := by decide +kernel
theorem dX5_firstThreads_3 : decode cX5_firstThreads 3 = .ok (.istore_n 2, 1) := by decide +kernel
theorem dX5_firstThreads_4 : decode cX5_firstThreads 4 = .ok (.iload_n 2, 1) := by decide +kernel
theorem dX5_firstThreads_5 : decode cX5_firstThreads 5 = .ok (.bipush 31, 2) := by decide +kernel
theorem dX5_firstThreads_7 : decode cX5_firstThreads 7 = .ok (.if_icmp .ge 29, 3) := by decide +kernel
theorem dX5_firstThreads_10 : decode cX5_firstThreads 10 = .ok (.aload_n 0, 1) := by decide +kernel
theorem dX5_firstThreads_11 : decode cX5_firstThreads 11 = .ok (.iload_n 2, 1) := by decide +kernel
theorem dX5_firstThreads_12 : decode cX5_firstThreads 12 = .ok (.invokevirtual 89, 3) := by decide +kernel
theorem dX5_firstThreads_15 : decode cX5_firstThreads 15 = .ok (.ifCond .ne 15, 3) := by decide +kernel
theorem dX5_firstThreads_18 : decode cX5_firstThreads 18 = .ok (.aload_n 0, 1) := by decide +kernel
theorem dX5_firstThreads_19 : decode cX5_firstThreads 19 = .ok (.getfield 27, 3) := by decide +kernel
theorem dX5_firstThreads_22 : decode cX5_firstThreads 22 = .ok (.iload_n 2, 1) := by decide +kernel
theorem dX5_firstThreads_23 : decode cX5_firstThreads 23 = .ok (.iaload, 1) := by decide +kernel
theorem dX5_firstThreads_24 : decode cX5_firstThreads 24 = .ok (.ifCond .ne 6, 3) := by decide +kernel
theorem dX5_firstThreads_27 : decode cX5_firstThreads 27 = .ok (.iinc 1 1, 3) := by decide +kernel
theorem dX5_firstThreads_30 : decode cX5_firstThreads 30 = .ok (.iinc 2 1, 3) := by decide +kernel
theorem dX5_firstThreads_33 : decode cX5_firstThreads 33 = .ok (.goto (-29), 3) := by decide +kernel
theorem dX5_firstThreads_36 : decode cX5_firstThreads 36 = .ok (.iload_n 1, 1) := by decide +kernel
theorem dX5_firstThreads_37 : decode cX5_firstThreads 37 = .ok (.ireturn, 1) := by decide +kernel
theorem dX5_wornInAll_0 : decode cX5_wornInAll 0 = .ok (.iconst 0, 1) := by decide +kernel
theorem dX5_wornInAll_1 : decode cX5_wornInAll 1 = .ok (.istore_n 1, 1) := by decide +kernel
theorem dX5_wornInAll_2 : decode cX5_wornInAll 2 = .ok (.iconst 0, 1) := by decide +kernel
theorem dX5_wornInAll_3 : decode cX5_wornInAll 3 = .ok (.istore_n 2, 1) := by decide +kernel
theorem dX5_wornInAll_4 : decode cX5_wornInAll 4 = .ok (.iload_n 2, 1) := by decide +kernel
theorem dX5_wornInAll_5 : decode cX5_wornInAll 5 = .ok (.bipush 31, 2) := by decide +kernel
theorem dX5_wornInAll_7 : decode cX5_wornInAll 7 = .ok (.if_icmp .ge 18, 3) := by decide +kernel
theorem dX5_wornInAll_10 : decode cX5_wornInAll 10 = .ok (.iload_n 1, 1) := by decide +kernel
theorem dX5_wornInAll_11 : decode cX5_wornInAll 11 = .ok (.aload_n 0, 1) := by decide +kernel
theorem dX5_wornInAll_12 : decode cX5_wornInAll 12 = .ok (.getfield 24, 3) := by decide +kernel
theorem dX5_wornInAll_15 : decode cX5_wornInAll 15 = .ok (.iload_n 2, 1) := by decide +kernel
theorem dX5_wornInAll_16 : decode cX5_wornInAll 16 = .ok (.iaload, 1) := by decide +kernel
theorem dX5_wornInAll_17 : decode cX5_wornInAll 17 = .ok (.iadd, 1) := by decide +kernel
theorem dX5_wornInAll_18 : decode cX5_wornInAll 18 = .ok (.istore_n 1, 1) := by decide +kernel
theorem dX5_wornInAll_19 : decode cX5_wornInAll 19 = .ok (.iinc 2 1, 3) := by decide +kernel
theorem dX5_wornInAll_22 : decode cX5_wornInAll 22 = .ok (.goto (-18), 3) := by decide +kernel
theorem dX5_wornInAll_25 : decode cX5_wornInAll 25 = .ok (.iload_n 1, 1) := by decide +kernel
theorem dX5_wornInAll_26 : decode cX5_wornInAll 26 = .ok (.ireturn, 1) := by decide +kernel
theorem dX5_lose_0 : decode cX5_lose 0 = .ok (.aload_n 0, 1) := by decide +kernel
theorem dX5_lose_1 : decode cX5_lose 1 = .ok (.dup, 1) := by decide +kernel
theorem dX5_lose_2 : decode cX5_lose 2 = .ok (.getfield 43, 3) := by decide +kernel
theorem dX5_lose_5 : decode cX5_lose 5 = .ok (.iconst 1, 1) := by decide +kernel
theorem dX5_lose_6 : decode cX5_lose 6 = .ok (.iload_n 1, 1) := by decide +kernel
theorem dX5_lose_7 : decode cX5_lose 7 = .ok (.ishl, 1) := by decide +kernel
theorem dX5_lose_8 : decode cX5_lose 8 = .ok (.ior, 1) := by decide +kernel
theorem dX5_lose_9 : decode cX5_lose 9 = .ok (.putfield 43, 3) := by decide +kernel
theorem dX5_lose_12 : decode cX5_lose 12 = .ok (.aload_n 0, 1) := by decide +kernel
theorem dX5_lose_13 : decode cX5_lose 13 = .ok (.getfield 24, 3) := by decide +kernel
theorem dX5_lose_16 : decode cX5_lose 16 = .ok (.iload_n 1, 1) := by decide +kernel
theorem dX5_lose_17 : decode cX5_lose 17 = .ok (.iconst 0, 1) := by decide +kernel
theorem dX5_lose_18 : decode cX5_lose 18 = .ok (.iastore, 1) := by decide +kernel
theorem dX5_lose_19 : decode cX5_lose 19 = .ok (.return_, 1) := by decide +kernel
theorem dX5_renew_0 : decode cX5_renew 0 = .ok (.aload_n 0, 1) := by decide +kernel
theorem dX5_renew_1 : decode cX5_renew 1 = .ok (.dup, 1) := by decide +kernel
theorem dX5_renew_2 : decode cX5_renew 2 = .ok (.getfield 43, 3) := by decide +kernel
theorem dX5_renew_5 : decode cX5_renew 5 = .ok (.iconst 1, 1) := by decide +kernel
theorem dX5_renew_6 : decode cX5_renew 6 = .ok (.iload_n 1, 1) := by decide +kernel
theorem dX5_renew_7 : decode cX5_renew 7 = .ok (.ishl, 1) := by decide +kernel
theorem dX5_renew_8 : decode cX5_renew 8 = .ok (.iconst (-1), 1) := by decide +kernel
theorem dX5_renew_9 : decode cX5_renew 9 = .ok (.ixor, 1) := by decide +kernel
theorem dX5_renew_10 : decode cX5_renew 10 = .ok (.iand, 1) := by decide +kernel
theorem dX5_renew_11 : decode cX5_renew 11 = .ok (.putfield 43, 3) := by decide +kernel
theorem dX5_renew_14 : decode cX5_renew 14 = .ok (.aload_n 0, 1) := by decide +kernel
theorem dX5_renew_15 : decode cX5_renew 15 = .ok (.getfield 24, 3) := by decide +kernel
theorem dX5_renew_18 : decode cX5_renew 18 = .ok (.iload_n 1, 1) := by decide +kernel
theorem dX5_renew_19 : decode cX5_renew 19 = .ok (.iconst 0, 1) := by decide +kernel
theorem dX5_renew_20 : decode cX5_renew 20 = .ok (.iastore, 1) := by decide +kernel
theorem dX5_renew_21 : decode cX5_renew 21 = .ok (.aload_n 0, 1) := by decide +kernel
theorem dX5_renew_22 : decode cX5_renew 22 = .ok (.getfield 27, 3) := by decide +kernel
theorem dX5_renew_25 : decode cX5_renew 25 = .ok (.iload_n 1, 1) := by decide +kernel
theorem dX5_renew_26 : decode cX5_renew 26 = .ok (.aload_n 0, 1) := by decide +kernel
theorem dX5_renew_27 : decode cX5_renew 27 = .ok (.getfield 47, 3) := by decide +kernel
theorem dX5_renew_30 : decode cX5_renew 30 = .ok (.iastore, 1) := by decide +kernel
theorem dX5_renew_31 : decode cX5_renew 31 = .ok (.return_, 1) := by decide +kernel
theorem dX5_renewAll_0 : decode cX5_renewAll 0 = .ok (.iconst 0, 1) := by decide +kernel
theorem dX5_renewAll_1 : decode cX5_renewAll 1 = .ok (.istore_n 1, 1) := by decide +kernel
theorem dX5_renewAll_2 : decode cX5_renewAll 2 = .ok (.iload_n 1, 1) := by decide +kernel
theorem dX5_renewAll_3 : decode cX5_renewAll 3 = .ok (.bipush 31, 2) := by decide +kernel
theorem dX5_renewAll_5 : decode cX5_renewAll 5 = .ok (.if_icmp .ge 22, 3) := by decide +kernel
theorem dX5_renewAll_8 : decode cX5_renewAll 8 = .ok (.aload_n 0, 1) := by decide +kernel
theorem dX5_renewAll_9 : decode cX5_renewAll 9 = .ok (.iload_n 1, 1) := by decide +kernel
theorem dX5_renewAll_10 : decode cX5_renewAll 10 = .ok (.invokevirtual 89, 3) := by decide +kernel
theorem dX5_renewAll_13 : decode cX5_renewAll 13 = .ok (.ifCond .ne 8, 3) := by decide +kernel
theorem dX5_renewAll_16 : decode cX5_renewAll 16 = .ok (.aload_n 0, 1) := by decide +kernel
theorem dX5_renewAll_17 : decode cX5_renewAll 17 = .ok (.iload_n 1, 1) := by decide +kernel
theorem dX5_renewAll_18 : decode cX5_renewAll 18 = .ok (.invokevirtual 101, 3) := by decide +kernel
theorem dX5_renewAll_21 : decode cX5_renewAll 21 = .ok (.iinc 1 1, 3) := by decide +kernel
theorem dX5_renewAll_24 : decode cX5_renewAll 24 = .ok (.goto (-22), 3) := by decide +kernel
theorem dX5_renewAll_27 : decode cX5_renewAll 27 = .ok (.return_, 1) := by decide +kernel
theorem dX5_passDays_0 : decode cX5_passDays 0 = .ok (.iconst 0, 1) := by decide +kernel
theorem dX5_passDays_1 : decode cX5_passDays 1 = .ok (.istore_n 2, 1) := by decide +kernel
theorem dX5_passDays_2 : decode cX5_passDays 2 = .ok (.iload_n 2, 1) := by decide +kernel
theorem dX5_passDays_3 : decode cX5_passDays 3 = .ok (.iload_n 1, 1) := by decide +kernel
theorem dX5_passDays_4 : decode cX5_passDays 4 = .ok (.if_icmp .ge 13, 3) := by decide +kernel
theorem dX5_passDays_7 : decode cX5_passDays 7 = .ok (.aload_n 0, 1) := by decide +kernel
theorem dX5_passDays_8 : decode cX5_passDays 8 = .ok (.invokevirtual 105, 3) := by decide +kernel
theorem dX5_passDays_11 : decode cX5_passDays 11 = .ok (.iinc 2 1, 3) := by decide +kernel
theorem dX5_passDays_14 : decode cX5_passDays 14 = .ok (.goto (-12), 3) := by decide +kernel
theorem dX5_passDays_17 : decode cX5_passDays 17 = .ok (.return_, 1) := by decide +kernel
theorem dX5_passDay_0 : decode cX5_passDay 0 = .ok (.iconst 0, 1) := by decide +kernel
theorem dX5_passDay_1 : decode cX5_passDay 1 = .ok (.istore_n 1, 1) := by decide +kernel
theorem dX5_passDay_2 : decode cX5_passDay 2 = .ok (.iload_n 1, 1) := by decide +kernel
theorem dX5_passDay_3 : decode cX5_passDay 3 = .ok (.bipush 31, 2) := by decide +kernel
theorem dX5_passDay_5 : decode cX5_passDay 5 = .ok (.if_icmp .ge 40, 3) := by decide +kernel
theorem dX5_passDay_8 : decode cX5_passDay 8 = .ok (.aload_n 0, 1) := by decide +kernel
theorem dX5_passDay_9 : decode cX5_passDay 9 = .ok (.iload_n 1, 1) := by decide +kernel
theorem dX5_passDay_10 : decode cX5_passDay 10 = .ok (.invokevirtual 89, 3) := by decide +kernel
theorem dX5_passDay_13 : decode cX5_passDay 13 = .ok (.ifCond .ne 26, 3) := by decide +kernel
theorem dX5_passDay_16 : decode cX5_passDay 16 = .ok (.aload_n 0, 1) := by decide +kernel
theorem dX5_passDay_17 : decode cX5_passDay 17 = .ok (.getfield 24, 3) := by decide +kernel
theorem dX5_passDay_20 : decode cX5_passDay 20 = .ok (.iload_n 1, 1) := by decide +kernel
theorem dX5_passDay_21 : decode cX5_passDay 21 = .ok (.bipush 99, 2) := by decide +kernel
theorem dX5_passDay_23 : decode cX5_passDay 23 = .ok (.aload_n 0, 1) := by decide +kernel
theorem dX5_passDay_24 : decode cX5_passDay 24 = .ok (.getfield 24, 3) := by decide +kernel
theorem dX5_passDay_27 : decode cX5_passDay 27 = .ok (.iload_n 1, 1) := by decide +kernel
theorem dX5_passDay_28 : decode cX5_passDay 28 = .ok (.iaload, 1) := by decide +kernel
theorem dX5_passDay_29 : decode cX5_passDay 29 = .ok (.aload_n 0, 1) := by decide +kernel
theorem dX5_passDay_30 : decode cX5_passDay 30 = .ok (.iload_n 1, 1) := by decide +kernel
theorem dX5_passDay_31 : decode cX5_passDay 31 = .ok (.invokevirtual 108, 3) := by decide +kernel
theorem dX5_passDay_34 : decode cX5_passDay 34 = .ok (.iadd, 1) := by decide +kernel
theorem dX5_passDay_35 : decode cX5_passDay 35 = .ok (.invokestatic 60, 3) := by decide +kernel
theorem dX5_passDay_38 : decode cX5_passDay 38 = .ok (.iastore, 1) := by decide +kernel
theorem dX5_passDay_39 : decode cX5_passDay 39 = .ok (.iinc 1 1, 3) := by decide +kernel
theorem dX5_passDay_42 : decode cX5_passDay 42 = .ok (.goto (-40), 3) := by decide +kernel
theorem dX5_passDay_45 : decode cX5_passDay 45 = .ok (.iconst 0, 1) := by decide +kernel
theorem dX5_passDay_46 : decode cX5_passDay 46 = .ok (.istore_n 1, 1) := by decide +kernel
theorem dX5_passDay_47 : decode cX5_passDay 47 = .ok (.iload_n 1, 1) := by decide +kernel
theorem dX5_passDay_48 : decode cX5_passDay 48 = .ok (.bipush 20, 2) := by decide +kernel
theorem dX5_passDay_50 : decode cX5_passDay 50 = .ok (.if_icmp .ge 20, 3) := by decide +kernel
theorem dX5_passDay_53 : decode cX5_passDay 53 = .ok (.aload_n 0, 1) := by decide +kernel
theorem dX5_passDay_54 : decode cX5_passDay 54 = .ok (.getfield 30, 3) := by decide +kernel
theorem dX5_passDay_57 : decode cX5_passDay 57 = .ok (.iload_n 1, 1) := by decide +kernel
theorem dX5_passDay_58 : decode cX5_passDay 58 = .ok (.aload_n 0, 1) := by decide +kernel
theorem dX5_passDay_59 : decode cX5_passDay 59 = .ok (.iload_n 1, 1) := by decide +kernel
theorem dX5_passDay_60 : decode cX5_passDay 60 = .ok (.invokevirtual 83, 3) := by decide +kernel
theorem dX5_passDay_63 : decode cX5_passDay 63 = .ok (.iastore, 1) := by decide +kernel
theorem dX5_passDay_64 : decode cX5_passDay 64 = .ok (.iinc 1 1, 3) := by decide +kernel
theorem dX5_passDay_67 : decode cX5_passDay 67 = .ok (.goto (-20), 3) := by decide +kernel
theorem dX5_passDay_70 : decode cX5_passDay 70 = .ok (.iconst 0, 1) := by decide +kernel
theorem dX5_passDay_71 : decode cX5_passDay 71 = .ok (.istore_n 1, 1) := by decide +kernel
theorem dX5_passDay_72 : decode cX5_passDay 72 = .ok (.iload_n 1, 1) := by decide +kernel
theorem dX5_passDay_73 : decode cX5_passDay 73 = .ok (.bipush 31, 2) := by decide +kernel
theorem dX5_passDay_75 : decode cX5_passDay 75 = .ok (.if_icmp .ge 52, 3) := by decide +kernel
theorem dX5_passDay_78 : decode cX5_passDay 78 = .ok (.aload_n 0, 1) := by decide +kernel
theorem dX5_passDay_79 : decode cX5_passDay 79 = .ok (.getfield 30, 3) := by decide +kernel
theorem dX5_passDay_82 : decode cX5_passDay 82 = .ok (.iload_n 1, 1) := by decide +kernel
theorem dX5_passDay_83 : decode cX5_passDay 83 = .ok (.invokestatic 77, 3) := by decide +kernel
theorem dX5_passDay_86 : decode cX5_passDay 86 = .ok (.iaload, 1) := by decide +kernel
theorem dX5_passDay_87 : decode cX5_passDay 87 = .ok (.aload_n 0, 1) := by decide +kernel
theorem dX5_passDay_88 : decode cX5_passDay 88 = .ok (.getfield 30, 3) := by decide +kernel
theorem dX5_passDay_91 : decode cX5_passDay 91 = .ok (.iload_n 1, 1) := by decide +kernel
theorem dX5_passDay_92 : decode cX5_passDay 92 = .ok (.invokestatic 86, 3) := by decide +kernel
theorem dX5_passDay_95 : decode cX5_passDay 95 = .ok (.iaload, 1) := by decide +kernel
theorem dX5_passDay_96 : decode cX5_passDay 96 = .ok (.iadd, 1) := by decide +kernel
theorem dX5_passDay_97 : decode cX5_passDay 97 = .ok (.istore_n 2, 1) := by decide +kernel
theorem dX5_passDay_98 : decode cX5_passDay 98 = .ok (.aload_n 0, 1) := by decide +kernel
theorem dX5_passDay_99 : decode cX5_passDay 99 = .ok (.iload_n 1, 1) := by decide +kernel
theorem dX5_passDay_100 : decode cX5_passDay 100 = .ok (.invokevirtual 89, 3) := by decide +kernel
theorem dX5_passDay_103 : decode cX5_passDay 103 = .ok (.ifCond .ne 18, 3) := by decide +kernel
theorem dX5_passDay_106 : decode cX5_passDay 106 = .ok (.iload_n 2, 1) := by decide +kernel
theorem dX5_passDay_107 : decode cX5_passDay 107 = .ok (.aload_n 0, 1) := by decide +kernel
theorem dX5_passDay_108 : decode cX5_passDay 108 = .ok (.getfield 24, 3) := by decide +kernel
theorem dX5_passDay_111 : decode cX5_passDay 111 = .ok (.iload_n 1, 1) := by decide +kernel
theorem dX5_passDay_112 : decode cX5_passDay 112 = .ok (.iaload, 1) := by decide +kernel
theorem dX5_passDay_113 : decode cX5_passDay 113 = .ok (.if_icmp .gt 8, 3) := by decide +kernel
theorem dX5_passDay_116 : decode cX5_passDay 116 = .ok (.aload_n 0, 1) := by decide +kernel
theorem dX5_passDay_117 : decode cX5_passDay 117 = .ok (.iload_n 1, 1) := by decide +kernel
theorem dX5_passDay_118 : decode cX5_passDay 118 = .ok (.invokevirtual 111, 3) := by decide +kernel
theorem dX5_passDay_121 : decode cX5_passDay 121 = .ok (.iinc 1 1, 3) := by decide +kernel
theorem dX5_passDay_124 : decode cX5_passDay 124 = .ok (.goto (-52), 3) := by decide +kernel
theorem dX5_passDay_127 : decode cX5_passDay 127 = .ok (.aload_n 0, 1) := by decide +kernel
theorem dX5_passDay_128 : decode cX5_passDay 128 = .ok (.dup, 1) := by decide +kernel
theorem dX5_passDay_129 : decode cX5_passDay 129 = .ok (.getfield 47, 3) := by decide +kernel
theorem dX5_passDay_132 : decode cX5_passDay 132 = .ok (.iconst 1, 1) := by decide +kernel
theorem dX5_passDay_133 : decode cX5_passDay 133 = .ok (.iadd, 1) := by decide +kernel
theorem dX5_passDay_134 : decode cX5_passDay 134 = .ok (.putfield 47, 3) := by decide +kernel
theorem dX5_passDay_137 : decode cX5_passDay 137 = .ok (.return_, 1) := by decide +kernel
theorem dX5_runStops_0 : decode cX5_runStops 0 = .ok (.aload_n 0, 1) := by decide +kernel
theorem dX5_runStops_1 : decode cX5_runStops 1 = .ok (.getfield 43, 3) := by decide +kernel
theorem dX5_runStops_4 : decode cX5_runStops 4 = .ok (.istore_n 2, 1) := by decide +kernel
theorem dX5_runStops_5 : decode cX5_runStops 5 = .ok (.iconst 0, 1) := by decide +kernel
theorem dX5_runStops_6 : decode cX5_runStops 6 = .ok (.istore_n 3, 1) := by decide +kernel
theorem dX5_runStops_7 : decode cX5_runStops 7 = .ok (.iload_n 3, 1) := by decide +kernel
theorem dX5_runStops_8 : decode cX5_runStops 8 = .ok (.aload_n 1, 1) := by decide +kernel
theorem dX5_runStops_9 : decode cX5_runStops 9 = .ok (.getfield 114, 3) := by decide +kernel
theorem dX5_runStops_12 : decode cX5_runStops 12 = .ok (.if_icmp .ge 73, 3) := by decide +kernel
theorem dX5_runStops_15 : decode cX5_runStops 15 = .ok (.aload_n 1, 1) := by decide +kernel
theorem dX5_runStops_16 : decode cX5_runStops 16 = .ok (.getfield 119, 3) := by decide +kernel
theorem dX5_runStops_19 : decode cX5_runStops 19 = .ok (.iload_n 3, 1) := by decide +kernel
theorem dX5_runStops_20 : decode cX5_runStops 20 = .ok (.iaload, 1) := by decide +kernel
theorem dX5_runStops_21 : decode cX5_runStops 21 = .ok (.bipush 20, 2) := by decide +kernel
theorem dX5_runStops_23 : decode cX5_runStops 23 = .ok (.invokestatic 120, 3) := by decide +kernel
theorem dX5_runStops_26 : decode cX5_runStops 26 = .ok (.ifCond .ne 5, 3) := by decide +kernel
theorem dX5_runStops_29 : decode cX5_runStops 29 = .ok (.iload_n 3, 1) := by decide +kernel
theorem dX5_runStops_30 : decode cX5_runStops 30 = .ok (.ireturn, 1) := by decide +kernel
theorem dX5_runStops_31 : decode cX5_runStops 31 = .ok (.iload_n 3, 1) := by decide +kernel
theorem dX5_runStops_32 : decode cX5_runStops 32 = .ok (.ifCond .le 47, 3) := by decide +kernel
theorem dX5_runStops_35 : decode cX5_runStops 35 = .ok (.aload_n 1, 1) := by decide +kernel
theorem dX5_runStops_36 : decode cX5_runStops 36 = .ok (.getfield 119, 3) := by decide +kernel
theorem dX5_runStops_39 : decode cX5_runStops 39 = .ok (.iload_n 3, 1) := by decide +kernel
theorem dX5_runStops_40 : decode cX5_runStops 40 = .ok (.iconst 1, 1) := by decide +kernel
theorem dX5_runStops_41 : decode cX5_runStops 41 = .ok (.isub, 1) := by decide +kernel
theorem dX5_runStops_42 : decode cX5_runStops 42 = .ok (.iaload, 1) := by decide +kernel
theorem dX5_runStops_43 : decode cX5_runStops 43 = .ok (.aload_n 1, 1) := by decide +kernel
theorem dX5_runStops_44 : decode cX5_runStops 44 = .ok (.getfield 119, 3) := by decide +kernel
theorem dX5_runStops_47 : decode cX5_runStops 47 = .ok (.iload_n 3, 1) := by decide +kernel
theorem dX5_runStops_48 : decode cX5_runStops 48 = .ok (.iaload, 1) := by decide +kernel
theorem dX5_runStops_49 : decode cX5_runStops 49 = .ok (.invokestatic 124, 3) := by decide +kernel
theorem dX5_runStops_52 : decode cX5_runStops 52 = .ok (.istore 4, 2) := by decide +kernel
theorem dX5_runStops_54 : decode cX5_runStops 54 = .ok (.iload 4, 2) := by decide +kernel
theorem dX5_runStops_56 : decode cX5_runStops 56 = .ok (.ifCond .lt 12, 3) := by decide +kernel
theorem dX5_runStops_59 : decode cX5_runStops 59 = .ok (.iload_n 2, 1) := by decide +kernel
theorem dX5_runStops_60 : decode cX5_runStops 60 = .ok (.iload 4, 2) := by decide +kernel
theorem dX5_runStops_62 : decode cX5_runStops 62 = .ok (.iushr, 1) := by decide +kernel
theorem dX5_runStops_63 : decode cX5_runStops 63 = .ok (.iconst 1, 1) := by decide +kernel
theorem dX5_runStops_64 : decode cX5_runStops 64 = .ok (.iand, 1) := by decide +kernel
theorem dX5_runStops_65 : decode cX5_runStops 65 = .ok (.ifCond .ne 5, 3) := by decide +kernel
theorem dX5_runStops_68 : decode cX5_runStops 68 = .ok (.iload_n 3, 1) := by decide +kernel
theorem dX5_runStops_69 : decode cX5_runStops 69 = .ok (.ireturn, 1) := by decide +kernel
theorem dX5_runStops_70 : decode cX5_runStops 70 = .ok (.iload_n 2, 1) := by decide +kernel
theorem dX5_runStops_71 : decode cX5_runStops 71 = .ok (.iconst 1, 1) := by decide +kernel
theorem dX5_runStops_72 : decode cX5_runStops 72 = .ok (.iload 4, 2) := by decide +kernel
theorem dX5_runStops_74 : decode cX5_runStops 74 = .ok (.ishl, 1) := by decide +kernel
theorem dX5_runStops_75 : decode cX5_runStops 75 = .ok (.iconst (-1), 1) := by decide +kernel
theorem dX5_runStops_76 : decode cX5_runStops 76 = .ok (.ixor, 1) := by decide +kernel
theorem dX5_runStops_77 : decode cX5_runStops 77 = .ok (.iand, 1) := by decide +kernel
theorem dX5_runStops_78 : decode cX5_runStops 78 = .ok (.istore_n 2, 1) := by decide +kernel
theorem dX5_runStops_79 : decode cX5_runStops 79 = .ok (.iinc 3 1, 3) := by decide +kernel
theorem dX5_runStops_82 : decode cX5_runStops 82 = .ok (.goto (-75), 3) := by decide +kernel
theorem dX5_runStops_85 : decode cX5_runStops 85 = .ok (.aload_n 1, 1) := by decide +kernel
theorem dX5_runStops_86 : decode cX5_runStops 86 = .ok (.getfield 114, 3) := by decide +kernel
theorem dX5_runStops_89 : decode cX5_runStops 89 = .ok (.ireturn, 1) := by decide +kernel
theorem dX5_ellsOfRun_0 : decode cX5_ellsOfRun 0 = .ok (.iconst 0, 1) := by decide +kernel
theorem dX5_ellsOfRun_1 : decode cX5_ellsOfRun 1 = .ok (.istore_n 2, 1) := by decide +kernel
theorem dX5_ellsOfRun_2 : decode cX5_ellsOfRun 2 = .ok (.iconst 1, 1) := by decide +kernel
theorem dX5_ellsOfRun_3 : decode cX5_ellsOfRun 3 = .ok (.istore_n 3, 1) := by decide +kernel
theorem dX5_ellsOfRun_4 : decode cX5_ellsOfRun 4 = .ok (.iload_n 3, 1) := by decide +kernel
theorem dX5_ellsOfRun_5 : decode cX5_ellsOfRun 5 = .ok (.aload_n 1, 1) := by decide +kernel
theorem dX5_ellsOfRun_6 : decode cX5_ellsOfRun 6 = .ok (.getfield 114, 3) := by decide +kernel
theorem dX5_ellsOfRun_9 : decode cX5_ellsOfRun 9 = .ok (.if_icmp .ge 46, 3) := by decide +kernel
theorem dX5_ellsOfRun_12 : decode cX5_ellsOfRun 12 = .ok (.aload_n 1, 1) := by decide +kernel
theorem dX5_ellsOfRun_13 : decode cX5_ellsOfRun 13 = .ok (.getfield 119, 3) := by decide +kernel
theorem dX5_ellsOfRun_16 : decode cX5_ellsOfRun 16 = .ok (.iload_n 3, 1) := by decide +kernel
theorem dX5_ellsOfRun_17 : decode cX5_ellsOfRun 17 = .ok (.iaload, 1) := by decide +kernel
theorem dX5_ellsOfRun_18 : decode cX5_ellsOfRun 18 = .ok (.istore 4, 2) := by decide +kernel
theorem dX5_ellsOfRun_20 : decode cX5_ellsOfRun 20 = .ok (.iload_n 2, 1) := by decide +kernel
theorem dX5_ellsOfRun_21 : decode cX5_ellsOfRun 21 = .ok (.iload 4, 2) := by decide +kernel
theorem dX5_ellsOfRun_23 : decode cX5_ellsOfRun 23 = .ok (.bipush 20, 2) := by decide +kernel
theorem dX5_ellsOfRun_25 : decode cX5_ellsOfRun 25 = .ok (.invokestatic 120, 3) := by decide +kernel
theorem dX5_ellsOfRun_28 : decode cX5_ellsOfRun 28 = .ok (.ifCond .eq 18, 3) := by decide +kernel
theorem dX5_ellsOfRun_31 : decode cX5_ellsOfRun 31 = .ok (.iconst 2, 1) := by decide +kernel
theorem dX5_ellsOfRun_32 : decode cX5_ellsOfRun 32 = .ok (.aload_n 0, 1) := by decide +kernel
theorem dX5_ellsOfRun_33 : decode cX5_ellsOfRun 33 = .ok (.getfield 9, 3) := by decide +kernel
theorem dX5_ellsOfRun_36 : decode cX5_ellsOfRun 36 = .ok (.iload 4, 2) := by decide +kernel
theorem dX5_ellsOfRun_38 : decode cX5_ellsOfRun 38 = .ok (.iaload, 1) := by decide +kernel
theorem dX5_ellsOfRun_39 : decode cX5_ellsOfRun 39 = .ok (.invokestatic 127, 3) := by decide +kernel
theorem dX5_ellsOfRun_42 : decode cX5_ellsOfRun 42 = .ok (.iadd, 1) := by decide +kernel
theorem dX5_ellsOfRun_43 : decode cX5_ellsOfRun 43 = .ok (.goto 4, 3) := by decide +kernel
theorem dX5_ellsOfRun_46 : decode cX5_ellsOfRun 46 = .ok (.iconst 0, 1) := by decide +kernel
theorem dX5_ellsOfRun_47 : decode cX5_ellsOfRun 47 = .ok (.iadd, 1) := by decide +kernel
theorem dX5_ellsOfRun_48 : decode cX5_ellsOfRun 48 = .ok (.istore_n 2, 1) := by decide +kernel
theorem dX5_ellsOfRun_49 : decode cX5_ellsOfRun 49 = .ok (.iinc 3 1, 3) := by decide +kernel
theorem dX5_ellsOfRun_52 : decode cX5_ellsOfRun 52 = .ok (.goto (-48), 3) := by decide +kernel
theorem dX5_ellsOfRun_55 : decode cX5_ellsOfRun 55 = .ok (.iload_n 2, 1) := by decide +kernel
theorem dX5_ellsOfRun_56 : decode cX5_ellsOfRun 56 = .ok (.ireturn, 1) := by decide +kernel
theorem dX5_mendRun_0 : decode cX5_mendRun 0 = .ok (.iconst 1, 1) := by decide +kernel
theorem dX5_mendRun_1 : decode cX5_mendRun 1 = .ok (.istore_n 3, 1) := by decide +kernel
theorem dX5_mendRun_2 : decode cX5_mendRun 2 = .ok (.iload_n 3, 1) := by decide +kernel
theorem dX5_mendRun_3 : decode cX5_mendRun 3 = .ok (.aload_n 1, 1) := by decide +kernel
theorem dX5_mendRun_4 : decode cX5_mendRun 4 = .ok (.getfield 114, 3) := by decide +kernel
theorem dX5_mendRun_7 : decode cX5_mendRun 7 = .ok (.if_icmp .ge 50, 3) := by decide +kernel
theorem dX5_mendRun_10 : decode cX5_mendRun 10 = .ok (.aload_n 1, 1) := by decide +kernel
theorem dX5_mendRun_11 : decode cX5_mendRun 11 = .ok (.getfield 119, 3) := by decide +kernel
theorem dX5_mendRun_14 : decode cX5_mendRun 14 = .ok (.iload_n 3, 1) := by decide +kernel
theorem dX5_mendRun_15 : decode cX5_mendRun 15 = .ok (.iconst 1, 1) := by decide +kernel
theorem dX5_mendRun_16 : decode cX5_mendRun 16 = .ok (.isub, 1) := by decide +kernel
theorem dX5_mendRun_17 : decode cX5_mendRun 17 = .ok (.iaload, 1) := by decide +kernel
theorem dX5_mendRun_18 : decode cX5_mendRun 18 = .ok (.aload_n 1, 1) := by decide +kernel
theorem dX5_mendRun_19 : decode cX5_mendRun 19 = .ok (.getfield 119, 3) := by decide +kernel
theorem dX5_mendRun_22 : decode cX5_mendRun 22 = .ok (.iload_n 3, 1) := by decide +kernel
theorem dX5_mendRun_23 : decode cX5_mendRun 23 = .ok (.iaload, 1) := by decide +kernel
theorem dX5_mendRun_24 : decode cX5_mendRun 24 = .ok (.invokestatic 124, 3) := by decide +kernel
theorem dX5_mendRun_27 : decode cX5_mendRun 27 = .ok (.istore 4, 2) := by decide +kernel
theorem dX5_mendRun_29 : decode cX5_mendRun 29 = .ok (.iload 4, 2) := by decide +kernel
theorem dX5_mendRun_31 : decode cX5_mendRun 31 = .ok (.ifCond .lt 20, 3) := by decide +kernel
theorem dX5_mendRun_34 : decode cX5_mendRun 34 = .ok (.aload_n 0, 1) := by decide +kernel
theorem dX5_mendRun_35 : decode cX5_mendRun 35 = .ok (.iload 4, 2) := by decide +kernel
theorem dX5_mendRun_37 : decode cX5_mendRun 37 = .ok (.invokevirtual 101, 3) := by decide +kernel
theorem dX5_mendRun_40 : decode cX5_mendRun 40 = .ok (.aload_n 0, 1) := by decide +kernel
theorem dX5_mendRun_41 : decode cX5_mendRun 41 = .ok (.aload_n 1, 1) := by decide +kernel
theorem dX5_mendRun_42 : decode cX5_mendRun 42 = .ok (.getfield 119, 3) := by decide +kernel
theorem dX5_mendRun_45 : decode cX5_mendRun 45 = .ok (.iload_n 3, 1) := by decide +kernel
theorem dX5_mendRun_46 : decode cX5_mendRun 46 = .ok (.iaload, 1) := by decide +kernel
theorem dX5_mendRun_47 : decode cX5_mendRun 47 = .ok (.iload_n 2, 1) := by decide +kernel
theorem dX5_mendRun_48 : decode cX5_mendRun 48 = .ok (.invokevirtual 132, 3) := by decide +kernel
theorem dX5_mendRun_51 : decode cX5_mendRun 51 = .ok (.iinc 3 1, 3) := by decide +kernel
theorem dX5_mendRun_54 : decode cX5_mendRun 54 = .ok (.goto (-52), 3) := by decide +kernel
theorem dX5_mendRun_57 : decode cX5_mendRun 57 = .ok (.return_, 1) := by decide +kernel
theorem dX6_init_0 : decode cX6_init 0 = .ok (.aload_n 0, 1) := by decide +kernel
theorem dX6_init_1 : decode cX6_init 1 = .ok (.invokespecial 3, 3) := by decide +kernel
theorem dX6_init_4 : decode cX6_init 4 = .ok (.aload_n 0, 1) := by decide +kernel
theorem dX6_init_5 : decode cX6_init 5 = .ok (.new 9, 3) := by decide +kernel
theorem dX6_init_8 : decode cX6_init 8 = .ok (.dup, 1) := by decide +kernel
theorem dX6_init_9 : decode cX6_init 9 = .ok (.invokespecial 11, 3) := by decide +kernel
theorem dX6_init_12 : decode cX6_init 12 = .ok (.putfield 12, 3) := by decide +kernel
theorem dX6_init_15 : decode cX6_init 15 = .ok (.aload_n 0, 1) := by decide +kernel
theorem dX6_init_16 : decode cX6_init 16 = .ok (.iconst 3, 1) := by decide +kernel
theorem dX6_init_17 : decode cX6_init 17 = .ok (.newarray .int, 2) := by decide +kernel
theorem dX6_init_19 : decode cX6_init 19 = .ok (.putfield 18, 3) := by decide +kernel
theorem dX6_init_22 : decode cX6_init 22 = .ok (.aload_n 0, 1) := by decide +kernel
theorem dX6_init_23 : decode cX6_init 23 = .ok (.bipush 60, 2) := by decide +kernel
theorem dX6_init_25 : decode cX6_init 25 = .ok (.newarray .int, 2) := by decide +kernel
theorem dX6_init_27 : decode cX6_init 27 = .ok (.putfield 22, 3) := by decide +kernel
theorem dX6_init_30 : decode cX6_init 30 = .ok (.aload_n 0, 1) := by decide +kernel
theorem dX6_init_31 : decode cX6_init 31 = .ok (.bipush 24, 2) := by decide +kernel
theorem dX6_init_33 : decode cX6_init 33 = .ok (.newarray .int, 2) := by decide +kernel
theorem dX6_init_35 : decode cX6_init 35 = .ok (.putfield 25, 3) := by decide +kernel
theorem dX6_init_38 : decode cX6_init 38 = .ok (.aload_n 0, 1) := by decide +kernel
theorem dX6_init_39 : decode cX6_init 39 = .ok (.iconst 0, 1) := by decide +kernel
theorem dX6_init_40 : decode cX6_init 40 = .ok (.putfield 28, 3) := by decide +kernel
theorem dX6_init_43 : decode cX6_init 43 = .ok (.aload_n 0, 1) := by decide +kernel
theorem dX6_init_44 : decode cX6_init 44 = .ok (.iconst 0, 1) := by decide +kernel
theorem dX6_init_45 : decode cX6_init 45 = .ok (.putfield 32, 3) := by decide +kernel
theorem dX6_init_48 : decode cX6_init 48 = .ok (.aload_n 0, 1) := by decide +kernel
theorem dX6_init_49 : decode cX6_init 49 = .ok (.bipush 100, 2) := by decide +kernel
theorem dX6_init_51 : decode cX6_init 51 = .ok (.putfield 35, 3) := by decide +kernel
theorem dX6_init_54 : decode cX6_init 54 = .ok (.aload_n 0, 1) := by decide +kernel
theorem dX6_init_55 : decode cX6_init 55 = .ok (.iconst 1, 1) := by decide +kernel
theorem dX6_init_56 : decode cX6_init 56 = .ok (.putfield 38, 3) := by decide +kernel
theorem dX6_init_59 : decode cX6_init 59 = .ok (.iconst 0, 1) := by decide +kernel
theorem dX6_init_60 : decode cX6_init 60 = .ok (.istore_n 1, 1) := by decide +kernel
theorem dX6_init_61 : decode cX6_init 61 = .ok (.iload_n 1, 1) := by decide +kernel
theorem dX6_init_62 : decode cX6_init 62 = .ok (.iconst 3, 1) := by decide +kernel
theorem dX6_init_63 : decode cX6_init 63 = .ok (.if_icmp .ge 16, 3) := by decide +kernel
theorem dX6_init_66 : decode cX6_init 66 = .ok (.aload_n 0, 1) := by decide +kernel
theorem dX6_init_67 : decode cX6_init 67 = .ok (.getfield 18, 3) := by decide +kernel
theorem dX6_init_70 : decode cX6_init 70 = .ok (.iload_n 1, 1) := by decide +kernel
theorem dX6_init_71 : decode cX6_init 71 = .ok (.iconst 5, 1) := by decide +kernel
theorem dX6_init_72 : decode cX6_init 72 = .ok (.iastore, 1) := by decide +kernel
theorem dX6_init_73 : decode cX6_init 73 = .ok (.iinc 1 1, 3) := by decide +kernel
theorem dX6_init_76 : decode cX6_init 76 = .ok (.goto (-15), 3) := by decide +kernel
theorem dX6_init_79 : decode cX6_init 79 = .ok (.return_, 1) := by decide +kernel
theorem dX6_become_0 : decode cX6_become 0 = .ok (.aload_n 0, 1) := by decide +kernel
theorem dX6_become_1 : decode cX6_become 1 = .ok (.getfield 12, 3) := by decide +kernel
theorem dX6_become_4 : decode cX6_become 4 = .ok (.aload_n 1, 1) := by decide +kernel
theorem dX6_become_5 : decode cX6_become 5 = .ok (.getfield 12, 3) := by decide +kernel
theorem dX6_become_8 : decode cX6_become 8 = .ok (.invokevirtual 41, 3) := by decide +kernel
theorem dX6_become_11 : decode cX6_become 11 = .ok (.aload_n 1, 1) := by decide +kernel
theorem dX6_become_12 : decode cX6_become 12 = .ok (.getfield 18, 3) := by decide +kernel
theorem dX6_become_15 : decode cX6_become 15 = .ok (.iconst 0, 1) := by decide +kernel
theorem dX6_become_16 : decode cX6_become 16 = .ok (.aload_n 0, 1) := by decide +kernel
theorem dX6_become_17 : decode cX6_become 17 = .ok (.getfield 18, 3) := by decide +kernel
theorem dX6_become_20 : decode cX6_become 20 = .ok (.iconst 0, 1) := by decide +kernel
theorem dX6_become_21 : decode cX6_become 21 = .ok (.iconst 3, 1) := by decide +kernel
theorem dX6_become_22 : decode cX6_become 22 = .ok (.invokestatic 45, 3) := by decide +kernel
theorem dX6_become_25 : decode cX6_become 25 = .ok (.aload_n 1, 1) := by decide +kernel
theorem dX6_become_26 : decode cX6_become 26 = .ok (.getfield 22, 3) := by decide +kernel
theorem dX6_become_29 : decode cX6_become 29 = .ok (.iconst 0, 1) := by decide +kernel
theorem dX6_become_30 : decode cX6_become 30 = .ok (.aload_n 0, 1) := by decide +kernel
theorem dX6_become_31 : decode cX6_become 31 = .ok (.getfield 22, 3) := by decide +kernel
theorem dX6_become_34 : decode cX6_become 34 = .ok (.iconst 0, 1) := by decide +kernel
theorem dX6_become_35 : decode cX6_become 35 = .ok (.bipush 60, 2) := by decide +kernel
theorem dX6_become_37 : decode cX6_become 37 = .ok (.invokestatic 45, 3) := by decide +kernel
theorem dX6_become_40 : decode cX6_become 40 = .ok (.aload_n 1, 1) := by decide +kernel
theorem dX6_become_41 : decode cX6_become 41 = .ok (.getfield 25, 3) := by decide +kernel
theorem dX6_become_44 : decode cX6_become 44 = .ok (.iconst 0, 1) := by decide +kernel
theorem dX6_become_45 : decode cX6_become 45 = .ok (.aload_n 0, 1) := by decide +kernel
theorem dX6_become_46 : decode cX6_become 46 = .ok (.getfield 25, 3) := by decide +kernel
theorem dX6_become_49 : decode cX6_become 49 = .ok (.iconst 0, 1) := by decide +kernel
theorem dX6_become_50 : decode cX6_become 50 = .ok (.bipush 24, 2) := by decide +kernel
theorem dX6_become_52 : decode cX6_become 52 = .ok (.invokestatic 45, 3) := by decide +kernel
theorem dX6_become_55 : decode cX6_become 55 = .ok (.aload_n 0, 1) := by decide +kernel
theorem dX6_become_56 : decode cX6_become 56 = .ok (.aload_n 1, 1) := by decide +kernel
theorem dX6_become_57 : decode cX6_become 57 = .ok (.getfield 28, 3) := by decide +kernel
theorem dX6_become_60 : decode cX6_become 60 = .ok (.putfield 28, 3) := by decide +kernel
theorem dX6_become_63 : decode cX6_become 63 = .ok (.aload_n 0, 1) := by decide +kernel
theorem dX6_become_64 : decode cX6_become 64 = .ok (.aload_n 1, 1) := by decide +kernel
theorem dX6_become_65 : decode cX6_become 65 = .ok (.getfield 32, 3) := by decide +kernel
theorem dX6_become_68 : decode cX6_become 68 = .ok (.putfield 32, 3) := by decide +kernel
theorem dX6_become_71 : decode cX6_become 71 = .ok (.aload_n 0, 1) := by decide +kernel
theorem dX6_become_72 : decode cX6_become 72 = .ok (.aload_n 1, 1) := by decide +kernel
theorem dX6_become_73 : decode cX6_become 73 = .ok (.getfield 35, 3) := by decide +kernel
theorem dX6_become_76 : decode cX6_become 76 = .ok (.putfield 35, 3) := by decide +kernel
theorem dX6_become_79 : decode cX6_become 79 = .ok (.aload_n 0, 1) := by decide +kernel
theorem dX6_become_80 : decode cX6_become 80 = .ok (.aload_n 1, 1) := by decide +kernel
theorem dX6_become_81 : decode cX6_become 81 = .ok (.getfield 38, 3) := by decide +kernel
theorem dX6_become_84 : decode cX6_become 84 = .ok (.putfield 38, 3) := by decide +kernel
theorem dX6_become_87 : decode cX6_become 87 = .ok (.return_, 1) := by decide +kernel
theorem dX6_nextDraw_0 : decode cX6_nextDraw 0 = .ok (.aload_n 0, 1) := by decide +kernel
theorem dX6_nextDraw_1 : decode cX6_nextDraw 1 = .ok (.aload_n 0, 1) := by decide +kernel
theorem dX6_nextDraw_2 : decode cX6_nextDraw 2 = .ok (.getfield 38, 3) := by decide +kernel
theorem dX6_nextDraw_5 : decode cX6_nextDraw 5 = .ok (.ldc 51, 2) := by decide +kernel
theorem dX6_nextDraw_7 : decode cX6_nextDraw 7 = .ok (.imul, 1) := by decide +kernel
theorem dX6_nextDraw_8 : decode cX6_nextDraw 8 = .ok (.sipush 12345, 3) := by decide +kernel
theorem dX6_nextDraw_11 : decode cX6_nextDraw 11 = .ok (.iadd, 1) := by decide +kernel
theorem dX6_nextDraw_12 : decode cX6_nextDraw 12 = .ok (.putfield 38, 3) := by decide +kernel
theorem dX6_nextDraw_15 : decode cX6_nextDraw 15 = .ok (.aload_n 0, 1) := by decide +kernel
theorem dX6_nextDraw_16 : decode cX6_nextDraw 16 = .ok (.getfield 38, 3) := by decide +kernel
theorem dX6_nextDraw_19 : decode cX6_nextDraw 19 = .ok (.bipush 8, 2) := by decide +kernel
theorem dX6_nextDraw_21 : decode cX6_nextDraw 21 = .ok (.iushr, 1) := by decide +kernel
theorem dX6_nextDraw_22 : decode cX6_nextDraw 22 = .ok (.ireturn, 1) := by decide +kernel
theorem dX7_init_0 : decode cX7_init 0 = .ok (.aload_n 0, 1) := by decide +kernel
theorem dX7_init_1 : decode cX7_init 1 = .ok (.invokespecial 3, 3) := by decide +kernel
theorem dX7_init_4 : decode cX7_init 4 = .ok (.aload_n 0, 1) := by decide +kernel
theorem dX7_init_5 : decode cX7_init 5 = .ok (.bipush 40, 2) := by decide +kernel
theorem dX7_init_7 : decode cX7_init 7 = .ok (.newarray .int, 2) := by decide +kernel
theorem dX7_init_9 : decode cX7_init 9 = .ok (.putfield 9, 3) := by decide +kernel
theorem dX7_init_12 : decode cX7_init 12 = .ok (.aload_n 0, 1) := by decide +kernel
theorem dX7_init_13 : decode cX7_init 13 = .ok (.iconst 0, 1) := by decide +kernel
theorem dX7_init_14 : decode cX7_init 14 = .ok (.putfield 15, 3) := by decide +kernel
theorem dX7_init_17 : decode cX7_init 17 = .ok (.aload_n 0, 1) := by decide +kernel
theorem dX7_init_18 : decode cX7_init 18 = .ok (.iconst 0, 1) := by decide +kernel
theorem dX7_init_19 : decode cX7_init 19 = .ok (.putfield 19, 3) := by decide +kernel
theorem dX7_init_22 : decode cX7_init 22 = .ok (.return_, 1) := by decide +kernel
theorem dX7_isMissing_0 : decode cX7_isMissing 0 = .ok (.aload_n 0, 1) := by decide +kernel
theorem dX7_isMissing_1 : decode cX7_isMissing 1 = .ok (.getfield 15, 3) := by decide +kernel
theorem dX7_isMissing_4 : decode cX7_isMissing 4 = .ok (.ifCond .ne 7, 3) := by decide +kernel
theorem dX7_isMissing_7 : decode cX7_isMissing 7 = .ok (.iconst 1, 1) := by decide +kernel
theorem dX7_isMissing_8 : decode cX7_isMissing 8 = .ok (.goto 4, 3) := by decide +kernel
theorem dX7_isMissing_11 : decode cX7_isMissing 11 = .ok (.iconst 0, 1) := by decide +kernel
theorem dX7_isMissing_12 : decode cX7_isMissing 12 = .ok (.ireturn, 1) := by decide +kernel
theorem dX7_begin_0 : decode cX7_begin 0 = .ok (.aload_n 0, 1) := by decide +kernel
theorem dX7_begin_1 : decode cX7_begin 1 = .ok (.iload_n 1, 1) := by decide +kernel
theorem dX7_begin_2 : decode cX7_begin 2 = .ok (.putfield 15, 3) := by decide +kernel
theorem dX7_begin_5 : decode cX7_begin 5 = .ok (.aload_n 0, 1) := by decide +kernel
theorem dX7_begin_6 : decode cX7_begin 6 = .ok (.iload_n 2, 1) := by decide +kernel
theorem dX7_begin_7 : decode cX7_begin 7 = .ok (.putfield 19, 3) := by decide +kernel
theorem dX7_begin_10 : decode cX7_begin 10 = .ok (.iconst 0, 1) := by decide +kernel
theorem dX7_begin_11 : decode cX7_begin 11 = .ok (.istore_n 3, 1) := by decide +kernel
theorem dX7_begin_12 : decode cX7_begin 12 = .ok (.iload_n 3, 1) := by decide +kernel
theorem dX7_begin_13 : decode cX7_begin 13 = .ok (.bipush 40, 2) := by decide +kernel
theorem dX7_begin_15 : decode cX7_begin 15 = .ok (.if_icmp .ge 16, 3) := by decide +kernel
theorem dX7_begin_18 : decode cX7_begin 18 = .ok (.aload_n 0, 1) := by decide +kernel
theorem dX7_begin_19 : decode cX7_begin 19 = .ok (.getfield 9, 3) := by decide +kernel
theorem dX7_begin_22 : decode cX7_begin 22 = .ok (.iload_n 3, 1) := by decide +kernel
theorem dX7_begin_23 : decode cX7_begin 23 = .ok (.iconst 0, 1) := by decide +kernel
theorem dX7_begin_24 : decode cX7_begin 24 = .ok (.iastore, 1) := by decide +kernel
theorem dX7_begin_25 : decode cX7_begin 25 = .ok (.iinc 3 1, 3) := by decide +kernel
theorem dX7_begin_28 : decode cX7_begin 28 = .ok (.goto (-16), 3) := by decide +kernel
theorem dX7_begin_31 : decode cX7_begin 31 = .ok (.return_, 1) := by decide +kernel
theorem dX7_write_0 : decode cX7_write 0 = .ok (.aload_n 0, 1) := by decide +kernel
theorem dX7_write_1 : decode cX7_write 1 = .ok (.getfield 9, 3) := by decide +kernel
theorem dX7_write_4 : decode cX7_write 4 = .ok (.iload_n 1, 1) := by decide +kernel
theorem dX7_write_5 : decode cX7_write 5 = .ok (.aload_n 0, 1) := by decide +kernel
theorem dX7_write_6 : decode cX7_write 6 = .ok (.getfield 15, 3) := by decide +kernel
theorem dX7_write_9 : decode cX7_write 9 = .ok (.bipush 32, 2) := by decide +kernel
theorem dX7_write_11 : decode cX7_write 11 = .ok (.if_icmp .ne 7, 3) := by decide +kernel
theorem dX7_write_14 : decode cX7_write 14 = .ok (.iload_n 2, 1) := by decide +kernel
theorem dX7_write_15 : decode cX7_write 15 = .ok (.goto 13, 3) := by decide +kernel
theorem dX7_write_18 : decode cX7_write 18 = .ok (.iload_n 2, 1) := by decide +kernel
theorem dX7_write_19 : decode cX7_write 19 = .ok (.iconst 1, 1) := by decide +kernel
theorem dX7_write_20 : decode cX7_write 20 = .ok (.aload_n 0, 1) := by decide +kernel
theorem dX7_write_21 : decode cX7_write 21 = .ok (.getfield 15, 3) := by decide +kernel
theorem dX7_write_24 : decode cX7_write 24 = .ok (.ishl, 1) := by decide +kernel
theorem dX7_write_25 : decode cX7_write 25 = .ok (.iconst 1, 1) := by decide +kernel
theorem dX7_write_26 : decode cX7_write 26 = .ok (.isub, 1) := by decide +kernel
theorem dX7_write_27 : decode cX7_write 27 = .ok (.iand, 1) := by decide +kernel
theorem dX7_write_28 : decode cX7_write 28 = .ok (.iastore, 1) := by decide +kernel
theorem dX7_write_29 : decode cX7_write 29 = .ok (.return_, 1) := by decide +kernel
theorem dX7_hasStretch_0 : decode cX7_hasStretch 0 = .ok (.iload_n 1, 1) := by decide +kernel
theorem dX7_hasStretch_1 : decode cX7_hasStretch 1 = .ok (.ifCond .lt 29, 3) := by decide +kernel
theorem dX7_hasStretch_4 : decode cX7_hasStretch 4 = .ok (.iload_n 2, 1) := by decide +kernel
theorem dX7_hasStretch_5 : decode cX7_hasStretch 5 = .ok (.ifCond .lt 25, 3) := by decide +kernel
theorem dX7_hasStretch_8 : decode cX7_hasStretch 8 = .ok (.iload_n 2, 1) := by decide +kernel
theorem dX7_hasStretch_9 : decode cX7_hasStretch 9 = .ok (.aload_n 0, 1) := by decide +kernel
theorem dX7_hasStretch_10 : decode cX7_hasStretch 10 = .ok (.getfield 19, 3) := by decide +kernel
theorem dX7_hasStretch_13 : decode cX7_hasStretch 13 = .ok (.if_icmp .gt 17, 3) := by decide +kernel
theorem dX7_hasStretch_16 : decode cX7_hasStretch 16 = .ok (.iload_n 1, 1) := by decide +kernel
theorem dX7_hasStretch_17 : decode cX7_hasStretch 17 = .ok (.aload_n 0, 1) := by decide +kernel
theorem dX7_hasStretch_18 : decode cX7_hasStretch 18 = .ok (.getfield 19, 3) := by decide +kernel
theorem dX7_hasStretch_21 : decode cX7_hasStretch 21 = .ok (.iload_n 2, 1) := by decide +kernel
theorem dX7_hasStretch_22 : decode cX7_hasStretch 22 = .ok (.isub, 1) := by decide +kernel
theorem dX7_hasStretch_23 : decode cX7_hasStretch 23 = .ok (.if_icmp .gt 7, 3) := by decide +kernel
theorem dX7_hasStretch_26 : decode cX7_hasStretch 26 = .ok (.iconst 1, 1) := by decide +kernel
theorem dX7_hasStretch_27 : decode cX7_hasStretch 27 = .ok (.goto 4, 3) := by decide +kernel
theorem dX7_hasStretch_30 : decode cX7_hasStretch 30 = .ok (.iconst 0, 1) := by decide +kernel
theorem dX7_hasStretch_31 : decode cX7_hasStretch 31 = .ok (.ireturn, 1) := by decide +kernel
theorem dX8_init_0 : decode cX8_init 0 = .ok (.aload_n 0, 1) := by decide +kernel
theorem dX8_init_1 : decode cX8_init 1 = .ok (.invokespecial 3, 3) := by decide +kernel
theorem dX8_init_4 : decode cX8_init 4 = .ok (.aload_n 0, 1) := by decide +kernel
theorem dX8_init_5 : decode cX8_init 5 = .ok (.new 9, 3) := by decide +kernel
theorem dX8_init_8 : decode cX8_init 8 = .ok (.dup, 1) := by decide +kernel
theorem dX8_init_9 : decode cX8_init 9 = .ok (.invokespecial 11, 3) := by decide +kernel
theorem dX8_init_12 : decode cX8_init 12 = .ok (.putfield 12, 3) := by decide +kernel
theorem dX8_init_15 : decode cX8_init 15 = .ok (.aload_n 0, 1) := by decide +kernel
theorem dX8_init_16 : decode cX8_init 16 = .ok (.bipush 60, 2) := by decide +kernel
theorem dX8_init_18 : decode cX8_init 18 = .ok (.newarray .int, 2) := by decide +kernel
theorem dX8_init_20 : decode cX8_init 20 = .ok (.putfield 18, 3) := by decide +kernel
theorem dX8_init_23 : decode cX8_init 23 = .ok (.aload_n 0, 1) := by decide +kernel
theorem dX8_init_24 : decode cX8_init 24 = .ok (.iconst 0, 1) := by decide +kernel
theorem dX8_init_25 : decode cX8_init 25 = .ok (.putfield 22, 3) := by decide +kernel
theorem dX8_init_28 : decode cX8_init 28 = .ok (.aload_n 0, 1) := by decide +kernel
theorem dX8_init_29 : decode cX8_init 29 = .ok (.iconst 0, 1) := by decide +kernel
theorem dX8_init_30 : decode cX8_init 30 = .ok (.putfield 26, 3) := by decide +kernel
theorem dX8_init_33 : decode cX8_init 33 = .ok (.aload_n 0, 1) := by decide +kernel
theorem dX8_init_34 : decode cX8_init 34 = .ok (.iconst 1, 1) := by decide +kernel
theorem dX8_init_35 : decode cX8_init 35 = .ok (.putfield 29, 3) := by decide +kernel
theorem dX8_init_38 : decode cX8_init 38 = .ok (.return_, 1) := by decide +kernel
theorem dX8_read_0 : decode cX8_read 0 = .ok (.aload_n 0, 1) := by decide +kernel
theorem dX8_read_1 : decode cX8_read 1 = .ok (.getfield 12, 3) := by decide +kernel
theorem dX8_read_4 : decode cX8_read 4 = .ok (.invokevirtual 33, 3) := by decide +kernel
theorem dX8_read_7 : decode cX8_read 7 = .ok (.aload_n 0, 1) := by decide +kernel
theorem dX8_read_8 : decode cX8_read 8 = .ok (.iconst 0, 1) := by decide +kernel
theorem dX8_read_9 : decode cX8_read 9 = .ok (.putfield 22, 3) := by decide +kernel
theorem dX8_read_12 : decode cX8_read 12 = .ok (.aload_n 0, 1) := by decide +kernel
theorem dX8_read_13 : decode cX8_read 13 = .ok (.iconst 0, 1) := by decide +kernel
theorem dX8_read_14 : decode cX8_read 14 = .ok (.putfield 26, 3) := by decide +kernel
theorem dX8_read_17 : decode cX8_read 17 = .ok (.aload_n 0, 1) := by decide +kernel
theorem dX8_read_18 : decode cX8_read 18 = .ok (.iconst 1, 1) := by decide +kernel
theorem dX8_read_19 : decode cX8_read 19 = .ok (.putfield 29, 3) := by decide +kernel
theorem dX8_read_22 : decode cX8_read 22 = .ok (.iconst 0, 1) := by decide +kernel
theorem dX8_read_23 : decode cX8_read 23 = .ok (.istore 4, 2) := by decide +kernel
theorem dX8_read_25 : decode cX8_read 25 = .ok (.iload 4, 2) := by decide +kernel
theorem dX8_read_27 : decode cX8_read 27 = .ok (.iload_n 2, 1) := by decide +kernel
theorem dX8_read_28 : decode cX8_read 28 = .ok (.if_icmp .ge 50, 3) := by decide +kernel
theorem dX8_read_31 : decode cX8_read 31 = .ok (.aload_n 0, 1) := by decide +kernel
theorem dX8_read_32 : decode cX8_read 32 = .ok (.getfield 29, 3) := by decide +kernel
theorem dX8_read_35 : decode cX8_read 35 = .ok (.ifCond .eq 15, 3) := by decide +kernel
theorem dX8_read_38 : decode cX8_read 38 = .ok (.aload_n 0, 1) := by decide +kernel
theorem dX8_read_39 : decode cX8_read 39 = .ok (.aload_n 1, 1) := by decide +kernel
theorem dX8_read_40 : decode cX8_read 40 = .ok (.iload_n 2, 1) := by decide +kernel
theorem dX8_read_41 : decode cX8_read 41 = .ok (.iload 4, 2) := by decide +kernel
theorem dX8_read_43 : decode cX8_read 43 = .ok (.iload_n 3, 1) := by decide +kernel
theorem dX8_read_44 : decode cX8_read 44 = .ok (.invokevirtual 36, 3) := by decide +kernel
theorem dX8_read_47 : decode cX8_read 47 = .ok (.goto 11, 3) := by decide +kernel
theorem dX8_read_50 : decode cX8_read 50 = .ok (.aload_n 0, 1) := by decide +kernel
theorem dX8_read_51 : decode cX8_read 51 = .ok (.aload_n 1, 1) := by decide +kernel
theorem dX8_read_52 : decode cX8_read 52 = .ok (.iload 4, 2) := by decide +kernel
theorem dX8_read_54 : decode cX8_read 54 = .ok (.iaload, 1) := by decide +kernel
theorem dX8_read_55 : decode cX8_read 55 = .ok (.invokevirtual 40, 3) := by decide +kernel
theorem dX8_read_58 : decode cX8_read 58 = .ok (.istore 5, 2) := by decide +kernel
theorem dX8_read_60 : decode cX8_read 60 = .ok (.iload 5, 2) := by decide +kernel
theorem dX8_read_62 : decode cX8_read 62 = .ok (.ifCond .gt 6, 3) := by decide +kernel
theorem dX8_read_65 : decode cX8_read 65 = .ok (.iload 4, 2) := by decide +kernel
theorem dX8_read_67 : decode cX8_read 67 = .ok (.ireturn, 1) := by decide +kernel
theorem dX8_read_68 : decode cX8_read 68 = .ok (.iload 4, 2) := by decide +kernel
theorem dX8_read_70 : decode cX8_read 70 = .ok (.iload 5, 2) := by decide +kernel
theorem dX8_read_72 : decode cX8_read 72 = .ok (.iadd, 1) := by decide +kernel
theorem dX8_read_73 : decode cX8_read 73 = .ok (.istore 4, 2) := by decide +kernel
theorem dX8_read_75 : decode cX8_read 75 = .ok (.goto (-50), 3) := by decide +kernel
theorem dX8_read_78 : decode cX8_read 78 = .ok (.aload_n 0, 1) := by decide +kernel
theorem dX8_read_79 : decode cX8_read 79 = .ok (.getfield 29, 3) := by decide +kernel
theorem dX8_read_82 : decode cX8_read 82 = .ok (.ifCond .ne 10, 3) := by decide +kernel
theorem dX8_read_85 : decode cX8_read 85 = .ok (.aload_n 0, 1) := by decide +kernel
theorem dX8_read_86 : decode cX8_read 86 = .ok (.getfield 26, 3) := by decide +kernel
theorem dX8_read_89 : decode cX8_read 89 = .ok (.ifCond .le 5, 3) := by decide +kernel
theorem dX8_read_92 : decode cX8_read 92 = .ok (.iload_n 2, 1) := by decide +kernel
theorem dX8_read_93 : decode cX8_read 93 = .ok (.ireturn, 1) := by decide +kernel
theorem dX8_read_94 : decode cX8_read 94 = .ok (.aload_n 0, 1) := by decide +kernel
theorem dX8_read_95 : decode cX8_read 95 = .ok (.iconst 0, 1) := by decide +kernel
theorem dX8_read_96 : decode cX8_read 96 = .ok (.invokevirtual 44, 3) := by decide +kernel
theorem dX8_read_99 : decode cX8_read 99 = .ok (.iconst (-1), 1) := by decide +kernel
theorem dX8_read_100 : decode cX8_read 100 = .ok (.ireturn, 1) := by decide +kernel
theorem dX8_takeValue_0 : decode cX8_takeValue 0 = .ok (.aload_n 1, 1) := by decide +kernel
theorem dX8_takeValue_1 : decode cX8_takeValue 1 = .ok (.iload_n 3, 1) := by decide +kernel
theorem dX8_takeValue_2 : decode cX8_takeValue 2 = .ok (.iaload, 1) := by decide +kernel
theorem dX8_takeValue_3 : decode cX8_takeValue 3 = .ok (.istore 5, 2) := by decide +kernel
theorem dX8_takeValue_5 : decode cX8_takeValue 5 = .ok (.iload 5, 2) := by decide +kernel
theorem dX8_takeValue_7 : decode cX8_takeValue 7 = .ok (.bipush 33, 2) := by decide +kernel
theorem dX8_takeValue_9 : decode cX8_takeValue 9 = .ok (.if_icmp .eq 10, 3) := by decide +kernel
theorem dX8_takeValue_12 : decode cX8_takeValue 12 = .ok (.iload 5, 2) := by decide +kernel
theorem dX8_takeValue_14 : decode cX8_takeValue 14 = .ok (.bipush 40, 2) := by decide +kernel
theorem dX8_takeValue_16 : decode cX8_takeValue 16 = .ok (.if_icmp .ne 31, 3) := by decide +kernel
theorem dX8_takeValue_19 : decode cX8_takeValue 19 = .ok (.aload_n 0, 1) := by decide +kernel
theorem dX8_takeValue_20 : decode cX8_takeValue 20 = .ok (.getfield 26, 3) := by decide +kernel
theorem dX8_takeValue_23 : decode cX8_takeValue 23 = .ok (.iconst 5, 1) := by decide +kernel
theorem dX8_takeValue_24 : decode cX8_takeValue 24 = .ok (.if_icmp .lt 5, 3) := by decide +kernel
theorem dX8_takeValue_27 : decode cX8_takeValue 27 = .ok (.iconst 0, 1) := by decide +kernel
theorem dX8_takeValue_28 : decode cX8_takeValue 28 = .ok (.ireturn, 1) := by decide +kernel
theorem dX8_takeValue_29 : decode cX8_takeValue 29 = .ok (.aload_n 0, 1) := by decide +kernel
theorem dX8_takeValue_30 : decode cX8_takeValue 30 = .ok (.dup, 1) := by decide +kernel
theorem dX8_takeValue_31 : decode cX8_takeValue 31 = .ok (.getfield 26, 3) := by decide +kernel
theorem dX8_takeValue_34 : decode cX8_takeValue 34 = .ok (.iconst 1, 1) := by decide +kernel
theorem dX8_takeValue_35 : decode cX8_takeValue 35 = .ok (.iadd, 1) := by decide +kernel
theorem dX8_takeValue_36 : decode cX8_takeValue 36 = .ok (.putfield 26, 3) := by decide +kernel
theorem dX8_takeValue_39 : decode cX8_takeValue 39 = .ok (.aload_n 0, 1) := by decide +kernel
theorem dX8_takeValue_40 : decode cX8_takeValue 40 = .ok (.iload 5, 2) := by decide +kernel
theorem dX8_takeValue_42 : decode cX8_takeValue 42 = .ok (.invokevirtual 48, 3) := by decide +kernel
theorem dX8_takeValue_45 : decode cX8_takeValue 45 = .ok (.iconst 1, 1) := by decide +kernel
theorem dX8_takeValue_46 : decode cX8_takeValue 46 = .ok (.ireturn, 1) := by decide +kernel
theorem dX8_takeValue_47 : decode cX8_takeValue 47 = .ok (.iconst 1, 1) := by decide +kernel
theorem dX8_takeValue_48 : decode cX8_takeValue 48 = .ok (.istore 6, 2) := by decide +kernel
theorem dX8_takeValue_50 : decode cX8_takeValue 50 = .ok (.iload 5, 2) := by decide +kernel
theorem dX8_takeValue_52 : decode cX8_takeValue 52 = .ok (.iload 4, 2) := by decide +kernel
theorem dX8_takeValue_54 : decode cX8_takeValue 54 = .ok (.invokestatic 51, 3) := by decide +kernel
theorem dX8_takeValue_57 : decode cX8_takeValue 57 = .ok (.istore 7, 2) := by decide +kernel
theorem dX8_takeValue_59 : decode cX8_takeValue 59 = .ok (.iload 7, 2) := by decide +kernel
theorem dX8_takeValue_61 : decode cX8_takeValue 61 = .ok (.ifCond .ne 55, 3) := by decide +kernel
theorem dX8_takeValue_64 : decode cX8_takeValue 64 = .ok (.iconst 0, 1) := by decide +kernel
theorem dX8_takeValue_65 : decode cX8_takeValue 65 = .ok (.istore 6, 2) := by decide +kernel
theorem dX8_takeValue_67 : decode cX8_takeValue 67 = .ok (.iload 6, 2) := by decide +kernel
theorem dX8_takeValue_69 : decode cX8_takeValue 69 = .ok (.iconst 4, 1) := by decide +kernel
theorem dX8_takeValue_70 : decode cX8_takeValue 70 = .ok (.if_icmp .ge 46, 3) := by decide +kernel
theorem dX8_takeValue_73 : decode cX8_takeValue 73 = .ok (.iload_n 3, 1) := by decide +kernel
theorem dX8_takeValue_74 : decode cX8_takeValue 74 = .ok (.iload 6, 2) := by decide +kernel
theorem dX8_takeValue_76 : decode cX8_takeValue 76 = .ok (.iadd, 1) := by decide +kernel
theorem dX8_takeValue_77 : decode cX8_takeValue 77 = .ok (.iload_n 2, 1) := by decide +kernel
theorem dX8_takeValue_78 : decode cX8_takeValue 78 = .ok (.if_icmp .ge 38, 3) := by decide +kernel
theorem dX8_takeValue_81 : decode cX8_takeValue 81 = .ok (.aload_n 1, 1) := by decide +kernel
theorem dX8_takeValue_82 : decode cX8_takeValue 82 = .ok (.iload_n 3, 1) := by decide +kernel
theorem dX8_takeValue_83 : decode cX8_takeValue 83 = .ok (.iload 6, 2) := by decide +kernel
theorem dX8_takeValue_85 : decode cX8_takeValue 85 = .ok (.iadd, 1) := by decide +kernel
theorem dX8_takeValue_86 : decode cX8_takeValue 86 = .ok (.iaload, 1) := by decide +kernel
theorem dX8_takeValue_87 : decode cX8_takeValue 87 = .ok (.invokestatic 55, 3) := by decide +kernel
theorem dX8_takeValue_90 : decode cX8_takeValue 90 = .ok (.ifCond .eq 26, 3) := by decide +kernel
theorem dX8_takeValue_93 : decode cX8_takeValue 93 = .ok (.bipush 10, 2) := by decide +kernel
theorem dX8_takeValue_95 : decode cX8_takeValue 95 = .ok (.iload 7, 2) := by decide +kernel
theorem dX8_takeValue_97 : decode cX8_takeValue 97 = .ok (.imul, 1) := by decide +kernel
theorem dX8_takeValue_98 : decode cX8_takeValue 98 = .ok (.aload_n 1, 1) := by decide +kernel
theorem dX8_takeValue_99 : decode cX8_takeValue 99 = .ok (.iload_n 3, 1) := by decide +kernel
theorem dX8_takeValue_100 : decode cX8_takeValue 100 = .ok (.iload 6, 2) := by decide +kernel
theorem dX8_takeValue_102 : decode cX8_takeValue 102 = .ok (.iadd, 1) := by decide +kernel
theorem dX8_takeValue_103 : decode cX8_takeValue 103 = .ok (.iaload, 1) := by decide +kernel
theorem dX8_takeValue_104 : decode cX8_takeValue 104 = .ok (.iadd, 1) := by decide +kernel
theorem dX8_takeValue_105 : decode cX8_takeValue 105 = .ok (.bipush 48, 2) := by decide +kernel
theorem dX8_takeValue_107 : decode cX8_takeValue 107 = .ok (.isub, 1) := by decide +kernel
theorem dX8_takeValue_108 : decode cX8_takeValue 108 = .ok (.istore 7, 2) := by decide +kernel
theorem dX8_takeValue_110 : decode cX8_takeValue 110 = .ok (.iinc 6 1, 3) := by decide +kernel
theorem dX8_takeValue_113 : decode cX8_takeValue 113 = .ok (.goto (-46), 3) := by decide +kernel
theorem dX8_takeValue_116 : decode cX8_takeValue 116 = .ok (.iload 6, 2) := by decide +kernel
theorem dX8_takeValue_118 : decode cX8_takeValue 118 = .ok (.ifCond .le 16, 3) := by decide +kernel
theorem dX8_takeValue_121 : decode cX8_takeValue 121 = .ok (.aload_n 0, 1) := by decide +kernel
theorem dX8_takeValue_122 : decode cX8_takeValue 122 = .ok (.getfield 12, 3) := by decide +kernel
theorem dX8_takeValue_125 : decode cX8_takeValue 125 = .ok (.iload 7, 2) := by decide +kernel
theorem dX8_takeValue_127 : decode cX8_takeValue 127 = .ok (.invokevirtual 59, 3) := by decide +kernel
theorem dX8_takeValue_130 : decode cX8_takeValue 130 = .ok (.aload_n 0, 1) := by decide +kernel
theorem dX8_takeValue_131 : decode cX8_takeValue 131 = .ok (.invokevirtual 62, 3) := by decide +kernel
theorem dX8_takeValue_134 : decode cX8_takeValue 134 = .ok (.iload 6, 2) := by decide +kernel
theorem dX8_takeValue_136 : decode cX8_takeValue 136 = .ok (.ireturn, 1) := by decide +kernel
theorem dX8_takeSign_0 : decode cX8_takeSign 0 = .ok (.iload_n 1, 1) := by decide +kernel
theorem dX8_takeSign_1 : decode cX8_takeSign 1 = .ok (.bipush 41, 2) := by decide +kernel
theorem dX8_takeSign_3 : decode cX8_takeSign 3 = .ok (.if_icmp .ne 43, 3) := by decide +kernel
theorem dX8_takeSign_6 : decode cX8_takeSign 6 = .ok (.aload_n 0, 1) := by decide +kernel
theorem dX8_takeSign_7 : decode cX8_takeSign 7 = .ok (.iconst 1, 1) := by decide +kernel
theorem dX8_takeSign_8 : decode cX8_takeSign 8 = .ok (.invokevirtual 44, 3) := by decide +kernel
theorem dX8_takeSign_11 : decode cX8_takeSign 11 = .ok (.aload_n 0, 1) := by decide +kernel
theorem dX8_takeSign_12 : decode cX8_takeSign 12 = .ok (.getfield 22, 3) := by decide +kernel
theorem dX8_takeSign_15 : decode cX8_takeSign 15 = .ok (.ifCond .ne 5, 3) := by decide +kernel
theorem dX8_takeSign_18 : decode cX8_takeSign 18 = .ok (.iconst 0, 1) := by decide +kernel
theorem dX8_takeSign_19 : decode cX8_takeSign 19 = .ok (.ireturn, 1) := by decide +kernel
theorem dX8_takeSign_20 : decode cX8_takeSign 20 = .ok (.aload_n 0, 1) := by decide +kernel
theorem dX8_takeSign_21 : decode cX8_takeSign 21 = .ok (.dup, 1) := by decide +kernel
theorem dX8_takeSign_22 : decode cX8_takeSign 22 = .ok (.getfield 22, 3) := by decide +kernel
theorem dX8_takeSign_25 : decode cX8_takeSign 25 = .ok (.iconst 1, 1) := by decide +kernel
theorem dX8_takeSign_26 : decode cX8_takeSign 26 = .ok (.isub, 1) := by decide +kernel
theorem dX8_takeSign_27 : decode cX8_takeSign 27 = .ok (.putfield 22, 3) := by decide +kernel
theorem dX8_takeSign_30 : decode cX8_takeSign 30 = .ok (.aload_n 0, 1) := by decide +kernel
theorem dX8_takeSign_31 : decode cX8_takeSign 31 = .ok (.dup, 1) := by decide +kernel
theorem dX8_takeSign_32 : decode cX8_takeSign 32 = .ok (.getfield 26, 3) := by decide +kernel
theorem dX8_takeSign_35 : decode cX8_takeSign 35 = .ok (.iconst 1, 1) := by decide +kernel
theorem dX8_takeSign_36 : decode cX8_takeSign 36 = .ok (.isub, 1) := by decide +kernel
theorem dX8_takeSign_37 : decode cX8_takeSign 37 = .ok (.putfield 26, 3) := by decide +kernel
theorem dX8_takeSign_40 : decode cX8_takeSign 40 = .ok (.aload_n 0, 1) := by decide +kernel
theorem dX8_takeSign_41 : decode cX8_takeSign 41 = .ok (.invokevirtual 62, 3) := by decide +kernel
theorem dX8_takeSign_44 : decode cX8_takeSign 44 = .ok (.iconst 1, 1) := by decide +kernel
theorem dX8_takeSign_45 : decode cX8_takeSign 45 = .ok (.ireturn, 1) := by decide +kernel
theorem dX8_takeSign_46 : decode cX8_takeSign 46 = .ok (.iload_n 1, 1) := by decide +kernel
theorem dX8_takeSign_47 : decode cX8_takeSign 47 = .ok (.invokestatic 65, 3) := by decide +kernel
theorem dX8_takeSign_50 : decode cX8_takeSign 50 = .ok (.istore_n 2, 1) := by decide +kernel
theorem dX8_takeSign_51 : decode cX8_takeSign 51 = .ok (.iload_n 2, 1) := by decide +kernel
theorem dX8_takeSign_52 : decode cX8_takeSign 52 = .ok (.ifCond .ne 5, 3) := by decide +kernel
theorem dX8_takeSign_55 : decode cX8_takeSign 55 = .ok (.iconst 0, 1) := by decide +kernel
theorem dX8_takeSign_56 : decode cX8_takeSign 56 = .ok (.ireturn, 1) := by decide +kernel
theorem dX8_takeSign_57 : decode cX8_takeSign 57 = .ok (.aload_n 0, 1) := by decide +kernel
theorem dX8_takeSign_58 : decode cX8_takeSign 58 = .ok (.iload_n 2, 1) := by decide +kernel
theorem dX8_takeSign_59 : decode cX8_takeSign 59 = .ok (.iconst 3, 1) := by decide +kernel
theorem dX8_takeSign_60 : decode cX8_takeSign 60 = .ok (.if_icmp .ne 9, 3) := by decide +kernel
theorem dX8_takeSign_63 : decode cX8_takeSign 63 = .ok (.iload_n 2, 1) := by decide +kernel
theorem dX8_takeSign_64 : decode cX8_takeSign 64 = .ok (.iconst 1, 1) := by decide +kernel
theorem dX8_takeSign_65 : decode cX8_takeSign 65 = .ok (.iadd, 1) := by decide +kernel
theorem dX8_takeSign_66 : decode cX8_takeSign 66 = .ok (.goto 4, 3) := by decide +kernel
theorem dX8_takeSign_69 : decode cX8_takeSign 69 = .ok (.iload_n 2, 1) := by decide +kernel
theorem dX8_takeSign_70 : decode cX8_takeSign 70 = .ok (.invokevirtual 44, 3) := by decide +kernel
theorem dX8_takeSign_73 : decode cX8_takeSign 73 = .ok (.iload_n 2, 1) := by decide +kernel
theorem dX8_takeSign_74 : decode cX8_takeSign 74 = .ok (.iconst 3, 1) := by decide +kernel
theorem dX8_takeSign_75 : decode cX8_takeSign 75 = .ok (.if_icmp .ne 30, 3) := by decide +kernel
theorem dX8_takeSign_78 : decode cX8_takeSign 78 = .ok (.aload_n 0, 1) := by decide +kernel
theorem dX8_takeSign_79 : decode cX8_takeSign 79 = .ok (.getfield 22, 3) := by decide +kernel
theorem dX8_takeSign_82 : decode cX8_takeSign 82 = .ok (.ifCond .le 23, 3) := by decide +kernel
theorem dX8_takeSign_85 : decode cX8_takeSign 85 = .ok (.aload_n 0, 1) := by decide +kernel
theorem dX8_takeSign_86 : decode cX8_takeSign 86 = .ok (.getfield 18, 3) := by decide +kernel
theorem dX8_takeSign_89 : decode cX8_takeSign 89 = .ok (.aload_n 0, 1) := by decide +kernel
theorem dX8_takeSign_90 : decode cX8_takeSign 90 = .ok (.getfield 22, 3) := by decide +kernel
theorem dX8_takeSign_93 : decode cX8_takeSign 93 = .ok (.iconst 1, 1) := by decide +kernel
theorem dX8_takeSign_94 : decode cX8_takeSign 94 = .ok (.isub, 1) := by decide +kernel
theorem dX8_takeSign_95 : decode cX8_takeSign 95 = .ok (.iaload, 1) := by decide +kernel
theorem dX8_takeSign_96 : decode cX8_takeSign 96 = .ok (.invokestatic 65, 3) := by decide +kernel
theorem dX8_takeSign_99 : decode cX8_takeSign 99 = .ok (.iconst 3, 1) := by decide +kernel
theorem dX8_takeSign_100 : decode cX8_takeSign 100 = .ok (.if_icmp .ne 5, 3) := by decide +kernel
theorem dX8_takeSign_103 : decode cX8_takeSign 103 = .ok (.iconst 0, 1) := by decide +kernel
theorem dX8_takeSign_104 : decode cX8_takeSign 104 = .ok (.ireturn, 1) := by decide +kernel
theorem dX8_takeSign_105 : decode cX8_takeSign 105 = .ok (.aload_n 0, 1) := by decide +kernel
theorem dX8_takeSign_106 : decode cX8_takeSign 106 = .ok (.iload_n 1, 1) := by decide +kernel
theorem dX8_takeSign_107 : decode cX8_takeSign 107 = .ok (.invokevirtual 48, 3) := by decide +kernel
theorem dX8_takeSign_110 : decode cX8_takeSign 110 = .ok (.aload_n 0, 1) := by decide +kernel
theorem dX8_takeSign_111 : decode cX8_takeSign 111 = .ok (.iconst 1, 1) := by decide +kernel
theorem dX8_takeSign_112 : decode cX8_takeSign 112 = .ok (.putfield 29, 3) := by decide +kernel
theorem dX8_takeSign_115 : decode cX8_takeSign 115 = .ok (.iconst 1, 1) := by decide +kernel
theorem dX8_takeSign_116 : decode cX8_takeSign 116 = .ok (.ireturn, 1) := by decide +kernel
theorem dX8_push_0 : decode cX8_push 0 = .ok (.aload_n 0, 1) := by decide +kernel
theorem dX8_push_1 : decode cX8_push 1 = .ok (.getfield 22, 3) := by decide +kernel
theorem dX8_push_4 : decode cX8_push 4 = .ok (.bipush 60, 2) := by decide +kernel
theorem dX8_push_6 : decode cX8_push 6 = .ok (.if_icmp .ge 23, 3) := by decide +kernel
theorem dX8_push_9 : decode cX8_push 9 = .ok (.aload_n 0, 1) := by decide +kernel
theorem dX8_push_10 : decode cX8_push 10 = .ok (.getfield 18, 3) := by decide +kernel
theorem dX8_push_13 : decode cX8_push 13 = .ok (.aload_n 0, 1) := by decide +kernel
theorem dX8_push_14 : decode cX8_push 14 = .ok (.getfield 22, 3) := by decide +kernel
theorem dX8_push_17 : decode cX8_push 17 = .ok (.iload_n 1, 1) := by decide +kernel
theorem dX8_push_18 : decode cX8_push 18 = .ok (.iastore, 1) := by decide +kernel
theorem dX8_push_19 : decode cX8_push 19 = .ok (.aload_n 0, 1) := by decide +kernel
theorem dX8_push_20 : decode cX8_push 20 = .ok (.dup, 1) := by decide +kernel
theorem dX8_push_21 : decode cX8_push 21 = .ok (.getfield 22, 3) := by decide +kernel
theorem dX8_push_24 : decode cX8_push 24 = .ok (.iconst 1, 1) := by decide +kernel
theorem dX8_push_25 : decode cX8_push 25 = .ok (.iadd, 1) := by decide +kernel
theorem dX8_push_26 : decode cX8_push 26 = .ok (.putfield 22, 3) := by decide +kernel
theorem dX8_push_29 : decode cX8_push 29 = .ok (.return_, 1) := by decide +kernel
theorem dX8_endValue_0 : decode cX8_endValue 0 = .ok (.aload_n 0, 1) := by decide +kernel
theorem dX8_endValue_1 : decode cX8_endValue 1 = .ok (.iconst 0, 1) := by decide +kernel
theorem dX8_endValue_2 : decode cX8_endValue 2 = .ok (.putfield 29, 3) := by decide +kernel
theorem dX8_endValue_5 : decode cX8_endValue 5 = .ok (.aload_n 0, 1) := by decide +kernel
theorem dX8_endValue_6 : decode cX8_endValue 6 = .ok (.getfield 22, 3) := by decide +kernel
theorem dX8_endValue_9 : decode cX8_endValue 9 = .ok (.ifCond .le 51, 3) := by decide +kernel
theorem dX8_endValue_12 : decode cX8_endValue 12 = .ok (.aload_n 0, 1) := by decide +kernel
theorem dX8_endValue_13 : decode cX8_endValue 13 = .ok (.getfield 18, 3) := by decide +kernel
theorem dX8_endValue_16 : decode cX8_endValue 16 = .ok (.aload_n 0, 1) := by decide +kernel
theorem dX8_endValue_17 : decode cX8_endValue 17 = .ok (.getfield 22, 3) := by decide +kernel
theorem dX8_endValue_20 : decode cX8_endValue 20 = .ok (.iconst 1, 1) := by decide +kernel
theorem dX8_endValue_21 : decode cX8_endValue 21 = .ok (.isub, 1) := by decide +kernel
theorem dX8_endValue_22 : decode cX8_endValue 22 = .ok (.iaload, 1) := by decide +kernel
theorem dX8_endValue_23 : decode cX8_endValue 23 = .ok (.bipush 33, 2) := by decide +kernel
theorem dX8_endValue_25 : decode cX8_endValue 25 = .ok (.if_icmp .ne 35, 3) := by decide +kernel
theorem dX8_endValue_28 : decode cX8_endValue 28 = .ok (.aload_n 0, 1) := by decide +kernel
theorem dX8_endValue_29 : decode cX8_endValue 29 = .ok (.dup, 1) := by decide +kernel
theorem dX8_endValue_30 : decode cX8_endValue 30 = .ok (.getfield 22, 3) := by decide +kernel
theorem dX8_endValue_33 : decode cX8_endValue 33 = .ok (.iconst 1, 1) := by decide +kernel
theorem dX8_endValue_34 : decode cX8_endValue 34 = .ok (.isub, 1) := by decide +kernel
theorem dX8_endValue_35 : decode cX8_endValue 35 = .ok (.putfield 22, 3) := by decide +kernel
theorem dX8_endValue_38 : decode cX8_endValue 38 = .ok (.aload_n 0, 1) := by decide +kernel
theorem dX8_endValue_39 : decode cX8_endValue 39 = .ok (.dup, 1) := by decide +kernel
theorem dX8_endValue_40 : decode cX8_endValue 40 = .ok (.getfield 26, 3) := by decide +kernel
theorem dX8_endValue_43 : decode cX8_endValue 43 = .ok (.iconst 1, 1) := by decide +kernel
theorem dX8_endValue_44 : decode cX8_endValue 44 = .ok (.isub, 1) := by decide +kernel
theorem dX8_endValue_45 : decode cX8_endValue 45 = .ok (.putfield 26, 3) := by decide +kernel
theorem dX8_endValue_48 : decode cX8_endValue 48 = .ok (.aload_n 0, 1) := by decide +kernel
theorem dX8_endValue_49 : decode cX8_endValue 49 = .ok (.getfield 12, 3) := by decide +kernel
theorem dX8_endValue_52 : decode cX8_endValue 52 = .ok (.bipush (-33), 2) := by decide +kernel
theorem dX8_endValue_54 : decode cX8_endValue 54 = .ok (.invokevirtual 59, 3) := by decide +kernel
theorem dX8_endValue_57 : decode cX8_endValue 57 = .ok (.goto (-52), 3) := by decide +kernel
theorem dX8_endValue_60 : decode cX8_endValue 60 = .ok (.return_, 1) := by decide +kernel
theorem dX8_settle_0 : decode cX8_settle 0 = .ok (.aload_n 0, 1) := by decide +kernel
theorem dX8_settle_1 : decode cX8_settle 1 = .ok (.getfield 22, 3) := by decide +kernel
theorem dX8_settle_4 : decode cX8_settle 4 = .ok (.ifCond .le 51, 3) := by decide +kernel
theorem dX8_settle_7 : decode cX8_settle 7 = .ok (.aload_n 0, 1) := by decide +kernel
theorem dX8_settle_8 : decode cX8_settle 8 = .ok (.getfield 18, 3) := by decide +kernel
theorem dX8_settle_11 : decode cX8_settle 11 = .ok (.aload_n 0, 1) := by decide +kernel
theorem dX8_settle_12 : decode cX8_settle 12 = .ok (.getfield 22, 3) := by decide +kernel
theorem dX8_settle_15 : decode cX8_settle 15 = .ok (.iconst 1, 1) := by decide +kernel
theorem dX8_settle_16 : decode cX8_settle 16 = .ok (.isub, 1) := by decide +kernel
theorem dX8_settle_17 : decode cX8_settle 17 = .ok (.iaload, 1) := by decide +kernel
theorem dX8_settle_18 : decode cX8_settle 18 = .ok (.invokestatic 65, 3) := by decide +kernel
theorem dX8_settle_21 : decode cX8_settle 21 = .ok (.iload_n 1, 1) := by decide +kernel
theorem dX8_settle_22 : decode cX8_settle 22 = .ok (.if_icmp .lt 33, 3) := by decide +kernel
theorem dX8_settle_25 : decode cX8_settle 25 = .ok (.aload_n 0, 1) := by decide +kernel
theorem dX8_settle_26 : decode cX8_settle 26 = .ok (.dup, 1) := by decide +kernel
theorem dX8_settle_27 : decode cX8_settle 27 = .ok (.getfield 22, 3) := by decide +kernel
theorem dX8_settle_30 : decode cX8_settle 30 = .ok (.iconst 1, 1) := by decide +kernel
theorem dX8_settle_31 : decode cX8_settle 31 = .ok (.isub, 1) := by decide +kernel
theorem dX8_settle_32 : decode cX8_settle 32 = .ok (.putfield 22, 3) := by decide +kernel
theorem dX8_settle_35 : decode cX8_settle 35 = .ok (.aload_n 0, 1) := by decide +kernel
theorem dX8_settle_36 : decode cX8_settle 36 = .ok (.getfield 12, 3) := by decide +kernel
theorem dX8_settle_39 : decode cX8_settle 39 = .ok (.aload_n 0, 1) := by decide +kernel
theorem dX8_settle_40 : decode cX8_settle 40 = .ok (.getfield 18, 3) := by decide +kernel
theorem dX8_settle_43 : decode cX8_settle 43 = .ok (.aload_n 0, 1) := by decide +kernel
theorem dX8_settle_44 : decode cX8_settle 44 = .ok (.getfield 22, 3) := by decide +kernel
theorem dX8_settle_47 : decode cX8_settle 47 = .ok (.iaload, 1) := by decide +kernel
theorem dX8_settle_48 : decode cX8_settle 48 = .ok (.ineg, 1) := by decide +kernel
theorem dX8_settle_49 : decode cX8_settle 49 = .ok (.invokevirtual 59, 3) := by decide +kernel
theorem dX8_settle_52 : decode cX8_settle 52 = .ok (.goto (-52), 3) := by decide +kernel
theorem dX8_settle_55 : decode cX8_settle 55 = .ok (.return_, 1) := by decide +kernel
theorem dX8_isDigit_0 : decode cX8_isDigit 0 = .ok (.iload_n 0, 1) := by decide +kernel
theorem dX8_isDigit_1 : decode cX8_isDigit 1 = .ok (.bipush 48, 2) := by decide +kernel
theorem dX8_isDigit_3 : decode cX8_isDigit 3 = .ok (.if_icmp .lt 13, 3) := by decide +kernel
theorem dX8_isDigit_6 : decode cX8_isDigit 6 = .ok (.iload_n 0, 1) := by decide +kernel
theorem dX8_isDigit_7 : decode cX8_isDigit 7 = .ok (.bipush 57, 2) := by decide +kernel
theorem dX8_isDigit_9 : decode cX8_isDigit 9 = .ok (.if_icmp .gt 7, 3) := by decide +kernel
theorem dX8_isDigit_12 : decode cX8_isDigit 12 = .ok (.iconst 1, 1) := by decide +kernel
theorem dX8_isDigit_13 : decode cX8_isDigit 13 = .ok (.goto 4, 3) := by decide +kernel
theorem dX8_isDigit_16 : decode cX8_isDigit 16 = .ok (.iconst 0, 1) := by decide +kernel
theorem dX8_isDigit_17 : decode cX8_isDigit 17 = .ok (.ireturn, 1) := by decide +kernel
theorem dX8_rankOf_0 : decode cX8_rankOf 0 = .ok (.iload_n 0, 1) := by decide +kernel
theorem dX8_rankOf_1 : decode cX8_rankOf 1 = .ok (.lookupswitch 101 #[(37, 99), (38, 93), (42, 99), (43, 97), (45, 97), (47, 99), (60, 95), (61, 95), (62, 95), (124, 91)], 91) := by decide +kernel
theorem dX8_rankOf_92 : decode cX8_rankOf 92 = .ok (.iconst 1, 1) := by decide +kernel
theorem dX8_rankOf_93 : decode cX8_rankOf 93 = .ok (.ireturn, 1) := by decide +kernel
theorem dX8_rankOf_94 : decode cX8_rankOf 94 = .ok (.iconst 2, 1) := by decide +kernel
theorem dX8_rankOf_95 : decode cX8_rankOf 95 = .ok (.ireturn, 1) := by decide +kernel
theorem dX8_rankOf_96 : decode cX8_rankOf 96 = .ok (.iconst 3, 1) := by decide +kernel
theorem dX8_rankOf_97 : decode cX8_rankOf 97 = .ok (.ireturn, 1) := by decide +kernel
theorem dX8_rankOf_98 : decode cX8_rankOf 98 = .ok (.iconst 4, 1) := by decide +kernel
theorem dX8_rankOf_99 : decode cX8_rankOf 99 = .ok (.ireturn, 1) := by decide +kernel
theorem dX8_rankOf_100 : decode cX8_rankOf 100 = .ok (.iconst 5, 1) := by decide +kernel
theorem dX8_rankOf_101 : decode cX8_rankOf 101 = .ok (.ireturn, 1) := by decide +kernel
theorem dX8_rankOf_102 : decode cX8_rankOf 102 = .ok (.iconst 0, 1) := by decide +kernel
theorem dX8_rankOf_103 : decode cX8_rankOf 103 = .ok (.ireturn, 1) := by decide +kernel
theorem dX8_nameOf_0 : decode cX8_nameOf 0 = .ok (.iload_n 1, 1) := by decide +kernel
theorem dX8_nameOf_1 : decode cX8_nameOf 1 = .ok (.ifCond .ne 7, 3) := by decide +kernel
theorem dX8_nameOf_4 : decode cX8_nameOf 4 = .ok (.iconst 1, 1) := by decide +kernel
theorem dX8_nameOf_5 : decode cX8_nameOf 5 = .ok (.goto 4, 3) := by decide +kernel
theorem dX8_nameOf_8 : decode cX8_nameOf 8 = .ok (.iconst 0, 1) := by decide +kernel
theorem dX8_nameOf_9 : decode cX8_nameOf 9 = .ok (.istore_n 2, 1) := by decide +kernel
theorem dX8_nameOf_10 : decode cX8_nameOf 10 = .ok (.iload_n 0, 1) := by decide +kernel
theorem dX8_nameOf_11 : decode cX8_nameOf 11 = .ok (.iload_n 2, 1) := by decide +kernel
theorem dX8_nameOf_12 : decode cX8_nameOf 12 = .ok (.ifCond .eq 8, 3) := by decide +kernel
theorem dX8_nameOf_15 : decode cX8_nameOf 15 = .ok (.bipush 109, 2) := by decide +kernel
theorem dX8_nameOf_17 : decode cX8_nameOf 17 = .ok (.goto 5, 3) := by decide +kernel
theorem dX8_nameOf_20 : decode cX8_nameOf 20 = .ok (.bipush 116, 2) := by decide +kernel
theorem dX8_nameOf_22 : decode cX8_nameOf 22 = .ok (.if_icmp .ne 5, 3) := by decide +kernel
theorem dX8_nameOf_25 : decode cX8_nameOf 25 = .ok (.iconst (-1), 1) := by decide +kernel
theorem dX8_nameOf_26 : decode cX8_nameOf 26 = .ok (.ireturn, 1) := by decide +kernel
theorem dX8_nameOf_27 : decode cX8_nameOf 27 = .ok (.iload_n 0, 1) := by decide +kernel
theorem dX8_nameOf_28 : decode cX8_nameOf 28 = .ok (.iload_n 2, 1) := by decide +kernel
theorem dX8_nameOf_29 : decode cX8_nameOf 29 = .ok (.ifCond .eq 8, 3) := by decide +kernel
theorem dX8_nameOf_32 : decode cX8_nameOf 32 = .ok (.bipush 100, 2) := by decide +kernel
theorem dX8_nameOf_34 : decode cX8_nameOf 34 = .ok (.goto 5, 3) := by decide +kernel
theorem dX8_nameOf_37 : decode cX8_nameOf 37 = .ok (.bipush 119, 2) := by decide +kernel
theorem dX8_nameOf_39 : decode cX8_nameOf 39 = .ok (.if_icmp .ne 6, 3) := by decide +kernel
theorem dX8_nameOf_42 : decode cX8_nameOf 42 = .ok (.bipush (-2), 2) := by decide +kernel
theorem dX8_nameOf_44 : decode cX8_nameOf 44 = .ok (.ireturn, 1) := by decide +kernel
theorem dX8_nameOf_45 : decode cX8_nameOf 45 = .ok (.iload_n 0, 1) := by decide +kernel
theorem dX8_nameOf_46 : decode cX8_nameOf 46 = .ok (.iload_n 2, 1) := by decide +kernel
theorem dX8_nameOf_47 : decode cX8_nameOf 47 = .ok (.ifCond .eq 8, 3) := by decide +kernel
theorem dX8_nameOf_50 : decode cX8_nameOf 50 = .ok (.bipush 104, 2) := by decide +kernel
theorem dX8_nameOf_52 : decode cX8_nameOf 52 = .ok (.goto 5, 3) := by decide +kernel
theorem dX8_nameOf_55 : decode cX8_nameOf 55 = .ok (.bipush 97, 2) := by decide +kernel
theorem dX8_nameOf_57 : decode cX8_nameOf 57 = .ok (.if_icmp .ne 8, 3) := by decide +kernel
theorem dX8_nameOf_60 : decode cX8_nameOf 60 = .ok (.bipush (-3), 2) := by decide +kernel
theorem dX8_nameOf_62 : decode cX8_nameOf 62 = .ok (.goto 4, 3) := by decide +kernel
theorem dX8_nameOf_65 : decode cX8_nameOf 65 = .ok (.iconst 0, 1) := by decide +kernel
theorem dX8_nameOf_66 : decode cX8_nameOf 66 = .ok (.ireturn, 1) := by decide +kernel
theorem dX9_init_0 : decode cX9_init 0 = .ok (.aload_n 0, 1) := by decide +kernel
theorem dX9_init_1 : decode cX9_init 1 = .ok (.invokespecial 3, 3) := by decide +kernel
theorem dX9_init_4 : decode cX9_init 4 = .ok (.aload_n 0, 1) := by decide +kernel
theorem dX9_init_5 : decode cX9_init 5 = .ok (.bipush 30, 2) := by decide +kernel
theorem dX9_init_7 : decode cX9_init 7 = .ok (.newarray .int, 2) := by decide +kernel
theorem dX9_init_9 : decode cX9_init 9 = .ok (.putfield 11, 3) := by decide +kernel
theorem dX9_init_12 : decode cX9_init 12 = .ok (.aload_n 0, 1) := by decide +kernel
theorem dX9_init_13 : decode cX9_init 13 = .ok (.iconst 0, 1) := by decide +kernel
theorem dX9_init_14 : decode cX9_init 14 = .ok (.putfield 15, 3) := by decide +kernel
theorem dX9_init_17 : decode cX9_init 17 = .ok (.aload_n 0, 1) := by decide +kernel
theorem dX9_init_18 : decode cX9_init 18 = .ok (.iconst 0, 1) := by decide +kernel
theorem dX9_init_19 : decode cX9_init 19 = .ok (.putfield 19, 3) := by decide +kernel
theorem dX9_init_22 : decode cX9_init 22 = .ok (.aload_n 0, 1) := by decide +kernel
theorem dX9_init_23 : decode cX9_init 23 = .ok (.iconst 0, 1) := by decide +kernel
theorem dX9_init_24 : decode cX9_init 24 = .ok (.putfield 23, 3) := by decide +kernel
theorem dX9_init_27 : decode cX9_init 27 = .ok (.aload_n 0, 1) := by decide +kernel
theorem dX9_init_28 : decode cX9_init 28 = .ok (.iconst 0, 1) := by decide +kernel
theorem dX9_init_29 : decode cX9_init 29 = .ok (.putfield 26, 3) := by decide +kernel
theorem dX9_init_32 : decode cX9_init 32 = .ok (.aload_n 0, 1) := by decide +kernel
theorem dX9_init_33 : decode cX9_init 33 = .ok (.iconst 0, 1) := by decide +kernel
theorem dX9_init_34 : decode cX9_init 34 = .ok (.putfield 29, 3) := by decide +kernel
theorem dX9_init_37 : decode cX9_init 37 = .ok (.return_, 1) := by decide +kernel
theorem dX9_hear_0 : decode cX9_hear 0 = .ok (.aload_n 0, 1) := by decide +kernel
theorem dX9_hear_1 : decode cX9_hear 1 = .ok (.iload_n 1, 1) := by decide +kernel
theorem dX9_hear_2 : decode cX9_hear 2 = .ok (.putfield 23, 3) := by decide +kernel
theorem dX9_hear_5 : decode cX9_hear 5 = .ok (.aload_n 0, 1) := by decide +kernel
theorem dX9_hear_6 : decode cX9_hear 6 = .ok (.iload_n 2, 1) := by decide +kernel
theorem dX9_hear_7 : decode cX9_hear 7 = .ok (.putfield 26, 3) := by decide +kernel
theorem dX9_hear_10 : decode cX9_hear 10 = .ok (.aload_n 0, 1) := by decide +kernel
theorem dX9_hear_11 : decode cX9_hear 11 = .ok (.iload_n 3, 1) := by decide +kernel
theorem dX9_hear_12 : decode cX9_hear 12 = .ok (.putfield 29, 3) := by decide +kernel
theorem dX9_hear_15 : decode cX9_hear 15 = .ok (.aload_n 0, 1) := by decide +kernel
theorem dX9_hear_16 : decode cX9_hear 16 = .ok (.iconst 0, 1) := by decide +kernel
theorem dX9_hear_17 : decode cX9_hear 17 = .ok (.putfield 15, 3) := by decide +kernel
theorem dX9_hear_20 : decode cX9_hear 20 = .ok (.aload_n 0, 1) := by decide +kernel
theorem dX9_hear_21 : decode cX9_hear 21 = .ok (.iconst 0, 1) := by decide +kernel
theorem dX9_hear_22 : decode cX9_hear 22 = .ok (.putfield 19, 3) := by decide +kernel
theorem dX9_hear_25 : decode cX9_hear 25 = .ok (.aload_n 0, 1) := by decide +kernel
theorem dX9_hear_26 : decode cX9_hear 26 = .ok (.aload_n 0, 1) := by decide +kernel
theorem dX9_hear_27 : decode cX9_hear 27 = .ok (.getfield 23, 3) := by decide +kernel
theorem dX9_hear_30 : decode cX9_hear 30 = .ok (.iload 4, 2) := by decide +kernel
theorem dX9_hear_32 : decode cX9_hear 32 = .ok (.iload 5, 2) := by decide +kernel
theorem dX9_hear_34 : decode cX9_hear 34 = .ok (.iconst 0, 1) := by decide +kernel
theorem dX9_hear_35 : decode cX9_hear 35 = .ok (.invokevirtual 32, 3) := by decide +kernel
theorem dX9_hear_38 : decode cX9_hear 38 = .ok (.ireturn, 1) := by decide +kernel
theorem dX9_speak_0 : decode cX9_speak 0 = .ok (.iload_n 1, 1) := by decide +kernel
theorem dX9_speak_1 : decode cX9_speak 1 = .ok (.istore 5, 2) := by decide +kernel
theorem dX9_speak_3 : decode cX9_speak 3 = .ok (.iconst 0, 1) := by decide +kernel
theorem dX9_speak_4 : decode cX9_speak 4 = .ok (.istore 6, 2) := by decide +kernel
theorem dX9_speak_6 : decode cX9_speak 6 = .ok (.iload 6, 2) := by decide +kernel
theorem dX9_speak_8 : decode cX9_speak 8 = .ok (.bipush 7, 2) := by decide +kernel
theorem dX9_speak_10 : decode cX9_speak 10 = .ok (.if_icmp .ge 74, 3) := by decide +kernel
theorem dX9_speak_13 : decode cX9_speak 13 = .ok (.iload 5, 2) := by decide +kernel
theorem dX9_speak_15 : decode cX9_speak 15 = .ok (.iconst (-1), 1) := by decide +kernel
theorem dX9_speak_16 : decode cX9_speak 16 = .ok (.if_icmp .eq 68, 3) := by decide +kernel
theorem dX9_speak_19 : decode cX9_speak 19 = .ok (.iconst 4, 1) := by decide +kernel
theorem dX9_speak_20 : decode cX9_speak 20 = .ok (.iload 5, 2) := by decide +kernel
theorem dX9_speak_22 : decode cX9_speak 22 = .ok (.imul, 1) := by decide +kernel
theorem dX9_speak_23 : decode cX9_speak 23 = .ok (.iload_n 2, 1) := by decide +kernel
theorem dX9_speak_24 : decode cX9_speak 24 = .ok (.iadd, 1) := by decide +kernel
theorem dX9_speak_25 : decode cX9_speak 25 = .ok (.istore 7, 2) := by decide +kernel
theorem dX9_speak_27 : decode cX9_speak 27 = .ok (.iload 7, 2) := by decide +kernel
