theorem d_A_disjointBlocks_0 : decode M_A_disjointBlocks.2.1 0 = .ok (.aload_n 0, 1) := by decide +kernel
theorem d_A_disjointBlocks_1 : decode M_A_disjointBlocks.2.1 1 = .ok (.getfield 59, 3) := by decide +kernel
theorem d_A_disjointBlocks_4 : decode M_A_disjointBlocks.2.1 4 = .ok (.aload_n 0, 1) := by decide +kernel
theorem d_A_disjointBlocks_5 : decode M_A_disjointBlocks.2.1 5 = .ok (.getfield 25, 3) := by decide +kernel
theorem d_A_disjointBlocks_8 : decode M_A_disjointBlocks.2.1 8 = .ok (.invokevirtual 265, 3) := by decide +kernel
theorem d_A_disjointBlocks_11 : decode M_A_disjointBlocks.2.1 11 = .ok (.aload_n 0, 1) := by decide +kernel
theorem d_A_disjointBlocks_12 : decode M_A_disjointBlocks.2.1 12 = .ok (.getfield 59, 3) := by decide +kernel
theorem d_A_disjointBlocks_15 : decode M_A_disjointBlocks.2.1 15 = .ok (.invokevirtual 283, 3) := by decide +kernel
theorem d_A_disjointBlocks_18 : decode M_A_disjointBlocks.2.1 18 = .ok (.ireturn, 1) := by decide +kernel
theorem d_A_exchange_0 : decode M_A_exchange.2.1 0 = .ok (.iload_n 1, 1) := by decide +kernel
theorem d_A_exchange_1 : decode M_A_exchange.2.1 1 = .ok (.invokestatic 158, 3) := by decide +kernel
theorem d_A_exchange_4 : decode M_A_exchange.2.1 4 = .ok (.ifCond .eq 19, 3) := by decide +kernel
theorem d_A_exchange_7 : decode M_A_exchange.2.1 7 = .ok (.aload_n 0, 1) := by decide +kernel
theorem d_A_exchange_8 : decode M_A_exchange.2.1 8 = .ok (.iload_n 2, 1) := by decide +kernel
theorem d_A_exchange_9 : decode M_A_exchange.2.1 9 = .ok (.invokevirtual 120, 3) := by decide +kernel
theorem d_A_exchange_12 : decode M_A_exchange.2.1 12 = .ok (.ifCond .eq 11, 3) := by decide +kernel
theorem d_A_exchange_15 : decode M_A_exchange.2.1 15 = .ok (.aload_n 0, 1) := by decide +kernel
theorem d_A_exchange_16 : decode M_A_exchange.2.1 16 = .ok (.iload_n 3, 1) := by decide +kernel
theorem d_A_exchange_17 : decode M_A_exchange.2.1 17 = .ok (.invokevirtual 120, 3) := by decide +kernel
theorem d_A_exchange_20 : decode M_A_exchange.2.1 20 = .ok (.ifCond .ne 5, 3) := by decide +kernel
theorem d_A_exchange_23 : decode M_A_exchange.2.1 23 = .ok (.iconst (-1), 1) := by decide +kernel
theorem d_A_exchange_24 : decode M_A_exchange.2.1 24 = .ok (.ireturn, 1) := by decide +kernel
theorem d_A_exchange_25 : decode M_A_exchange.2.1 25 = .ok (.aload_n 0, 1) := by decide +kernel
theorem d_A_exchange_26 : decode M_A_exchange.2.1 26 = .ok (.getfield 25, 3) := by decide +kernel
theorem d_A_exchange_29 : decode M_A_exchange.2.1 29 = .ok (.iload_n 1, 1) := by decide +kernel
theorem d_A_exchange_30 : decode M_A_exchange.2.1 30 = .ok (.laload, 1) := by decide +kernel
theorem d_A_exchange_31 : decode M_A_exchange.2.1 31 = .ok (.iload_n 2, 1) := by decide +kernel
theorem d_A_exchange_32 : decode M_A_exchange.2.1 32 = .ok (.invokestatic 161, 3) := by decide +kernel
theorem d_A_exchange_35 : decode M_A_exchange.2.1 35 = .ok (.ifCond .eq 16, 3) := by decide +kernel
theorem d_A_exchange_38 : decode M_A_exchange.2.1 38 = .ok (.aload_n 0, 1) := by decide +kernel
theorem d_A_exchange_39 : decode M_A_exchange.2.1 39 = .ok (.getfield 25, 3) := by decide +kernel
theorem d_A_exchange_42 : decode M_A_exchange.2.1 42 = .ok (.iload_n 1, 1) := by decide +kernel
theorem d_A_exchange_43 : decode M_A_exchange.2.1 43 = .ok (.laload, 1) := by decide +kernel
theorem d_A_exchange_44 : decode M_A_exchange.2.1 44 = .ok (.iload_n 3, 1) := by decide +kernel
theorem d_A_exchange_45 : decode M_A_exchange.2.1 45 = .ok (.invokestatic 161, 3) := by decide +kernel
theorem d_A_exchange_48 : decode M_A_exchange.2.1 48 = .ok (.ifCond .eq 6, 3) := by decide +kernel
theorem d_A_exchange_51 : decode M_A_exchange.2.1 51 = .ok (.bipush (-3), 2) := by decide +kernel
theorem d_A_exchange_53 : decode M_A_exchange.2.1 53 = .ok (.ireturn, 1) := by decide +kernel
theorem d_A_exchange_54 : decode M_A_exchange.2.1 54 = .ok (.aload_n 0, 1) := by decide +kernel
theorem d_A_exchange_55 : decode M_A_exchange.2.1 55 = .ok (.getfield 32, 3) := by decide +kernel
theorem d_A_exchange_58 : decode M_A_exchange.2.1 58 = .ok (.aload_n 0, 1) := by decide +kernel
theorem d_A_exchange_59 : decode M_A_exchange.2.1 59 = .ok (.getfield 25, 3) := by decide +kernel
theorem d_A_exchange_62 : decode M_A_exchange.2.1 62 = .ok (.invokevirtual 165, 3) := by decide +kernel
theorem d_A_exchange_65 : decode M_A_exchange.2.1 65 = .ok (.aload_n 0, 1) := by decide +kernel
theorem d_A_exchange_66 : decode M_A_exchange.2.1 66 = .ok (.getfield 25, 3) := by decide +kernel
theorem d_A_exchange_69 : decode M_A_exchange.2.1 69 = .ok (.iload_n 1, 1) := by decide +kernel
theorem d_A_exchange_70 : decode M_A_exchange.2.1 70 = .ok (.dup2, 1) := by decide +kernel
theorem d_A_exchange_71 : decode M_A_exchange.2.1 71 = .ok (.laload, 1) := by decide +kernel
theorem d_A_exchange_72 : decode M_A_exchange.2.1 72 = .ok (.lconst 1, 1) := by decide +kernel
theorem d_A_exchange_73 : decode M_A_exchange.2.1 73 = .ok (.iload_n 2, 1) := by decide +kernel
theorem d_A_exchange_74 : decode M_A_exchange.2.1 74 = .ok (.lshl, 1) := by decide +kernel
theorem d_A_exchange_75 : decode M_A_exchange.2.1 75 = .ok (.lconst 1, 1) := by decide +kernel
theorem d_A_exchange_76 : decode M_A_exchange.2.1 76 = .ok (.iload_n 3, 1) := by decide +kernel
theorem d_A_exchange_77 : decode M_A_exchange.2.1 77 = .ok (.lshl, 1) := by decide +kernel
theorem d_A_exchange_78 : decode M_A_exchange.2.1 78 = .ok (.lor, 1) := by decide +kernel
theorem d_A_exchange_79 : decode M_A_exchange.2.1 79 = .ok (.lxor, 1) := by decide +kernel
theorem d_A_exchange_80 : decode M_A_exchange.2.1 80 = .ok (.lastore, 1) := by decide +kernel
theorem d_A_exchange_81 : decode M_A_exchange.2.1 81 = .ok (.aload_n 0, 1) := by decide +kernel
theorem d_A_exchange_82 : decode M_A_exchange.2.1 82 = .ok (.getfield 36, 3) := by decide +kernel
theorem d_A_exchange_85 : decode M_A_exchange.2.1 85 = .ok (.aload_n 0, 1) := by decide +kernel
theorem d_A_exchange_86 : decode M_A_exchange.2.1 86 = .ok (.getfield 25, 3) := by decide +kernel
theorem d_A_exchange_89 : decode M_A_exchange.2.1 89 = .ok (.invokevirtual 185, 3) := by decide +kernel
theorem d_A_exchange_92 : decode M_A_exchange.2.1 92 = .ok (.aload_n 0, 1) := by decide +kernel
theorem d_A_exchange_93 : decode M_A_exchange.2.1 93 = .ok (.getfield 36, 3) := by decide +kernel
theorem d_A_exchange_96 : decode M_A_exchange.2.1 96 = .ok (.aload_n 0, 1) := by decide +kernel
theorem d_A_exchange_97 : decode M_A_exchange.2.1 97 = .ok (.getfield 94, 3) := by decide +kernel
theorem d_A_exchange_100 : decode M_A_exchange.2.1 100 = .ok (.iconst 1, 1) := by decide +kernel
theorem d_A_exchange_101 : decode M_A_exchange.2.1 101 = .ok (.invokevirtual 188, 3) := by decide +kernel
theorem d_A_exchange_104 : decode M_A_exchange.2.1 104 = .ok (.ireturn, 1) := by decide +kernel
theorem d_J_fillL_0 : decode M_J_fillL.2.1 0 = .ok (.iconst 0, 1) := by decide +kernel
theorem d_J_fillL_1 : decode M_J_fillL.2.1 1 = .ok (.istore_n 3, 1) := by decide +kernel
theorem d_J_fillL_2 : decode M_J_fillL.2.1 2 = .ok (.aload_n 0, 1) := by decide +kernel
theorem d_J_fillL_3 : decode M_J_fillL.2.1 3 = .ok (.arraylength, 1) := by decide +kernel
theorem d_J_fillL_4 : decode M_J_fillL.2.1 4 = .ok (.istore 4, 2) := by decide +kernel
theorem d_J_fillL_6 : decode M_J_fillL.2.1 6 = .ok (.iload_n 3, 1) := by decide +kernel
theorem d_J_fillL_7 : decode M_J_fillL.2.1 7 = .ok (.iload 4, 2) := by decide +kernel
theorem d_J_fillL_9 : decode M_J_fillL.2.1 9 = .ok (.if_icmp .ge 13, 3) := by decide +kernel
theorem d_J_fillL_12 : decode M_J_fillL.2.1 12 = .ok (.aload_n 0, 1) := by decide +kernel
theorem d_J_fillL_13 : decode M_J_fillL.2.1 13 = .ok (.iload_n 3, 1) := by decide +kernel
theorem d_J_fillL_14 : decode M_J_fillL.2.1 14 = .ok (.lload_n 1, 1) := by decide +kernel
theorem d_J_fillL_15 : decode M_J_fillL.2.1 15 = .ok (.lastore, 1) := by decide +kernel
theorem d_J_fillL_16 : decode M_J_fillL.2.1 16 = .ok (.iinc 3 1, 3) := by decide +kernel
theorem d_J_fillL_19 : decode M_J_fillL.2.1 19 = .ok (.goto (-13), 3) := by decide +kernel
theorem d_J_fillL_22 : decode M_J_fillL.2.1 22 = .ok (.return_, 1) := by decide +kernel
theorem d_T_isNextDigit_0 : decode M_T_isNextDigit.2.1 0 = .ok (.aload_n 0, 1) := by decide +kernel
theorem d_T_isNextDigit_1 : decode M_T_isNextDigit.2.1 1 = .ok (.getfield 33, 3) := by decide +kernel
theorem d_T_isNextDigit_4 : decode M_T_isNextDigit.2.1 4 = .ok (.aload_n 0, 1) := by decide +kernel
theorem d_T_isNextDigit_5 : decode M_T_isNextDigit.2.1 5 = .ok (.getfield 39, 3) := by decide +kernel
theorem d_T_isNextDigit_8 : decode M_T_isNextDigit.2.1 8 = .ok (.if_icmp .ge 35, 3) := by decide +kernel
theorem d_T_isNextDigit_11 : decode M_T_isNextDigit.2.1 11 = .ok (.aload_n 0, 1) := by decide +kernel
theorem d_T_isNextDigit_12 : decode M_T_isNextDigit.2.1 12 = .ok (.getfield 11, 3) := by decide +kernel
theorem d_T_isNextDigit_15 : decode M_T_isNextDigit.2.1 15 = .ok (.aload_n 0, 1) := by decide +kernel
theorem d_T_isNextDigit_16 : decode M_T_isNextDigit.2.1 16 = .ok (.getfield 33, 3) := by decide +kernel
theorem d_T_isNextDigit_19 : decode M_T_isNextDigit.2.1 19 = .ok (.caload, 1) := by decide +kernel
theorem d_T_isNextDigit_20 : decode M_T_isNextDigit.2.1 20 = .ok (.bipush 48, 2) := by decide +kernel
theorem d_T_isNextDigit_22 : decode M_T_isNextDigit.2.1 22 = .ok (.if_icmp .lt 21, 3) := by decide +kernel
theorem d_T_isNextDigit_25 : decode M_T_isNextDigit.2.1 25 = .ok (.aload_n 0, 1) := by decide +kernel
theorem d_T_isNextDigit_26 : decode M_T_isNextDigit.2.1 26 = .ok (.getfield 11, 3) := by decide +kernel
theorem d_T_isNextDigit_29 : decode M_T_isNextDigit.2.1 29 = .ok (.aload_n 0, 1) := by decide +kernel
theorem d_T_isNextDigit_30 : decode M_T_isNextDigit.2.1 30 = .ok (.getfield 33, 3) := by decide +kernel
theorem d_T_isNextDigit_33 : decode M_T_isNextDigit.2.1 33 = .ok (.caload, 1) := by decide +kernel
theorem d_T_isNextDigit_34 : decode M_T_isNextDigit.2.1 34 = .ok (.bipush 57, 2) := by decide +kernel
theorem d_T_isNextDigit_36 : decode M_T_isNextDigit.2.1 36 = .ok (.if_icmp .gt 7, 3) := by decide +kernel
theorem d_T_isNextDigit_39 : decode M_T_isNextDigit.2.1 39 = .ok (.iconst 1, 1) := by decide +kernel
theorem d_T_isNextDigit_40 : decode M_T_isNextDigit.2.1 40 = .ok (.goto 4, 3) := by decide +kernel
theorem d_T_isNextDigit_43 : decode M_T_isNextDigit.2.1 43 = .ok (.iconst 0, 1) := by decide +kernel
theorem d_T_isNextDigit_44 : decode M_T_isNextDigit.2.1 44 = .ok (.ireturn, 1) := by decide +kernel
theorem d_T_isNext_0 : decode M_T_isNext.2.1 0 = .ok (.aload_n 0, 1) := by decide +kernel
theorem d_T_isNext_1 : decode M_T_isNext.2.1 1 = .ok (.getfield 33, 3) := by decide +kernel
theorem d_T_isNext_4 : decode M_T_isNext.2.1 4 = .ok (.aload_n 0, 1) := by decide +kernel
theorem d_T_isNext_5 : decode M_T_isNext.2.1 5 = .ok (.getfield 39, 3) := by decide +kernel
theorem d_T_isNext_8 : decode M_T_isNext.2.1 8 = .ok (.if_icmp .ge 20, 3) := by decide +kernel
theorem d_T_isNext_11 : decode M_T_isNext.2.1 11 = .ok (.aload_n 0, 1) := by decide +kernel
theorem d_T_isNext_12 : decode M_T_isNext.2.1 12 = .ok (.getfield 11, 3) := by decide +kernel
theorem d_T_isNext_15 : decode M_T_isNext.2.1 15 = .ok (.aload_n 0, 1) := by decide +kernel
theorem d_T_isNext_16 : decode M_T_isNext.2.1 16 = .ok (.getfield 33, 3) := by decide +kernel
theorem d_T_isNext_19 : decode M_T_isNext.2.1 19 = .ok (.caload, 1) := by decide +kernel
theorem d_T_isNext_20 : decode M_T_isNext.2.1 20 = .ok (.iload_n 1, 1) := by decide +kernel
theorem d_T_isNext_21 : decode M_T_isNext.2.1 21 = .ok (.if_icmp .ne 7, 3) := by decide +kernel
theorem d_T_isNext_24 : decode M_T_isNext.2.1 24 = .ok (.iconst 1, 1) := by decide +kernel
theorem d_T_isNext_25 : decode M_T_isNext.2.1 25 = .ok (.goto 4, 3) := by decide +kernel
theorem d_T_isNext_28 : decode M_T_isNext.2.1 28 = .ok (.iconst 0, 1) := by decide +kernel
theorem d_T_isNext_29 : decode M_T_isNext.2.1 29 = .ok (.ireturn, 1) := by decide +kernel
theorem d_J_min_0 : decode M_J_min.2.1 0 = .ok (.iload_n 0, 1) := by decide +kernel
theorem d_J_min_1 : decode M_J_min.2.1 1 = .ok (.iload_n 1, 1) := by decide +kernel
theorem d_J_min_2 : decode M_J_min.2.1 2 = .ok (.if_icmp .gt 7, 3) := by decide +kernel
theorem d_J_min_5 : decode M_J_min.2.1 5 = .ok (.iload_n 0, 1) := by decide +kernel
theorem d_J_min_6 : decode M_J_min.2.1 6 = .ok (.goto 4, 3) := by decide +kernel
theorem d_J_min_9 : decode M_J_min.2.1 9 = .ok (.iload_n 1, 1) := by decide +kernel
theorem d_J_min_10 : decode M_J_min.2.1 10 = .ok (.ireturn, 1) := by decide +kernel
theorem d_T_parseNumber_0 : decode M_T_parseNumber.2.1 0 = .ok (.aload_n 0, 1) := by decide +kernel
theorem d_T_parseNumber_1 : decode M_T_parseNumber.2.1 1 = .ok (.getfield 33, 3) := by decide +kernel
theorem d_T_parseNumber_4 : decode M_T_parseNumber.2.1 4 = .ok (.istore_n 2, 1) := by decide +kernel
theorem d_T_parseNumber_5 : decode M_T_parseNumber.2.1 5 = .ok (.aload_n 0, 1) := by decide +kernel
theorem d_T_parseNumber_6 : decode M_T_parseNumber.2.1 6 = .ok (.invokevirtual 69, 3) := by decide +kernel
theorem d_T_parseNumber_9 : decode M_T_parseNumber.2.1 9 = .ok (.ifCond .ne 13, 3) := by decide +kernel
theorem d_T_parseNumber_12 : decode M_T_parseNumber.2.1 12 = .ok (.aload_n 0, 1) := by decide +kernel
theorem d_T_parseNumber_13 : decode M_T_parseNumber.2.1 13 = .ok (.aload_n 0, 1) := by decide +kernel
theorem d_T_parseNumber_14 : decode M_T_parseNumber.2.1 14 = .ok (.getfield 33, 3) := by decide +kernel
theorem d_T_parseNumber_17 : decode M_T_parseNumber.2.1 17 = .ok (.putfield 36, 3) := by decide +kernel
theorem d_T_parseNumber_20 : decode M_T_parseNumber.2.1 20 = .ok (.iconst (-1), 1) := by decide +kernel
theorem d_T_parseNumber_21 : decode M_T_parseNumber.2.1 21 = .ok (.ireturn, 1) := by decide +kernel
theorem d_T_parseNumber_22 : decode M_T_parseNumber.2.1 22 = .ok (.aload_n 0, 1) := by decide +kernel
theorem d_T_parseNumber_23 : decode M_T_parseNumber.2.1 23 = .ok (.bipush 48, 2) := by decide +kernel
theorem d_T_parseNumber_25 : decode M_T_parseNumber.2.1 25 = .ok (.invokevirtual 53, 3) := by decide +kernel
theorem d_T_parseNumber_28 : decode M_T_parseNumber.2.1 28 = .ok (.ifCond .eq 15, 3) := by decide +kernel
theorem d_T_parseNumber_31 : decode M_T_parseNumber.2.1 31 = .ok (.aload_n 0, 1) := by decide +kernel
theorem d_T_parseNumber_32 : decode M_T_parseNumber.2.1 32 = .ok (.dup, 1) := by decide +kernel
theorem d_T_parseNumber_33 : decode M_T_parseNumber.2.1 33 = .ok (.getfield 33, 3) := by decide +kernel
theorem d_T_parseNumber_36 : decode M_T_parseNumber.2.1 36 = .ok (.iconst 1, 1) := by decide +kernel
theorem d_T_parseNumber_37 : decode M_T_parseNumber.2.1 37 = .ok (.iadd, 1) := by decide +kernel
theorem d_T_parseNumber_38 : decode M_T_parseNumber.2.1 38 = .ok (.putfield 33, 3) := by decide +kernel
theorem d_T_parseNumber_41 : decode M_T_parseNumber.2.1 41 = .ok (.iconst 0, 1) := by decide +kernel
theorem d_T_parseNumber_42 : decode M_T_parseNumber.2.1 42 = .ok (.ireturn, 1) := by decide +kernel
theorem d_T_parseNumber_43 : decode M_T_parseNumber.2.1 43 = .ok (.iconst 0, 1) := by decide +kernel
theorem d_T_parseNumber_44 : decode M_T_parseNumber.2.1 44 = .ok (.istore_n 3, 1) := by decide +kernel
theorem d_T_parseNumber_45 : decode M_T_parseNumber.2.1 45 = .ok (.aload_n 0, 1) := by decide +kernel
theorem d_T_parseNumber_46 : decode M_T_parseNumber.2.1 46 = .ok (.getfield 33, 3) := by decide +kernel
theorem d_T_parseNumber_49 : decode M_T_parseNumber.2.1 49 = .ok (.aload_n 0, 1) := by decide +kernel
theorem d_T_parseNumber_50 : decode M_T_parseNumber.2.1 50 = .ok (.getfield 39, 3) := by decide +kernel
theorem d_T_parseNumber_53 : decode M_T_parseNumber.2.1 53 = .ok (.if_icmp .ge 47, 3) := by decide +kernel
theorem d_T_parseNumber_56 : decode M_T_parseNumber.2.1 56 = .ok (.aload_n 0, 1) := by decide +kernel
theorem d_T_parseNumber_57 : decode M_T_parseNumber.2.1 57 = .ok (.invokevirtual 69, 3) := by decide +kernel
theorem d_T_parseNumber_60 : decode M_T_parseNumber.2.1 60 = .ok (.ifCond .eq 40, 3) := by decide +kernel
theorem d_T_parseNumber_63 : decode M_T_parseNumber.2.1 63 = .ok (.bipush 10, 2) := by decide +kernel
theorem d_T_parseNumber_65 : decode M_T_parseNumber.2.1 65 = .ok (.iload_n 3, 1) := by decide +kernel
theorem d_T_parseNumber_66 : decode M_T_parseNumber.2.1 66 = .ok (.imul, 1) := by decide +kernel
theorem d_T_parseNumber_67 : decode M_T_parseNumber.2.1 67 = .ok (.aload_n 0, 1) := by decide +kernel
theorem d_T_parseNumber_68 : decode M_T_parseNumber.2.1 68 = .ok (.getfield 11, 3) := by decide +kernel
theorem d_T_parseNumber_71 : decode M_T_parseNumber.2.1 71 = .ok (.aload_n 0, 1) := by decide +kernel
theorem d_T_parseNumber_72 : decode M_T_parseNumber.2.1 72 = .ok (.getfield 33, 3) := by decide +kernel
theorem d_T_parseNumber_75 : decode M_T_parseNumber.2.1 75 = .ok (.caload, 1) := by decide +kernel
theorem d_T_parseNumber_76 : decode M_T_parseNumber.2.1 76 = .ok (.iadd, 1) := by decide +kernel
theorem d_T_parseNumber_77 : decode M_T_parseNumber.2.1 77 = .ok (.bipush 48, 2) := by decide +kernel
theorem d_T_parseNumber_79 : decode M_T_parseNumber.2.1 79 = .ok (.isub, 1) := by decide +kernel
theorem d_T_parseNumber_80 : decode M_T_parseNumber.2.1 80 = .ok (.sipush 1000, 3) := by decide +kernel
theorem d_T_parseNumber_83 : decode M_T_parseNumber.2.1 83 = .ok (.invokestatic 73, 3) := by decide +kernel
theorem d_T_parseNumber_86 : decode M_T_parseNumber.2.1 86 = .ok (.istore_n 3, 1) := by decide +kernel
theorem d_T_parseNumber_87 : decode M_T_parseNumber.2.1 87 = .ok (.aload_n 0, 1) := by decide +kernel
theorem d_T_parseNumber_88 : decode M_T_parseNumber.2.1 88 = .ok (.dup, 1) := by decide +kernel
theorem d_T_parseNumber_89 : decode M_T_parseNumber.2.1 89 = .ok (.getfield 33, 3) := by decide +kernel
theorem d_T_parseNumber_92 : decode M_T_parseNumber.2.1 92 = .ok (.iconst 1, 1) := by decide +kernel
theorem d_T_parseNumber_93 : decode M_T_parseNumber.2.1 93 = .ok (.iadd, 1) := by decide +kernel
theorem d_T_parseNumber_94 : decode M_T_parseNumber.2.1 94 = .ok (.putfield 33, 3) := by decide +kernel
theorem d_T_parseNumber_97 : decode M_T_parseNumber.2.1 97 = .ok (.goto (-52), 3) := by decide +kernel
theorem d_T_parseNumber_100 : decode M_T_parseNumber.2.1 100 = .ok (.iload_n 3, 1) := by decide +kernel
theorem d_T_parseNumber_101 : decode M_T_parseNumber.2.1 101 = .ok (.iload_n 1, 1) := by decide +kernel
theorem d_T_parseNumber_102 : decode M_T_parseNumber.2.1 102 = .ok (.if_icmp .lt 10, 3) := by decide +kernel
theorem d_T_parseNumber_105 : decode M_T_parseNumber.2.1 105 = .ok (.aload_n 0, 1) := by decide +kernel
theorem d_T_parseNumber_106 : decode M_T_parseNumber.2.1 106 = .ok (.iload_n 2, 1) := by decide +kernel
theorem d_T_parseNumber_107 : decode M_T_parseNumber.2.1 107 = .ok (.putfield 36, 3) := by decide +kernel
theorem d_T_parseNumber_110 : decode M_T_parseNumber.2.1 110 = .ok (.iconst (-1), 1) := by decide +kernel
theorem d_T_parseNumber_111 : decode M_T_parseNumber.2.1 111 = .ok (.ireturn, 1) := by decide +kernel
theorem d_T_parseNumber_112 : decode M_T_parseNumber.2.1 112 = .ok (.iload_n 3, 1) := by decide +kernel
theorem d_T_parseNumber_113 : decode M_T_parseNumber.2.1 113 = .ok (.ireturn, 1) := by decide +kernel
theorem d_T_parseElement_0 : decode M_T_parseElement.2.1 0 = .ok (.aload_n 0, 1) := by decide +kernel
theorem d_T_parseElement_1 : decode M_T_parseElement.2.1 1 = .ok (.aload_n 0, 1) := by decide +kernel
theorem d_T_parseElement_2 : decode M_T_parseElement.2.1 2 = .ok (.getfield 19, 3) := by decide +kernel
theorem d_T_parseElement_5 : decode M_T_parseElement.2.1 5 = .ok (.getfield 57, 3) := by decide +kernel
theorem d_T_parseElement_8 : decode M_T_parseElement.2.1 8 = .ok (.invokevirtual 62, 3) := by decide +kernel
theorem d_T_parseElement_11 : decode M_T_parseElement.2.1 11 = .ok (.istore_n 1, 1) := by decide +kernel
theorem d_T_parseElement_12 : decode M_T_parseElement.2.1 12 = .ok (.iload_n 1, 1) := by decide +kernel
theorem d_T_parseElement_13 : decode M_T_parseElement.2.1 13 = .ok (.ifCond .lt 14, 3) := by decide +kernel
theorem d_T_parseElement_16 : decode M_T_parseElement.2.1 16 = .ok (.aload_n 0, 1) := by decide +kernel
theorem d_T_parseElement_17 : decode M_T_parseElement.2.1 17 = .ok (.getfield 19, 3) := by decide +kernel
theorem d_T_parseElement_20 : decode M_T_parseElement.2.1 20 = .ok (.getfield 66, 3) := by decide +kernel
theorem d_T_parseElement_23 : decode M_T_parseElement.2.1 23 = .ok (.iconst 1, 1) := by decide +kernel
theorem d_T_parseElement_24 : decode M_T_parseElement.2.1 24 = .ok (.if_icmp .ne 5, 3) := by decide +kernel
theorem d_T_parseElement_27 : decode M_T_parseElement.2.1 27 = .ok (.iload_n 1, 1) := by decide +kernel
theorem d_T_parseElement_28 : decode M_T_parseElement.2.1 28 = .ok (.ireturn, 1) := by decide +kernel
theorem d_T_parseElement_29 : decode M_T_parseElement.2.1 29 = .ok (.aload_n 0, 1) := by decide +kernel
theorem d_T_parseElement_30 : decode M_T_parseElement.2.1 30 = .ok (.bipush 46, 2) := by decide +kernel
theorem d_T_parseElement_32 : decode M_T_parseElement.2.1 32 = .ok (.invokevirtual 53, 3) := by decide +kernel
theorem d_T_parseElement_35 : decode M_T_parseElement.2.1 35 = .ok (.ifCond .ne 13, 3) := by decide +kernel
theorem d_T_parseElement_38 : decode M_T_parseElement.2.1 38 = .ok (.aload_n 0, 1) := by decide +kernel
theorem d_T_parseElement_39 : decode M_T_parseElement.2.1 39 = .ok (.aload_n 0, 1) := by decide +kernel
theorem d_T_parseElement_40 : decode M_T_parseElement.2.1 40 = .ok (.getfield 33, 3) := by decide +kernel
theorem d_T_parseElement_43 : decode M_T_parseElement.2.1 43 = .ok (.putfield 36, 3) := by decide +kernel
theorem d_T_parseElement_46 : decode M_T_parseElement.2.1 46 = .ok (.iconst (-1), 1) := by decide +kernel
theorem d_T_parseElement_47 : decode M_T_parseElement.2.1 47 = .ok (.ireturn, 1) := by decide +kernel
theorem d_T_parseElement_48 : decode M_T_parseElement.2.1 48 = .ok (.aload_n 0, 1) := by decide +kernel
theorem d_T_parseElement_49 : decode M_T_parseElement.2.1 49 = .ok (.dup, 1) := by decide +kernel
theorem d_T_parseElement_50 : decode M_T_parseElement.2.1 50 = .ok (.getfield 33, 3) := by decide +kernel
theorem d_T_parseElement_53 : decode M_T_parseElement.2.1 53 = .ok (.iconst 1, 1) := by decide +kernel
theorem d_T_parseElement_54 : decode M_T_parseElement.2.1 54 = .ok (.iadd, 1) := by decide +kernel
theorem d_T_parseElement_55 : decode M_T_parseElement.2.1 55 = .ok (.putfield 33, 3) := by decide +kernel
theorem d_T_parseElement_58 : decode M_T_parseElement.2.1 58 = .ok (.aload_n 0, 1) := by decide +kernel
theorem d_T_parseElement_59 : decode M_T_parseElement.2.1 59 = .ok (.aload_n 0, 1) := by decide +kernel
theorem d_T_parseElement_60 : decode M_T_parseElement.2.1 60 = .ok (.getfield 19, 3) := by decide +kernel
theorem d_T_parseElement_63 : decode M_T_parseElement.2.1 63 = .ok (.getfield 66, 3) := by decide +kernel
theorem d_T_parseElement_66 : decode M_T_parseElement.2.1 66 = .ok (.invokevirtual 62, 3) := by decide +kernel
theorem d_T_parseElement_69 : decode M_T_parseElement.2.1 69 = .ok (.istore_n 2, 1) := by decide +kernel
theorem d_T_parseElement_70 : decode M_T_parseElement.2.1 70 = .ok (.iload_n 2, 1) := by decide +kernel
theorem d_T_parseElement_71 : decode M_T_parseElement.2.1 71 = .ok (.ifCond .ge 7, 3) := by decide +kernel
theorem d_T_parseElement_74 : decode M_T_parseElement.2.1 74 = .ok (.iconst (-1), 1) := by decide +kernel
theorem d_T_parseElement_75 : decode M_T_parseElement.2.1 75 = .ok (.goto 14, 3) := by decide +kernel
theorem d_T_parseElement_78 : decode M_T_parseElement.2.1 78 = .ok (.aload_n 0, 1) := by decide +kernel
theorem d_T_parseElement_79 : decode M_T_parseElement.2.1 79 = .ok (.getfield 19, 3) := by decide +kernel
theorem d_T_parseElement_82 : decode M_T_parseElement.2.1 82 = .ok (.getfield 66, 3) := by decide +kernel
theorem d_T_parseElement_85 : decode M_T_parseElement.2.1 85 = .ok (.iload_n 1, 1) := by decide +kernel
theorem d_T_parseElement_86 : decode M_T_parseElement.2.1 86 = .ok (.imul, 1) := by decide +kernel
theorem d_T_parseElement_87 : decode M_T_parseElement.2.1 87 = .ok (.iload_n 2, 1) := by decide +kernel
theorem d_T_parseElement_88 : decode M_T_parseElement.2.1 88 = .ok (.iadd, 1) := by decide +kernel
theorem d_T_parseElement_89 : decode M_T_parseElement.2.1 89 = .ok (.ireturn, 1) := by decide +kernel
theorem d_T_parseBlock_0 : decode M_T_parseBlock.2.1 0 = .ok (.lconst 0, 1) := by decide +kernel
theorem d_T_parseBlock_1 : decode M_T_parseBlock.2.1 1 = .ok (.lstore_n 1, 1) := by decide +kernel
theorem d_T_parseBlock_2 : decode M_T_parseBlock.2.1 2 = .ok (.iconst 0, 1) := by decide +kernel
theorem d_T_parseBlock_3 : decode M_T_parseBlock.2.1 3 = .ok (.istore_n 3, 1) := by decide +kernel
theorem d_T_parseBlock_4 : decode M_T_parseBlock.2.1 4 = .ok (.iload_n 3, 1) := by decide +kernel
theorem d_T_parseBlock_5 : decode M_T_parseBlock.2.1 5 = .ok (.sipush 160, 3) := by decide +kernel
theorem d_T_parseBlock_8 : decode M_T_parseBlock.2.1 8 = .ok (.if_icmp .ge 118, 3) := by decide +kernel
theorem d_T_parseBlock_11 : decode M_T_parseBlock.2.1 11 = .ok (.aload_n 0, 1) := by decide +kernel
theorem d_T_parseBlock_12 : decode M_T_parseBlock.2.1 12 = .ok (.getfield 33, 3) := by decide +kernel
theorem d_T_parseBlock_15 : decode M_T_parseBlock.2.1 15 = .ok (.istore 4, 2) := by decide +kernel
theorem d_T_parseBlock_17 : decode M_T_parseBlock.2.1 17 = .ok (.aload_n 0, 1) := by decide +kernel
theorem d_T_parseBlock_18 : decode M_T_parseBlock.2.1 18 = .ok (.invokevirtual 45, 3) := by decide +kernel
theorem d_T_parseBlock_21 : decode M_T_parseBlock.2.1 21 = .ok (.istore 5, 2) := by decide +kernel
theorem d_T_parseBlock_23 : decode M_T_parseBlock.2.1 23 = .ok (.iload 5, 2) := by decide +kernel
theorem d_T_parseBlock_25 : decode M_T_parseBlock.2.1 25 = .ok (.ifCond .ge 4, 3) := by decide +kernel
theorem d_T_parseBlock_28 : decode M_T_parseBlock.2.1 28 = .ok (.return_, 1) := by decide +kernel
theorem d_T_parseBlock_29 : decode M_T_parseBlock.2.1 29 = .ok (.lload_n 1, 1) := by decide +kernel
theorem d_T_parseBlock_30 : decode M_T_parseBlock.2.1 30 = .ok (.iload 5, 2) := by decide +kernel
theorem d_T_parseBlock_32 : decode M_T_parseBlock.2.1 32 = .ok (.invokestatic 49, 3) := by decide +kernel
theorem d_T_parseBlock_35 : decode M_T_parseBlock.2.1 35 = .ok (.ifCond .eq 10, 3) := by decide +kernel
theorem d_T_parseBlock_38 : decode M_T_parseBlock.2.1 38 = .ok (.aload_n 0, 1) := by decide +kernel
theorem d_T_parseBlock_39 : decode M_T_parseBlock.2.1 39 = .ok (.iload 4, 2) := by decide +kernel
theorem d_T_parseBlock_41 : decode M_T_parseBlock.2.1 41 = .ok (.putfield 36, 3) := by decide +kernel
theorem d_T_parseBlock_44 : decode M_T_parseBlock.2.1 44 = .ok (.return_, 1) := by decide +kernel
theorem d_T_parseBlock_45 : decode M_T_parseBlock.2.1 45 = .ok (.lload_n 1, 1) := by decide +kernel
theorem d_T_parseBlock_46 : decode M_T_parseBlock.2.1 46 = .ok (.lconst 1, 1) := by decide +kernel
theorem d_T_parseBlock_47 : decode M_T_parseBlock.2.1 47 = .ok (.iload 5, 2) := by decide +kernel
theorem d_T_parseBlock_49 : decode M_T_parseBlock.2.1 49 = .ok (.lshl, 1) := by decide +kernel
theorem d_T_parseBlock_50 : decode M_T_parseBlock.2.1 50 = .ok (.lor, 1) := by decide +kernel
theorem d_T_parseBlock_51 : decode M_T_parseBlock.2.1 51 = .ok (.lstore_n 1, 1) := by decide +kernel
theorem d_T_parseBlock_52 : decode M_T_parseBlock.2.1 52 = .ok (.aload_n 0, 1) := by decide +kernel
theorem d_T_parseBlock_53 : decode M_T_parseBlock.2.1 53 = .ok (.bipush 59, 2) := by decide +kernel
theorem d_T_parseBlock_55 : decode M_T_parseBlock.2.1 55 = .ok (.invokevirtual 53, 3) := by decide +kernel
theorem d_T_parseBlock_58 : decode M_T_parseBlock.2.1 58 = .ok (.ifCond .eq 34, 3) := by decide +kernel
theorem d_T_parseBlock_61 : decode M_T_parseBlock.2.1 61 = .ok (.aload_n 0, 1) := by decide +kernel
theorem d_T_parseBlock_62 : decode M_T_parseBlock.2.1 62 = .ok (.dup, 1) := by decide +kernel
theorem d_T_parseBlock_63 : decode M_T_parseBlock.2.1 63 = .ok (.getfield 33, 3) := by decide +kernel
theorem d_T_parseBlock_66 : decode M_T_parseBlock.2.1 66 = .ok (.iconst 1, 1) := by decide +kernel
theorem d_T_parseBlock_67 : decode M_T_parseBlock.2.1 67 = .ok (.iadd, 1) := by decide +kernel
theorem d_T_parseBlock_68 : decode M_T_parseBlock.2.1 68 = .ok (.putfield 33, 3) := by decide +kernel
theorem d_T_parseBlock_71 : decode M_T_parseBlock.2.1 71 = .ok (.aload_n 0, 1) := by decide +kernel
theorem d_T_parseBlock_72 : decode M_T_parseBlock.2.1 72 = .ok (.getfield 15, 3) := by decide +kernel
theorem d_T_parseBlock_75 : decode M_T_parseBlock.2.1 75 = .ok (.aload_n 0, 1) := by decide +kernel
theorem d_T_parseBlock_76 : decode M_T_parseBlock.2.1 76 = .ok (.getfield 29, 3) := by decide +kernel
theorem d_T_parseBlock_79 : decode M_T_parseBlock.2.1 79 = .ok (.lload_n 1, 1) := by decide +kernel
theorem d_T_parseBlock_80 : decode M_T_parseBlock.2.1 80 = .ok (.lastore, 1) := by decide +kernel
theorem d_T_parseBlock_81 : decode M_T_parseBlock.2.1 81 = .ok (.aload_n 0, 1) := by decide +kernel
theorem d_T_parseBlock_82 : decode M_T_parseBlock.2.1 82 = .ok (.dup, 1) := by decide +kernel
theorem d_T_parseBlock_83 : decode M_T_parseBlock.2.1 83 = .ok (.getfield 29, 3) := by decide +kernel
theorem d_T_parseBlock_86 : decode M_T_parseBlock.2.1 86 = .ok (.iconst 1, 1) := by decide +kernel
theorem d_T_parseBlock_87 : decode M_T_parseBlock.2.1 87 = .ok (.iadd, 1) := by decide +kernel
theorem d_T_parseBlock_88 : decode M_T_parseBlock.2.1 88 = .ok (.putfield 29, 3) := by decide +kernel
theorem d_T_parseBlock_91 : decode M_T_parseBlock.2.1 91 = .ok (.return_, 1) := by decide +kernel
theorem d_T_parseBlock_92 : decode M_T_parseBlock.2.1 92 = .ok (.aload_n 0, 1) := by decide +kernel
theorem d_T_parseBlock_93 : decode M_T_parseBlock.2.1 93 = .ok (.bipush 44, 2) := by decide +kernel
theorem d_T_parseBlock_95 : decode M_T_parseBlock.2.1 95 = .ok (.invokevirtual 53, 3) := by decide +kernel
theorem d_T_parseBlock_98 : decode M_T_parseBlock.2.1 98 = .ok (.ifCond .ne 12, 3) := by decide +kernel
theorem d_T_parseBlock_101 : decode M_T_parseBlock.2.1 101 = .ok (.aload_n 0, 1) := by decide +kernel
theorem d_T_parseBlock_102 : decode M_T_parseBlock.2.1 102 = .ok (.aload_n 0, 1) := by decide +kernel
theorem d_T_parseBlock_103 : decode M_T_parseBlock.2.1 103 = .ok (.getfield 33, 3) := by decide +kernel
theorem d_T_parseBlock_106 : decode M_T_parseBlock.2.1 106 = .ok (.putfield 36, 3) := by decide +kernel
theorem d_T_parseBlock_109 : decode M_T_parseBlock.2.1 109 = .ok (.return_, 1) := by decide +kernel
theorem d_T_parseBlock_110 : decode M_T_parseBlock.2.1 110 = .ok (.aload_n 0, 1) := by decide +kernel
theorem d_T_parseBlock_111 : decode M_T_parseBlock.2.1 111 = .ok (.dup, 1) := by decide +kernel
theorem d_T_parseBlock_112 : decode M_T_parseBlock.2.1 112 = .ok (.getfield 33, 3) := by decide +kernel
theorem d_T_parseBlock_115 : decode M_T_parseBlock.2.1 115 = .ok (.iconst 1, 1) := by decide +kernel
theorem d_T_parseBlock_116 : decode M_T_parseBlock.2.1 116 = .ok (.iadd, 1) := by decide +kernel
theorem d_T_parseBlock_117 : decode M_T_parseBlock.2.1 117 = .ok (.putfield 33, 3) := by decide +kernel
theorem d_T_parseBlock_120 : decode M_T_parseBlock.2.1 120 = .ok (.iinc 3 1, 3) := by decide +kernel
theorem d_T_parseBlock_123 : decode M_T_parseBlock.2.1 123 = .ok (.goto (-119), 3) := by decide +kernel
theorem d_T_parseBlock_126 : decode M_T_parseBlock.2.1 126 = .ok (.return_, 1) := by decide +kernel
theorem d_T_parse_0 : decode M_T_parse.2.1 0 = .ok (.aload_n 0, 1) := by decide +kernel
theorem d_T_parse_1 : decode M_T_parse.2.1 1 = .ok (.getfield 15, 3) := by decide +kernel
theorem d_T_parse_4 : decode M_T_parse.2.1 4 = .ok (.lconst 0, 1) := by decide +kernel
theorem d_T_parse_5 : decode M_T_parse.2.1 5 = .ok (.invokestatic 23, 3) := by decide +kernel
theorem d_T_parse_8 : decode M_T_parse.2.1 8 = .ok (.aload_n 0, 1) := by decide +kernel
theorem d_T_parse_9 : decode M_T_parse.2.1 9 = .ok (.iconst 0, 1) := by decide +kernel
theorem d_T_parse_10 : decode M_T_parse.2.1 10 = .ok (.putfield 29, 3) := by decide +kernel
theorem d_T_parse_13 : decode M_T_parse.2.1 13 = .ok (.aload_n 0, 1) := by decide +kernel
theorem d_T_parse_14 : decode M_T_parse.2.1 14 = .ok (.iconst 0, 1) := by decide +kernel
theorem d_T_parse_15 : decode M_T_parse.2.1 15 = .ok (.putfield 33, 3) := by decide +kernel
theorem d_T_parse_18 : decode M_T_parse.2.1 18 = .ok (.aload_n 0, 1) := by decide +kernel
theorem d_T_parse_19 : decode M_T_parse.2.1 19 = .ok (.bipush (-4), 2) := by decide +kernel
theorem d_T_parse_21 : decode M_T_parse.2.1 21 = .ok (.putfield 36, 3) := by decide +kernel
theorem d_T_parse_24 : decode M_T_parse.2.1 24 = .ok (.iconst 0, 1) := by decide +kernel
theorem d_T_parse_25 : decode M_T_parse.2.1 25 = .ok (.istore_n 1, 1) := by decide +kernel
theorem d_T_parse_26 : decode M_T_parse.2.1 26 = .ok (.iload_n 1, 1) := by decide +kernel
theorem d_T_parse_27 : decode M_T_parse.2.1 27 = .ok (.bipush 6, 2) := by decide +kernel
theorem d_T_parse_29 : decode M_T_parse.2.1 29 = .ok (.if_icmp .ge 33, 3) := by decide +kernel
theorem d_T_parse_32 : decode M_T_parse.2.1 32 = .ok (.aload_n 0, 1) := by decide +kernel
theorem d_T_parse_33 : decode M_T_parse.2.1 33 = .ok (.getfield 36, 3) := by decide +kernel
theorem d_T_parse_36 : decode M_T_parse.2.1 36 = .ok (.bipush (-4), 2) := by decide +kernel
theorem d_T_parse_38 : decode M_T_parse.2.1 38 = .ok (.if_icmp .ne 24, 3) := by decide +kernel
theorem d_T_parse_41 : decode M_T_parse.2.1 41 = .ok (.aload_n 0, 1) := by decide +kernel
theorem d_T_parse_42 : decode M_T_parse.2.1 42 = .ok (.getfield 33, 3) := by decide +kernel
theorem d_T_parse_45 : decode M_T_parse.2.1 45 = .ok (.aload_n 0, 1) := by decide +kernel
theorem d_T_parse_46 : decode M_T_parse.2.1 46 = .ok (.getfield 39, 3) := by decide +kernel
theorem d_T_parse_49 : decode M_T_parse.2.1 49 = .ok (.if_icmp .ge 13, 3) := by decide +kernel
theorem d_T_parse_52 : decode M_T_parse.2.1 52 = .ok (.aload_n 0, 1) := by decide +kernel
theorem d_T_parse_53 : decode M_T_parse.2.1 53 = .ok (.invokevirtual 42, 3) := by decide +kernel
theorem d_T_parse_56 : decode M_T_parse.2.1 56 = .ok (.iinc 1 1, 3) := by decide +kernel
theorem d_T_parse_59 : decode M_T_parse.2.1 59 = .ok (.goto (-33), 3) := by decide +kernel
theorem d_T_parse_62 : decode M_T_parse.2.1 62 = .ok (.aload_n 0, 1) := by decide +kernel
theorem d_T_parse_63 : decode M_T_parse.2.1 63 = .ok (.getfield 36, 3) := by decide +kernel
theorem d_T_parse_66 : decode M_T_parse.2.1 66 = .ok (.bipush (-4), 2) := by decide +kernel
theorem d_T_parse_68 : decode M_T_parse.2.1 68 = .ok (.if_icmp .ne 22, 3) := by decide +kernel
theorem d_T_parse_71 : decode M_T_parse.2.1 71 = .ok (.aload_n 0, 1) := by decide +kernel
theorem d_T_parse_72 : decode M_T_parse.2.1 72 = .ok (.getfield 33, 3) := by decide +kernel
theorem d_T_parse_75 : decode M_T_parse.2.1 75 = .ok (.aload_n 0, 1) := by decide +kernel
theorem d_T_parse_76 : decode M_T_parse.2.1 76 = .ok (.getfield 39, 3) := by decide +kernel
theorem d_T_parse_79 : decode M_T_parse.2.1 79 = .ok (.if_icmp .ge 11, 3) := by decide +kernel
theorem d_T_parse_82 : decode M_T_parse.2.1 82 = .ok (.aload_n 0, 1) := by decide +kernel
theorem d_T_parse_83 : decode M_T_parse.2.1 83 = .ok (.aload_n 0, 1) := by decide +kernel
theorem d_T_parse_84 : decode M_T_parse.2.1 84 = .ok (.getfield 33, 3) := by decide +kernel
theorem d_T_parse_87 : decode M_T_parse.2.1 87 = .ok (.putfield 36, 3) := by decide +kernel
theorem d_T_parse_90 : decode M_T_parse.2.1 90 = .ok (.return_, 1) := by decide +kernel
theorem d_A_faultPosition_0 : decode M_A_faultPosition.2.1 0 = .ok (.aload_n 0, 1) := by decide +kernel
theorem d_A_faultPosition_1 : decode M_A_faultPosition.2.1 1 = .ok (.getfield 80, 3) := by decide +kernel
theorem d_A_faultPosition_4 : decode M_A_faultPosition.2.1 4 = .ok (.invokevirtual 324, 3) := by decide +kernel
theorem d_A_faultPosition_7 : decode M_A_faultPosition.2.1 7 = .ok (.aload_n 0, 1) := by decide +kernel
theorem d_A_faultPosition_8 : decode M_A_faultPosition.2.1 8 = .ok (.getfield 80, 3) := by decide +kernel
theorem d_A_faultPosition_11 : decode M_A_faultPosition.2.1 11 = .ok (.getfield 327, 3) := by decide +kernel
theorem d_A_faultPosition_14 : decode M_A_faultPosition.2.1 14 = .ok (.ireturn, 1) := by decide +kernel
theorem d_A_filledBlocks_0 : decode M_A_filledBlocks.2.1 0 = .ok (.iconst 0, 1) := by decide +kernel
theorem d_A_filledBlocks_1 : decode M_A_filledBlocks.2.1 1 = .ok (.istore_n 1, 1) := by decide +kernel
theorem d_A_filledBlocks_2 : decode M_A_filledBlocks.2.1 2 = .ok (.iconst 0, 1) := by decide +kernel
theorem d_A_filledBlocks_3 : decode M_A_filledBlocks.2.1 3 = .ok (.istore_n 2, 1) := by decide +kernel
theorem d_A_filledBlocks_4 : decode M_A_filledBlocks.2.1 4 = .ok (.iload_n 2, 1) := by decide +kernel
theorem d_A_filledBlocks_5 : decode M_A_filledBlocks.2.1 5 = .ok (.bipush 6, 2) := by decide +kernel
theorem d_A_filledBlocks_7 : decode M_A_filledBlocks.2.1 7 = .ok (.if_icmp .ge 23, 3) := by decide +kernel
theorem d_A_filledBlocks_10 : decode M_A_filledBlocks.2.1 10 = .ok (.aload_n 0, 1) := by decide +kernel
theorem d_A_filledBlocks_11 : decode M_A_filledBlocks.2.1 11 = .ok (.getfield 25, 3) := by decide +kernel
theorem d_A_filledBlocks_14 : decode M_A_filledBlocks.2.1 14 = .ok (.iload_n 2, 1) := by decide +kernel
theorem d_A_filledBlocks_15 : decode M_A_filledBlocks.2.1 15 = .ok (.laload, 1) := by decide +kernel
theorem d_A_filledBlocks_16 : decode M_A_filledBlocks.2.1 16 = .ok (.lconst 0, 1) := by decide +kernel
theorem d_A_filledBlocks_17 : decode M_A_filledBlocks.2.1 17 = .ok (.lcmp, 1) := by decide +kernel
theorem d_A_filledBlocks_18 : decode M_A_filledBlocks.2.1 18 = .ok (.ifCond .eq 6, 3) := by decide +kernel
theorem d_A_filledBlocks_21 : decode M_A_filledBlocks.2.1 21 = .ok (.iinc 1 1, 3) := by decide +kernel
theorem d_A_filledBlocks_24 : decode M_A_filledBlocks.2.1 24 = .ok (.iinc 2 1, 3) := by decide +kernel
theorem d_A_filledBlocks_27 : decode M_A_filledBlocks.2.1 27 = .ok (.goto (-23), 3) := by decide +kernel
theorem d_A_filledBlocks_30 : decode M_A_filledBlocks.2.1 30 = .ok (.iload_n 1, 1) := by decide +kernel
theorem d_A_filledBlocks_31 : decode M_A_filledBlocks.2.1 31 = .ok (.ireturn, 1) := by decide +kernel
theorem d_J_max_0 : decode M_J_max.2.1 0 = .ok (.iload_n 0, 1) := by decide +kernel
theorem d_J_max_1 : decode M_J_max.2.1 1 = .ok (.iload_n 1, 1) := by decide +kernel
theorem d_J_max_2 : decode M_J_max.2.1 2 = .ok (.if_icmp .lt 7, 3) := by decide +kernel
theorem d_J_max_5 : decode M_J_max.2.1 5 = .ok (.iload_n 0, 1) := by decide +kernel
theorem d_J_max_6 : decode M_J_max.2.1 6 = .ok (.goto 4, 3) := by decide +kernel
theorem d_J_max_9 : decode M_J_max.2.1 9 = .ok (.iload_n 1, 1) := by decide +kernel
theorem d_J_max_10 : decode M_J_max.2.1 10 = .ok (.ireturn, 1) := by decide +kernel
theorem d_F_greatest_0 : decode M_F_greatest.2.1 0 = .ok (.iconst 0, 1) := by decide +kernel
theorem d_F_greatest_1 : decode M_F_greatest.2.1 1 = .ok (.istore_n 1, 1) := by decide +kernel
theorem d_F_greatest_2 : decode M_F_greatest.2.1 2 = .ok (.iconst 1, 1) := by decide +kernel
theorem d_F_greatest_3 : decode M_F_greatest.2.1 3 = .ok (.istore_n 2, 1) := by decide +kernel
theorem d_F_greatest_4 : decode M_F_greatest.2.1 4 = .ok (.iload_n 2, 1) := by decide +kernel
theorem d_F_greatest_5 : decode M_F_greatest.2.1 5 = .ok (.aload_n 0, 1) := by decide +kernel
theorem d_F_greatest_6 : decode M_F_greatest.2.1 6 = .ok (.getfield 15, 3) := by decide +kernel
theorem d_F_greatest_9 : decode M_F_greatest.2.1 9 = .ok (.getfield 29, 3) := by decide +kernel
theorem d_F_greatest_12 : decode M_F_greatest.2.1 12 = .ok (.if_icmp .ge 20, 3) := by decide +kernel
theorem d_F_greatest_15 : decode M_F_greatest.2.1 15 = .ok (.iload_n 1, 1) := by decide +kernel
theorem d_F_greatest_16 : decode M_F_greatest.2.1 16 = .ok (.aload_n 0, 1) := by decide +kernel
theorem d_F_greatest_17 : decode M_F_greatest.2.1 17 = .ok (.getfield 9, 3) := by decide +kernel
theorem d_F_greatest_20 : decode M_F_greatest.2.1 20 = .ok (.iload_n 2, 1) := by decide +kernel
theorem d_F_greatest_21 : decode M_F_greatest.2.1 21 = .ok (.iaload, 1) := by decide +kernel
theorem d_F_greatest_22 : decode M_F_greatest.2.1 22 = .ok (.invokestatic 59, 3) := by decide +kernel
theorem d_F_greatest_25 : decode M_F_greatest.2.1 25 = .ok (.istore_n 1, 1) := by decide +kernel
theorem d_F_greatest_26 : decode M_F_greatest.2.1 26 = .ok (.iinc 2 1, 3) := by decide +kernel
theorem d_F_greatest_29 : decode M_F_greatest.2.1 29 = .ok (.goto (-25), 3) := by decide +kernel
theorem d_F_greatest_32 : decode M_F_greatest.2.1 32 = .ok (.iload_n 1, 1) := by decide +kernel
theorem d_F_greatest_33 : decode M_F_greatest.2.1 33 = .ok (.ireturn, 1) := by decide +kernel
theorem d_A_greatestCount_0 : decode M_A_greatestCount.2.1 0 = .ok (.aload_n 0, 1) := by decide +kernel
theorem d_A_greatestCount_1 : decode M_A_greatestCount.2.1 1 = .ok (.getfield 36, 3) := by decide +kernel
theorem d_A_greatestCount_4 : decode M_A_greatestCount.2.1 4 = .ok (.aload_n 0, 1) := by decide +kernel
theorem d_A_greatestCount_5 : decode M_A_greatestCount.2.1 5 = .ok (.getfield 25, 3) := by decide +kernel
theorem d_A_greatestCount_8 : decode M_A_greatestCount.2.1 8 = .ok (.invokevirtual 185, 3) := by decide +kernel
theorem d_A_greatestCount_11 : decode M_A_greatestCount.2.1 11 = .ok (.aload_n 0, 1) := by decide +kernel
theorem d_A_greatestCount_12 : decode M_A_greatestCount.2.1 12 = .ok (.getfield 36, 3) := by decide +kernel
theorem d_A_greatestCount_15 : decode M_A_greatestCount.2.1 15 = .ok (.invokevirtual 227, 3) := by decide +kernel
theorem d_A_greatestCount_18 : decode M_A_greatestCount.2.1 18 = .ok (.ireturn, 1) := by decide +kernel
theorem d_G_imageBy_0 : decode M_G_imageBy.2.1 0 = .ok (.aload_n 0, 1) := by decide +kernel
theorem d_G_imageBy_1 : decode M_G_imageBy.2.1 1 = .ok (.aload_n 0, 1) := by decide +kernel
theorem d_G_imageBy_2 : decode M_G_imageBy.2.1 2 = .ok (.getfield 24, 3) := by decide +kernel
theorem d_G_imageBy_5 : decode M_G_imageBy.2.1 5 = .ok (.iload_n 1, 1) := by decide +kernel
theorem d_G_imageBy_6 : decode M_G_imageBy.2.1 6 = .ok (.iaload, 1) := by decide +kernel
theorem d_G_imageBy_7 : decode M_G_imageBy.2.1 7 = .ok (.aload_n 0, 1) := by decide +kernel
theorem d_G_imageBy_8 : decode M_G_imageBy.2.1 8 = .ok (.getfield 9, 3) := by decide +kernel
theorem d_G_imageBy_11 : decode M_G_imageBy.2.1 11 = .ok (.iload_n 2, 1) := by decide +kernel
theorem d_G_imageBy_12 : decode M_G_imageBy.2.1 12 = .ok (.iaload, 1) := by decide +kernel
theorem d_G_imageBy_13 : decode M_G_imageBy.2.1 13 = .ok (.invokevirtual 73, 3) := by decide +kernel
theorem d_G_imageBy_16 : decode M_G_imageBy.2.1 16 = .ok (.istore_n 3, 1) := by decide +kernel
theorem d_G_imageBy_17 : decode M_G_imageBy.2.1 17 = .ok (.aload_n 0, 1) := by decide +kernel
theorem d_G_imageBy_18 : decode M_G_imageBy.2.1 18 = .ok (.aload_n 0, 1) := by decide +kernel
theorem d_G_imageBy_19 : decode M_G_imageBy.2.1 19 = .ok (.getfield 27, 3) := by decide +kernel
theorem d_G_imageBy_22 : decode M_G_imageBy.2.1 22 = .ok (.iload_n 1, 1) := by decide +kernel
theorem d_G_imageBy_23 : decode M_G_imageBy.2.1 23 = .ok (.iaload, 1) := by decide +kernel
theorem d_G_imageBy_24 : decode M_G_imageBy.2.1 24 = .ok (.aload_n 0, 1) := by decide +kernel
theorem d_G_imageBy_25 : decode M_G_imageBy.2.1 25 = .ok (.getfield 15, 3) := by decide +kernel
theorem d_G_imageBy_28 : decode M_G_imageBy.2.1 28 = .ok (.iload_n 2, 1) := by decide +kernel
theorem d_G_imageBy_29 : decode M_G_imageBy.2.1 29 = .ok (.iaload, 1) := by decide +kernel
theorem d_G_imageBy_30 : decode M_G_imageBy.2.1 30 = .ok (.invokevirtual 73, 3) := by decide +kernel
theorem d_G_imageBy_33 : decode M_G_imageBy.2.1 33 = .ok (.istore 4, 2) := by decide +kernel
theorem d_G_imageBy_35 : decode M_G_imageBy.2.1 35 = .ok (.aload_n 0, 1) := by decide +kernel
theorem d_G_imageBy_36 : decode M_G_imageBy.2.1 36 = .ok (.iload_n 3, 1) := by decide +kernel
theorem d_G_imageBy_37 : decode M_G_imageBy.2.1 37 = .ok (.iload 4, 2) := by decide +kernel
theorem d_G_imageBy_39 : decode M_G_imageBy.2.1 39 = .ok (.invokevirtual 54, 3) := by decide +kernel
theorem d_G_imageBy_42 : decode M_G_imageBy.2.1 42 = .ok (.ireturn, 1) := by decide +kernel
theorem d_A_image_0 : decode M_A_image.2.1 0 = .ok (.aload_n 0, 1) := by decide +kernel
theorem d_A_image_1 : decode M_A_image.2.1 1 = .ok (.iload_n 1, 1) := by decide +kernel
theorem d_A_image_2 : decode M_A_image.2.1 2 = .ok (.invokevirtual 142, 3) := by decide +kernel
theorem d_A_image_5 : decode M_A_image.2.1 5 = .ok (.ifCond .eq 11, 3) := by decide +kernel
theorem d_A_image_8 : decode M_A_image.2.1 8 = .ok (.aload_n 0, 1) := by decide +kernel
theorem d_A_image_9 : decode M_A_image.2.1 9 = .ok (.iload_n 2, 1) := by decide +kernel
theorem d_A_image_10 : decode M_A_image.2.1 10 = .ok (.invokevirtual 120, 3) := by decide +kernel
theorem d_A_image_13 : decode M_A_image.2.1 13 = .ok (.ifCond .ne 5, 3) := by decide +kernel
theorem d_A_image_16 : decode M_A_image.2.1 16 = .ok (.iconst (-1), 1) := by decide +kernel
theorem d_A_image_17 : decode M_A_image.2.1 17 = .ok (.ireturn, 1) := by decide +kernel
theorem d_A_image_18 : decode M_A_image.2.1 18 = .ok (.aload_n 0, 1) := by decide +kernel
theorem d_A_image_19 : decode M_A_image.2.1 19 = .ok (.getfield 19, 3) := by decide +kernel
theorem d_A_image_22 : decode M_A_image.2.1 22 = .ok (.iload_n 1, 1) := by decide +kernel
theorem d_A_image_23 : decode M_A_image.2.1 23 = .ok (.iload_n 2, 1) := by decide +kernel
theorem d_A_image_24 : decode M_A_image.2.1 24 = .ok (.invokevirtual 145, 3) := by decide +kernel
theorem d_A_image_27 : decode M_A_image.2.1 27 = .ok (.ireturn, 1) := by decide +kernel
theorem d_X_tryFor_0 : decode M_X_tryFor.2.1 0 = .ok (.iconst 0, 1) := by decide +kernel
theorem d_X_tryFor_1 : decode M_X_tryFor.2.1 1 = .ok (.istore 9, 2) := by decide +kernel
theorem d_X_tryFor_3 : decode M_X_tryFor.2.1 3 = .ok (.iload 9, 2) := by decide +kernel
theorem d_X_tryFor_5 : decode M_X_tryFor.2.1 5 = .ok (.aload_n 0, 1) := by decide +kernel
theorem d_X_tryFor_6 : decode M_X_tryFor.2.1 6 = .ok (.getfield 9, 3) := by decide +kernel
theorem d_X_tryFor_9 : decode M_X_tryFor.2.1 9 = .ok (.getfield 41, 3) := by decide +kernel
theorem d_X_tryFor_12 : decode M_X_tryFor.2.1 12 = .ok (.if_icmp .ge 68, 3) := by decide +kernel
theorem d_X_tryFor_15 : decode M_X_tryFor.2.1 15 = .ok (.lload 4, 2) := by decide +kernel
theorem d_X_tryFor_17 : decode M_X_tryFor.2.1 17 = .ok (.iload 9, 2) := by decide +kernel
theorem d_X_tryFor_19 : decode M_X_tryFor.2.1 19 = .ok (.invokestatic 46, 3) := by decide +kernel
theorem d_X_tryFor_22 : decode M_X_tryFor.2.1 22 = .ok (.ifCond .ne 52, 3) := by decide +kernel
theorem d_X_tryFor_25 : decode M_X_tryFor.2.1 25 = .ok (.aload_n 0, 1) := by decide +kernel
theorem d_X_tryFor_26 : decode M_X_tryFor.2.1 26 = .ok (.getfield 15, 3) := by decide +kernel
theorem d_X_tryFor_29 : decode M_X_tryFor.2.1 29 = .ok (.lload_n 2, 1) := by decide +kernel
theorem d_X_tryFor_30 : decode M_X_tryFor.2.1 30 = .ok (.lconst 1, 1) := by decide +kernel
theorem d_X_tryFor_31 : decode M_X_tryFor.2.1 31 = .ok (.iload 9, 2) := by decide +kernel
theorem d_X_tryFor_33 : decode M_X_tryFor.2.1 33 = .ok (.lshl, 1) := by decide +kernel
theorem d_X_tryFor_34 : decode M_X_tryFor.2.1 34 = .ok (.lor, 1) := by decide +kernel
theorem d_X_tryFor_35 : decode M_X_tryFor.2.1 35 = .ok (.lload 6, 2) := by decide +kernel
theorem d_X_tryFor_37 : decode M_X_tryFor.2.1 37 = .ok (.iload 8, 2) := by decide +kernel
theorem d_X_tryFor_39 : decode M_X_tryFor.2.1 39 = .ok (.invokevirtual 56, 3) := by decide +kernel
theorem d_X_tryFor_42 : decode M_X_tryFor.2.1 42 = .ok (.istore 10, 2) := by decide +kernel
theorem d_X_tryFor_44 : decode M_X_tryFor.2.1 44 = .ok (.iload 10, 2) := by decide +kernel
theorem d_X_tryFor_46 : decode M_X_tryFor.2.1 46 = .ok (.aload_n 0, 1) := by decide +kernel
theorem d_X_tryFor_47 : decode M_X_tryFor.2.1 47 = .ok (.getfield 29, 3) := by decide +kernel
theorem d_X_tryFor_50 : decode M_X_tryFor.2.1 50 = .ok (.if_icmp .ge 24, 3) := by decide +kernel
theorem d_X_tryFor_53 : decode M_X_tryFor.2.1 53 = .ok (.aload_n 0, 1) := by decide +kernel
theorem d_X_tryFor_54 : decode M_X_tryFor.2.1 54 = .ok (.iload 10, 2) := by decide +kernel
theorem d_X_tryFor_56 : decode M_X_tryFor.2.1 56 = .ok (.putfield 29, 3) := by decide +kernel
theorem d_X_tryFor_59 : decode M_X_tryFor.2.1 59 = .ok (.aload_n 0, 1) := by decide +kernel
theorem d_X_tryFor_60 : decode M_X_tryFor.2.1 60 = .ok (.iload_n 1, 1) := by decide +kernel
theorem d_X_tryFor_61 : decode M_X_tryFor.2.1 61 = .ok (.putfield 60, 3) := by decide +kernel
theorem d_X_tryFor_64 : decode M_X_tryFor.2.1 64 = .ok (.aload_n 0, 1) := by decide +kernel
theorem d_X_tryFor_65 : decode M_X_tryFor.2.1 65 = .ok (.lload_n 2, 1) := by decide +kernel
theorem d_X_tryFor_66 : decode M_X_tryFor.2.1 66 = .ok (.lconst 1, 1) := by decide +kernel
theorem d_X_tryFor_67 : decode M_X_tryFor.2.1 67 = .ok (.iload 9, 2) := by decide +kernel
theorem d_X_tryFor_69 : decode M_X_tryFor.2.1 69 = .ok (.lshl, 1) := by decide +kernel
theorem d_X_tryFor_70 : decode M_X_tryFor.2.1 70 = .ok (.lor, 1) := by decide +kernel
theorem d_X_tryFor_71 : decode M_X_tryFor.2.1 71 = .ok (.putfield 63, 3) := by decide +kernel
theorem d_X_tryFor_74 : decode M_X_tryFor.2.1 74 = .ok (.iinc 9 1, 3) := by decide +kernel
theorem d_X_tryFor_77 : decode M_X_tryFor.2.1 77 = .ok (.goto (-74), 3) := by decide +kernel
theorem d_X_tryFor_80 : decode M_X_tryFor.2.1 80 = .ok (.return_, 1) := by decide +kernel
theorem d_X_tryAll_0 : decode M_X_tryAll.2.1 0 = .ok (.iconst 0, 1) := by decide +kernel
theorem d_X_tryAll_1 : decode M_X_tryAll.2.1 1 = .ok (.istore 7, 2) := by decide +kernel
theorem d_X_tryAll_3 : decode M_X_tryAll.2.1 3 = .ok (.iload 7, 2) := by decide +kernel
theorem d_X_tryAll_5 : decode M_X_tryAll.2.1 5 = .ok (.aload_n 0, 1) := by decide +kernel
theorem d_X_tryAll_6 : decode M_X_tryAll.2.1 6 = .ok (.getfield 9, 3) := by decide +kernel
theorem d_X_tryAll_9 : decode M_X_tryAll.2.1 9 = .ok (.getfield 41, 3) := by decide +kernel
theorem d_X_tryAll_12 : decode M_X_tryAll.2.1 12 = .ok (.if_icmp .ge 38, 3) := by decide +kernel
theorem d_X_tryAll_15 : decode M_X_tryAll.2.1 15 = .ok (.lload_n 2, 1) := by decide +kernel
theorem d_X_tryAll_16 : decode M_X_tryAll.2.1 16 = .ok (.iload 7, 2) := by decide +kernel
theorem d_X_tryAll_18 : decode M_X_tryAll.2.1 18 = .ok (.invokestatic 46, 3) := by decide +kernel
theorem d_X_tryAll_21 : decode M_X_tryAll.2.1 21 = .ok (.ifCond .eq 23, 3) := by decide +kernel
theorem d_X_tryAll_24 : decode M_X_tryAll.2.1 24 = .ok (.aload_n 0, 1) := by decide +kernel
theorem d_X_tryAll_25 : decode M_X_tryAll.2.1 25 = .ok (.iload_n 1, 1) := by decide +kernel
theorem d_X_tryAll_26 : decode M_X_tryAll.2.1 26 = .ok (.lload_n 2, 1) := by decide +kernel
theorem d_X_tryAll_27 : decode M_X_tryAll.2.1 27 = .ok (.lconst 1, 1) := by decide +kernel
theorem d_X_tryAll_28 : decode M_X_tryAll.2.1 28 = .ok (.iload 7, 2) := by decide +kernel
theorem d_X_tryAll_30 : decode M_X_tryAll.2.1 30 = .ok (.lshl, 1) := by decide +kernel
theorem d_X_tryAll_31 : decode M_X_tryAll.2.1 31 = .ok (.ldc2_w 50, 3) := by decide +kernel
theorem d_X_tryAll_34 : decode M_X_tryAll.2.1 34 = .ok (.lxor, 1) := by decide +kernel
theorem d_X_tryAll_35 : decode M_X_tryAll.2.1 35 = .ok (.land, 1) := by decide +kernel
theorem d_X_tryAll_36 : decode M_X_tryAll.2.1 36 = .ok (.lload_n 2, 1) := by decide +kernel
theorem d_X_tryAll_37 : decode M_X_tryAll.2.1 37 = .ok (.lload 4, 2) := by decide +kernel
theorem d_X_tryAll_39 : decode M_X_tryAll.2.1 39 = .ok (.iload 6, 2) := by decide +kernel
theorem d_X_tryAll_41 : decode M_X_tryAll.2.1 41 = .ok (.invokevirtual 52, 3) := by decide +kernel
theorem d_X_tryAll_44 : decode M_X_tryAll.2.1 44 = .ok (.iinc 7 1, 3) := by decide +kernel
theorem d_X_tryAll_47 : decode M_X_tryAll.2.1 47 = .ok (.goto (-44), 3) := by decide +kernel
theorem d_X_tryAll_50 : decode M_X_tryAll.2.1 50 = .ok (.return_, 1) := by decide +kernel
theorem d_X_findBest_0 : decode M_X_findBest.2.1 0 = .ok (.aload_n 0, 1) := by decide +kernel
theorem d_X_findBest_1 : decode M_X_findBest.2.1 1 = .ok (.getfield 15, 3) := by decide +kernel
theorem d_X_findBest_4 : decode M_X_findBest.2.1 4 = .ok (.aload_n 1, 1) := by decide +kernel
theorem d_X_findBest_5 : decode M_X_findBest.2.1 5 = .ok (.invokevirtual 19, 3) := by decide +kernel
theorem d_X_findBest_8 : decode M_X_findBest.2.1 8 = .ok (.aload_n 0, 1) := by decide +kernel
theorem d_X_findBest_9 : decode M_X_findBest.2.1 9 = .ok (.getfield 15, 3) := by decide +kernel
theorem d_X_findBest_12 : decode M_X_findBest.2.1 12 = .ok (.lload_n 2, 1) := by decide +kernel
theorem d_X_findBest_13 : decode M_X_findBest.2.1 13 = .ok (.iload 4, 2) := by decide +kernel
theorem d_X_findBest_15 : decode M_X_findBest.2.1 15 = .ok (.invokevirtual 25, 3) := by decide +kernel
theorem d_X_findBest_18 : decode M_X_findBest.2.1 18 = .ok (.istore 5, 2) := by decide +kernel
theorem d_X_findBest_20 : decode M_X_findBest.2.1 20 = .ok (.aload_n 0, 1) := by decide +kernel
theorem d_X_findBest_21 : decode M_X_findBest.2.1 21 = .ok (.iload 5, 2) := by decide +kernel
theorem d_X_findBest_23 : decode M_X_findBest.2.1 23 = .ok (.putfield 29, 3) := by decide +kernel
theorem d_X_findBest_26 : decode M_X_findBest.2.1 26 = .ok (.iconst 0, 1) := by decide +kernel
theorem d_X_findBest_27 : decode M_X_findBest.2.1 27 = .ok (.istore 6, 2) := by decide +kernel
theorem d_X_findBest_29 : decode M_X_findBest.2.1 29 = .ok (.iload 6, 2) := by decide +kernel
theorem d_X_findBest_31 : decode M_X_findBest.2.1 31 = .ok (.bipush 6, 2) := by decide +kernel
theorem d_X_findBest_33 : decode M_X_findBest.2.1 33 = .ok (.if_icmp .ge 46, 3) := by decide +kernel
theorem d_X_findBest_36 : decode M_X_findBest.2.1 36 = .ok (.aload_n 0, 1) := by decide +kernel
theorem d_X_findBest_37 : decode M_X_findBest.2.1 37 = .ok (.getfield 15, 3) := by decide +kernel
theorem d_X_findBest_40 : decode M_X_findBest.2.1 40 = .ok (.aload_n 1, 1) := by decide +kernel
theorem d_X_findBest_41 : decode M_X_findBest.2.1 41 = .ok (.iload 6, 2) := by decide +kernel
theorem d_X_findBest_43 : decode M_X_findBest.2.1 43 = .ok (.laload, 1) := by decide +kernel
theorem d_X_findBest_44 : decode M_X_findBest.2.1 44 = .ok (.iconst (-1), 1) := by decide +kernel
theorem d_X_findBest_45 : decode M_X_findBest.2.1 45 = .ok (.invokevirtual 33, 3) := by decide +kernel
theorem d_X_findBest_48 : decode M_X_findBest.2.1 48 = .ok (.aload_n 0, 1) := by decide +kernel
theorem d_X_findBest_49 : decode M_X_findBest.2.1 49 = .ok (.iload 6, 2) := by decide +kernel
theorem d_X_findBest_51 : decode M_X_findBest.2.1 51 = .ok (.aload_n 1, 1) := by decide +kernel
theorem d_X_findBest_52 : decode M_X_findBest.2.1 52 = .ok (.iload 6, 2) := by decide +kernel
theorem d_X_findBest_54 : decode M_X_findBest.2.1 54 = .ok (.laload, 1) := by decide +kernel
theorem d_X_findBest_55 : decode M_X_findBest.2.1 55 = .ok (.lload_n 2, 1) := by decide +kernel
theorem d_X_findBest_56 : decode M_X_findBest.2.1 56 = .ok (.iload 4, 2) := by decide +kernel
theorem d_X_findBest_58 : decode M_X_findBest.2.1 58 = .ok (.invokevirtual 37, 3) := by decide +kernel
theorem d_X_findBest_61 : decode M_X_findBest.2.1 61 = .ok (.aload_n 0, 1) := by decide +kernel
theorem d_X_findBest_62 : decode M_X_findBest.2.1 62 = .ok (.getfield 15, 3) := by decide +kernel
theorem d_X_findBest_65 : decode M_X_findBest.2.1 65 = .ok (.aload_n 1, 1) := by decide +kernel
theorem d_X_findBest_66 : decode M_X_findBest.2.1 66 = .ok (.iload 6, 2) := by decide +kernel
theorem d_X_findBest_68 : decode M_X_findBest.2.1 68 = .ok (.laload, 1) := by decide +kernel
theorem d_X_findBest_69 : decode M_X_findBest.2.1 69 = .ok (.iconst 1, 1) := by decide +kernel
theorem d_X_findBest_70 : decode M_X_findBest.2.1 70 = .ok (.invokevirtual 33, 3) := by decide +kernel
theorem d_X_findBest_73 : decode M_X_findBest.2.1 73 = .ok (.iinc 6 1, 3) := by decide +kernel
theorem d_X_findBest_76 : decode M_X_findBest.2.1 76 = .ok (.goto (-47), 3) := by decide +kernel
theorem d_X_findBest_79 : decode M_X_findBest.2.1 79 = .ok (.aload_n 0, 1) := by decide +kernel
theorem d_X_findBest_80 : decode M_X_findBest.2.1 80 = .ok (.getfield 29, 3) := by decide +kernel
theorem d_X_findBest_83 : decode M_X_findBest.2.1 83 = .ok (.iload 5, 2) := by decide +kernel
theorem d_X_findBest_85 : decode M_X_findBest.2.1 85 = .ok (.if_icmp .ge 7, 3) := by decide +kernel
theorem d_X_findBest_88 : decode M_X_findBest.2.1 88 = .ok (.iconst 1, 1) := by decide +kernel
theorem d_X_findBest_89 : decode M_X_findBest.2.1 89 = .ok (.goto 4, 3) := by decide +kernel
theorem d_X_findBest_92 : decode M_X_findBest.2.1 92 = .ok (.iconst 0, 1) := by decide +kernel
theorem d_X_findBest_93 : decode M_X_findBest.2.1 93 = .ok (.ireturn, 1) := by decide +kernel
theorem d_A_improve_0 : decode M_A_improve.2.1 0 = .ok (.iload_n 1, 1) := by decide +kernel
theorem d_A_improve_1 : decode M_A_improve.2.1 1 = .ok (.iconst 1, 1) := by decide +kernel
theorem d_A_improve_2 : decode M_A_improve.2.1 2 = .ok (.bipush 20, 2) := by decide +kernel
theorem d_A_improve_4 : decode M_A_improve.2.1 4 = .ok (.invokestatic 128, 3) := by decide +kernel
theorem d_A_improve_7 : decode M_A_improve.2.1 7 = .ok (.ifCond .ne 5, 3) := by decide +kernel
theorem d_A_improve_10 : decode M_A_improve.2.1 10 = .ok (.iconst (-1), 1) := by decide +kernel
theorem d_A_improve_11 : decode M_A_improve.2.1 11 = .ok (.ireturn, 1) := by decide +kernel
theorem d_A_improve_12 : decode M_A_improve.2.1 12 = .ok (.aload_n 0, 1) := by decide +kernel
theorem d_A_improve_13 : decode M_A_improve.2.1 13 = .ok (.getfield 45, 3) := by decide +kernel
theorem d_A_improve_16 : decode M_A_improve.2.1 16 = .ok (.aload_n 0, 1) := by decide +kernel
theorem d_A_improve_17 : decode M_A_improve.2.1 17 = .ok (.getfield 25, 3) := by decide +kernel
theorem d_A_improve_20 : decode M_A_improve.2.1 20 = .ok (.aload_n 0, 1) := by decide +kernel
theorem d_A_improve_21 : decode M_A_improve.2.1 21 = .ok (.getfield 94, 3) := by decide +kernel
theorem d_A_improve_24 : decode M_A_improve.2.1 24 = .ok (.iload_n 1, 1) := by decide +kernel
theorem d_A_improve_25 : decode M_A_improve.2.1 25 = .ok (.invokevirtual 192, 3) := by decide +kernel
theorem d_A_improve_28 : decode M_A_improve.2.1 28 = .ok (.ifCond .ne 6, 3) := by decide +kernel
theorem d_A_improve_31 : decode M_A_improve.2.1 31 = .ok (.bipush (-4), 2) := by decide +kernel
theorem d_A_improve_33 : decode M_A_improve.2.1 33 = .ok (.ireturn, 1) := by decide +kernel
theorem d_A_improve_34 : decode M_A_improve.2.1 34 = .ok (.aload_n 0, 1) := by decide +kernel
theorem d_A_improve_35 : decode M_A_improve.2.1 35 = .ok (.getfield 32, 3) := by decide +kernel
theorem d_A_improve_38 : decode M_A_improve.2.1 38 = .ok (.aload_n 0, 1) := by decide +kernel
theorem d_A_improve_39 : decode M_A_improve.2.1 39 = .ok (.getfield 25, 3) := by decide +kernel
theorem d_A_improve_42 : decode M_A_improve.2.1 42 = .ok (.invokevirtual 165, 3) := by decide +kernel
theorem d_A_improve_45 : decode M_A_improve.2.1 45 = .ok (.aload_n 0, 1) := by decide +kernel
theorem d_A_improve_46 : decode M_A_improve.2.1 46 = .ok (.getfield 25, 3) := by decide +kernel
theorem d_A_improve_49 : decode M_A_improve.2.1 49 = .ok (.aload_n 0, 1) := by decide +kernel
theorem d_A_improve_50 : decode M_A_improve.2.1 50 = .ok (.getfield 45, 3) := by decide +kernel
theorem d_A_improve_53 : decode M_A_improve.2.1 53 = .ok (.getfield 196, 3) := by decide +kernel
theorem d_A_improve_56 : decode M_A_improve.2.1 56 = .ok (.aload_n 0, 1) := by decide +kernel
theorem d_A_improve_57 : decode M_A_improve.2.1 57 = .ok (.getfield 45, 3) := by decide +kernel
theorem d_A_improve_60 : decode M_A_improve.2.1 60 = .ok (.getfield 199, 3) := by decide +kernel
theorem d_A_improve_63 : decode M_A_improve.2.1 63 = .ok (.lastore, 1) := by decide +kernel
theorem d_A_improve_64 : decode M_A_improve.2.1 64 = .ok (.aload_n 0, 1) := by decide +kernel
theorem d_A_improve_65 : decode M_A_improve.2.1 65 = .ok (.getfield 45, 3) := by decide +kernel
theorem d_A_improve_68 : decode M_A_improve.2.1 68 = .ok (.getfield 202, 3) := by decide +kernel
theorem d_A_improve_71 : decode M_A_improve.2.1 71 = .ok (.ireturn, 1) := by decide +kernel
theorem d_F_commonIndex_0 : decode M_F_commonIndex.2.1 0 = .ok (.iconst 0, 1) := by decide +kernel
theorem d_F_commonIndex_1 : decode M_F_commonIndex.2.1 1 = .ok (.istore_n 3, 1) := by decide +kernel
theorem d_F_commonIndex_2 : decode M_F_commonIndex.2.1 2 = .ok (.iconst 1, 1) := by decide +kernel
theorem d_F_commonIndex_3 : decode M_F_commonIndex.2.1 3 = .ok (.istore 4, 2) := by decide +kernel
theorem d_F_commonIndex_5 : decode M_F_commonIndex.2.1 5 = .ok (.iload 4, 2) := by decide +kernel
theorem d_F_commonIndex_7 : decode M_F_commonIndex.2.1 7 = .ok (.aload_n 0, 1) := by decide +kernel
theorem d_F_commonIndex_8 : decode M_F_commonIndex.2.1 8 = .ok (.getfield 15, 3) := by decide +kernel
theorem d_F_commonIndex_11 : decode M_F_commonIndex.2.1 11 = .ok (.getfield 29, 3) := by decide +kernel
theorem d_F_commonIndex_14 : decode M_F_commonIndex.2.1 14 = .ok (.if_icmp .ge 67, 3) := by decide +kernel
theorem d_F_commonIndex_17 : decode M_F_commonIndex.2.1 17 = .ok (.lload_n 1, 1) := by decide +kernel
theorem d_F_commonIndex_18 : decode M_F_commonIndex.2.1 18 = .ok (.iload 4, 2) := by decide +kernel
theorem d_F_commonIndex_20 : decode M_F_commonIndex.2.1 20 = .ok (.invokestatic 49, 3) := by decide +kernel
theorem d_F_commonIndex_23 : decode M_F_commonIndex.2.1 23 = .ok (.ifCond .eq 16, 3) := by decide +kernel
theorem d_F_commonIndex_26 : decode M_F_commonIndex.2.1 26 = .ok (.aload_n 0, 1) := by decide +kernel
theorem d_F_commonIndex_27 : decode M_F_commonIndex.2.1 27 = .ok (.getfield 9, 3) := by decide +kernel
theorem d_F_commonIndex_30 : decode M_F_commonIndex.2.1 30 = .ok (.iload 4, 2) := by decide +kernel
theorem d_F_commonIndex_32 : decode M_F_commonIndex.2.1 32 = .ok (.iaload, 1) := by decide +kernel
theorem d_F_commonIndex_33 : decode M_F_commonIndex.2.1 33 = .ok (.ifCond .eq 42, 3) := by decide +kernel
theorem d_F_commonIndex_36 : decode M_F_commonIndex.2.1 36 = .ok (.bipush (-4), 2) := by decide +kernel
theorem d_F_commonIndex_38 : decode M_F_commonIndex.2.1 38 = .ok (.ireturn, 1) := by decide +kernel
theorem d_F_commonIndex_39 : decode M_F_commonIndex.2.1 39 = .ok (.aload_n 0, 1) := by decide +kernel
theorem d_F_commonIndex_40 : decode M_F_commonIndex.2.1 40 = .ok (.getfield 9, 3) := by decide +kernel
theorem d_F_commonIndex_43 : decode M_F_commonIndex.2.1 43 = .ok (.iload 4, 2) := by decide +kernel
theorem d_F_commonIndex_45 : decode M_F_commonIndex.2.1 45 = .ok (.iaload, 1) := by decide +kernel
theorem d_F_commonIndex_46 : decode M_F_commonIndex.2.1 46 = .ok (.ifCond .eq 18, 3) := by decide +kernel
theorem d_F_commonIndex_49 : decode M_F_commonIndex.2.1 49 = .ok (.iload_n 3, 1) := by decide +kernel
theorem d_F_commonIndex_50 : decode M_F_commonIndex.2.1 50 = .ok (.ifCond .eq 17, 3) := by decide +kernel
theorem d_F_commonIndex_53 : decode M_F_commonIndex.2.1 53 = .ok (.aload_n 0, 1) := by decide +kernel
theorem d_F_commonIndex_54 : decode M_F_commonIndex.2.1 54 = .ok (.getfield 9, 3) := by decide +kernel
theorem d_F_commonIndex_57 : decode M_F_commonIndex.2.1 57 = .ok (.iload 4, 2) := by decide +kernel
theorem d_F_commonIndex_59 : decode M_F_commonIndex.2.1 59 = .ok (.iaload, 1) := by decide +kernel
theorem d_F_commonIndex_60 : decode M_F_commonIndex.2.1 60 = .ok (.iload_n 3, 1) := by decide +kernel
theorem d_F_commonIndex_61 : decode M_F_commonIndex.2.1 61 = .ok (.if_icmp .eq 6, 3) := by decide +kernel
theorem d_F_commonIndex_64 : decode M_F_commonIndex.2.1 64 = .ok (.bipush (-4), 2) := by decide +kernel
theorem d_F_commonIndex_66 : decode M_F_commonIndex.2.1 66 = .ok (.ireturn, 1) := by decide +kernel
theorem d_F_commonIndex_67 : decode M_F_commonIndex.2.1 67 = .ok (.aload_n 0, 1) := by decide +kernel
theorem d_F_commonIndex_68 : decode M_F_commonIndex.2.1 68 = .ok (.getfield 9, 3) := by decide +kernel
theorem d_F_commonIndex_71 : decode M_F_commonIndex.2.1 71 = .ok (.iload 4, 2) := by decide +kernel
theorem d_F_commonIndex_73 : decode M_F_commonIndex.2.1 73 = .ok (.iaload, 1) := by decide +kernel
theorem d_F_commonIndex_74 : decode M_F_commonIndex.2.1 74 = .ok (.istore_n 3, 1) := by decide +kernel
theorem d_F_commonIndex_75 : decode M_F_commonIndex.2.1 75 = .ok (.iinc 4 1, 3) := by decide +kernel
theorem d_F_commonIndex_78 : decode M_F_commonIndex.2.1 78 = .ok (.goto (-73), 3) := by decide +kernel
theorem d_F_commonIndex_81 : decode M_F_commonIndex.2.1 81 = .ok (.iload_n 3, 1) := by decide +kernel
theorem d_F_commonIndex_82 : decode M_F_commonIndex.2.1 82 = .ok (.ifCond .ne 8, 3) := by decide +kernel
theorem d_F_commonIndex_85 : decode M_F_commonIndex.2.1 85 = .ok (.bipush (-4), 2) := by decide +kernel
theorem d_F_commonIndex_87 : decode M_F_commonIndex.2.1 87 = .ok (.goto 4, 3) := by decide +kernel
theorem d_F_commonIndex_90 : decode M_F_commonIndex.2.1 90 = .ok (.iload_n 3, 1) := by decide +kernel
theorem d_F_commonIndex_91 : decode M_F_commonIndex.2.1 91 = .ok (.ireturn, 1) := by decide +kernel
theorem d_A_index_0 : decode M_A_index.2.1 0 = .ok (.aload_n 0, 1) := by decide +kernel
theorem d_A_index_1 : decode M_A_index.2.1 1 = .ok (.getfield 36, 3) := by decide +kernel
theorem d_A_index_4 : decode M_A_index.2.1 4 = .ok (.aload_n 0, 1) := by decide +kernel
theorem d_A_index_5 : decode M_A_index.2.1 5 = .ok (.getfield 25, 3) := by decide +kernel
theorem d_A_index_8 : decode M_A_index.2.1 8 = .ok (.invokevirtual 185, 3) := by decide +kernel
theorem d_A_index_11 : decode M_A_index.2.1 11 = .ok (.aload_n 0, 1) := by decide +kernel
theorem d_A_index_12 : decode M_A_index.2.1 12 = .ok (.getfield 36, 3) := by decide +kernel
theorem d_A_index_15 : decode M_A_index.2.1 15 = .ok (.aload_n 0, 1) := by decide +kernel
theorem d_A_index_16 : decode M_A_index.2.1 16 = .ok (.getfield 94, 3) := by decide +kernel
theorem d_A_index_19 : decode M_A_index.2.1 19 = .ok (.invokevirtual 230, 3) := by decide +kernel
theorem d_A_index_22 : decode M_A_index.2.1 22 = .ok (.ireturn, 1) := by decide +kernel
theorem d_G_init_0 : decode M_G_init.2.1 0 = .ok (.aload_n 0, 1) := by decide +kernel
theorem d_G_init_1 : decode M_G_init.2.1 1 = .ok (.invokespecial 3, 3) := by decide +kernel
theorem d_G_init_4 : decode M_G_init.2.1 4 = .ok (.aload_n 0, 1) := by decide +kernel
theorem d_G_init_5 : decode M_G_init.2.1 5 = .ok (.bipush 40, 2) := by decide +kernel
theorem d_G_init_7 : decode M_G_init.2.1 7 = .ok (.newarray .int, 2) := by decide +kernel
theorem d_G_init_9 : decode M_G_init.2.1 9 = .ok (.putfield 9, 3) := by decide +kernel
theorem d_G_init_12 : decode M_G_init.2.1 12 = .ok (.aload_n 0, 1) := by decide +kernel
theorem d_G_init_13 : decode M_G_init.2.1 13 = .ok (.bipush 40, 2) := by decide +kernel
theorem d_G_init_15 : decode M_G_init.2.1 15 = .ok (.newarray .int, 2) := by decide +kernel
theorem d_G_init_17 : decode M_G_init.2.1 17 = .ok (.putfield 15, 3) := by decide +kernel
theorem d_G_init_20 : decode M_G_init.2.1 20 = .ok (.aload_n 0, 1) := by decide +kernel
theorem d_G_init_21 : decode M_G_init.2.1 21 = .ok (.bipush 40, 2) := by decide +kernel
theorem d_G_init_23 : decode M_G_init.2.1 23 = .ok (.newarray .int, 2) := by decide +kernel
theorem d_G_init_25 : decode M_G_init.2.1 25 = .ok (.putfield 18, 3) := by decide +kernel
theorem d_G_init_28 : decode M_G_init.2.1 28 = .ok (.aload_n 0, 1) := by decide +kernel
theorem d_G_init_29 : decode M_G_init.2.1 29 = .ok (.bipush 40, 2) := by decide +kernel
theorem d_G_init_31 : decode M_G_init.2.1 31 = .ok (.newarray .int, 2) := by decide +kernel
theorem d_G_init_33 : decode M_G_init.2.1 33 = .ok (.putfield 21, 3) := by decide +kernel
theorem d_G_init_36 : decode M_G_init.2.1 36 = .ok (.aload_n 0, 1) := by decide +kernel
theorem d_G_init_37 : decode M_G_init.2.1 37 = .ok (.sipush 480, 3) := by decide +kernel
theorem d_G_init_40 : decode M_G_init.2.1 40 = .ok (.newarray .int, 2) := by decide +kernel
theorem d_G_init_42 : decode M_G_init.2.1 42 = .ok (.putfield 24, 3) := by decide +kernel
theorem d_G_init_45 : decode M_G_init.2.1 45 = .ok (.aload_n 0, 1) := by decide +kernel
theorem d_G_init_46 : decode M_G_init.2.1 46 = .ok (.sipush 480, 3) := by decide +kernel
theorem d_G_init_49 : decode M_G_init.2.1 49 = .ok (.newarray .int, 2) := by decide +kernel
theorem d_G_init_51 : decode M_G_init.2.1 51 = .ok (.putfield 27, 3) := by decide +kernel
theorem d_G_init_54 : decode M_G_init.2.1 54 = .ok (.return_, 1) := by decide +kernel
theorem d_G_findOrder_0 : decode M_G_findOrder.2.1 0 = .ok (.iconst 1, 1) := by decide +kernel
theorem d_G_findOrder_1 : decode M_G_findOrder.2.1 1 = .ok (.istore_n 2, 1) := by decide +kernel
theorem d_G_findOrder_2 : decode M_G_findOrder.2.1 2 = .ok (.iload_n 1, 1) := by decide +kernel
theorem d_G_findOrder_3 : decode M_G_findOrder.2.1 3 = .ok (.istore_n 3, 1) := by decide +kernel
theorem d_G_findOrder_4 : decode M_G_findOrder.2.1 4 = .ok (.iload_n 2, 1) := by decide +kernel
theorem d_G_findOrder_5 : decode M_G_findOrder.2.1 5 = .ok (.aload_n 0, 1) := by decide +kernel
theorem d_G_findOrder_6 : decode M_G_findOrder.2.1 6 = .ok (.getfield 37, 3) := by decide +kernel
theorem d_G_findOrder_9 : decode M_G_findOrder.2.1 9 = .ok (.if_icmp .ge 20, 3) := by decide +kernel
theorem d_G_findOrder_12 : decode M_G_findOrder.2.1 12 = .ok (.iload_n 3, 1) := by decide +kernel
theorem d_G_findOrder_13 : decode M_G_findOrder.2.1 13 = .ok (.ifCond .eq 16, 3) := by decide +kernel
theorem d_G_findOrder_16 : decode M_G_findOrder.2.1 16 = .ok (.aload_n 0, 1) := by decide +kernel
theorem d_G_findOrder_17 : decode M_G_findOrder.2.1 17 = .ok (.iload_n 3, 1) := by decide +kernel
theorem d_G_findOrder_18 : decode M_G_findOrder.2.1 18 = .ok (.iload_n 1, 1) := by decide +kernel
theorem d_G_findOrder_19 : decode M_G_findOrder.2.1 19 = .ok (.invokevirtual 54, 3) := by decide +kernel
theorem d_G_findOrder_22 : decode M_G_findOrder.2.1 22 = .ok (.istore_n 3, 1) := by decide +kernel
theorem d_G_findOrder_23 : decode M_G_findOrder.2.1 23 = .ok (.iinc 2 1, 3) := by decide +kernel
theorem d_G_findOrder_26 : decode M_G_findOrder.2.1 26 = .ok (.goto (-22), 3) := by decide +kernel
theorem d_G_findOrder_29 : decode M_G_findOrder.2.1 29 = .ok (.iload_n 2, 1) := by decide +kernel
theorem d_G_findOrder_30 : decode M_G_findOrder.2.1 30 = .ok (.ireturn, 1) := by decide +kernel
theorem d_G_listIfAutomorphism_0 : decode M_G_listIfAutomorphism.2.1 0 = .ok (.aload_n 0, 1) := by decide +kernel
theorem d_G_listIfAutomorphism_1 : decode M_G_listIfAutomorphism.2.1 1 = .ok (.iload_n 1, 1) := by decide +kernel
theorem d_G_listIfAutomorphism_2 : decode M_G_listIfAutomorphism.2.1 2 = .ok (.iload_n 2, 1) := by decide +kernel
theorem d_G_listIfAutomorphism_3 : decode M_G_listIfAutomorphism.2.1 3 = .ok (.aload_n 0, 1) := by decide +kernel
theorem d_G_listIfAutomorphism_4 : decode M_G_listIfAutomorphism.2.1 4 = .ok (.getfield 21, 3) := by decide +kernel
theorem d_G_listIfAutomorphism_7 : decode M_G_listIfAutomorphism.2.1 7 = .ok (.invokevirtual 65, 3) := by decide +kernel
theorem d_G_listIfAutomorphism_10 : decode M_G_listIfAutomorphism.2.1 10 = .ok (.aload_n 0, 1) := by decide +kernel
theorem d_G_listIfAutomorphism_11 : decode M_G_listIfAutomorphism.2.1 11 = .ok (.aload_n 0, 1) := by decide +kernel
theorem d_G_listIfAutomorphism_12 : decode M_G_listIfAutomorphism.2.1 12 = .ok (.getfield 40, 3) := by decide +kernel
theorem d_G_listIfAutomorphism_15 : decode M_G_listIfAutomorphism.2.1 15 = .ok (.aload_n 0, 1) := by decide +kernel
theorem d_G_listIfAutomorphism_16 : decode M_G_listIfAutomorphism.2.1 16 = .ok (.getfield 21, 3) := by decide +kernel
theorem d_G_listIfAutomorphism_19 : decode M_G_listIfAutomorphism.2.1 19 = .ok (.invokevirtual 69, 3) := by decide +kernel
theorem d_G_listIfAutomorphism_22 : decode M_G_listIfAutomorphism.2.1 22 = .ok (.aload_n 0, 1) := by decide +kernel
theorem d_G_listIfAutomorphism_23 : decode M_G_listIfAutomorphism.2.1 23 = .ok (.getfield 40, 3) := by decide +kernel
theorem d_G_listIfAutomorphism_26 : decode M_G_listIfAutomorphism.2.1 26 = .ok (.lcmp, 1) := by decide +kernel
theorem d_G_listIfAutomorphism_27 : decode M_G_listIfAutomorphism.2.1 27 = .ok (.ifCond .ne 43, 3) := by decide +kernel
theorem d_G_listIfAutomorphism_30 : decode M_G_listIfAutomorphism.2.1 30 = .ok (.aload_n 0, 1) := by decide +kernel
theorem d_G_listIfAutomorphism_31 : decode M_G_listIfAutomorphism.2.1 31 = .ok (.getfield 58, 3) := by decide +kernel
theorem d_G_listIfAutomorphism_34 : decode M_G_listIfAutomorphism.2.1 34 = .ok (.sipush 480, 3) := by decide +kernel
theorem d_G_listIfAutomorphism_37 : decode M_G_listIfAutomorphism.2.1 37 = .ok (.if_icmp .ge 33, 3) := by decide +kernel
theorem d_G_listIfAutomorphism_40 : decode M_G_listIfAutomorphism.2.1 40 = .ok (.aload_n 0, 1) := by decide +kernel
theorem d_G_listIfAutomorphism_41 : decode M_G_listIfAutomorphism.2.1 41 = .ok (.getfield 24, 3) := by decide +kernel
theorem d_G_listIfAutomorphism_44 : decode M_G_listIfAutomorphism.2.1 44 = .ok (.aload_n 0, 1) := by decide +kernel
theorem d_G_listIfAutomorphism_45 : decode M_G_listIfAutomorphism.2.1 45 = .ok (.getfield 58, 3) := by decide +kernel
theorem d_G_listIfAutomorphism_48 : decode M_G_listIfAutomorphism.2.1 48 = .ok (.iload_n 1, 1) := by decide +kernel
theorem d_G_listIfAutomorphism_49 : decode M_G_listIfAutomorphism.2.1 49 = .ok (.iastore, 1) := by decide +kernel
theorem d_G_listIfAutomorphism_50 : decode M_G_listIfAutomorphism.2.1 50 = .ok (.aload_n 0, 1) := by decide +kernel
theorem d_G_listIfAutomorphism_51 : decode M_G_listIfAutomorphism.2.1 51 = .ok (.getfield 27, 3) := by decide +kernel
theorem d_G_listIfAutomorphism_54 : decode M_G_listIfAutomorphism.2.1 54 = .ok (.aload_n 0, 1) := by decide +kernel
theorem d_G_listIfAutomorphism_55 : decode M_G_listIfAutomorphism.2.1 55 = .ok (.getfield 58, 3) := by decide +kernel
theorem d_G_listIfAutomorphism_58 : decode M_G_listIfAutomorphism.2.1 58 = .ok (.iload_n 2, 1) := by decide +kernel
theorem d_G_listIfAutomorphism_59 : decode M_G_listIfAutomorphism.2.1 59 = .ok (.iastore, 1) := by decide +kernel
theorem d_G_listIfAutomorphism_60 : decode M_G_listIfAutomorphism.2.1 60 = .ok (.aload_n 0, 1) := by decide +kernel
theorem d_G_listIfAutomorphism_61 : decode M_G_listIfAutomorphism.2.1 61 = .ok (.dup, 1) := by decide +kernel
theorem d_G_listIfAutomorphism_62 : decode M_G_listIfAutomorphism.2.1 62 = .ok (.getfield 58, 3) := by decide +kernel
theorem d_G_listIfAutomorphism_65 : decode M_G_listIfAutomorphism.2.1 65 = .ok (.iconst 1, 1) := by decide +kernel
theorem d_G_listIfAutomorphism_66 : decode M_G_listIfAutomorphism.2.1 66 = .ok (.iadd, 1) := by decide +kernel
theorem d_G_listIfAutomorphism_67 : decode M_G_listIfAutomorphism.2.1 67 = .ok (.putfield 58, 3) := by decide +kernel
theorem d_G_listIfAutomorphism_70 : decode M_G_listIfAutomorphism.2.1 70 = .ok (.return_, 1) := by decide +kernel
theorem d_G_listAutomorphisms_0 : decode M_G_listAutomorphisms.2.1 0 = .ok (.aload_n 0, 1) := by decide +kernel
theorem d_G_listAutomorphisms_1 : decode M_G_listAutomorphisms.2.1 1 = .ok (.iconst 0, 1) := by decide +kernel
theorem d_G_listAutomorphisms_2 : decode M_G_listAutomorphisms.2.1 2 = .ok (.putfield 58, 3) := by decide +kernel
theorem d_G_listAutomorphisms_5 : decode M_G_listAutomorphisms.2.1 5 = .ok (.iconst 0, 1) := by decide +kernel
theorem d_G_listAutomorphisms_6 : decode M_G_listAutomorphisms.2.1 6 = .ok (.istore_n 1, 1) := by decide +kernel
theorem d_G_listAutomorphisms_7 : decode M_G_listAutomorphisms.2.1 7 = .ok (.iload_n 1, 1) := by decide +kernel
theorem d_G_listAutomorphisms_8 : decode M_G_listAutomorphisms.2.1 8 = .ok (.aload_n 0, 1) := by decide +kernel
theorem d_G_listAutomorphisms_9 : decode M_G_listAutomorphisms.2.1 9 = .ok (.getfield 37, 3) := by decide +kernel
theorem d_G_listAutomorphisms_12 : decode M_G_listAutomorphisms.2.1 12 = .ok (.if_icmp .ge 57, 3) := by decide +kernel
theorem d_G_listAutomorphisms_15 : decode M_G_listAutomorphisms.2.1 15 = .ok (.aload_n 0, 1) := by decide +kernel
theorem d_G_listAutomorphisms_16 : decode M_G_listAutomorphisms.2.1 16 = .ok (.getfield 18, 3) := by decide +kernel
theorem d_G_listAutomorphisms_19 : decode M_G_listAutomorphisms.2.1 19 = .ok (.iload_n 1, 1) := by decide +kernel
theorem d_G_listAutomorphisms_20 : decode M_G_listAutomorphisms.2.1 20 = .ok (.iaload, 1) := by decide +kernel
theorem d_G_listAutomorphisms_21 : decode M_G_listAutomorphisms.2.1 21 = .ok (.aload_n 0, 1) := by decide +kernel
theorem d_G_listAutomorphisms_22 : decode M_G_listAutomorphisms.2.1 22 = .ok (.getfield 34, 3) := by decide +kernel
theorem d_G_listAutomorphisms_25 : decode M_G_listAutomorphisms.2.1 25 = .ok (.if_icmp .ne 38, 3) := by decide +kernel
theorem d_G_listAutomorphisms_28 : decode M_G_listAutomorphisms.2.1 28 = .ok (.iconst 0, 1) := by decide +kernel
theorem d_G_listAutomorphisms_29 : decode M_G_listAutomorphisms.2.1 29 = .ok (.istore_n 2, 1) := by decide +kernel
theorem d_G_listAutomorphisms_30 : decode M_G_listAutomorphisms.2.1 30 = .ok (.iload_n 2, 1) := by decide +kernel
theorem d_G_listAutomorphisms_31 : decode M_G_listAutomorphisms.2.1 31 = .ok (.aload_n 0, 1) := by decide +kernel
theorem d_G_listAutomorphisms_32 : decode M_G_listAutomorphisms.2.1 32 = .ok (.getfield 37, 3) := by decide +kernel
theorem d_G_listAutomorphisms_35 : decode M_G_listAutomorphisms.2.1 35 = .ok (.if_icmp .ge 28, 3) := by decide +kernel
theorem d_G_listAutomorphisms_38 : decode M_G_listAutomorphisms.2.1 38 = .ok (.aload_n 0, 1) := by decide +kernel
theorem d_G_listAutomorphisms_39 : decode M_G_listAutomorphisms.2.1 39 = .ok (.getfield 18, 3) := by decide +kernel
theorem d_G_listAutomorphisms_42 : decode M_G_listAutomorphisms.2.1 42 = .ok (.iload_n 2, 1) := by decide +kernel
theorem d_G_listAutomorphisms_43 : decode M_G_listAutomorphisms.2.1 43 = .ok (.iaload, 1) := by decide +kernel
theorem d_G_listAutomorphisms_44 : decode M_G_listAutomorphisms.2.1 44 = .ok (.aload_n 0, 1) := by decide +kernel
theorem d_G_listAutomorphisms_45 : decode M_G_listAutomorphisms.2.1 45 = .ok (.getfield 30, 3) := by decide +kernel
theorem d_G_listAutomorphisms_48 : decode M_G_listAutomorphisms.2.1 48 = .ok (.if_icmp .ne 9, 3) := by decide +kernel
theorem d_G_listAutomorphisms_51 : decode M_G_listAutomorphisms.2.1 51 = .ok (.aload_n 0, 1) := by decide +kernel
theorem d_G_listAutomorphisms_52 : decode M_G_listAutomorphisms.2.1 52 = .ok (.iload_n 2, 1) := by decide +kernel
theorem d_G_listAutomorphisms_53 : decode M_G_listAutomorphisms.2.1 53 = .ok (.iload_n 1, 1) := by decide +kernel
theorem d_G_listAutomorphisms_54 : decode M_G_listAutomorphisms.2.1 54 = .ok (.invokevirtual 61, 3) := by decide +kernel
theorem d_G_listAutomorphisms_57 : decode M_G_listAutomorphisms.2.1 57 = .ok (.iinc 2 1, 3) := by decide +kernel
theorem d_G_listAutomorphisms_60 : decode M_G_listAutomorphisms.2.1 60 = .ok (.goto (-30), 3) := by decide +kernel
theorem d_G_listAutomorphisms_63 : decode M_G_listAutomorphisms.2.1 63 = .ok (.iinc 1 1, 3) := by decide +kernel
theorem d_G_listAutomorphisms_66 : decode M_G_listAutomorphisms.2.1 66 = .ok (.goto (-59), 3) := by decide +kernel
theorem d_G_listAutomorphisms_69 : decode M_G_listAutomorphisms.2.1 69 = .ok (.return_, 1) := by decide +kernel
theorem d_G_become_0 : decode M_G_become.2.1 0 = .ok (.aload_n 0, 1) := by decide +kernel
theorem d_G_become_1 : decode M_G_become.2.1 1 = .ok (.iload_n 1, 1) := by decide +kernel
theorem d_G_become_2 : decode M_G_become.2.1 2 = .ok (.putfield 30, 3) := by decide +kernel
theorem d_G_become_5 : decode M_G_become.2.1 5 = .ok (.aload_n 0, 1) := by decide +kernel
theorem d_G_become_6 : decode M_G_become.2.1 6 = .ok (.iload_n 2, 1) := by decide +kernel
theorem d_G_become_7 : decode M_G_become.2.1 7 = .ok (.putfield 34, 3) := by decide +kernel
theorem d_G_become_10 : decode M_G_become.2.1 10 = .ok (.aload_n 0, 1) := by decide +kernel
theorem d_G_become_11 : decode M_G_become.2.1 11 = .ok (.iload_n 1, 1) := by decide +kernel
theorem d_G_become_12 : decode M_G_become.2.1 12 = .ok (.iload_n 2, 1) := by decide +kernel
theorem d_G_become_13 : decode M_G_become.2.1 13 = .ok (.imul, 1) := by decide +kernel
theorem d_G_become_14 : decode M_G_become.2.1 14 = .ok (.putfield 37, 3) := by decide +kernel
theorem d_G_become_17 : decode M_G_become.2.1 17 = .ok (.aload_n 0, 1) := by decide +kernel
theorem d_G_become_18 : decode M_G_become.2.1 18 = .ok (.lconst 1, 1) := by decide +kernel
theorem d_G_become_19 : decode M_G_become.2.1 19 = .ok (.aload_n 0, 1) := by decide +kernel
theorem d_G_become_20 : decode M_G_become.2.1 20 = .ok (.getfield 37, 3) := by decide +kernel
theorem d_G_become_23 : decode M_G_become.2.1 23 = .ok (.lshl, 1) := by decide +kernel
theorem d_G_become_24 : decode M_G_become.2.1 24 = .ok (.lconst 1, 1) := by decide +kernel
theorem d_G_become_25 : decode M_G_become.2.1 25 = .ok (.lsub, 1) := by decide +kernel
theorem d_G_become_26 : decode M_G_become.2.1 26 = .ok (.putfield 40, 3) := by decide +kernel
theorem d_G_become_29 : decode M_G_become.2.1 29 = .ok (.aload_n 0, 1) := by decide +kernel
theorem d_G_become_30 : decode M_G_become.2.1 30 = .ok (.lconst 0, 1) := by decide +kernel
theorem d_G_become_31 : decode M_G_become.2.1 31 = .ok (.putfield 44, 3) := by decide +kernel
theorem d_G_become_34 : decode M_G_become.2.1 34 = .ok (.iconst 0, 1) := by decide +kernel
theorem d_G_become_35 : decode M_G_become.2.1 35 = .ok (.istore_n 3, 1) := by decide +kernel
theorem d_G_become_36 : decode M_G_become.2.1 36 = .ok (.iload_n 3, 1) := by decide +kernel
theorem d_G_become_37 : decode M_G_become.2.1 37 = .ok (.aload_n 0, 1) := by decide +kernel
theorem d_G_become_38 : decode M_G_become.2.1 38 = .ok (.getfield 30, 3) := by decide +kernel
theorem d_G_become_41 : decode M_G_become.2.1 41 = .ok (.if_icmp .ge 82, 3) := by decide +kernel
theorem d_G_become_44 : decode M_G_become.2.1 44 = .ok (.iconst 0, 1) := by decide +kernel
theorem d_G_become_45 : decode M_G_become.2.1 45 = .ok (.istore 4, 2) := by decide +kernel
theorem d_G_become_47 : decode M_G_become.2.1 47 = .ok (.iload 4, 2) := by decide +kernel
theorem d_G_become_49 : decode M_G_become.2.1 49 = .ok (.aload_n 0, 1) := by decide +kernel
theorem d_G_become_50 : decode M_G_become.2.1 50 = .ok (.getfield 34, 3) := by decide +kernel
theorem d_G_become_53 : decode M_G_become.2.1 53 = .ok (.if_icmp .ge 40, 3) := by decide +kernel
theorem d_G_become_56 : decode M_G_become.2.1 56 = .ok (.aload_n 0, 1) := by decide +kernel
theorem d_G_become_57 : decode M_G_become.2.1 57 = .ok (.getfield 9, 3) := by decide +kernel
theorem d_G_become_60 : decode M_G_become.2.1 60 = .ok (.aload_n 0, 1) := by decide +kernel
theorem d_G_become_61 : decode M_G_become.2.1 61 = .ok (.getfield 34, 3) := by decide +kernel
theorem d_G_become_64 : decode M_G_become.2.1 64 = .ok (.iload_n 3, 1) := by decide +kernel
theorem d_G_become_65 : decode M_G_become.2.1 65 = .ok (.imul, 1) := by decide +kernel
theorem d_G_become_66 : decode M_G_become.2.1 66 = .ok (.iload 4, 2) := by decide +kernel
theorem d_G_become_68 : decode M_G_become.2.1 68 = .ok (.iadd, 1) := by decide +kernel
theorem d_G_become_69 : decode M_G_become.2.1 69 = .ok (.iload_n 3, 1) := by decide +kernel
theorem d_G_become_70 : decode M_G_become.2.1 70 = .ok (.iastore, 1) := by decide +kernel
theorem d_G_become_71 : decode M_G_become.2.1 71 = .ok (.aload_n 0, 1) := by decide +kernel
theorem d_G_become_72 : decode M_G_become.2.1 72 = .ok (.getfield 15, 3) := by decide +kernel
theorem d_G_become_75 : decode M_G_become.2.1 75 = .ok (.aload_n 0, 1) := by decide +kernel
theorem d_G_become_76 : decode M_G_become.2.1 76 = .ok (.getfield 34, 3) := by decide +kernel
theorem d_G_become_79 : decode M_G_become.2.1 79 = .ok (.iload_n 3, 1) := by decide +kernel
theorem d_G_become_80 : decode M_G_become.2.1 80 = .ok (.imul, 1) := by decide +kernel
theorem d_G_become_81 : decode M_G_become.2.1 81 = .ok (.iload 4, 2) := by decide +kernel
theorem d_G_become_83 : decode M_G_become.2.1 83 = .ok (.iadd, 1) := by decide +kernel
theorem d_G_become_84 : decode M_G_become.2.1 84 = .ok (.iload 4, 2) := by decide +kernel
theorem d_G_become_86 : decode M_G_become.2.1 86 = .ok (.iastore, 1) := by decide +kernel
theorem d_G_become_87 : decode M_G_become.2.1 87 = .ok (.iinc 4 1, 3) := by decide +kernel
theorem d_G_become_90 : decode M_G_become.2.1 90 = .ok (.goto (-43), 3) := by decide +kernel
theorem d_G_become_93 : decode M_G_become.2.1 93 = .ok (.aload_n 0, 1) := by decide +kernel
theorem d_G_become_94 : decode M_G_become.2.1 94 = .ok (.dup, 1) := by decide +kernel
theorem d_G_become_95 : decode M_G_become.2.1 95 = .ok (.getfield 44, 3) := by decide +kernel
theorem d_G_become_98 : decode M_G_become.2.1 98 = .ok (.lconst 1, 1) := by decide +kernel
theorem d_G_become_99 : decode M_G_become.2.1 99 = .ok (.aload_n 0, 1) := by decide +kernel
theorem d_G_become_100 : decode M_G_become.2.1 100 = .ok (.getfield 34, 3) := by decide +kernel
theorem d_G_become_103 : decode M_G_become.2.1 103 = .ok (.iload_n 3, 1) := by decide +kernel
theorem d_G_become_104 : decode M_G_become.2.1 104 = .ok (.imul, 1) := by decide +kernel
theorem d_G_become_105 : decode M_G_become.2.1 105 = .ok (.aload_n 0, 1) := by decide +kernel
theorem d_G_become_106 : decode M_G_become.2.1 106 = .ok (.getfield 34, 3) := by decide +kernel
theorem d_G_become_109 : decode M_G_become.2.1 109 = .ok (.iadd, 1) := by decide +kernel
theorem d_G_become_110 : decode M_G_become.2.1 110 = .ok (.iconst 1, 1) := by decide +kernel
theorem d_G_become_111 : decode M_G_become.2.1 111 = .ok (.isub, 1) := by decide +kernel
theorem d_G_become_112 : decode M_G_become.2.1 112 = .ok (.lshl, 1) := by decide +kernel
theorem d_G_become_113 : decode M_G_become.2.1 113 = .ok (.lor, 1) := by decide +kernel
theorem d_G_become_114 : decode M_G_become.2.1 114 = .ok (.putfield 44, 3) := by decide +kernel
theorem d_G_become_117 : decode M_G_become.2.1 117 = .ok (.iinc 3 1, 3) := by decide +kernel
theorem d_G_become_120 : decode M_G_become.2.1 120 = .ok (.goto (-84), 3) := by decide +kernel
theorem d_G_become_123 : decode M_G_become.2.1 123 = .ok (.iconst 0, 1) := by decide +kernel
theorem d_G_become_124 : decode M_G_become.2.1 124 = .ok (.istore_n 3, 1) := by decide +kernel
theorem d_G_become_125 : decode M_G_become.2.1 125 = .ok (.iload_n 3, 1) := by decide +kernel
theorem d_G_become_126 : decode M_G_become.2.1 126 = .ok (.aload_n 0, 1) := by decide +kernel
theorem d_G_become_127 : decode M_G_become.2.1 127 = .ok (.getfield 37, 3) := by decide +kernel
theorem d_G_become_130 : decode M_G_become.2.1 130 = .ok (.if_icmp .ge 20, 3) := by decide +kernel
theorem d_G_become_133 : decode M_G_become.2.1 133 = .ok (.aload_n 0, 1) := by decide +kernel
theorem d_G_become_134 : decode M_G_become.2.1 134 = .ok (.getfield 18, 3) := by decide +kernel
theorem d_G_become_137 : decode M_G_become.2.1 137 = .ok (.iload_n 3, 1) := by decide +kernel
theorem d_G_become_138 : decode M_G_become.2.1 138 = .ok (.aload_n 0, 1) := by decide +kernel
theorem d_G_become_139 : decode M_G_become.2.1 139 = .ok (.iload_n 3, 1) := by decide +kernel
theorem d_G_become_140 : decode M_G_become.2.1 140 = .ok (.invokevirtual 47, 3) := by decide +kernel
theorem d_G_become_143 : decode M_G_become.2.1 143 = .ok (.iastore, 1) := by decide +kernel
theorem d_G_become_144 : decode M_G_become.2.1 144 = .ok (.iinc 3 1, 3) := by decide +kernel
theorem d_G_become_147 : decode M_G_become.2.1 147 = .ok (.goto (-22), 3) := by decide +kernel
theorem d_G_become_150 : decode M_G_become.2.1 150 = .ok (.aload_n 0, 1) := by decide +kernel
theorem d_G_become_151 : decode M_G_become.2.1 151 = .ok (.invokevirtual 51, 3) := by decide +kernel
theorem d_G_become_154 : decode M_G_become.2.1 154 = .ok (.return_, 1) := by decide +kernel
theorem d_F_init_0 : decode M_F_init.2.1 0 = .ok (.aload_n 0, 1) := by decide +kernel
theorem d_F_init_1 : decode M_F_init.2.1 1 = .ok (.invokespecial 3, 3) := by decide +kernel
theorem d_F_init_4 : decode M_F_init.2.1 4 = .ok (.aload_n 0, 1) := by decide +kernel
theorem d_F_init_5 : decode M_F_init.2.1 5 = .ok (.bipush 40, 2) := by decide +kernel
theorem d_F_init_7 : decode M_F_init.2.1 7 = .ok (.newarray .int, 2) := by decide +kernel
theorem d_F_init_9 : decode M_F_init.2.1 9 = .ok (.putfield 9, 3) := by decide +kernel
theorem d_F_init_12 : decode M_F_init.2.1 12 = .ok (.aload_n 0, 1) := by decide +kernel
theorem d_F_init_13 : decode M_F_init.2.1 13 = .ok (.aload_n 1, 1) := by decide +kernel
theorem d_F_init_14 : decode M_F_init.2.1 14 = .ok (.putfield 15, 3) := by decide +kernel
theorem d_F_init_17 : decode M_F_init.2.1 17 = .ok (.return_, 1) := by decide +kernel
theorem d_H_init_0 : decode M_H_init.2.1 0 = .ok (.aload_n 0, 1) := by decide +kernel
theorem d_H_init_1 : decode M_H_init.2.1 1 = .ok (.invokespecial 3, 3) := by decide +kernel
theorem d_H_init_4 : decode M_H_init.2.1 4 = .ok (.aload_n 0, 1) := by decide +kernel
theorem d_H_init_5 : decode M_H_init.2.1 5 = .ok (.bipush 30, 2) := by decide +kernel
theorem d_H_init_7 : decode M_H_init.2.1 7 = .ok (.newarray .long, 2) := by decide +kernel
theorem d_H_init_9 : decode M_H_init.2.1 9 = .ok (.putfield 11, 3) := by decide +kernel
theorem d_H_init_12 : decode M_H_init.2.1 12 = .ok (.return_, 1) := by decide +kernel
theorem d_X_init_0 : decode M_X_init.2.1 0 = .ok (.aload_n 0, 1) := by decide +kernel
theorem d_X_init_1 : decode M_X_init.2.1 1 = .ok (.invokespecial 3, 3) := by decide +kernel
theorem d_X_init_4 : decode M_X_init.2.1 4 = .ok (.aload_n 0, 1) := by decide +kernel
theorem d_X_init_5 : decode M_X_init.2.1 5 = .ok (.aload_n 1, 1) := by decide +kernel
theorem d_X_init_6 : decode M_X_init.2.1 6 = .ok (.putfield 9, 3) := by decide +kernel
theorem d_X_init_9 : decode M_X_init.2.1 9 = .ok (.aload_n 0, 1) := by decide +kernel
theorem d_X_init_10 : decode M_X_init.2.1 10 = .ok (.aload_n 2, 1) := by decide +kernel
theorem d_X_init_11 : decode M_X_init.2.1 11 = .ok (.putfield 15, 3) := by decide +kernel
theorem d_X_init_14 : decode M_X_init.2.1 14 = .ok (.return_, 1) := by decide +kernel
theorem d_K_init_0 : decode M_K_init.2.1 0 = .ok (.aload_n 0, 1) := by decide +kernel
theorem d_K_init_1 : decode M_K_init.2.1 1 = .ok (.invokespecial 3, 3) := by decide +kernel
theorem d_K_init_4 : decode M_K_init.2.1 4 = .ok (.aload_n 0, 1) := by decide +kernel
theorem d_K_init_5 : decode M_K_init.2.1 5 = .ok (.bipush 40, 2) := by decide +kernel
theorem d_K_init_7 : decode M_K_init.2.1 7 = .ok (.newarray .int, 2) := by decide +kernel
theorem d_K_init_9 : decode M_K_init.2.1 9 = .ok (.putfield 9, 3) := by decide +kernel
theorem d_K_init_12 : decode M_K_init.2.1 12 = .ok (.aload_n 0, 1) := by decide +kernel
theorem d_K_init_13 : decode M_K_init.2.1 13 = .ok (.bipush 6, 2) := by decide +kernel
theorem d_K_init_15 : decode M_K_init.2.1 15 = .ok (.newarray .long, 2) := by decide +kernel
theorem d_K_init_17 : decode M_K_init.2.1 17 = .ok (.putfield 15, 3) := by decide +kernel
theorem d_K_init_20 : decode M_K_init.2.1 20 = .ok (.aload_n 0, 1) := by decide +kernel
theorem d_K_init_21 : decode M_K_init.2.1 21 = .ok (.bipush 6, 2) := by decide +kernel
theorem d_K_init_23 : decode M_K_init.2.1 23 = .ok (.newarray .long, 2) := by decide +kernel
theorem d_K_init_25 : decode M_K_init.2.1 25 = .ok (.putfield 19, 3) := by decide +kernel
theorem d_K_init_28 : decode M_K_init.2.1 28 = .ok (.aload_n 0, 1) := by decide +kernel
theorem d_K_init_29 : decode M_K_init.2.1 29 = .ok (.bipush 6, 2) := by decide +kernel
theorem d_K_init_31 : decode M_K_init.2.1 31 = .ok (.newarray .long, 2) := by decide +kernel
theorem d_K_init_33 : decode M_K_init.2.1 33 = .ok (.putfield 22, 3) := by decide +kernel
theorem d_K_init_36 : decode M_K_init.2.1 36 = .ok (.aload_n 0, 1) := by decide +kernel
theorem d_K_init_37 : decode M_K_init.2.1 37 = .ok (.aload_n 1, 1) := by decide +kernel
theorem d_K_init_38 : decode M_K_init.2.1 38 = .ok (.putfield 25, 3) := by decide +kernel
theorem d_K_init_41 : decode M_K_init.2.1 41 = .ok (.return_, 1) := by decide +kernel
theorem d_D_init_0 : decode M_D_init.2.1 0 = .ok (.aload_n 0, 1) := by decide +kernel
theorem d_D_init_1 : decode M_D_init.2.1 1 = .ok (.invokespecial 3, 3) := by decide +kernel
theorem d_D_init_4 : decode M_D_init.2.1 4 = .ok (.aload_n 0, 1) := by decide +kernel
theorem d_D_init_5 : decode M_D_init.2.1 5 = .ok (.sipush 240, 3) := by decide +kernel
theorem d_D_init_8 : decode M_D_init.2.1 8 = .ok (.newarray .long, 2) := by decide +kernel
theorem d_D_init_10 : decode M_D_init.2.1 10 = .ok (.putfield 9, 3) := by decide +kernel
theorem d_D_init_13 : decode M_D_init.2.1 13 = .ok (.aload_n 0, 1) := by decide +kernel
theorem d_D_init_14 : decode M_D_init.2.1 14 = .ok (.aload_n 1, 1) := by decide +kernel
theorem d_D_init_15 : decode M_D_init.2.1 15 = .ok (.putfield 15, 3) := by decide +kernel
theorem d_D_init_18 : decode M_D_init.2.1 18 = .ok (.return_, 1) := by decide +kernel
theorem d_E_init_0 : decode M_E_init.2.1 0 = .ok (.aload_n 0, 1) := by decide +kernel
theorem d_E_init_1 : decode M_E_init.2.1 1 = .ok (.invokespecial 3, 3) := by decide +kernel
theorem d_E_init_4 : decode M_E_init.2.1 4 = .ok (.aload_n 0, 1) := by decide +kernel
theorem d_E_init_5 : decode M_E_init.2.1 5 = .ok (.bipush 40, 2) := by decide +kernel
theorem d_E_init_7 : decode M_E_init.2.1 7 = .ok (.newarray .int, 2) := by decide +kernel
theorem d_E_init_9 : decode M_E_init.2.1 9 = .ok (.putfield 9, 3) := by decide +kernel
theorem d_E_init_12 : decode M_E_init.2.1 12 = .ok (.aload_n 0, 1) := by decide +kernel
theorem d_E_init_13 : decode M_E_init.2.1 13 = .ok (.sipush 1600, 3) := by decide +kernel
theorem d_E_init_16 : decode M_E_init.2.1 16 = .ok (.newarray .int, 2) := by decide +kernel
theorem d_E_init_18 : decode M_E_init.2.1 18 = .ok (.putfield 15, 3) := by decide +kernel
theorem d_E_init_21 : decode M_E_init.2.1 21 = .ok (.aload_n 0, 1) := by decide +kernel
theorem d_E_init_22 : decode M_E_init.2.1 22 = .ok (.aload_n 1, 1) := by decide +kernel
theorem d_E_init_23 : decode M_E_init.2.1 23 = .ok (.putfield 18, 3) := by decide +kernel
theorem d_E_init_26 : decode M_E_init.2.1 26 = .ok (.return_, 1) := by decide +kernel
theorem d_N_init_0 : decode M_N_init.2.1 0 = .ok (.aload_n 0, 1) := by decide +kernel
theorem d_N_init_1 : decode M_N_init.2.1 1 = .ok (.invokespecial 3, 3) := by decide +kernel
theorem d_N_init_4 : decode M_N_init.2.1 4 = .ok (.aload_n 0, 1) := by decide +kernel
theorem d_N_init_5 : decode M_N_init.2.1 5 = .ok (.sipush 2130, 3) := by decide +kernel
theorem d_N_init_8 : decode M_N_init.2.1 8 = .ok (.newarray .long, 2) := by decide +kernel
theorem d_N_init_10 : decode M_N_init.2.1 10 = .ok (.putfield 11, 3) := by decide +kernel
theorem d_N_init_13 : decode M_N_init.2.1 13 = .ok (.aload_n 0, 1) := by decide +kernel
theorem d_N_init_14 : decode M_N_init.2.1 14 = .ok (.bipush 40, 2) := by decide +kernel
theorem d_N_init_16 : decode M_N_init.2.1 16 = .ok (.newarray .int, 2) := by decide +kernel
theorem d_N_init_18 : decode M_N_init.2.1 18 = .ok (.putfield 15, 3) := by decide +kernel
theorem d_N_init_21 : decode M_N_init.2.1 21 = .ok (.aload_n 0, 1) := by decide +kernel
theorem d_N_init_22 : decode M_N_init.2.1 22 = .ok (.bipush 40, 2) := by decide +kernel
theorem d_N_init_24 : decode M_N_init.2.1 24 = .ok (.newarray .int, 2) := by decide +kernel
theorem d_N_init_26 : decode M_N_init.2.1 26 = .ok (.putfield 19, 3) := by decide +kernel
theorem d_N_init_29 : decode M_N_init.2.1 29 = .ok (.aload_n 0, 1) := by decide +kernel
theorem d_N_init_30 : decode M_N_init.2.1 30 = .ok (.sipush 200, 3) := by decide +kernel
theorem d_N_init_33 : decode M_N_init.2.1 33 = .ok (.newarray .int, 2) := by decide +kernel
theorem d_N_init_35 : decode M_N_init.2.1 35 = .ok (.putfield 22, 3) := by decide +kernel
theorem d_N_init_38 : decode M_N_init.2.1 38 = .ok (.aload_n 0, 1) := by decide +kernel
theorem d_N_init_39 : decode M_N_init.2.1 39 = .ok (.iconst 4, 1) := by decide +kernel
theorem d_N_init_40 : decode M_N_init.2.1 40 = .ok (.newarray .int, 2) := by decide +kernel
theorem d_N_init_42 : decode M_N_init.2.1 42 = .ok (.putfield 25, 3) := by decide +kernel
theorem d_N_init_45 : decode M_N_init.2.1 45 = .ok (.aload_n 0, 1) := by decide +kernel
theorem d_N_init_46 : decode M_N_init.2.1 46 = .ok (.iconst 4, 1) := by decide +kernel
theorem d_N_init_47 : decode M_N_init.2.1 47 = .ok (.newarray .long, 2) := by decide +kernel
theorem d_N_init_49 : decode M_N_init.2.1 49 = .ok (.putfield 28, 3) := by decide +kernel
theorem d_N_init_52 : decode M_N_init.2.1 52 = .ok (.aload_n 0, 1) := by decide +kernel
theorem d_N_init_53 : decode M_N_init.2.1 53 = .ok (.bipush 6, 2) := by decide +kernel
theorem d_N_init_55 : decode M_N_init.2.1 55 = .ok (.newarray .long, 2) := by decide +kernel
theorem d_N_init_57 : decode M_N_init.2.1 57 = .ok (.putfield 31, 3) := by decide +kernel
theorem d_N_init_60 : decode M_N_init.2.1 60 = .ok (.aload_n 0, 1) := by decide +kernel
theorem d_N_init_61 : decode M_N_init.2.1 61 = .ok (.aload_n 1, 1) := by decide +kernel
theorem d_N_init_62 : decode M_N_init.2.1 62 = .ok (.putfield 34, 3) := by decide +kernel
theorem d_N_init_65 : decode M_N_init.2.1 65 = .ok (.return_, 1) := by decide +kernel
theorem d_T_init_0 : decode M_T_init.2.1 0 = .ok (.aload_n 0, 1) := by decide +kernel
theorem d_T_init_1 : decode M_T_init.2.1 1 = .ok (.invokespecial 3, 3) := by decide +kernel
theorem d_T_init_4 : decode M_T_init.2.1 4 = .ok (.aload_n 0, 1) := by decide +kernel
theorem d_T_init_5 : decode M_T_init.2.1 5 = .ok (.sipush 160, 3) := by decide +kernel
theorem d_T_init_8 : decode M_T_init.2.1 8 = .ok (.newarray .char, 2) := by decide +kernel
theorem d_T_init_10 : decode M_T_init.2.1 10 = .ok (.putfield 11, 3) := by decide +kernel
theorem d_T_init_13 : decode M_T_init.2.1 13 = .ok (.aload_n 0, 1) := by decide +kernel
theorem d_T_init_14 : decode M_T_init.2.1 14 = .ok (.bipush 6, 2) := by decide +kernel
theorem d_T_init_16 : decode M_T_init.2.1 16 = .ok (.newarray .long, 2) := by decide +kernel
theorem d_T_init_18 : decode M_T_init.2.1 18 = .ok (.putfield 15, 3) := by decide +kernel
theorem d_T_init_21 : decode M_T_init.2.1 21 = .ok (.aload_n 0, 1) := by decide +kernel
theorem d_T_init_22 : decode M_T_init.2.1 22 = .ok (.aload_n 1, 1) := by decide +kernel
theorem d_T_init_23 : decode M_T_init.2.1 23 = .ok (.putfield 19, 3) := by decide +kernel
theorem d_T_init_26 : decode M_T_init.2.1 26 = .ok (.return_, 1) := by decide +kernel
theorem d_S_init_0 : decode M_S_init.2.1 0 = .ok (.aload_n 0, 1) := by decide +kernel
theorem d_S_init_1 : decode M_S_init.2.1 1 = .ok (.invokespecial 3, 3) := by decide +kernel
theorem d_S_init_4 : decode M_S_init.2.1 4 = .ok (.aload_n 0, 1) := by decide +kernel
theorem d_S_init_5 : decode M_S_init.2.1 5 = .ok (.bipush 6, 2) := by decide +kernel
theorem d_S_init_7 : decode M_S_init.2.1 7 = .ok (.newarray .long, 2) := by decide +kernel
theorem d_S_init_9 : decode M_S_init.2.1 9 = .ok (.putfield 9, 3) := by decide +kernel
theorem d_S_init_12 : decode M_S_init.2.1 12 = .ok (.return_, 1) := by decide +kernel
theorem d_A_init_0 : decode M_A_init.2.1 0 = .ok (.aload_n 0, 1) := by decide +kernel
theorem d_A_init_1 : decode M_A_init.2.1 1 = .ok (.invokespecial 1, 3) := by decide +kernel
theorem d_A_init_4 : decode M_A_init.2.1 4 = .ok (.new 7, 3) := by decide +kernel
theorem d_A_init_7 : decode M_A_init.2.1 7 = .ok (.dup, 1) := by decide +kernel
theorem d_A_init_8 : decode M_A_init.2.1 8 = .ok (.invokespecial 9, 3) := by decide +kernel
theorem d_A_init_11 : decode M_A_init.2.1 11 = .ok (.astore_n 1, 1) := by decide +kernel
theorem d_A_init_12 : decode M_A_init.2.1 12 = .ok (.aload_n 1, 1) := by decide +kernel
theorem d_A_init_13 : decode M_A_init.2.1 13 = .ok (.bipush 7, 2) := by decide +kernel
theorem d_A_init_15 : decode M_A_init.2.1 15 = .ok (.iconst 1, 1) := by decide +kernel
theorem d_A_init_16 : decode M_A_init.2.1 16 = .ok (.invokevirtual 10, 3) := by decide +kernel
theorem d_A_init_19 : decode M_A_init.2.1 19 = .ok (.new 14, 3) := by decide +kernel
theorem d_A_init_22 : decode M_A_init.2.1 22 = .ok (.dup, 1) := by decide +kernel
theorem d_A_init_23 : decode M_A_init.2.1 23 = .ok (.aload_n 1, 1) := by decide +kernel
theorem d_A_init_24 : decode M_A_init.2.1 24 = .ok (.invokespecial 16, 3) := by decide +kernel
theorem d_A_init_27 : decode M_A_init.2.1 27 = .ok (.astore_n 2, 1) := by decide +kernel
theorem d_A_init_28 : decode M_A_init.2.1 28 = .ok (.aload_n 0, 1) := by decide +kernel
theorem d_A_init_29 : decode M_A_init.2.1 29 = .ok (.aload_n 1, 1) := by decide +kernel
theorem d_A_init_30 : decode M_A_init.2.1 30 = .ok (.putfield 19, 3) := by decide +kernel
theorem d_A_init_33 : decode M_A_init.2.1 33 = .ok (.aload_n 0, 1) := by decide +kernel
theorem d_A_init_34 : decode M_A_init.2.1 34 = .ok (.bipush 6, 2) := by decide +kernel
theorem d_A_init_36 : decode M_A_init.2.1 36 = .ok (.newarray .long, 2) := by decide +kernel
theorem d_A_init_38 : decode M_A_init.2.1 38 = .ok (.putfield 25, 3) := by decide +kernel
theorem d_A_init_41 : decode M_A_init.2.1 41 = .ok (.aload_n 0, 1) := by decide +kernel
theorem d_A_init_42 : decode M_A_init.2.1 42 = .ok (.new 29, 3) := by decide +kernel
theorem d_A_init_45 : decode M_A_init.2.1 45 = .ok (.dup, 1) := by decide +kernel
theorem d_A_init_46 : decode M_A_init.2.1 46 = .ok (.invokespecial 31, 3) := by decide +kernel
theorem d_A_init_49 : decode M_A_init.2.1 49 = .ok (.putfield 32, 3) := by decide +kernel
theorem d_A_init_52 : decode M_A_init.2.1 52 = .ok (.aload_n 0, 1) := by decide +kernel
theorem d_A_init_53 : decode M_A_init.2.1 53 = .ok (.aload_n 2, 1) := by decide +kernel
theorem d_A_init_54 : decode M_A_init.2.1 54 = .ok (.putfield 36, 3) := by decide +kernel
theorem d_A_init_57 : decode M_A_init.2.1 57 = .ok (.aload_n 0, 1) := by decide +kernel
theorem d_A_init_58 : decode M_A_init.2.1 58 = .ok (.new 40, 3) := by decide +kernel
theorem d_A_init_61 : decode M_A_init.2.1 61 = .ok (.dup, 1) := by decide +kernel
theorem d_A_init_62 : decode M_A_init.2.1 62 = .ok (.aload_n 1, 1) := by decide +kernel
theorem d_A_init_63 : decode M_A_init.2.1 63 = .ok (.aload_n 2, 1) := by decide +kernel
theorem d_A_init_64 : decode M_A_init.2.1 64 = .ok (.invokespecial 42, 3) := by decide +kernel
theorem d_A_init_67 : decode M_A_init.2.1 67 = .ok (.putfield 45, 3) := by decide +kernel
theorem d_A_init_70 : decode M_A_init.2.1 70 = .ok (.aload_n 0, 1) := by decide +kernel
theorem d_A_init_71 : decode M_A_init.2.1 71 = .ok (.new 49, 3) := by decide +kernel
theorem d_A_init_74 : decode M_A_init.2.1 74 = .ok (.dup, 1) := by decide +kernel
theorem d_A_init_75 : decode M_A_init.2.1 75 = .ok (.aload_n 1, 1) := by decide +kernel
theorem d_A_init_76 : decode M_A_init.2.1 76 = .ok (.invokespecial 51, 3) := by decide +kernel
theorem d_A_init_79 : decode M_A_init.2.1 79 = .ok (.putfield 52, 3) := by decide +kernel
theorem d_A_init_82 : decode M_A_init.2.1 82 = .ok (.aload_n 0, 1) := by decide +kernel
theorem d_A_init_83 : decode M_A_init.2.1 83 = .ok (.new 56, 3) := by decide +kernel
theorem d_A_init_86 : decode M_A_init.2.1 86 = .ok (.dup, 1) := by decide +kernel
theorem d_A_init_87 : decode M_A_init.2.1 87 = .ok (.aload_n 1, 1) := by decide +kernel
theorem d_A_init_88 : decode M_A_init.2.1 88 = .ok (.invokespecial 58, 3) := by decide +kernel
theorem d_A_init_91 : decode M_A_init.2.1 91 = .ok (.putfield 59, 3) := by decide +kernel
theorem d_A_init_94 : decode M_A_init.2.1 94 = .ok (.aload_n 0, 1) := by decide +kernel
theorem d_A_init_95 : decode M_A_init.2.1 95 = .ok (.new 63, 3) := by decide +kernel
theorem d_A_init_98 : decode M_A_init.2.1 98 = .ok (.dup, 1) := by decide +kernel
theorem d_A_init_99 : decode M_A_init.2.1 99 = .ok (.aload_n 1, 1) := by decide +kernel
theorem d_A_init_100 : decode M_A_init.2.1 100 = .ok (.invokespecial 65, 3) := by decide +kernel
theorem d_A_init_103 : decode M_A_init.2.1 103 = .ok (.putfield 66, 3) := by decide +kernel
theorem d_A_init_106 : decode M_A_init.2.1 106 = .ok (.aload_n 0, 1) := by decide +kernel
theorem d_A_init_107 : decode M_A_init.2.1 107 = .ok (.new 70, 3) := by decide +kernel
theorem d_A_init_110 : decode M_A_init.2.1 110 = .ok (.dup, 1) := by decide +kernel
theorem d_A_init_111 : decode M_A_init.2.1 111 = .ok (.aload_n 1, 1) := by decide +kernel
theorem d_A_init_112 : decode M_A_init.2.1 112 = .ok (.invokespecial 72, 3) := by decide +kernel
theorem d_A_init_115 : decode M_A_init.2.1 115 = .ok (.putfield 73, 3) := by decide +kernel
theorem d_A_init_118 : decode M_A_init.2.1 118 = .ok (.aload_n 0, 1) := by decide +kernel
theorem d_A_init_119 : decode M_A_init.2.1 119 = .ok (.new 77, 3) := by decide +kernel
theorem d_A_init_122 : decode M_A_init.2.1 122 = .ok (.dup, 1) := by decide +kernel
theorem d_A_init_123 : decode M_A_init.2.1 123 = .ok (.aload_n 1, 1) := by decide +kernel
theorem d_A_init_124 : decode M_A_init.2.1 124 = .ok (.invokespecial 79, 3) := by decide +kernel
theorem d_A_init_127 : decode M_A_init.2.1 127 = .ok (.putfield 80, 3) := by decide +kernel
theorem d_A_init_130 : decode M_A_init.2.1 130 = .ok (.aload_n 0, 1) := by decide +kernel
theorem d_A_init_131 : decode M_A_init.2.1 131 = .ok (.new 84, 3) := by decide +kernel
theorem d_A_init_134 : decode M_A_init.2.1 134 = .ok (.dup, 1) := by decide +kernel
theorem d_A_init_135 : decode M_A_init.2.1 135 = .ok (.invokespecial 86, 3) := by decide +kernel
theorem d_A_init_138 : decode M_A_init.2.1 138 = .ok (.putfield 87, 3) := by decide +kernel
theorem d_A_init_141 : decode M_A_init.2.1 141 = .ok (.aload_n 0, 1) := by decide +kernel
theorem d_A_init_142 : decode M_A_init.2.1 142 = .ok (.new 84, 3) := by decide +kernel
theorem d_A_init_145 : decode M_A_init.2.1 145 = .ok (.dup, 1) := by decide +kernel
theorem d_A_init_146 : decode M_A_init.2.1 146 = .ok (.invokespecial 86, 3) := by decide +kernel
theorem d_A_init_149 : decode M_A_init.2.1 149 = .ok (.putfield 91, 3) := by decide +kernel
theorem d_A_init_152 : decode M_A_init.2.1 152 = .ok (.aload_n 0, 1) := by decide +kernel
theorem d_A_init_153 : decode M_A_init.2.1 153 = .ok (.lconst 1, 1) := by decide +kernel
theorem d_A_init_154 : decode M_A_init.2.1 154 = .ok (.putfield 94, 3) := by decide +kernel
theorem d_A_init_157 : decode M_A_init.2.1 157 = .ok (.return_, 1) := by decide +kernel
theorem d_D_meetingsIn_0 : decode M_D_meetingsIn.2.1 0 = .ok (.iconst 0, 1) := by decide +kernel
theorem d_D_meetingsIn_1 : decode M_D_meetingsIn.2.1 1 = .ok (.istore_n 2, 1) := by decide +kernel
theorem d_D_meetingsIn_2 : decode M_D_meetingsIn.2.1 2 = .ok (.iconst 1, 1) := by decide +kernel
theorem d_D_meetingsIn_3 : decode M_D_meetingsIn.2.1 3 = .ok (.istore_n 3, 1) := by decide +kernel
theorem d_D_meetingsIn_4 : decode M_D_meetingsIn.2.1 4 = .ok (.iload_n 3, 1) := by decide +kernel
theorem d_D_meetingsIn_5 : decode M_D_meetingsIn.2.1 5 = .ok (.aload_n 0, 1) := by decide +kernel
theorem d_D_meetingsIn_6 : decode M_D_meetingsIn.2.1 6 = .ok (.getfield 19, 3) := by decide +kernel
theorem d_D_meetingsIn_9 : decode M_D_meetingsIn.2.1 9 = .ok (.if_icmp .ge 48, 3) := by decide +kernel
theorem d_D_meetingsIn_12 : decode M_D_meetingsIn.2.1 12 = .ok (.iconst 0, 1) := by decide +kernel
theorem d_D_meetingsIn_13 : decode M_D_meetingsIn.2.1 13 = .ok (.istore 4, 2) := by decide +kernel
theorem d_D_meetingsIn_15 : decode M_D_meetingsIn.2.1 15 = .ok (.iload 4, 2) := by decide +kernel
theorem d_D_meetingsIn_17 : decode M_D_meetingsIn.2.1 17 = .ok (.iload_n 3, 1) := by decide +kernel
theorem d_D_meetingsIn_18 : decode M_D_meetingsIn.2.1 18 = .ok (.if_icmp .ge 33, 3) := by decide +kernel
theorem d_D_meetingsIn_21 : decode M_D_meetingsIn.2.1 21 = .ok (.aload_n 0, 1) := by decide +kernel
theorem d_D_meetingsIn_22 : decode M_D_meetingsIn.2.1 22 = .ok (.getfield 9, 3) := by decide +kernel
theorem d_D_meetingsIn_25 : decode M_D_meetingsIn.2.1 25 = .ok (.iload_n 3, 1) := by decide +kernel
theorem d_D_meetingsIn_26 : decode M_D_meetingsIn.2.1 26 = .ok (.laload, 1) := by decide +kernel
theorem d_D_meetingsIn_27 : decode M_D_meetingsIn.2.1 27 = .ok (.aload_n 0, 1) := by decide +kernel
theorem d_D_meetingsIn_28 : decode M_D_meetingsIn.2.1 28 = .ok (.getfield 9, 3) := by decide +kernel
theorem d_D_meetingsIn_31 : decode M_D_meetingsIn.2.1 31 = .ok (.iload 4, 2) := by decide +kernel
theorem d_D_meetingsIn_33 : decode M_D_meetingsIn.2.1 33 = .ok (.laload, 1) := by decide +kernel
theorem d_D_meetingsIn_34 : decode M_D_meetingsIn.2.1 34 = .ok (.land, 1) := by decide +kernel
theorem d_D_meetingsIn_35 : decode M_D_meetingsIn.2.1 35 = .ok (.invokestatic 40, 3) := by decide +kernel
theorem d_D_meetingsIn_38 : decode M_D_meetingsIn.2.1 38 = .ok (.iload_n 1, 1) := by decide +kernel
theorem d_D_meetingsIn_39 : decode M_D_meetingsIn.2.1 39 = .ok (.if_icmp .ne 6, 3) := by decide +kernel
theorem d_D_meetingsIn_42 : decode M_D_meetingsIn.2.1 42 = .ok (.iinc 2 1, 3) := by decide +kernel
theorem d_D_meetingsIn_45 : decode M_D_meetingsIn.2.1 45 = .ok (.iinc 4 1, 3) := by decide +kernel
theorem d_D_meetingsIn_48 : decode M_D_meetingsIn.2.1 48 = .ok (.goto (-33), 3) := by decide +kernel
theorem d_D_meetingsIn_51 : decode M_D_meetingsIn.2.1 51 = .ok (.iinc 3 1, 3) := by decide +kernel
theorem d_D_meetingsIn_54 : decode M_D_meetingsIn.2.1 54 = .ok (.goto (-50), 3) := by decide +kernel
theorem d_D_meetingsIn_57 : decode M_D_meetingsIn.2.1 57 = .ok (.iload_n 2, 1) := by decide +kernel
theorem d_D_meetingsIn_58 : decode M_D_meetingsIn.2.1 58 = .ok (.ireturn, 1) := by decide +kernel
theorem d_A_intersections_0 : decode M_A_intersections.2.1 0 = .ok (.iload_n 1, 1) := by decide +kernel
theorem d_A_intersections_1 : decode M_A_intersections.2.1 1 = .ok (.iconst 0, 1) := by decide +kernel
theorem d_A_intersections_2 : decode M_A_intersections.2.1 2 = .ok (.bipush 40, 2) := by decide +kernel
theorem d_A_intersections_4 : decode M_A_intersections.2.1 4 = .ok (.invokestatic 128, 3) := by decide +kernel
theorem d_A_intersections_7 : decode M_A_intersections.2.1 7 = .ok (.ifCond .ne 5, 3) := by decide +kernel
theorem d_A_intersections_10 : decode M_A_intersections.2.1 10 = .ok (.iconst (-1), 1) := by decide +kernel
theorem d_A_intersections_11 : decode M_A_intersections.2.1 11 = .ok (.ireturn, 1) := by decide +kernel
theorem d_A_intersections_12 : decode M_A_intersections.2.1 12 = .ok (.aload_n 0, 1) := by decide +kernel
theorem d_A_intersections_13 : decode M_A_intersections.2.1 13 = .ok (.getfield 59, 3) := by decide +kernel
theorem d_A_intersections_16 : decode M_A_intersections.2.1 16 = .ok (.aload_n 0, 1) := by decide +kernel
theorem d_A_intersections_17 : decode M_A_intersections.2.1 17 = .ok (.getfield 25, 3) := by decide +kernel
theorem d_A_intersections_20 : decode M_A_intersections.2.1 20 = .ok (.invokevirtual 265, 3) := by decide +kernel
theorem d_A_intersections_23 : decode M_A_intersections.2.1 23 = .ok (.aload_n 0, 1) := by decide +kernel
theorem d_A_intersections_24 : decode M_A_intersections.2.1 24 = .ok (.getfield 59, 3) := by decide +kernel
theorem d_A_intersections_27 : decode M_A_intersections.2.1 27 = .ok (.iload_n 1, 1) := by decide +kernel
theorem d_A_intersections_28 : decode M_A_intersections.2.1 28 = .ok (.invokevirtual 275, 3) := by decide +kernel
theorem d_A_intersections_31 : decode M_A_intersections.2.1 31 = .ok (.ireturn, 1) := by decide +kernel
theorem d_A_isSlot_0 : decode M_A_isSlot.2.1 0 = .ok (.iload_n 0, 1) := by decide +kernel
theorem d_A_isSlot_1 : decode M_A_isSlot.2.1 1 = .ok (.ifCond .eq 8, 3) := by decide +kernel
theorem d_A_isSlot_4 : decode M_A_isSlot.2.1 4 = .ok (.iload_n 0, 1) := by decide +kernel
theorem d_A_isSlot_5 : decode M_A_isSlot.2.1 5 = .ok (.iconst 1, 1) := by decide +kernel
theorem d_A_isSlot_6 : decode M_A_isSlot.2.1 6 = .ok (.if_icmp .ne 7, 3) := by decide +kernel
theorem d_A_isSlot_9 : decode M_A_isSlot.2.1 9 = .ok (.iconst 1, 1) := by decide +kernel
theorem d_A_isSlot_10 : decode M_A_isSlot.2.1 10 = .ok (.goto 4, 3) := by decide +kernel
theorem d_A_isSlot_13 : decode M_A_isSlot.2.1 13 = .ok (.iconst 0, 1) := by decide +kernel
theorem d_A_isSlot_14 : decode M_A_isSlot.2.1 14 = .ok (.ireturn, 1) := by decide +kernel
theorem d_A_slotAt_0 : decode M_A_slotAt.2.1 0 = .ok (.iload_n 1, 1) := by decide +kernel
theorem d_A_slotAt_1 : decode M_A_slotAt.2.1 1 = .ok (.ifCond .ne 10, 3) := by decide +kernel
theorem d_A_slotAt_4 : decode M_A_slotAt.2.1 4 = .ok (.aload_n 0, 1) := by decide +kernel
theorem d_A_slotAt_5 : decode M_A_slotAt.2.1 5 = .ok (.getfield 87, 3) := by decide +kernel
theorem d_A_slotAt_8 : decode M_A_slotAt.2.1 8 = .ok (.goto 7, 3) := by decide +kernel
theorem d_A_slotAt_11 : decode M_A_slotAt.2.1 11 = .ok (.aload_n 0, 1) := by decide +kernel
theorem d_A_slotAt_12 : decode M_A_slotAt.2.1 12 = .ok (.getfield 91, 3) := by decide +kernel
theorem d_A_slotAt_15 : decode M_A_slotAt.2.1 15 = .ok (.areturn, 1) := by decide +kernel
theorem d_K_areAlike_0 : decode M_K_areAlike.2.1 0 = .ok (.aload_n 0, 1) := by decide +kernel
theorem d_K_areAlike_1 : decode M_K_areAlike.2.1 1 = .ok (.aload_n 2, 1) := by decide +kernel
theorem d_K_areAlike_2 : decode M_K_areAlike.2.1 2 = .ok (.aload_n 0, 1) := by decide +kernel
theorem d_K_areAlike_3 : decode M_K_areAlike.2.1 3 = .ok (.getfield 15, 3) := by decide +kernel
theorem d_K_areAlike_6 : decode M_K_areAlike.2.1 6 = .ok (.invokevirtual 46, 3) := by decide +kernel
theorem d_K_areAlike_9 : decode M_K_areAlike.2.1 9 = .ok (.istore_n 3, 1) := by decide +kernel
theorem d_K_areAlike_10 : decode M_K_areAlike.2.1 10 = .ok (.aload_n 0, 1) := by decide +kernel
theorem d_K_areAlike_11 : decode M_K_areAlike.2.1 11 = .ok (.aload_n 1, 1) := by decide +kernel
theorem d_K_areAlike_12 : decode M_K_areAlike.2.1 12 = .ok (.aload_n 0, 1) := by decide +kernel
theorem d_K_areAlike_13 : decode M_K_areAlike.2.1 13 = .ok (.getfield 19, 3) := by decide +kernel
theorem d_K_areAlike_16 : decode M_K_areAlike.2.1 16 = .ok (.invokevirtual 46, 3) := by decide +kernel
theorem d_K_areAlike_19 : decode M_K_areAlike.2.1 19 = .ok (.iload_n 3, 1) := by decide +kernel
theorem d_K_areAlike_20 : decode M_K_areAlike.2.1 20 = .ok (.if_icmp .eq 5, 3) := by decide +kernel
theorem d_K_areAlike_23 : decode M_K_areAlike.2.1 23 = .ok (.iconst 0, 1) := by decide +kernel
theorem d_K_areAlike_24 : decode M_K_areAlike.2.1 24 = .ok (.ireturn, 1) := by decide +kernel
theorem d_K_areAlike_25 : decode M_K_areAlike.2.1 25 = .ok (.iconst 0, 1) := by decide +kernel
theorem d_K_areAlike_26 : decode M_K_areAlike.2.1 26 = .ok (.istore 4, 2) := by decide +kernel
theorem d_K_areAlike_28 : decode M_K_areAlike.2.1 28 = .ok (.iload 4, 2) := by decide +kernel
theorem d_K_areAlike_30 : decode M_K_areAlike.2.1 30 = .ok (.aload_n 0, 1) := by decide +kernel
theorem d_K_areAlike_31 : decode M_K_areAlike.2.1 31 = .ok (.getfield 25, 3) := by decide +kernel
theorem d_K_areAlike_34 : decode M_K_areAlike.2.1 34 = .ok (.getfield 69, 3) := by decide +kernel
theorem d_K_areAlike_37 : decode M_K_areAlike.2.1 37 = .ok (.if_icmp .ge 49, 3) := by decide +kernel
theorem d_K_areAlike_40 : decode M_K_areAlike.2.1 40 = .ok (.aload_n 0, 1) := by decide +kernel
theorem d_K_areAlike_41 : decode M_K_areAlike.2.1 41 = .ok (.getfield 25, 3) := by decide +kernel
theorem d_K_areAlike_44 : decode M_K_areAlike.2.1 44 = .ok (.iload 4, 2) := by decide +kernel
theorem d_K_areAlike_46 : decode M_K_areAlike.2.1 46 = .ok (.aload_n 0, 1) := by decide +kernel
theorem d_K_areAlike_47 : decode M_K_areAlike.2.1 47 = .ok (.getfield 9, 3) := by decide +kernel
theorem d_K_areAlike_50 : decode M_K_areAlike.2.1 50 = .ok (.invokevirtual 29, 3) := by decide +kernel
theorem d_K_areAlike_53 : decode M_K_areAlike.2.1 53 = .ok (.aload_n 0, 1) := by decide +kernel
theorem d_K_areAlike_54 : decode M_K_areAlike.2.1 54 = .ok (.aload_n 1, 1) := by decide +kernel
theorem d_K_areAlike_55 : decode M_K_areAlike.2.1 55 = .ok (.aload_n 0, 1) := by decide +kernel
theorem d_K_areAlike_56 : decode M_K_areAlike.2.1 56 = .ok (.getfield 19, 3) := by decide +kernel
theorem d_K_areAlike_59 : decode M_K_areAlike.2.1 59 = .ok (.invokevirtual 62, 3) := by decide +kernel
theorem d_K_areAlike_62 : decode M_K_areAlike.2.1 62 = .ok (.pop, 1) := by decide +kernel
theorem d_K_areAlike_63 : decode M_K_areAlike.2.1 63 = .ok (.aload_n 0, 1) := by decide +kernel
theorem d_K_areAlike_64 : decode M_K_areAlike.2.1 64 = .ok (.getfield 19, 3) := by decide +kernel
theorem d_K_areAlike_67 : decode M_K_areAlike.2.1 67 = .ok (.aload_n 0, 1) := by decide +kernel
theorem d_K_areAlike_68 : decode M_K_areAlike.2.1 68 = .ok (.getfield 15, 3) := by decide +kernel
theorem d_K_areAlike_71 : decode M_K_areAlike.2.1 71 = .ok (.iload_n 3, 1) := by decide +kernel
theorem d_K_areAlike_72 : decode M_K_areAlike.2.1 72 = .ok (.invokestatic 65, 3) := by decide +kernel
theorem d_K_areAlike_75 : decode M_K_areAlike.2.1 75 = .ok (.ifCond .ne 5, 3) := by decide +kernel
theorem d_K_areAlike_78 : decode M_K_areAlike.2.1 78 = .ok (.iconst 1, 1) := by decide +kernel
theorem d_K_areAlike_79 : decode M_K_areAlike.2.1 79 = .ok (.ireturn, 1) := by decide +kernel
theorem d_K_areAlike_80 : decode M_K_areAlike.2.1 80 = .ok (.iinc 4 1, 3) := by decide +kernel
theorem d_K_areAlike_83 : decode M_K_areAlike.2.1 83 = .ok (.goto (-55), 3) := by decide +kernel
theorem d_K_areAlike_86 : decode M_K_areAlike.2.1 86 = .ok (.iconst 0, 1) := by decide +kernel
theorem d_K_areAlike_87 : decode M_K_areAlike.2.1 87 = .ok (.ireturn, 1) := by decide +kernel
theorem d_A_isEquivalent_0 : decode M_A_isEquivalent.2.1 0 = .ok (.iload_n 1, 1) := by decide +kernel
theorem d_A_isEquivalent_1 : decode M_A_isEquivalent.2.1 1 = .ok (.invokestatic 251, 3) := by decide +kernel
theorem d_A_isEquivalent_4 : decode M_A_isEquivalent.2.1 4 = .ok (.ifCond .ne 5, 3) := by decide +kernel
theorem d_A_isEquivalent_7 : decode M_A_isEquivalent.2.1 7 = .ok (.iconst (-1), 1) := by decide +kernel
theorem d_A_isEquivalent_8 : decode M_A_isEquivalent.2.1 8 = .ok (.ireturn, 1) := by decide +kernel
theorem d_A_isEquivalent_9 : decode M_A_isEquivalent.2.1 9 = .ok (.aload_n 0, 1) := by decide +kernel
theorem d_A_isEquivalent_10 : decode M_A_isEquivalent.2.1 10 = .ok (.iload_n 1, 1) := by decide +kernel
theorem d_A_isEquivalent_11 : decode M_A_isEquivalent.2.1 11 = .ok (.invokevirtual 254, 3) := by decide +kernel
theorem d_A_isEquivalent_14 : decode M_A_isEquivalent.2.1 14 = .ok (.getfield 116, 3) := by decide +kernel
theorem d_A_isEquivalent_17 : decode M_A_isEquivalent.2.1 17 = .ok (.ifCond .ne 6, 3) := by decide +kernel
theorem d_A_isEquivalent_20 : decode M_A_isEquivalent.2.1 20 = .ok (.bipush (-3), 2) := by decide +kernel
theorem d_A_isEquivalent_22 : decode M_A_isEquivalent.2.1 22 = .ok (.ireturn, 1) := by decide +kernel
theorem d_A_isEquivalent_23 : decode M_A_isEquivalent.2.1 23 = .ok (.aload_n 0, 1) := by decide +kernel
theorem d_A_isEquivalent_24 : decode M_A_isEquivalent.2.1 24 = .ok (.getfield 52, 3) := by decide +kernel
theorem d_A_isEquivalent_27 : decode M_A_isEquivalent.2.1 27 = .ok (.aload_n 0, 1) := by decide +kernel
theorem d_A_isEquivalent_28 : decode M_A_isEquivalent.2.1 28 = .ok (.getfield 25, 3) := by decide +kernel
theorem d_A_isEquivalent_31 : decode M_A_isEquivalent.2.1 31 = .ok (.aload_n 0, 1) := by decide +kernel
theorem d_A_isEquivalent_32 : decode M_A_isEquivalent.2.1 32 = .ok (.iload_n 1, 1) := by decide +kernel
theorem d_A_isEquivalent_33 : decode M_A_isEquivalent.2.1 33 = .ok (.invokevirtual 254, 3) := by decide +kernel
theorem d_A_isEquivalent_36 : decode M_A_isEquivalent.2.1 36 = .ok (.getfield 258, 3) := by decide +kernel
theorem d_A_isEquivalent_39 : decode M_A_isEquivalent.2.1 39 = .ok (.invokevirtual 261, 3) := by decide +kernel
theorem d_A_isEquivalent_42 : decode M_A_isEquivalent.2.1 42 = .ok (.ifCond .eq 7, 3) := by decide +kernel
theorem d_A_isEquivalent_45 : decode M_A_isEquivalent.2.1 45 = .ok (.iconst 1, 1) := by decide +kernel
theorem d_A_isEquivalent_46 : decode M_A_isEquivalent.2.1 46 = .ok (.goto 4, 3) := by decide +kernel
theorem d_A_isEquivalent_49 : decode M_A_isEquivalent.2.1 49 = .ok (.iconst 0, 1) := by decide +kernel
theorem d_A_isEquivalent_50 : decode M_A_isEquivalent.2.1 50 = .ok (.ireturn, 1) := by decide +kernel
theorem d_K_isKeptByFactor_0 : decode M_K_isKeptByFactor.2.1 0 = .ok (.aload_n 0, 1) := by decide +kernel
theorem d_K_isKeptByFactor_1 : decode M_K_isKeptByFactor.2.1 1 = .ok (.aload_n 1, 1) := by decide +kernel
theorem d_K_isKeptByFactor_2 : decode M_K_isKeptByFactor.2.1 2 = .ok (.aload_n 0, 1) := by decide +kernel
theorem d_K_isKeptByFactor_3 : decode M_K_isKeptByFactor.2.1 3 = .ok (.getfield 15, 3) := by decide +kernel
theorem d_K_isKeptByFactor_6 : decode M_K_isKeptByFactor.2.1 6 = .ok (.invokevirtual 46, 3) := by decide +kernel
theorem d_K_isKeptByFactor_9 : decode M_K_isKeptByFactor.2.1 9 = .ok (.istore_n 3, 1) := by decide +kernel
theorem d_K_isKeptByFactor_10 : decode M_K_isKeptByFactor.2.1 10 = .ok (.aload_n 0, 1) := by decide +kernel
theorem d_K_isKeptByFactor_11 : decode M_K_isKeptByFactor.2.1 11 = .ok (.getfield 25, 3) := by decide +kernel
theorem d_K_isKeptByFactor_14 : decode M_K_isKeptByFactor.2.1 14 = .ok (.iload_n 2, 1) := by decide +kernel
theorem d_K_isKeptByFactor_15 : decode M_K_isKeptByFactor.2.1 15 = .ok (.invokevirtual 50, 3) := by decide +kernel
theorem d_K_isKeptByFactor_18 : decode M_K_isKeptByFactor.2.1 18 = .ok (.ifCond .eq 17, 3) := by decide +kernel
theorem d_K_isKeptByFactor_21 : decode M_K_isKeptByFactor.2.1 21 = .ok (.aload_n 0, 1) := by decide +kernel
theorem d_K_isKeptByFactor_22 : decode M_K_isKeptByFactor.2.1 22 = .ok (.aload_n 1, 1) := by decide +kernel
theorem d_K_isKeptByFactor_23 : decode M_K_isKeptByFactor.2.1 23 = .ok (.iload_n 2, 1) := by decide +kernel
theorem d_K_isKeptByFactor_24 : decode M_K_isKeptByFactor.2.1 24 = .ok (.iload_n 3, 1) := by decide +kernel
theorem d_K_isKeptByFactor_25 : decode M_K_isKeptByFactor.2.1 25 = .ok (.invokevirtual 54, 3) := by decide +kernel
theorem d_K_isKeptByFactor_28 : decode M_K_isKeptByFactor.2.1 28 = .ok (.ifCond .eq 7, 3) := by decide +kernel
theorem d_K_isKeptByFactor_31 : decode M_K_isKeptByFactor.2.1 31 = .ok (.iconst 1, 1) := by decide +kernel
theorem d_K_isKeptByFactor_32 : decode M_K_isKeptByFactor.2.1 32 = .ok (.goto 4, 3) := by decide +kernel
theorem d_K_isKeptByFactor_35 : decode M_K_isKeptByFactor.2.1 35 = .ok (.iconst 0, 1) := by decide +kernel
theorem d_K_isKeptByFactor_36 : decode M_K_isKeptByFactor.2.1 36 = .ok (.ireturn, 1) := by decide +kernel
theorem d_A_isMultiplier_0 : decode M_A_isMultiplier.2.1 0 = .ok (.iload_n 1, 1) := by decide +kernel
theorem d_A_isMultiplier_1 : decode M_A_isMultiplier.2.1 1 = .ok (.iconst 1, 1) := by decide +kernel
theorem d_A_isMultiplier_2 : decode M_A_isMultiplier.2.1 2 = .ok (.aload_n 0, 1) := by decide +kernel
theorem d_A_isMultiplier_3 : decode M_A_isMultiplier.2.1 3 = .ok (.getfield 19, 3) := by decide +kernel
theorem d_A_isMultiplier_6 : decode M_A_isMultiplier.2.1 6 = .ok (.getfield 102, 3) := by decide +kernel
theorem d_A_isMultiplier_9 : decode M_A_isMultiplier.2.1 9 = .ok (.iconst 1, 1) := by decide +kernel
theorem d_A_isMultiplier_10 : decode M_A_isMultiplier.2.1 10 = .ok (.isub, 1) := by decide +kernel
theorem d_A_isMultiplier_11 : decode M_A_isMultiplier.2.1 11 = .ok (.invokestatic 128, 3) := by decide +kernel
theorem d_A_isMultiplier_14 : decode M_A_isMultiplier.2.1 14 = .ok (.ifCond .ne 5, 3) := by decide +kernel
theorem d_A_isMultiplier_17 : decode M_A_isMultiplier.2.1 17 = .ok (.iconst (-1), 1) := by decide +kernel
theorem d_A_isMultiplier_18 : decode M_A_isMultiplier.2.1 18 = .ok (.ireturn, 1) := by decide +kernel
theorem d_A_isMultiplier_19 : decode M_A_isMultiplier.2.1 19 = .ok (.aload_n 0, 1) := by decide +kernel
theorem d_A_isMultiplier_20 : decode M_A_isMultiplier.2.1 20 = .ok (.getfield 52, 3) := by decide +kernel
theorem d_A_isMultiplier_23 : decode M_A_isMultiplier.2.1 23 = .ok (.aload_n 0, 1) := by decide +kernel
theorem d_A_isMultiplier_24 : decode M_A_isMultiplier.2.1 24 = .ok (.getfield 25, 3) := by decide +kernel
theorem d_A_isMultiplier_27 : decode M_A_isMultiplier.2.1 27 = .ok (.iload_n 1, 1) := by decide +kernel
theorem d_A_isMultiplier_28 : decode M_A_isMultiplier.2.1 28 = .ok (.invokevirtual 233, 3) := by decide +kernel
theorem d_A_isMultiplier_31 : decode M_A_isMultiplier.2.1 31 = .ok (.ifCond .eq 7, 3) := by decide +kernel
theorem d_A_isMultiplier_34 : decode M_A_isMultiplier.2.1 34 = .ok (.iconst 1, 1) := by decide +kernel
theorem d_A_isMultiplier_35 : decode M_A_isMultiplier.2.1 35 = .ok (.goto 4, 3) := by decide +kernel
theorem d_A_isMultiplier_38 : decode M_A_isMultiplier.2.1 38 = .ok (.iconst 0, 1) := by decide +kernel
theorem d_A_isMultiplier_39 : decode M_A_isMultiplier.2.1 39 = .ok (.ireturn, 1) := by decide +kernel
theorem d_S_fill_0 : decode M_S_fill.2.1 0 = .ok (.aload_n 1, 1) := by decide +kernel
theorem d_S_fill_1 : decode M_S_fill.2.1 1 = .ok (.iconst 0, 1) := by decide +kernel
theorem d_S_fill_2 : decode M_S_fill.2.1 2 = .ok (.aload_n 0, 1) := by decide +kernel
theorem d_S_fill_3 : decode M_S_fill.2.1 3 = .ok (.getfield 9, 3) := by decide +kernel
theorem d_S_fill_6 : decode M_S_fill.2.1 6 = .ok (.iconst 0, 1) := by decide +kernel
theorem d_S_fill_7 : decode M_S_fill.2.1 7 = .ok (.bipush 6, 2) := by decide +kernel
theorem d_S_fill_9 : decode M_S_fill.2.1 9 = .ok (.invokestatic 15, 3) := by decide +kernel
theorem d_S_fill_12 : decode M_S_fill.2.1 12 = .ok (.aload_n 0, 1) := by decide +kernel
theorem d_S_fill_13 : decode M_S_fill.2.1 13 = .ok (.lload_n 2, 1) := by decide +kernel
theorem d_S_fill_14 : decode M_S_fill.2.1 14 = .ok (.putfield 21, 3) := by decide +kernel
theorem d_S_fill_17 : decode M_S_fill.2.1 17 = .ok (.aload_n 0, 1) := by decide +kernel
theorem d_S_fill_18 : decode M_S_fill.2.1 18 = .ok (.iconst 1, 1) := by decide +kernel
theorem d_S_fill_19 : decode M_S_fill.2.1 19 = .ok (.putfield 25, 3) := by decide +kernel
theorem d_S_fill_22 : decode M_S_fill.2.1 22 = .ok (.return_, 1) := by decide +kernel
theorem d_A_keep_0 : decode M_A_keep.2.1 0 = .ok (.iload_n 1, 1) := by decide +kernel
theorem d_A_keep_1 : decode M_A_keep.2.1 1 = .ok (.invokestatic 251, 3) := by decide +kernel
theorem d_A_keep_4 : decode M_A_keep.2.1 4 = .ok (.ifCond .ne 5, 3) := by decide +kernel
theorem d_A_keep_7 : decode M_A_keep.2.1 7 = .ok (.iconst (-1), 1) := by decide +kernel
theorem d_A_keep_8 : decode M_A_keep.2.1 8 = .ok (.ireturn, 1) := by decide +kernel
theorem d_A_keep_9 : decode M_A_keep.2.1 9 = .ok (.aload_n 0, 1) := by decide +kernel
theorem d_A_keep_10 : decode M_A_keep.2.1 10 = .ok (.iload_n 1, 1) := by decide +kernel
theorem d_A_keep_11 : decode M_A_keep.2.1 11 = .ok (.invokevirtual 254, 3) := by decide +kernel
theorem d_A_keep_14 : decode M_A_keep.2.1 14 = .ok (.aload_n 0, 1) := by decide +kernel
theorem d_A_keep_15 : decode M_A_keep.2.1 15 = .ok (.getfield 25, 3) := by decide +kernel
theorem d_A_keep_18 : decode M_A_keep.2.1 18 = .ok (.aload_n 0, 1) := by decide +kernel
theorem d_A_keep_19 : decode M_A_keep.2.1 19 = .ok (.getfield 94, 3) := by decide +kernel
theorem d_A_keep_22 : decode M_A_keep.2.1 22 = .ok (.invokevirtual 334, 3) := by decide +kernel
theorem d_A_keep_25 : decode M_A_keep.2.1 25 = .ok (.aload_n 0, 1) := by decide +kernel
theorem d_A_keep_26 : decode M_A_keep.2.1 26 = .ok (.invokevirtual 314, 3) := by decide +kernel
theorem d_A_keep_29 : decode M_A_keep.2.1 29 = .ok (.ireturn, 1) := by decide +kernel
theorem d_A_multiple_0 : decode M_A_multiple.2.1 0 = .ok (.aload_n 0, 1) := by decide +kernel
theorem d_A_multiple_1 : decode M_A_multiple.2.1 1 = .ok (.iload_n 1, 1) := by decide +kernel
theorem d_A_multiple_2 : decode M_A_multiple.2.1 2 = .ok (.invokevirtual 120, 3) := by decide +kernel
theorem d_A_multiple_5 : decode M_A_multiple.2.1 5 = .ok (.ifCond .eq 14, 3) := by decide +kernel
theorem d_A_multiple_8 : decode M_A_multiple.2.1 8 = .ok (.iload_n 2, 1) := by decide +kernel
theorem d_A_multiple_9 : decode M_A_multiple.2.1 9 = .ok (.iconst 0, 1) := by decide +kernel
theorem d_A_multiple_10 : decode M_A_multiple.2.1 10 = .ok (.sipush 1000, 3) := by decide +kernel
theorem d_A_multiple_13 : decode M_A_multiple.2.1 13 = .ok (.invokestatic 128, 3) := by decide +kernel
theorem d_A_multiple_16 : decode M_A_multiple.2.1 16 = .ok (.ifCond .ne 5, 3) := by decide +kernel
theorem d_A_multiple_19 : decode M_A_multiple.2.1 19 = .ok (.iconst (-1), 1) := by decide +kernel
theorem d_A_multiple_20 : decode M_A_multiple.2.1 20 = .ok (.ireturn, 1) := by decide +kernel
theorem d_A_multiple_21 : decode M_A_multiple.2.1 21 = .ok (.aload_n 0, 1) := by decide +kernel
theorem d_A_multiple_22 : decode M_A_multiple.2.1 22 = .ok (.getfield 19, 3) := by decide +kernel
theorem d_A_multiple_25 : decode M_A_multiple.2.1 25 = .ok (.iload_n 1, 1) := by decide +kernel
theorem d_A_multiple_26 : decode M_A_multiple.2.1 26 = .ok (.iload_n 2, 1) := by decide +kernel
theorem d_A_multiple_27 : decode M_A_multiple.2.1 27 = .ok (.invokevirtual 132, 3) := by decide +kernel
theorem d_A_multiple_30 : decode M_A_multiple.2.1 30 = .ok (.ireturn, 1) := by decide +kernel
theorem d_K_mapByFactor_0 : decode M_K_mapByFactor.2.1 0 = .ok (.aload_n 0, 1) := by decide +kernel
theorem d_K_mapByFactor_1 : decode M_K_mapByFactor.2.1 1 = .ok (.getfield 25, 3) := by decide +kernel
theorem d_K_mapByFactor_4 : decode M_K_mapByFactor.2.1 4 = .ok (.iload_n 2, 1) := by decide +kernel
theorem d_K_mapByFactor_5 : decode M_K_mapByFactor.2.1 5 = .ok (.aload_n 0, 1) := by decide +kernel
theorem d_K_mapByFactor_6 : decode M_K_mapByFactor.2.1 6 = .ok (.getfield 9, 3) := by decide +kernel
theorem d_K_mapByFactor_9 : decode M_K_mapByFactor.2.1 9 = .ok (.invokevirtual 39, 3) := by decide +kernel
theorem d_K_mapByFactor_12 : decode M_K_mapByFactor.2.1 12 = .ok (.aload_n 0, 1) := by decide +kernel
theorem d_K_mapByFactor_13 : decode M_K_mapByFactor.2.1 13 = .ok (.aload_n 1, 1) := by decide +kernel
theorem d_K_mapByFactor_14 : decode M_K_mapByFactor.2.1 14 = .ok (.invokevirtual 35, 3) := by decide +kernel
theorem d_K_mapByFactor_17 : decode M_K_mapByFactor.2.1 17 = .ok (.ireturn, 1) := by decide +kernel
theorem d_A_multiply_0 : decode M_A_multiply.2.1 0 = .ok (.iload_n 1, 1) := by decide +kernel
theorem d_A_multiply_1 : decode M_A_multiply.2.1 1 = .ok (.iconst 1, 1) := by decide +kernel
theorem d_A_multiply_2 : decode M_A_multiply.2.1 2 = .ok (.sipush 1000, 3) := by decide +kernel
theorem d_A_multiply_5 : decode M_A_multiply.2.1 5 = .ok (.invokestatic 128, 3) := by decide +kernel
theorem d_A_multiply_8 : decode M_A_multiply.2.1 8 = .ok (.ifCond .eq 14, 3) := by decide +kernel
theorem d_A_multiply_11 : decode M_A_multiply.2.1 11 = .ok (.aload_n 0, 1) := by decide +kernel
theorem d_A_multiply_12 : decode M_A_multiply.2.1 12 = .ok (.getfield 19, 3) := by decide +kernel
theorem d_A_multiply_15 : decode M_A_multiply.2.1 15 = .ok (.iload_n 1, 1) := by decide +kernel
theorem d_A_multiply_16 : decode M_A_multiply.2.1 16 = .ok (.invokevirtual 179, 3) := by decide +kernel
theorem d_A_multiply_19 : decode M_A_multiply.2.1 19 = .ok (.ifCond .ne 5, 3) := by decide +kernel
theorem d_A_multiply_22 : decode M_A_multiply.2.1 22 = .ok (.iconst (-1), 1) := by decide +kernel
theorem d_A_multiply_23 : decode M_A_multiply.2.1 23 = .ok (.ireturn, 1) := by decide +kernel
theorem d_A_multiply_24 : decode M_A_multiply.2.1 24 = .ok (.aload_n 0, 1) := by decide +kernel
theorem d_A_multiply_25 : decode M_A_multiply.2.1 25 = .ok (.getfield 32, 3) := by decide +kernel
theorem d_A_multiply_28 : decode M_A_multiply.2.1 28 = .ok (.aload_n 0, 1) := by decide +kernel
theorem d_A_multiply_29 : decode M_A_multiply.2.1 29 = .ok (.getfield 25, 3) := by decide +kernel
theorem d_A_multiply_32 : decode M_A_multiply.2.1 32 = .ok (.invokevirtual 165, 3) := by decide +kernel
theorem d_A_multiply_35 : decode M_A_multiply.2.1 35 = .ok (.aload_n 0, 1) := by decide +kernel
theorem d_A_multiply_36 : decode M_A_multiply.2.1 36 = .ok (.getfield 52, 3) := by decide +kernel
theorem d_A_multiply_39 : decode M_A_multiply.2.1 39 = .ok (.aload_n 0, 1) := by decide +kernel
theorem d_A_multiply_40 : decode M_A_multiply.2.1 40 = .ok (.getfield 25, 3) := by decide +kernel
theorem d_A_multiply_43 : decode M_A_multiply.2.1 43 = .ok (.iload_n 1, 1) := by decide +kernel
theorem d_A_multiply_44 : decode M_A_multiply.2.1 44 = .ok (.invokevirtual 182, 3) := by decide +kernel
theorem d_A_multiply_47 : decode M_A_multiply.2.1 47 = .ok (.ireturn, 1) := by decide +kernel
theorem d_A_normal_0 : decode M_A_normal.2.1 0 = .ok (.iload_n 1, 1) := by decide +kernel
theorem d_A_normal_1 : decode M_A_normal.2.1 1 = .ok (.invokestatic 158, 3) := by decide +kernel
theorem d_A_normal_4 : decode M_A_normal.2.1 4 = .ok (.ifCond .ne 7, 3) := by decide +kernel
theorem d_A_normal_7 : decode M_A_normal.2.1 7 = .ok (.ldc2_w 169, 3) := by decide +kernel
theorem d_A_normal_10 : decode M_A_normal.2.1 10 = .ok (.lreturn, 1) := by decide +kernel
theorem d_A_normal_11 : decode M_A_normal.2.1 11 = .ok (.aload_n 0, 1) := by decide +kernel
theorem d_A_normal_12 : decode M_A_normal.2.1 12 = .ok (.getfield 25, 3) := by decide +kernel
theorem d_A_normal_15 : decode M_A_normal.2.1 15 = .ok (.iload_n 1, 1) := by decide +kernel
theorem d_A_normal_16 : decode M_A_normal.2.1 16 = .ok (.laload, 1) := by decide +kernel
theorem d_A_normal_17 : decode M_A_normal.2.1 17 = .ok (.lconst 0, 1) := by decide +kernel
theorem d_A_normal_18 : decode M_A_normal.2.1 18 = .ok (.lcmp, 1) := by decide +kernel
theorem d_A_normal_19 : decode M_A_normal.2.1 19 = .ok (.ifCond .ne 9, 3) := by decide +kernel
theorem d_A_normal_22 : decode M_A_normal.2.1 22 = .ok (.ldc2_w 211, 3) := by decide +kernel
theorem d_A_normal_25 : decode M_A_normal.2.1 25 = .ok (.goto 16, 3) := by decide +kernel
theorem d_A_normal_28 : decode M_A_normal.2.1 28 = .ok (.aload_n 0, 1) := by decide +kernel
theorem d_A_normal_29 : decode M_A_normal.2.1 29 = .ok (.getfield 19, 3) := by decide +kernel
theorem d_A_normal_32 : decode M_A_normal.2.1 32 = .ok (.aload_n 0, 1) := by decide +kernel
theorem d_A_normal_33 : decode M_A_normal.2.1 33 = .ok (.getfield 25, 3) := by decide +kernel
theorem d_A_normal_36 : decode M_A_normal.2.1 36 = .ok (.iload_n 1, 1) := by decide +kernel
theorem d_A_normal_37 : decode M_A_normal.2.1 37 = .ok (.laload, 1) := by decide +kernel
theorem d_A_normal_38 : decode M_A_normal.2.1 38 = .ok (.invokevirtual 213, 3) := by decide +kernel
theorem d_A_normal_41 : decode M_A_normal.2.1 41 = .ok (.lreturn, 1) := by decide +kernel
theorem d_A_orderOf_0 : decode M_A_orderOf.2.1 0 = .ok (.aload_n 0, 1) := by decide +kernel
theorem d_A_orderOf_1 : decode M_A_orderOf.2.1 1 = .ok (.iload_n 1, 1) := by decide +kernel
theorem d_A_orderOf_2 : decode M_A_orderOf.2.1 2 = .ok (.invokevirtual 120, 3) := by decide +kernel
theorem d_A_orderOf_5 : decode M_A_orderOf.2.1 5 = .ok (.ifCond .ne 5, 3) := by decide +kernel
theorem d_A_orderOf_8 : decode M_A_orderOf.2.1 8 = .ok (.iconst (-1), 1) := by decide +kernel
theorem d_A_orderOf_9 : decode M_A_orderOf.2.1 9 = .ok (.ireturn, 1) := by decide +kernel
theorem d_A_orderOf_10 : decode M_A_orderOf.2.1 10 = .ok (.aload_n 0, 1) := by decide +kernel
theorem d_A_orderOf_11 : decode M_A_orderOf.2.1 11 = .ok (.getfield 19, 3) := by decide +kernel
theorem d_A_orderOf_14 : decode M_A_orderOf.2.1 14 = .ok (.getfield 135, 3) := by decide +kernel
theorem d_A_orderOf_17 : decode M_A_orderOf.2.1 17 = .ok (.iload_n 1, 1) := by decide +kernel
theorem d_A_orderOf_18 : decode M_A_orderOf.2.1 18 = .ok (.iaload, 1) := by decide +kernel
theorem d_A_orderOf_19 : decode M_A_orderOf.2.1 19 = .ok (.ireturn, 1) := by decide +kernel
theorem d_D_blocksWith_0 : decode M_D_blocksWith.2.1 0 = .ok (.iconst 0, 1) := by decide +kernel
theorem d_D_blocksWith_1 : decode M_D_blocksWith.2.1 1 = .ok (.istore_n 3, 1) := by decide +kernel
theorem d_D_blocksWith_2 : decode M_D_blocksWith.2.1 2 = .ok (.iconst 0, 1) := by decide +kernel
theorem d_D_blocksWith_3 : decode M_D_blocksWith.2.1 3 = .ok (.istore 4, 2) := by decide +kernel
theorem d_D_blocksWith_5 : decode M_D_blocksWith.2.1 5 = .ok (.iload 4, 2) := by decide +kernel
theorem d_D_blocksWith_7 : decode M_D_blocksWith.2.1 7 = .ok (.aload_n 0, 1) := by decide +kernel
theorem d_D_blocksWith_8 : decode M_D_blocksWith.2.1 8 = .ok (.getfield 19, 3) := by decide +kernel
theorem d_D_blocksWith_11 : decode M_D_blocksWith.2.1 11 = .ok (.if_icmp .ge 26, 3) := by decide +kernel
theorem d_D_blocksWith_14 : decode M_D_blocksWith.2.1 14 = .ok (.aload_n 0, 1) := by decide +kernel
theorem d_D_blocksWith_15 : decode M_D_blocksWith.2.1 15 = .ok (.getfield 9, 3) := by decide +kernel
theorem d_D_blocksWith_18 : decode M_D_blocksWith.2.1 18 = .ok (.iload 4, 2) := by decide +kernel
theorem d_D_blocksWith_20 : decode M_D_blocksWith.2.1 20 = .ok (.laload, 1) := by decide +kernel
theorem d_D_blocksWith_21 : decode M_D_blocksWith.2.1 21 = .ok (.lload_n 1, 1) := by decide +kernel
theorem d_D_blocksWith_22 : decode M_D_blocksWith.2.1 22 = .ok (.land, 1) := by decide +kernel
theorem d_D_blocksWith_23 : decode M_D_blocksWith.2.1 23 = .ok (.lload_n 1, 1) := by decide +kernel
theorem d_D_blocksWith_24 : decode M_D_blocksWith.2.1 24 = .ok (.lcmp, 1) := by decide +kernel
theorem d_D_blocksWith_25 : decode M_D_blocksWith.2.1 25 = .ok (.ifCond .ne 6, 3) := by decide +kernel
theorem d_D_blocksWith_28 : decode M_D_blocksWith.2.1 28 = .ok (.iinc 3 1, 3) := by decide +kernel
theorem d_D_blocksWith_31 : decode M_D_blocksWith.2.1 31 = .ok (.iinc 4 1, 3) := by decide +kernel
theorem d_D_blocksWith_34 : decode M_D_blocksWith.2.1 34 = .ok (.goto (-29), 3) := by decide +kernel
theorem d_D_blocksWith_37 : decode M_D_blocksWith.2.1 37 = .ok (.iload_n 3, 1) := by decide +kernel
theorem d_D_blocksWith_38 : decode M_D_blocksWith.2.1 38 = .ok (.ireturn, 1) := by decide +kernel
theorem d_A_pairs_0 : decode M_A_pairs.2.1 0 = .ok (.aload_n 0, 1) := by decide +kernel
theorem d_A_pairs_1 : decode M_A_pairs.2.1 1 = .ok (.iload_n 1, 1) := by decide +kernel
theorem d_A_pairs_2 : decode M_A_pairs.2.1 2 = .ok (.invokevirtual 120, 3) := by decide +kernel
theorem d_A_pairs_5 : decode M_A_pairs.2.1 5 = .ok (.ifCond .eq 16, 3) := by decide +kernel
theorem d_A_pairs_8 : decode M_A_pairs.2.1 8 = .ok (.aload_n 0, 1) := by decide +kernel
theorem d_A_pairs_9 : decode M_A_pairs.2.1 9 = .ok (.iload_n 2, 1) := by decide +kernel
theorem d_A_pairs_10 : decode M_A_pairs.2.1 10 = .ok (.invokevirtual 120, 3) := by decide +kernel
theorem d_A_pairs_13 : decode M_A_pairs.2.1 13 = .ok (.ifCond .eq 8, 3) := by decide +kernel
theorem d_A_pairs_16 : decode M_A_pairs.2.1 16 = .ok (.iload_n 1, 1) := by decide +kernel
theorem d_A_pairs_17 : decode M_A_pairs.2.1 17 = .ok (.iload_n 2, 1) := by decide +kernel
theorem d_A_pairs_18 : decode M_A_pairs.2.1 18 = .ok (.if_icmp .ne 5, 3) := by decide +kernel
theorem d_A_pairs_21 : decode M_A_pairs.2.1 21 = .ok (.iconst (-1), 1) := by decide +kernel
theorem d_A_pairs_22 : decode M_A_pairs.2.1 22 = .ok (.ireturn, 1) := by decide +kernel
theorem d_A_pairs_23 : decode M_A_pairs.2.1 23 = .ok (.aload_n 0, 1) := by decide +kernel
theorem d_A_pairs_24 : decode M_A_pairs.2.1 24 = .ok (.getfield 59, 3) := by decide +kernel
theorem d_A_pairs_27 : decode M_A_pairs.2.1 27 = .ok (.aload_n 0, 1) := by decide +kernel
theorem d_A_pairs_28 : decode M_A_pairs.2.1 28 = .ok (.getfield 25, 3) := by decide +kernel
theorem d_A_pairs_31 : decode M_A_pairs.2.1 31 = .ok (.invokevirtual 265, 3) := by decide +kernel
theorem d_A_pairs_34 : decode M_A_pairs.2.1 34 = .ok (.aload_n 0, 1) := by decide +kernel
theorem d_A_pairs_35 : decode M_A_pairs.2.1 35 = .ok (.getfield 59, 3) := by decide +kernel
theorem d_A_pairs_38 : decode M_A_pairs.2.1 38 = .ok (.lconst 1, 1) := by decide +kernel
theorem d_A_pairs_39 : decode M_A_pairs.2.1 39 = .ok (.iload_n 1, 1) := by decide +kernel
theorem d_A_pairs_40 : decode M_A_pairs.2.1 40 = .ok (.lshl, 1) := by decide +kernel
theorem d_A_pairs_41 : decode M_A_pairs.2.1 41 = .ok (.lconst 1, 1) := by decide +kernel
theorem d_A_pairs_42 : decode M_A_pairs.2.1 42 = .ok (.iload_n 2, 1) := by decide +kernel
theorem d_A_pairs_43 : decode M_A_pairs.2.1 43 = .ok (.lshl, 1) := by decide +kernel
theorem d_A_pairs_44 : decode M_A_pairs.2.1 44 = .ok (.lor, 1) := by decide +kernel
theorem d_A_pairs_45 : decode M_A_pairs.2.1 45 = .ok (.invokevirtual 272, 3) := by decide +kernel
theorem d_A_pairs_48 : decode M_A_pairs.2.1 48 = .ok (.ireturn, 1) := by decide +kernel
theorem d_A_put_0 : decode M_A_put.2.1 0 = .ok (.iload_n 1, 1) := by decide +kernel
theorem d_A_put_1 : decode M_A_put.2.1 1 = .ok (.invokestatic 158, 3) := by decide +kernel
theorem d_A_put_4 : decode M_A_put.2.1 4 = .ok (.ifCond .eq 11, 3) := by decide +kernel
theorem d_A_put_7 : decode M_A_put.2.1 7 = .ok (.aload_n 0, 1) := by decide +kernel
theorem d_A_put_8 : decode M_A_put.2.1 8 = .ok (.iload_n 2, 1) := by decide +kernel
theorem d_A_put_9 : decode M_A_put.2.1 9 = .ok (.invokevirtual 120, 3) := by decide +kernel
theorem d_A_put_12 : decode M_A_put.2.1 12 = .ok (.ifCond .ne 5, 3) := by decide +kernel
theorem d_A_put_15 : decode M_A_put.2.1 15 = .ok (.iconst (-1), 1) := by decide +kernel
theorem d_A_put_16 : decode M_A_put.2.1 16 = .ok (.ireturn, 1) := by decide +kernel
theorem d_A_put_17 : decode M_A_put.2.1 17 = .ok (.aload_n 0, 1) := by decide +kernel
theorem d_A_put_18 : decode M_A_put.2.1 18 = .ok (.getfield 25, 3) := by decide +kernel
theorem d_A_put_21 : decode M_A_put.2.1 21 = .ok (.iload_n 1, 1) := by decide +kernel
theorem d_A_put_22 : decode M_A_put.2.1 22 = .ok (.laload, 1) := by decide +kernel
theorem d_A_put_23 : decode M_A_put.2.1 23 = .ok (.iload_n 2, 1) := by decide +kernel
theorem d_A_put_24 : decode M_A_put.2.1 24 = .ok (.invokestatic 161, 3) := by decide +kernel
theorem d_A_put_27 : decode M_A_put.2.1 27 = .ok (.ifCond .eq 6, 3) := by decide +kernel
theorem d_A_put_30 : decode M_A_put.2.1 30 = .ok (.bipush (-3), 2) := by decide +kernel
theorem d_A_put_32 : decode M_A_put.2.1 32 = .ok (.ireturn, 1) := by decide +kernel
theorem d_A_put_33 : decode M_A_put.2.1 33 = .ok (.aload_n 0, 1) := by decide +kernel
theorem d_A_put_34 : decode M_A_put.2.1 34 = .ok (.getfield 32, 3) := by decide +kernel
theorem d_A_put_37 : decode M_A_put.2.1 37 = .ok (.aload_n 0, 1) := by decide +kernel
theorem d_A_put_38 : decode M_A_put.2.1 38 = .ok (.getfield 25, 3) := by decide +kernel
theorem d_A_put_41 : decode M_A_put.2.1 41 = .ok (.invokevirtual 165, 3) := by decide +kernel
theorem d_A_put_44 : decode M_A_put.2.1 44 = .ok (.aload_n 0, 1) := by decide +kernel
theorem d_A_put_45 : decode M_A_put.2.1 45 = .ok (.getfield 25, 3) := by decide +kernel
theorem d_A_put_48 : decode M_A_put.2.1 48 = .ok (.iload_n 1, 1) := by decide +kernel
theorem d_A_put_49 : decode M_A_put.2.1 49 = .ok (.dup2, 1) := by decide +kernel
theorem d_A_put_50 : decode M_A_put.2.1 50 = .ok (.laload, 1) := by decide +kernel
theorem d_A_put_51 : decode M_A_put.2.1 51 = .ok (.lconst 1, 1) := by decide +kernel
theorem d_A_put_52 : decode M_A_put.2.1 52 = .ok (.iload_n 2, 1) := by decide +kernel
theorem d_A_put_53 : decode M_A_put.2.1 53 = .ok (.lshl, 1) := by decide +kernel
theorem d_A_put_54 : decode M_A_put.2.1 54 = .ok (.lor, 1) := by decide +kernel
theorem d_A_put_55 : decode M_A_put.2.1 55 = .ok (.lastore, 1) := by decide +kernel
theorem d_A_put_56 : decode M_A_put.2.1 56 = .ok (.aload_n 0, 1) := by decide +kernel
theorem d_A_put_57 : decode M_A_put.2.1 57 = .ok (.getfield 25, 3) := by decide +kernel
theorem d_A_put_60 : decode M_A_put.2.1 60 = .ok (.iload_n 1, 1) := by decide +kernel
theorem d_A_put_61 : decode M_A_put.2.1 61 = .ok (.laload, 1) := by decide +kernel
theorem d_A_put_62 : decode M_A_put.2.1 62 = .ok (.invokestatic 152, 3) := by decide +kernel
theorem d_A_put_65 : decode M_A_put.2.1 65 = .ok (.ireturn, 1) := by decide +kernel
theorem d_A_read_0 : decode M_A_read.2.1 0 = .ok (.aload_n 0, 1) := by decide +kernel
theorem d_A_read_1 : decode M_A_read.2.1 1 = .ok (.getfield 80, 3) := by decide +kernel
theorem d_A_read_4 : decode M_A_read.2.1 4 = .ok (.invokevirtual 324, 3) := by decide +kernel
theorem d_A_read_7 : decode M_A_read.2.1 7 = .ok (.aload_n 0, 1) := by decide +kernel
theorem d_A_read_8 : decode M_A_read.2.1 8 = .ok (.getfield 80, 3) := by decide +kernel
theorem d_A_read_11 : decode M_A_read.2.1 11 = .ok (.getfield 327, 3) := by decide +kernel
theorem d_A_read_14 : decode M_A_read.2.1 14 = .ok (.bipush (-4), 2) := by decide +kernel
theorem d_A_read_16 : decode M_A_read.2.1 16 = .ok (.if_icmp .eq 6, 3) := by decide +kernel
theorem d_A_read_19 : decode M_A_read.2.1 19 = .ok (.bipush (-3), 2) := by decide +kernel
theorem d_A_read_21 : decode M_A_read.2.1 21 = .ok (.ireturn, 1) := by decide +kernel
theorem d_A_read_22 : decode M_A_read.2.1 22 = .ok (.aload_n 0, 1) := by decide +kernel
theorem d_A_read_23 : decode M_A_read.2.1 23 = .ok (.getfield 32, 3) := by decide +kernel
theorem d_A_read_26 : decode M_A_read.2.1 26 = .ok (.aload_n 0, 1) := by decide +kernel
theorem d_A_read_27 : decode M_A_read.2.1 27 = .ok (.getfield 25, 3) := by decide +kernel
theorem d_A_read_30 : decode M_A_read.2.1 30 = .ok (.invokevirtual 165, 3) := by decide +kernel
theorem d_A_read_33 : decode M_A_read.2.1 33 = .ok (.aload_n 0, 1) := by decide +kernel
theorem d_A_read_34 : decode M_A_read.2.1 34 = .ok (.getfield 80, 3) := by decide +kernel
theorem d_A_read_37 : decode M_A_read.2.1 37 = .ok (.getfield 330, 3) := by decide +kernel
theorem d_A_read_40 : decode M_A_read.2.1 40 = .ok (.iconst 0, 1) := by decide +kernel
theorem d_A_read_41 : decode M_A_read.2.1 41 = .ok (.aload_n 0, 1) := by decide +kernel
theorem d_A_read_42 : decode M_A_read.2.1 42 = .ok (.getfield 25, 3) := by decide +kernel
theorem d_A_read_45 : decode M_A_read.2.1 45 = .ok (.iconst 0, 1) := by decide +kernel
theorem d_A_read_46 : decode M_A_read.2.1 46 = .ok (.bipush 6, 2) := by decide +kernel
theorem d_A_read_48 : decode M_A_read.2.1 48 = .ok (.invokestatic 308, 3) := by decide +kernel
theorem d_A_read_51 : decode M_A_read.2.1 51 = .ok (.aload_n 0, 1) := by decide +kernel
theorem d_A_read_52 : decode M_A_read.2.1 52 = .ok (.getfield 80, 3) := by decide +kernel
theorem d_A_read_55 : decode M_A_read.2.1 55 = .ok (.getfield 331, 3) := by decide +kernel
theorem d_A_read_58 : decode M_A_read.2.1 58 = .ok (.ireturn, 1) := by decide +kernel
