theorem d_B_gcd_0 : decode M_B_gcd.2.1 0 = .ok (.iload_n 0, 1) := by decide +kernel
theorem d_B_gcd_1 : decode M_B_gcd.2.1 1 = .ok (.istore_n 2, 1) := by decide +kernel
theorem d_B_gcd_2 : decode M_B_gcd.2.1 2 = .ok (.iload_n 1, 1) := by decide +kernel
theorem d_B_gcd_3 : decode M_B_gcd.2.1 3 = .ok (.istore_n 3, 1) := by decide +kernel
theorem d_B_gcd_4 : decode M_B_gcd.2.1 4 = .ok (.iload_n 3, 1) := by decide +kernel
theorem d_B_gcd_5 : decode M_B_gcd.2.1 5 = .ok (.ifCond .eq 16, 3) := by decide +kernel
theorem d_B_gcd_8 : decode M_B_gcd.2.1 8 = .ok (.iload_n 2, 1) := by decide +kernel
theorem d_B_gcd_9 : decode M_B_gcd.2.1 9 = .ok (.iload_n 3, 1) := by decide +kernel
theorem d_B_gcd_10 : decode M_B_gcd.2.1 10 = .ok (.irem, 1) := by decide +kernel
theorem d_B_gcd_11 : decode M_B_gcd.2.1 11 = .ok (.istore 4, 2) := by decide +kernel
theorem d_B_gcd_13 : decode M_B_gcd.2.1 13 = .ok (.iload_n 3, 1) := by decide +kernel
theorem d_B_gcd_14 : decode M_B_gcd.2.1 14 = .ok (.istore_n 2, 1) := by decide +kernel
theorem d_B_gcd_15 : decode M_B_gcd.2.1 15 = .ok (.iload 4, 2) := by decide +kernel
theorem d_B_gcd_17 : decode M_B_gcd.2.1 17 = .ok (.istore_n 3, 1) := by decide +kernel
theorem d_B_gcd_18 : decode M_B_gcd.2.1 18 = .ok (.goto (-14), 3) := by decide +kernel
theorem d_B_gcd_21 : decode M_B_gcd.2.1 21 = .ok (.iload_n 2, 1) := by decide +kernel
theorem d_B_gcd_22 : decode M_B_gcd.2.1 22 = .ok (.ireturn, 1) := by decide +kernel
theorem d_B_listsAsItIs_0 : decode M_B_listsAsItIs.2.1 0 = .ok (.aload_n 0, 1) := by decide +kernel
theorem d_B_listsAsItIs_1 : decode M_B_listsAsItIs.2.1 1 = .ok (.aload_n 0, 1) := by decide +kernel
theorem d_B_listsAsItIs_2 : decode M_B_listsAsItIs.2.1 2 = .ok (.getfield 23, 3) := by decide +kernel
theorem d_B_listsAsItIs_5 : decode M_B_listsAsItIs.2.1 5 = .ok (.iconst 0, 1) := by decide +kernel
theorem d_B_listsAsItIs_6 : decode M_B_listsAsItIs.2.1 6 = .ok (.aload_n 0, 1) := by decide +kernel
theorem d_B_listsAsItIs_7 : decode M_B_listsAsItIs.2.1 7 = .ok (.getfield 13, 3) := by decide +kernel
theorem d_B_listsAsItIs_10 : decode M_B_listsAsItIs.2.1 10 = .ok (.aload_n 0, 1) := by decide +kernel
theorem d_B_listsAsItIs_11 : decode M_B_listsAsItIs.2.1 11 = .ok (.getfield 16, 3) := by decide +kernel
theorem d_B_listsAsItIs_14 : decode M_B_listsAsItIs.2.1 14 = .ok (.irem, 1) := by decide +kernel
theorem d_B_listsAsItIs_15 : decode M_B_listsAsItIs.2.1 15 = .ok (.iconst 1, 1) := by decide +kernel
theorem d_B_listsAsItIs_16 : decode M_B_listsAsItIs.2.1 16 = .ok (.aload_n 0, 1) := by decide +kernel
theorem d_B_listsAsItIs_17 : decode M_B_listsAsItIs.2.1 17 = .ok (.getfield 13, 3) := by decide +kernel
theorem d_B_listsAsItIs_20 : decode M_B_listsAsItIs.2.1 20 = .ok (.irem, 1) := by decide +kernel
theorem d_B_listsAsItIs_21 : decode M_B_listsAsItIs.2.1 21 = .ok (.aload_n 0, 1) := by decide +kernel
theorem d_B_listsAsItIs_22 : decode M_B_listsAsItIs.2.1 22 = .ok (.getfield 56, 3) := by decide +kernel
theorem d_B_listsAsItIs_25 : decode M_B_listsAsItIs.2.1 25 = .ok (.invokevirtual 191, 3) := by decide +kernel
theorem d_B_listsAsItIs_28 : decode M_B_listsAsItIs.2.1 28 = .ok (.return_, 1) := by decide +kernel
theorem d_B_isMultiplierNow_0 : decode M_B_isMultiplierNow.2.1 0 = .ok (.iload_n 1, 1) := by decide +kernel
theorem d_B_isMultiplierNow_1 : decode M_B_isMultiplierNow.2.1 1 = .ok (.aload_n 0, 1) := by decide +kernel
theorem d_B_isMultiplierNow_2 : decode M_B_isMultiplierNow.2.1 2 = .ok (.getfield 16, 3) := by decide +kernel
theorem d_B_isMultiplierNow_5 : decode M_B_isMultiplierNow.2.1 5 = .ok (.invokestatic 158, 3) := by decide +kernel
theorem d_B_isMultiplierNow_8 : decode M_B_isMultiplierNow.2.1 8 = .ok (.iconst 1, 1) := by decide +kernel
theorem d_B_isMultiplierNow_9 : decode M_B_isMultiplierNow.2.1 9 = .ok (.if_icmp .le 5, 3) := by decide +kernel
theorem d_B_isMultiplierNow_12 : decode M_B_isMultiplierNow.2.1 12 = .ok (.iconst 0, 1) := by decide +kernel
theorem d_B_isMultiplierNow_13 : decode M_B_isMultiplierNow.2.1 13 = .ok (.ireturn, 1) := by decide +kernel
theorem d_B_isMultiplierNow_14 : decode M_B_isMultiplierNow.2.1 14 = .ok (.aload_n 0, 1) := by decide +kernel
theorem d_B_isMultiplierNow_15 : decode M_B_isMultiplierNow.2.1 15 = .ok (.invokevirtual 199, 3) := by decide +kernel
theorem d_B_isMultiplierNow_18 : decode M_B_isMultiplierNow.2.1 18 = .ok (.aload_n 0, 1) := by decide +kernel
theorem d_B_isMultiplierNow_19 : decode M_B_isMultiplierNow.2.1 19 = .ok (.aload_n 0, 1) := by decide +kernel
theorem d_B_isMultiplierNow_20 : decode M_B_isMultiplierNow.2.1 20 = .ok (.getfield 23, 3) := by decide +kernel
theorem d_B_isMultiplierNow_23 : decode M_B_isMultiplierNow.2.1 23 = .ok (.iconst 0, 1) := by decide +kernel
theorem d_B_isMultiplierNow_24 : decode M_B_isMultiplierNow.2.1 24 = .ok (.aload_n 0, 1) := by decide +kernel
theorem d_B_isMultiplierNow_25 : decode M_B_isMultiplierNow.2.1 25 = .ok (.iload_n 1, 1) := by decide +kernel
theorem d_B_isMultiplierNow_26 : decode M_B_isMultiplierNow.2.1 26 = .ok (.aload_n 0, 1) := by decide +kernel
theorem d_B_isMultiplierNow_27 : decode M_B_isMultiplierNow.2.1 27 = .ok (.getfield 13, 3) := by decide +kernel
theorem d_B_isMultiplierNow_30 : decode M_B_isMultiplierNow.2.1 30 = .ok (.aload_n 0, 1) := by decide +kernel
theorem d_B_isMultiplierNow_31 : decode M_B_isMultiplierNow.2.1 31 = .ok (.getfield 16, 3) := by decide +kernel
theorem d_B_isMultiplierNow_34 : decode M_B_isMultiplierNow.2.1 34 = .ok (.irem, 1) := by decide +kernel
theorem d_B_isMultiplierNow_35 : decode M_B_isMultiplierNow.2.1 35 = .ok (.invokevirtual 87, 3) := by decide +kernel
theorem d_B_isMultiplierNow_38 : decode M_B_isMultiplierNow.2.1 38 = .ok (.aload_n 0, 1) := by decide +kernel
theorem d_B_isMultiplierNow_39 : decode M_B_isMultiplierNow.2.1 39 = .ok (.iload_n 1, 1) := by decide +kernel
theorem d_B_isMultiplierNow_40 : decode M_B_isMultiplierNow.2.1 40 = .ok (.iconst 1, 1) := by decide +kernel
theorem d_B_isMultiplierNow_41 : decode M_B_isMultiplierNow.2.1 41 = .ok (.aload_n 0, 1) := by decide +kernel
theorem d_B_isMultiplierNow_42 : decode M_B_isMultiplierNow.2.1 42 = .ok (.getfield 13, 3) := by decide +kernel
theorem d_B_isMultiplierNow_45 : decode M_B_isMultiplierNow.2.1 45 = .ok (.irem, 1) := by decide +kernel
theorem d_B_isMultiplierNow_46 : decode M_B_isMultiplierNow.2.1 46 = .ok (.invokevirtual 87, 3) := by decide +kernel
theorem d_B_isMultiplierNow_49 : decode M_B_isMultiplierNow.2.1 49 = .ok (.aload_n 0, 1) := by decide +kernel
theorem d_B_isMultiplierNow_50 : decode M_B_isMultiplierNow.2.1 50 = .ok (.getfield 53, 3) := by decide +kernel
theorem d_B_isMultiplierNow_53 : decode M_B_isMultiplierNow.2.1 53 = .ok (.invokevirtual 191, 3) := by decide +kernel
theorem d_B_isMultiplierNow_56 : decode M_B_isMultiplierNow.2.1 56 = .ok (.aload_n 0, 1) := by decide +kernel
theorem d_B_isMultiplierNow_57 : decode M_B_isMultiplierNow.2.1 57 = .ok (.aload_n 0, 1) := by decide +kernel
theorem d_B_isMultiplierNow_58 : decode M_B_isMultiplierNow.2.1 58 = .ok (.getfield 53, 3) := by decide +kernel
theorem d_B_isMultiplierNow_61 : decode M_B_isMultiplierNow.2.1 61 = .ok (.aload_n 0, 1) := by decide +kernel
theorem d_B_isMultiplierNow_62 : decode M_B_isMultiplierNow.2.1 62 = .ok (.getfield 56, 3) := by decide +kernel
theorem d_B_isMultiplierNow_65 : decode M_B_isMultiplierNow.2.1 65 = .ok (.invokevirtual 195, 3) := by decide +kernel
theorem d_B_isMultiplierNow_68 : decode M_B_isMultiplierNow.2.1 68 = .ok (.ifCond .ne 7, 3) := by decide +kernel
theorem d_B_isMultiplierNow_71 : decode M_B_isMultiplierNow.2.1 71 = .ok (.iconst 1, 1) := by decide +kernel
theorem d_B_isMultiplierNow_72 : decode M_B_isMultiplierNow.2.1 72 = .ok (.goto 4, 3) := by decide +kernel
theorem d_B_isMultiplierNow_75 : decode M_B_isMultiplierNow.2.1 75 = .ok (.iconst 0, 1) := by decide +kernel
theorem d_B_isMultiplierNow_76 : decode M_B_isMultiplierNow.2.1 76 = .ok (.ireturn, 1) := by decide +kernel
theorem d_B_multipliers_0 : decode M_B_multipliers.2.1 0 = .ok (.lconst 0, 1) := by decide +kernel
theorem d_B_multipliers_1 : decode M_B_multipliers.2.1 1 = .ok (.lstore_n 1, 1) := by decide +kernel
theorem d_B_multipliers_2 : decode M_B_multipliers.2.1 2 = .ok (.iconst 1, 1) := by decide +kernel
theorem d_B_multipliers_3 : decode M_B_multipliers.2.1 3 = .ok (.istore_n 3, 1) := by decide +kernel
theorem d_B_multipliers_4 : decode M_B_multipliers.2.1 4 = .ok (.iload_n 3, 1) := by decide +kernel
theorem d_B_multipliers_5 : decode M_B_multipliers.2.1 5 = .ok (.aload_n 0, 1) := by decide +kernel
theorem d_B_multipliers_6 : decode M_B_multipliers.2.1 6 = .ok (.getfield 16, 3) := by decide +kernel
theorem d_B_multipliers_9 : decode M_B_multipliers.2.1 9 = .ok (.if_icmp .ge 27, 3) := by decide +kernel
theorem d_B_multipliers_12 : decode M_B_multipliers.2.1 12 = .ok (.lload_n 1, 1) := by decide +kernel
theorem d_B_multipliers_13 : decode M_B_multipliers.2.1 13 = .ok (.aload_n 0, 1) := by decide +kernel
theorem d_B_multipliers_14 : decode M_B_multipliers.2.1 14 = .ok (.iload_n 3, 1) := by decide +kernel
theorem d_B_multipliers_15 : decode M_B_multipliers.2.1 15 = .ok (.invokevirtual 202, 3) := by decide +kernel
theorem d_B_multipliers_18 : decode M_B_multipliers.2.1 18 = .ok (.ifCond .eq 9, 3) := by decide +kernel
theorem d_B_multipliers_21 : decode M_B_multipliers.2.1 21 = .ok (.lconst 1, 1) := by decide +kernel
theorem d_B_multipliers_22 : decode M_B_multipliers.2.1 22 = .ok (.iload_n 3, 1) := by decide +kernel
theorem d_B_multipliers_23 : decode M_B_multipliers.2.1 23 = .ok (.lshl, 1) := by decide +kernel
theorem d_B_multipliers_24 : decode M_B_multipliers.2.1 24 = .ok (.goto 4, 3) := by decide +kernel
theorem d_B_multipliers_27 : decode M_B_multipliers.2.1 27 = .ok (.lconst 0, 1) := by decide +kernel
theorem d_B_multipliers_28 : decode M_B_multipliers.2.1 28 = .ok (.lor, 1) := by decide +kernel
theorem d_B_multipliers_29 : decode M_B_multipliers.2.1 29 = .ok (.lstore_n 1, 1) := by decide +kernel
theorem d_B_multipliers_30 : decode M_B_multipliers.2.1 30 = .ok (.iinc 3 1, 3) := by decide +kernel
theorem d_B_multipliers_33 : decode M_B_multipliers.2.1 33 = .ok (.goto (-29), 3) := by decide +kernel
theorem d_B_multipliers_36 : decode M_B_multipliers.2.1 36 = .ok (.lload_n 1, 1) := by decide +kernel
theorem d_B_multipliers_37 : decode M_B_multipliers.2.1 37 = .ok (.lreturn, 1) := by decide +kernel
theorem d_B_symmetries_0 : decode M_B_symmetries.2.1 0 = .ok (.aload_n 0, 1) := by decide +kernel
theorem d_B_symmetries_1 : decode M_B_symmetries.2.1 1 = .ok (.invokevirtual 199, 3) := by decide +kernel
theorem d_B_symmetries_4 : decode M_B_symmetries.2.1 4 = .ok (.iconst 0, 1) := by decide +kernel
theorem d_B_symmetries_5 : decode M_B_symmetries.2.1 5 = .ok (.istore_n 1, 1) := by decide +kernel
theorem d_B_symmetries_6 : decode M_B_symmetries.2.1 6 = .ok (.iconst 0, 1) := by decide +kernel
theorem d_B_symmetries_7 : decode M_B_symmetries.2.1 7 = .ok (.istore_n 2, 1) := by decide +kernel
theorem d_B_symmetries_8 : decode M_B_symmetries.2.1 8 = .ok (.iload_n 2, 1) := by decide +kernel
theorem d_B_symmetries_9 : decode M_B_symmetries.2.1 9 = .ok (.aload_n 0, 1) := by decide +kernel
theorem d_B_symmetries_10 : decode M_B_symmetries.2.1 10 = .ok (.getfield 98, 3) := by decide +kernel
theorem d_B_symmetries_13 : decode M_B_symmetries.2.1 13 = .ok (.if_icmp .ge 57, 3) := by decide +kernel
theorem d_B_symmetries_16 : decode M_B_symmetries.2.1 16 = .ok (.aload_n 0, 1) := by decide +kernel
theorem d_B_symmetries_17 : decode M_B_symmetries.2.1 17 = .ok (.aload_n 0, 1) := by decide +kernel
theorem d_B_symmetries_18 : decode M_B_symmetries.2.1 18 = .ok (.getfield 23, 3) := by decide +kernel
theorem d_B_symmetries_21 : decode M_B_symmetries.2.1 21 = .ok (.iconst 0, 1) := by decide +kernel
theorem d_B_symmetries_22 : decode M_B_symmetries.2.1 22 = .ok (.aload_n 0, 1) := by decide +kernel
theorem d_B_symmetries_23 : decode M_B_symmetries.2.1 23 = .ok (.getfield 41, 3) := by decide +kernel
theorem d_B_symmetries_26 : decode M_B_symmetries.2.1 26 = .ok (.iload_n 2, 1) := by decide +kernel
theorem d_B_symmetries_27 : decode M_B_symmetries.2.1 27 = .ok (.iaload, 1) := by decide +kernel
theorem d_B_symmetries_28 : decode M_B_symmetries.2.1 28 = .ok (.aload_n 0, 1) := by decide +kernel
theorem d_B_symmetries_29 : decode M_B_symmetries.2.1 29 = .ok (.getfield 44, 3) := by decide +kernel
theorem d_B_symmetries_32 : decode M_B_symmetries.2.1 32 = .ok (.iload_n 2, 1) := by decide +kernel
theorem d_B_symmetries_33 : decode M_B_symmetries.2.1 33 = .ok (.iaload, 1) := by decide +kernel
theorem d_B_symmetries_34 : decode M_B_symmetries.2.1 34 = .ok (.aload_n 0, 1) := by decide +kernel
theorem d_B_symmetries_35 : decode M_B_symmetries.2.1 35 = .ok (.getfield 53, 3) := by decide +kernel
theorem d_B_symmetries_38 : decode M_B_symmetries.2.1 38 = .ok (.invokevirtual 191, 3) := by decide +kernel
theorem d_B_symmetries_41 : decode M_B_symmetries.2.1 41 = .ok (.iload_n 1, 1) := by decide +kernel
theorem d_B_symmetries_42 : decode M_B_symmetries.2.1 42 = .ok (.aload_n 0, 1) := by decide +kernel
theorem d_B_symmetries_43 : decode M_B_symmetries.2.1 43 = .ok (.aload_n 0, 1) := by decide +kernel
theorem d_B_symmetries_44 : decode M_B_symmetries.2.1 44 = .ok (.getfield 53, 3) := by decide +kernel
theorem d_B_symmetries_47 : decode M_B_symmetries.2.1 47 = .ok (.aload_n 0, 1) := by decide +kernel
theorem d_B_symmetries_48 : decode M_B_symmetries.2.1 48 = .ok (.getfield 56, 3) := by decide +kernel
theorem d_B_symmetries_51 : decode M_B_symmetries.2.1 51 = .ok (.invokevirtual 195, 3) := by decide +kernel
theorem d_B_symmetries_54 : decode M_B_symmetries.2.1 54 = .ok (.ifCond .ne 7, 3) := by decide +kernel
theorem d_B_symmetries_57 : decode M_B_symmetries.2.1 57 = .ok (.iconst 1, 1) := by decide +kernel
theorem d_B_symmetries_58 : decode M_B_symmetries.2.1 58 = .ok (.goto 4, 3) := by decide +kernel
theorem d_B_symmetries_61 : decode M_B_symmetries.2.1 61 = .ok (.iconst 0, 1) := by decide +kernel
theorem d_B_symmetries_62 : decode M_B_symmetries.2.1 62 = .ok (.iadd, 1) := by decide +kernel
theorem d_B_symmetries_63 : decode M_B_symmetries.2.1 63 = .ok (.istore_n 1, 1) := by decide +kernel
theorem d_B_symmetries_64 : decode M_B_symmetries.2.1 64 = .ok (.iinc 2 1, 3) := by decide +kernel
theorem d_B_symmetries_67 : decode M_B_symmetries.2.1 67 = .ok (.goto (-59), 3) := by decide +kernel
theorem d_B_symmetries_70 : decode M_B_symmetries.2.1 70 = .ok (.iload_n 1, 1) := by decide +kernel
theorem d_B_symmetries_71 : decode M_B_symmetries.2.1 71 = .ok (.ireturn, 1) := by decide +kernel
theorem d_B_develops_0 : decode M_B_develops.2.1 0 = .ok (.aload_n 0, 1) := by decide +kernel
theorem d_B_develops_1 : decode M_B_develops.2.1 1 = .ok (.iconst 0, 1) := by decide +kernel
theorem d_B_develops_2 : decode M_B_develops.2.1 2 = .ok (.putfield 209, 3) := by decide +kernel
theorem d_B_develops_5 : decode M_B_develops.2.1 5 = .ok (.iconst 0, 1) := by decide +kernel
theorem d_B_develops_6 : decode M_B_develops.2.1 6 = .ok (.istore_n 1, 1) := by decide +kernel
theorem d_B_develops_7 : decode M_B_develops.2.1 7 = .ok (.iload_n 1, 1) := by decide +kernel
theorem d_B_develops_8 : decode M_B_develops.2.1 8 = .ok (.bipush 6, 2) := by decide +kernel
theorem d_B_develops_10 : decode M_B_develops.2.1 10 = .ok (.if_icmp .ge 126, 3) := by decide +kernel
theorem d_B_develops_13 : decode M_B_develops.2.1 13 = .ok (.aload_n 0, 1) := by decide +kernel
theorem d_B_develops_14 : decode M_B_develops.2.1 14 = .ok (.getfield 209, 3) := by decide +kernel
theorem d_B_develops_17 : decode M_B_develops.2.1 17 = .ok (.istore_n 2, 1) := by decide +kernel
theorem d_B_develops_18 : decode M_B_develops.2.1 18 = .ok (.iconst 0, 1) := by decide +kernel
theorem d_B_develops_19 : decode M_B_develops.2.1 19 = .ok (.istore_n 3, 1) := by decide +kernel
theorem d_B_develops_20 : decode M_B_develops.2.1 20 = .ok (.iload_n 3, 1) := by decide +kernel
theorem d_B_develops_21 : decode M_B_develops.2.1 21 = .ok (.aload_n 0, 1) := by decide +kernel
theorem d_B_develops_22 : decode M_B_develops.2.1 22 = .ok (.getfield 16, 3) := by decide +kernel
theorem d_B_develops_25 : decode M_B_develops.2.1 25 = .ok (.if_icmp .ge 105, 3) := by decide +kernel
theorem d_B_develops_28 : decode M_B_develops.2.1 28 = .ok (.aload_n 0, 1) := by decide +kernel
theorem d_B_develops_29 : decode M_B_develops.2.1 29 = .ok (.getfield 23, 3) := by decide +kernel
theorem d_B_develops_32 : decode M_B_develops.2.1 32 = .ok (.iload_n 1, 1) := by decide +kernel
theorem d_B_develops_33 : decode M_B_develops.2.1 33 = .ok (.laload, 1) := by decide +kernel
theorem d_B_develops_34 : decode M_B_develops.2.1 34 = .ok (.lconst 0, 1) := by decide +kernel
theorem d_B_develops_35 : decode M_B_develops.2.1 35 = .ok (.lcmp, 1) := by decide +kernel
theorem d_B_develops_36 : decode M_B_develops.2.1 36 = .ok (.ifCond .eq 94, 3) := by decide +kernel
theorem d_B_develops_39 : decode M_B_develops.2.1 39 = .ok (.aload_n 0, 1) := by decide +kernel
theorem d_B_develops_40 : decode M_B_develops.2.1 40 = .ok (.aload_n 0, 1) := by decide +kernel
theorem d_B_develops_41 : decode M_B_develops.2.1 41 = .ok (.getfield 23, 3) := by decide +kernel
theorem d_B_develops_44 : decode M_B_develops.2.1 44 = .ok (.iload_n 1, 1) := by decide +kernel
theorem d_B_develops_45 : decode M_B_develops.2.1 45 = .ok (.laload, 1) := by decide +kernel
theorem d_B_develops_46 : decode M_B_develops.2.1 46 = .ok (.iload_n 3, 1) := by decide +kernel
theorem d_B_develops_47 : decode M_B_develops.2.1 47 = .ok (.invokevirtual 138, 3) := by decide +kernel
theorem d_B_develops_50 : decode M_B_develops.2.1 50 = .ok (.lstore 4, 2) := by decide +kernel
theorem d_B_develops_52 : decode M_B_develops.2.1 52 = .ok (.iconst 1, 1) := by decide +kernel
theorem d_B_develops_53 : decode M_B_develops.2.1 53 = .ok (.istore 6, 2) := by decide +kernel
theorem d_B_develops_55 : decode M_B_develops.2.1 55 = .ok (.iload_n 2, 1) := by decide +kernel
theorem d_B_develops_56 : decode M_B_develops.2.1 56 = .ok (.istore 7, 2) := by decide +kernel
theorem d_B_develops_58 : decode M_B_develops.2.1 58 = .ok (.iload 7, 2) := by decide +kernel
theorem d_B_develops_60 : decode M_B_develops.2.1 60 = .ok (.aload_n 0, 1) := by decide +kernel
theorem d_B_develops_61 : decode M_B_develops.2.1 61 = .ok (.getfield 209, 3) := by decide +kernel
theorem d_B_develops_64 : decode M_B_develops.2.1 64 = .ok (.if_icmp .ge 34, 3) := by decide +kernel
theorem d_B_develops_67 : decode M_B_develops.2.1 67 = .ok (.iload 6, 2) := by decide +kernel
theorem d_B_develops_69 : decode M_B_develops.2.1 69 = .ok (.ifCond .eq 20, 3) := by decide +kernel
theorem d_B_develops_72 : decode M_B_develops.2.1 72 = .ok (.aload_n 0, 1) := by decide +kernel
theorem d_B_develops_73 : decode M_B_develops.2.1 73 = .ok (.getfield 62, 3) := by decide +kernel
theorem d_B_develops_76 : decode M_B_develops.2.1 76 = .ok (.iload 7, 2) := by decide +kernel
theorem d_B_develops_78 : decode M_B_develops.2.1 78 = .ok (.laload, 1) := by decide +kernel
theorem d_B_develops_79 : decode M_B_develops.2.1 79 = .ok (.lload 4, 2) := by decide +kernel
theorem d_B_develops_81 : decode M_B_develops.2.1 81 = .ok (.lcmp, 1) := by decide +kernel
theorem d_B_develops_82 : decode M_B_develops.2.1 82 = .ok (.ifCond .eq 7, 3) := by decide +kernel
theorem d_B_develops_85 : decode M_B_develops.2.1 85 = .ok (.iconst 1, 1) := by decide +kernel
theorem d_B_develops_86 : decode M_B_develops.2.1 86 = .ok (.goto 4, 3) := by decide +kernel
theorem d_B_develops_89 : decode M_B_develops.2.1 89 = .ok (.iconst 0, 1) := by decide +kernel
theorem d_B_develops_90 : decode M_B_develops.2.1 90 = .ok (.istore 6, 2) := by decide +kernel
theorem d_B_develops_92 : decode M_B_develops.2.1 92 = .ok (.iinc 7 1, 3) := by decide +kernel
theorem d_B_develops_95 : decode M_B_develops.2.1 95 = .ok (.goto (-37), 3) := by decide +kernel
theorem d_B_develops_98 : decode M_B_develops.2.1 98 = .ok (.iload 6, 2) := by decide +kernel
theorem d_B_develops_100 : decode M_B_develops.2.1 100 = .ok (.ifCond .eq 24, 3) := by decide +kernel
theorem d_B_develops_103 : decode M_B_develops.2.1 103 = .ok (.aload_n 0, 1) := by decide +kernel
theorem d_B_develops_104 : decode M_B_develops.2.1 104 = .ok (.getfield 62, 3) := by decide +kernel
theorem d_B_develops_107 : decode M_B_develops.2.1 107 = .ok (.aload_n 0, 1) := by decide +kernel
theorem d_B_develops_108 : decode M_B_develops.2.1 108 = .ok (.getfield 209, 3) := by decide +kernel
theorem d_B_develops_111 : decode M_B_develops.2.1 111 = .ok (.lload 4, 2) := by decide +kernel
theorem d_B_develops_113 : decode M_B_develops.2.1 113 = .ok (.lastore, 1) := by decide +kernel
theorem d_B_develops_114 : decode M_B_develops.2.1 114 = .ok (.aload_n 0, 1) := by decide +kernel
theorem d_B_develops_115 : decode M_B_develops.2.1 115 = .ok (.dup, 1) := by decide +kernel
theorem d_B_develops_116 : decode M_B_develops.2.1 116 = .ok (.getfield 209, 3) := by decide +kernel
theorem d_B_develops_119 : decode M_B_develops.2.1 119 = .ok (.iconst 1, 1) := by decide +kernel
theorem d_B_develops_120 : decode M_B_develops.2.1 120 = .ok (.iadd, 1) := by decide +kernel
theorem d_B_develops_121 : decode M_B_develops.2.1 121 = .ok (.putfield 209, 3) := by decide +kernel
theorem d_B_develops_124 : decode M_B_develops.2.1 124 = .ok (.iinc 3 1, 3) := by decide +kernel
theorem d_B_develops_127 : decode M_B_develops.2.1 127 = .ok (.goto (-107), 3) := by decide +kernel
theorem d_B_develops_130 : decode M_B_develops.2.1 130 = .ok (.iinc 1 1, 3) := by decide +kernel
theorem d_B_develops_133 : decode M_B_develops.2.1 133 = .ok (.goto (-126), 3) := by decide +kernel
theorem d_B_develops_136 : decode M_B_develops.2.1 136 = .ok (.return_, 1) := by decide +kernel
theorem d_B_designBlocks_0 : decode M_B_designBlocks.2.1 0 = .ok (.aload_n 0, 1) := by decide +kernel
theorem d_B_designBlocks_1 : decode M_B_designBlocks.2.1 1 = .ok (.invokevirtual 212, 3) := by decide +kernel
theorem d_B_designBlocks_4 : decode M_B_designBlocks.2.1 4 = .ok (.aload_n 0, 1) := by decide +kernel
theorem d_B_designBlocks_5 : decode M_B_designBlocks.2.1 5 = .ok (.getfield 209, 3) := by decide +kernel
theorem d_B_designBlocks_8 : decode M_B_designBlocks.2.1 8 = .ok (.ireturn, 1) := by decide +kernel
theorem d_B_inverse_0 : decode M_B_inverse.2.1 0 = .ok (.iconst 1, 1) := by decide +kernel
theorem d_B_inverse_1 : decode M_B_inverse.2.1 1 = .ok (.istore_n 2, 1) := by decide +kernel
theorem d_B_inverse_2 : decode M_B_inverse.2.1 2 = .ok (.iload_n 0, 1) := by decide +kernel
theorem d_B_inverse_3 : decode M_B_inverse.2.1 3 = .ok (.iload_n 2, 1) := by decide +kernel
theorem d_B_inverse_4 : decode M_B_inverse.2.1 4 = .ok (.imul, 1) := by decide +kernel
theorem d_B_inverse_5 : decode M_B_inverse.2.1 5 = .ok (.iload_n 1, 1) := by decide +kernel
theorem d_B_inverse_6 : decode M_B_inverse.2.1 6 = .ok (.irem, 1) := by decide +kernel
theorem d_B_inverse_7 : decode M_B_inverse.2.1 7 = .ok (.iconst 1, 1) := by decide +kernel
theorem d_B_inverse_8 : decode M_B_inverse.2.1 8 = .ok (.if_icmp .eq 9, 3) := by decide +kernel
theorem d_B_inverse_11 : decode M_B_inverse.2.1 11 = .ok (.iinc 2 1, 3) := by decide +kernel
theorem d_B_inverse_14 : decode M_B_inverse.2.1 14 = .ok (.goto (-12), 3) := by decide +kernel
theorem d_B_inverse_17 : decode M_B_inverse.2.1 17 = .ok (.iload_n 2, 1) := by decide +kernel
theorem d_B_inverse_18 : decode M_B_inverse.2.1 18 = .ok (.ireturn, 1) := by decide +kernel
theorem d_B_clears_0 : decode M_B_clears.2.1 0 = .ok (.aload_n 0, 1) := by decide +kernel
theorem d_B_clears_1 : decode M_B_clears.2.1 1 = .ok (.getfield 65, 3) := by decide +kernel
theorem d_B_clears_4 : decode M_B_clears.2.1 4 = .ok (.bipush 40, 2) := by decide +kernel
theorem d_B_clears_6 : decode M_B_clears.2.1 6 = .ok (.iload_n 1, 1) := by decide +kernel
theorem d_B_clears_7 : decode M_B_clears.2.1 7 = .ok (.imul, 1) := by decide +kernel
theorem d_B_clears_8 : decode M_B_clears.2.1 8 = .ok (.iload_n 2, 1) := by decide +kernel
theorem d_B_clears_9 : decode M_B_clears.2.1 9 = .ok (.iadd, 1) := by decide +kernel
theorem d_B_clears_10 : decode M_B_clears.2.1 10 = .ok (.iaload, 1) := by decide +kernel
theorem d_B_clears_11 : decode M_B_clears.2.1 11 = .ok (.iload_n 3, 1) := by decide +kernel
theorem d_B_clears_12 : decode M_B_clears.2.1 12 = .ok (.invokestatic 215, 3) := by decide +kernel
theorem d_B_clears_15 : decode M_B_clears.2.1 15 = .ok (.istore 4, 2) := by decide +kernel
theorem d_B_clears_17 : decode M_B_clears.2.1 17 = .ok (.iload_n 1, 1) := by decide +kernel
theorem d_B_clears_18 : decode M_B_clears.2.1 18 = .ok (.iconst 1, 1) := by decide +kernel
theorem d_B_clears_19 : decode M_B_clears.2.1 19 = .ok (.iadd, 1) := by decide +kernel
theorem d_B_clears_20 : decode M_B_clears.2.1 20 = .ok (.istore 5, 2) := by decide +kernel
theorem d_B_clears_22 : decode M_B_clears.2.1 22 = .ok (.iload 5, 2) := by decide +kernel
theorem d_B_clears_24 : decode M_B_clears.2.1 24 = .ok (.aload_n 0, 1) := by decide +kernel
theorem d_B_clears_25 : decode M_B_clears.2.1 25 = .ok (.getfield 209, 3) := by decide +kernel
theorem d_B_clears_28 : decode M_B_clears.2.1 28 = .ok (.if_icmp .ge 97, 3) := by decide +kernel
theorem d_B_clears_31 : decode M_B_clears.2.1 31 = .ok (.aload_n 0, 1) := by decide +kernel
theorem d_B_clears_32 : decode M_B_clears.2.1 32 = .ok (.getfield 65, 3) := by decide +kernel
theorem d_B_clears_35 : decode M_B_clears.2.1 35 = .ok (.bipush 40, 2) := by decide +kernel
theorem d_B_clears_37 : decode M_B_clears.2.1 37 = .ok (.iload 5, 2) := by decide +kernel
theorem d_B_clears_39 : decode M_B_clears.2.1 39 = .ok (.imul, 1) := by decide +kernel
theorem d_B_clears_40 : decode M_B_clears.2.1 40 = .ok (.iload_n 2, 1) := by decide +kernel
theorem d_B_clears_41 : decode M_B_clears.2.1 41 = .ok (.iadd, 1) := by decide +kernel
theorem d_B_clears_42 : decode M_B_clears.2.1 42 = .ok (.iaload, 1) := by decide +kernel
theorem d_B_clears_43 : decode M_B_clears.2.1 43 = .ok (.iload 4, 2) := by decide +kernel
theorem d_B_clears_45 : decode M_B_clears.2.1 45 = .ok (.imul, 1) := by decide +kernel
theorem d_B_clears_46 : decode M_B_clears.2.1 46 = .ok (.iload_n 3, 1) := by decide +kernel
theorem d_B_clears_47 : decode M_B_clears.2.1 47 = .ok (.irem, 1) := by decide +kernel
theorem d_B_clears_48 : decode M_B_clears.2.1 48 = .ok (.istore 6, 2) := by decide +kernel
theorem d_B_clears_50 : decode M_B_clears.2.1 50 = .ok (.iload_n 2, 1) := by decide +kernel
theorem d_B_clears_51 : decode M_B_clears.2.1 51 = .ok (.istore 7, 2) := by decide +kernel
theorem d_B_clears_53 : decode M_B_clears.2.1 53 = .ok (.iload 7, 2) := by decide +kernel
theorem d_B_clears_55 : decode M_B_clears.2.1 55 = .ok (.aload_n 0, 1) := by decide +kernel
theorem d_B_clears_56 : decode M_B_clears.2.1 56 = .ok (.getfield 16, 3) := by decide +kernel
theorem d_B_clears_59 : decode M_B_clears.2.1 59 = .ok (.if_icmp .ge 60, 3) := by decide +kernel
theorem d_B_clears_62 : decode M_B_clears.2.1 62 = .ok (.iload 6, 2) := by decide +kernel
theorem d_B_clears_64 : decode M_B_clears.2.1 64 = .ok (.ifCond .le 55, 3) := by decide +kernel
theorem d_B_clears_67 : decode M_B_clears.2.1 67 = .ok (.aload_n 0, 1) := by decide +kernel
theorem d_B_clears_68 : decode M_B_clears.2.1 68 = .ok (.getfield 65, 3) := by decide +kernel
theorem d_B_clears_71 : decode M_B_clears.2.1 71 = .ok (.bipush 40, 2) := by decide +kernel
theorem d_B_clears_73 : decode M_B_clears.2.1 73 = .ok (.iload 5, 2) := by decide +kernel
theorem d_B_clears_75 : decode M_B_clears.2.1 75 = .ok (.imul, 1) := by decide +kernel
theorem d_B_clears_76 : decode M_B_clears.2.1 76 = .ok (.iload 7, 2) := by decide +kernel
theorem d_B_clears_78 : decode M_B_clears.2.1 78 = .ok (.iadd, 1) := by decide +kernel
theorem d_B_clears_79 : decode M_B_clears.2.1 79 = .ok (.aload_n 0, 1) := by decide +kernel
theorem d_B_clears_80 : decode M_B_clears.2.1 80 = .ok (.getfield 65, 3) := by decide +kernel
theorem d_B_clears_83 : decode M_B_clears.2.1 83 = .ok (.bipush 40, 2) := by decide +kernel
theorem d_B_clears_85 : decode M_B_clears.2.1 85 = .ok (.iload 5, 2) := by decide +kernel
theorem d_B_clears_87 : decode M_B_clears.2.1 87 = .ok (.imul, 1) := by decide +kernel
theorem d_B_clears_88 : decode M_B_clears.2.1 88 = .ok (.iload 7, 2) := by decide +kernel
theorem d_B_clears_90 : decode M_B_clears.2.1 90 = .ok (.iadd, 1) := by decide +kernel
theorem d_B_clears_91 : decode M_B_clears.2.1 91 = .ok (.iaload, 1) := by decide +kernel
theorem d_B_clears_92 : decode M_B_clears.2.1 92 = .ok (.iload_n 3, 1) := by decide +kernel
theorem d_B_clears_93 : decode M_B_clears.2.1 93 = .ok (.iload 6, 2) := by decide +kernel
theorem d_B_clears_95 : decode M_B_clears.2.1 95 = .ok (.isub, 1) := by decide +kernel
theorem d_B_clears_96 : decode M_B_clears.2.1 96 = .ok (.aload_n 0, 1) := by decide +kernel
theorem d_B_clears_97 : decode M_B_clears.2.1 97 = .ok (.getfield 65, 3) := by decide +kernel
theorem d_B_clears_100 : decode M_B_clears.2.1 100 = .ok (.bipush 40, 2) := by decide +kernel
theorem d_B_clears_102 : decode M_B_clears.2.1 102 = .ok (.iload_n 1, 1) := by decide +kernel
theorem d_B_clears_103 : decode M_B_clears.2.1 103 = .ok (.imul, 1) := by decide +kernel
theorem d_B_clears_104 : decode M_B_clears.2.1 104 = .ok (.iload 7, 2) := by decide +kernel
theorem d_B_clears_106 : decode M_B_clears.2.1 106 = .ok (.iadd, 1) := by decide +kernel
theorem d_B_clears_107 : decode M_B_clears.2.1 107 = .ok (.iaload, 1) := by decide +kernel
theorem d_B_clears_108 : decode M_B_clears.2.1 108 = .ok (.imul, 1) := by decide +kernel
theorem d_B_clears_109 : decode M_B_clears.2.1 109 = .ok (.iadd, 1) := by decide +kernel
theorem d_B_clears_110 : decode M_B_clears.2.1 110 = .ok (.iload_n 3, 1) := by decide +kernel
theorem d_B_clears_111 : decode M_B_clears.2.1 111 = .ok (.irem, 1) := by decide +kernel
theorem d_B_clears_112 : decode M_B_clears.2.1 112 = .ok (.iastore, 1) := by decide +kernel
theorem d_B_clears_113 : decode M_B_clears.2.1 113 = .ok (.iinc 7 1, 3) := by decide +kernel
theorem d_B_clears_116 : decode M_B_clears.2.1 116 = .ok (.goto (-63), 3) := by decide +kernel
theorem d_B_clears_119 : decode M_B_clears.2.1 119 = .ok (.iinc 5 1, 3) := by decide +kernel
theorem d_B_clears_122 : decode M_B_clears.2.1 122 = .ok (.goto (-100), 3) := by decide +kernel
theorem d_B_clears_125 : decode M_B_clears.2.1 125 = .ok (.return_, 1) := by decide +kernel
theorem d_B_rankOf_0 : decode M_B_rankOf.2.1 0 = .ok (.aload_n 0, 1) := by decide +kernel
theorem d_B_rankOf_1 : decode M_B_rankOf.2.1 1 = .ok (.invokevirtual 212, 3) := by decide +kernel
theorem d_B_rankOf_4 : decode M_B_rankOf.2.1 4 = .ok (.iconst 0, 1) := by decide +kernel
theorem d_B_rankOf_5 : decode M_B_rankOf.2.1 5 = .ok (.istore_n 2, 1) := by decide +kernel
theorem d_B_rankOf_6 : decode M_B_rankOf.2.1 6 = .ok (.iload_n 2, 1) := by decide +kernel
theorem d_B_rankOf_7 : decode M_B_rankOf.2.1 7 = .ok (.aload_n 0, 1) := by decide +kernel
theorem d_B_rankOf_8 : decode M_B_rankOf.2.1 8 = .ok (.getfield 209, 3) := by decide +kernel
theorem d_B_rankOf_11 : decode M_B_rankOf.2.1 11 = .ok (.if_icmp .ge 54, 3) := by decide +kernel
theorem d_B_rankOf_14 : decode M_B_rankOf.2.1 14 = .ok (.iconst 0, 1) := by decide +kernel
theorem d_B_rankOf_15 : decode M_B_rankOf.2.1 15 = .ok (.istore_n 3, 1) := by decide +kernel
theorem d_B_rankOf_16 : decode M_B_rankOf.2.1 16 = .ok (.iload_n 3, 1) := by decide +kernel
theorem d_B_rankOf_17 : decode M_B_rankOf.2.1 17 = .ok (.aload_n 0, 1) := by decide +kernel
theorem d_B_rankOf_18 : decode M_B_rankOf.2.1 18 = .ok (.getfield 16, 3) := by decide +kernel
theorem d_B_rankOf_21 : decode M_B_rankOf.2.1 21 = .ok (.if_icmp .ge 38, 3) := by decide +kernel
theorem d_B_rankOf_24 : decode M_B_rankOf.2.1 24 = .ok (.aload_n 0, 1) := by decide +kernel
theorem d_B_rankOf_25 : decode M_B_rankOf.2.1 25 = .ok (.getfield 65, 3) := by decide +kernel
theorem d_B_rankOf_28 : decode M_B_rankOf.2.1 28 = .ok (.bipush 40, 2) := by decide +kernel
theorem d_B_rankOf_30 : decode M_B_rankOf.2.1 30 = .ok (.iload_n 2, 1) := by decide +kernel
theorem d_B_rankOf_31 : decode M_B_rankOf.2.1 31 = .ok (.imul, 1) := by decide +kernel
theorem d_B_rankOf_32 : decode M_B_rankOf.2.1 32 = .ok (.iload_n 3, 1) := by decide +kernel
theorem d_B_rankOf_33 : decode M_B_rankOf.2.1 33 = .ok (.iadd, 1) := by decide +kernel
theorem d_B_rankOf_34 : decode M_B_rankOf.2.1 34 = .ok (.aload_n 0, 1) := by decide +kernel
theorem d_B_rankOf_35 : decode M_B_rankOf.2.1 35 = .ok (.getfield 62, 3) := by decide +kernel
theorem d_B_rankOf_38 : decode M_B_rankOf.2.1 38 = .ok (.iload_n 2, 1) := by decide +kernel
theorem d_B_rankOf_39 : decode M_B_rankOf.2.1 39 = .ok (.laload, 1) := by decide +kernel
theorem d_B_rankOf_40 : decode M_B_rankOf.2.1 40 = .ok (.iload_n 3, 1) := by decide +kernel
theorem d_B_rankOf_41 : decode M_B_rankOf.2.1 41 = .ok (.invokestatic 134, 3) := by decide +kernel
theorem d_B_rankOf_44 : decode M_B_rankOf.2.1 44 = .ok (.ifCond .eq 7, 3) := by decide +kernel
theorem d_B_rankOf_47 : decode M_B_rankOf.2.1 47 = .ok (.iconst 1, 1) := by decide +kernel
theorem d_B_rankOf_48 : decode M_B_rankOf.2.1 48 = .ok (.goto 4, 3) := by decide +kernel
theorem d_B_rankOf_51 : decode M_B_rankOf.2.1 51 = .ok (.iconst 0, 1) := by decide +kernel
theorem d_B_rankOf_52 : decode M_B_rankOf.2.1 52 = .ok (.iastore, 1) := by decide +kernel
theorem d_B_rankOf_53 : decode M_B_rankOf.2.1 53 = .ok (.iinc 3 1, 3) := by decide +kernel
theorem d_B_rankOf_56 : decode M_B_rankOf.2.1 56 = .ok (.goto (-40), 3) := by decide +kernel
theorem d_B_rankOf_59 : decode M_B_rankOf.2.1 59 = .ok (.iinc 2 1, 3) := by decide +kernel
theorem d_B_rankOf_62 : decode M_B_rankOf.2.1 62 = .ok (.goto (-56), 3) := by decide +kernel
theorem d_B_rankOf_65 : decode M_B_rankOf.2.1 65 = .ok (.iconst 0, 1) := by decide +kernel
theorem d_B_rankOf_66 : decode M_B_rankOf.2.1 66 = .ok (.istore_n 2, 1) := by decide +kernel
theorem d_B_rankOf_67 : decode M_B_rankOf.2.1 67 = .ok (.iconst 0, 1) := by decide +kernel
theorem d_B_rankOf_68 : decode M_B_rankOf.2.1 68 = .ok (.istore_n 3, 1) := by decide +kernel
theorem d_B_rankOf_69 : decode M_B_rankOf.2.1 69 = .ok (.iload_n 3, 1) := by decide +kernel
theorem d_B_rankOf_70 : decode M_B_rankOf.2.1 70 = .ok (.aload_n 0, 1) := by decide +kernel
theorem d_B_rankOf_71 : decode M_B_rankOf.2.1 71 = .ok (.getfield 16, 3) := by decide +kernel
theorem d_B_rankOf_74 : decode M_B_rankOf.2.1 74 = .ok (.if_icmp .ge 133, 3) := by decide +kernel
theorem d_B_rankOf_77 : decode M_B_rankOf.2.1 77 = .ok (.iload_n 2, 1) := by decide +kernel
theorem d_B_rankOf_78 : decode M_B_rankOf.2.1 78 = .ok (.istore 4, 2) := by decide +kernel
theorem d_B_rankOf_80 : decode M_B_rankOf.2.1 80 = .ok (.iload 4, 2) := by decide +kernel
theorem d_B_rankOf_82 : decode M_B_rankOf.2.1 82 = .ok (.aload_n 0, 1) := by decide +kernel
theorem d_B_rankOf_83 : decode M_B_rankOf.2.1 83 = .ok (.getfield 209, 3) := by decide +kernel
theorem d_B_rankOf_86 : decode M_B_rankOf.2.1 86 = .ok (.if_icmp .ge 24, 3) := by decide +kernel
theorem d_B_rankOf_89 : decode M_B_rankOf.2.1 89 = .ok (.aload_n 0, 1) := by decide +kernel
theorem d_B_rankOf_90 : decode M_B_rankOf.2.1 90 = .ok (.getfield 65, 3) := by decide +kernel
theorem d_B_rankOf_93 : decode M_B_rankOf.2.1 93 = .ok (.bipush 40, 2) := by decide +kernel
theorem d_B_rankOf_95 : decode M_B_rankOf.2.1 95 = .ok (.iload 4, 2) := by decide +kernel
theorem d_B_rankOf_97 : decode M_B_rankOf.2.1 97 = .ok (.imul, 1) := by decide +kernel
theorem d_B_rankOf_98 : decode M_B_rankOf.2.1 98 = .ok (.iload_n 3, 1) := by decide +kernel
theorem d_B_rankOf_99 : decode M_B_rankOf.2.1 99 = .ok (.iadd, 1) := by decide +kernel
theorem d_B_rankOf_100 : decode M_B_rankOf.2.1 100 = .ok (.iaload, 1) := by decide +kernel
theorem d_B_rankOf_101 : decode M_B_rankOf.2.1 101 = .ok (.ifCond .ne 9, 3) := by decide +kernel
theorem d_B_rankOf_104 : decode M_B_rankOf.2.1 104 = .ok (.iinc 4 1, 3) := by decide +kernel
theorem d_B_rankOf_107 : decode M_B_rankOf.2.1 107 = .ok (.goto (-27), 3) := by decide +kernel
theorem d_B_rankOf_110 : decode M_B_rankOf.2.1 110 = .ok (.iload 4, 2) := by decide +kernel
theorem d_B_rankOf_112 : decode M_B_rankOf.2.1 112 = .ok (.aload_n 0, 1) := by decide +kernel
theorem d_B_rankOf_113 : decode M_B_rankOf.2.1 113 = .ok (.getfield 209, 3) := by decide +kernel
theorem d_B_rankOf_116 : decode M_B_rankOf.2.1 116 = .ok (.if_icmp .ge 85, 3) := by decide +kernel
theorem d_B_rankOf_119 : decode M_B_rankOf.2.1 119 = .ok (.iconst 0, 1) := by decide +kernel
theorem d_B_rankOf_120 : decode M_B_rankOf.2.1 120 = .ok (.istore 5, 2) := by decide +kernel
theorem d_B_rankOf_122 : decode M_B_rankOf.2.1 122 = .ok (.iload 5, 2) := by decide +kernel
theorem d_B_rankOf_124 : decode M_B_rankOf.2.1 124 = .ok (.aload_n 0, 1) := by decide +kernel
theorem d_B_rankOf_125 : decode M_B_rankOf.2.1 125 = .ok (.getfield 16, 3) := by decide +kernel
theorem d_B_rankOf_128 : decode M_B_rankOf.2.1 128 = .ok (.if_icmp .ge 63, 3) := by decide +kernel
theorem d_B_rankOf_131 : decode M_B_rankOf.2.1 131 = .ok (.aload_n 0, 1) := by decide +kernel
theorem d_B_rankOf_132 : decode M_B_rankOf.2.1 132 = .ok (.getfield 65, 3) := by decide +kernel
theorem d_B_rankOf_135 : decode M_B_rankOf.2.1 135 = .ok (.bipush 40, 2) := by decide +kernel
theorem d_B_rankOf_137 : decode M_B_rankOf.2.1 137 = .ok (.iload 4, 2) := by decide +kernel
theorem d_B_rankOf_139 : decode M_B_rankOf.2.1 139 = .ok (.imul, 1) := by decide +kernel
theorem d_B_rankOf_140 : decode M_B_rankOf.2.1 140 = .ok (.iload 5, 2) := by decide +kernel
theorem d_B_rankOf_142 : decode M_B_rankOf.2.1 142 = .ok (.iadd, 1) := by decide +kernel
theorem d_B_rankOf_143 : decode M_B_rankOf.2.1 143 = .ok (.iaload, 1) := by decide +kernel
theorem d_B_rankOf_144 : decode M_B_rankOf.2.1 144 = .ok (.istore 6, 2) := by decide +kernel
theorem d_B_rankOf_146 : decode M_B_rankOf.2.1 146 = .ok (.aload_n 0, 1) := by decide +kernel
theorem d_B_rankOf_147 : decode M_B_rankOf.2.1 147 = .ok (.getfield 65, 3) := by decide +kernel
theorem d_B_rankOf_150 : decode M_B_rankOf.2.1 150 = .ok (.bipush 40, 2) := by decide +kernel
theorem d_B_rankOf_152 : decode M_B_rankOf.2.1 152 = .ok (.iload 4, 2) := by decide +kernel
theorem d_B_rankOf_154 : decode M_B_rankOf.2.1 154 = .ok (.imul, 1) := by decide +kernel
theorem d_B_rankOf_155 : decode M_B_rankOf.2.1 155 = .ok (.iload 5, 2) := by decide +kernel
theorem d_B_rankOf_157 : decode M_B_rankOf.2.1 157 = .ok (.iadd, 1) := by decide +kernel
theorem d_B_rankOf_158 : decode M_B_rankOf.2.1 158 = .ok (.aload_n 0, 1) := by decide +kernel
theorem d_B_rankOf_159 : decode M_B_rankOf.2.1 159 = .ok (.getfield 65, 3) := by decide +kernel
theorem d_B_rankOf_162 : decode M_B_rankOf.2.1 162 = .ok (.bipush 40, 2) := by decide +kernel
theorem d_B_rankOf_164 : decode M_B_rankOf.2.1 164 = .ok (.iload_n 2, 1) := by decide +kernel
theorem d_B_rankOf_165 : decode M_B_rankOf.2.1 165 = .ok (.imul, 1) := by decide +kernel
theorem d_B_rankOf_166 : decode M_B_rankOf.2.1 166 = .ok (.iload 5, 2) := by decide +kernel
theorem d_B_rankOf_168 : decode M_B_rankOf.2.1 168 = .ok (.iadd, 1) := by decide +kernel
theorem d_B_rankOf_169 : decode M_B_rankOf.2.1 169 = .ok (.iaload, 1) := by decide +kernel
theorem d_B_rankOf_170 : decode M_B_rankOf.2.1 170 = .ok (.iastore, 1) := by decide +kernel
theorem d_B_rankOf_171 : decode M_B_rankOf.2.1 171 = .ok (.aload_n 0, 1) := by decide +kernel
theorem d_B_rankOf_172 : decode M_B_rankOf.2.1 172 = .ok (.getfield 65, 3) := by decide +kernel
theorem d_B_rankOf_175 : decode M_B_rankOf.2.1 175 = .ok (.bipush 40, 2) := by decide +kernel
theorem d_B_rankOf_177 : decode M_B_rankOf.2.1 177 = .ok (.iload_n 2, 1) := by decide +kernel
theorem d_B_rankOf_178 : decode M_B_rankOf.2.1 178 = .ok (.imul, 1) := by decide +kernel
theorem d_B_rankOf_179 : decode M_B_rankOf.2.1 179 = .ok (.iload 5, 2) := by decide +kernel
theorem d_B_rankOf_181 : decode M_B_rankOf.2.1 181 = .ok (.iadd, 1) := by decide +kernel
theorem d_B_rankOf_182 : decode M_B_rankOf.2.1 182 = .ok (.iload 6, 2) := by decide +kernel
theorem d_B_rankOf_184 : decode M_B_rankOf.2.1 184 = .ok (.iastore, 1) := by decide +kernel
theorem d_B_rankOf_185 : decode M_B_rankOf.2.1 185 = .ok (.iinc 5 1, 3) := by decide +kernel
theorem d_B_rankOf_188 : decode M_B_rankOf.2.1 188 = .ok (.goto (-66), 3) := by decide +kernel
theorem d_B_rankOf_191 : decode M_B_rankOf.2.1 191 = .ok (.aload_n 0, 1) := by decide +kernel
theorem d_B_rankOf_192 : decode M_B_rankOf.2.1 192 = .ok (.iload_n 2, 1) := by decide +kernel
theorem d_B_rankOf_193 : decode M_B_rankOf.2.1 193 = .ok (.iload_n 3, 1) := by decide +kernel
theorem d_B_rankOf_194 : decode M_B_rankOf.2.1 194 = .ok (.iload_n 1, 1) := by decide +kernel
theorem d_B_rankOf_195 : decode M_B_rankOf.2.1 195 = .ok (.invokevirtual 218, 3) := by decide +kernel
theorem d_B_rankOf_198 : decode M_B_rankOf.2.1 198 = .ok (.iinc 2 1, 3) := by decide +kernel
theorem d_B_rankOf_201 : decode M_B_rankOf.2.1 201 = .ok (.iinc 3 1, 3) := by decide +kernel
theorem d_B_rankOf_204 : decode M_B_rankOf.2.1 204 = .ok (.goto (-135), 3) := by decide +kernel
theorem d_B_rankOf_207 : decode M_B_rankOf.2.1 207 = .ok (.iload_n 2, 1) := by decide +kernel
theorem d_B_rankOf_208 : decode M_B_rankOf.2.1 208 = .ok (.ireturn, 1) := by decide +kernel
theorem d_B_checksum_0 : decode M_B_checksum.2.1 0 = .ok (.ldc2_w 282, 3) := by decide +kernel
theorem d_B_checksum_3 : decode M_B_checksum.2.1 3 = .ok (.aload_n 0, 1) := by decide +kernel
theorem d_B_checksum_4 : decode M_B_checksum.2.1 4 = .ok (.getfield 16, 3) := by decide +kernel
theorem d_B_checksum_7 : decode M_B_checksum.2.1 7 = .ok (.i2l, 1) := by decide +kernel
theorem d_B_checksum_8 : decode M_B_checksum.2.1 8 = .ok (.invokestatic 284, 3) := by decide +kernel
theorem d_B_checksum_11 : decode M_B_checksum.2.1 11 = .ok (.aload_n 0, 1) := by decide +kernel
theorem d_B_checksum_12 : decode M_B_checksum.2.1 12 = .ok (.getfield 98, 3) := by decide +kernel
theorem d_B_checksum_15 : decode M_B_checksum.2.1 15 = .ok (.i2l, 1) := by decide +kernel
theorem d_B_checksum_16 : decode M_B_checksum.2.1 16 = .ok (.invokestatic 284, 3) := by decide +kernel
theorem d_B_checksum_19 : decode M_B_checksum.2.1 19 = .ok (.aload_n 0, 1) := by decide +kernel
theorem d_B_checksum_20 : decode M_B_checksum.2.1 20 = .ok (.getfield 19, 3) := by decide +kernel
theorem d_B_checksum_23 : decode M_B_checksum.2.1 23 = .ok (.invokestatic 284, 3) := by decide +kernel
theorem d_B_checksum_26 : decode M_B_checksum.2.1 26 = .ok (.lstore_n 1, 1) := by decide +kernel
theorem d_B_checksum_27 : decode M_B_checksum.2.1 27 = .ok (.iconst 0, 1) := by decide +kernel
theorem d_B_checksum_28 : decode M_B_checksum.2.1 28 = .ok (.istore_n 3, 1) := by decide +kernel
theorem d_B_checksum_29 : decode M_B_checksum.2.1 29 = .ok (.iload_n 3, 1) := by decide +kernel
theorem d_B_checksum_30 : decode M_B_checksum.2.1 30 = .ok (.bipush 6, 2) := by decide +kernel
theorem d_B_checksum_32 : decode M_B_checksum.2.1 32 = .ok (.if_icmp .ge 20, 3) := by decide +kernel
theorem d_B_checksum_35 : decode M_B_checksum.2.1 35 = .ok (.lload_n 1, 1) := by decide +kernel
theorem d_B_checksum_36 : decode M_B_checksum.2.1 36 = .ok (.aload_n 0, 1) := by decide +kernel
theorem d_B_checksum_37 : decode M_B_checksum.2.1 37 = .ok (.getfield 23, 3) := by decide +kernel
theorem d_B_checksum_40 : decode M_B_checksum.2.1 40 = .ok (.iload_n 3, 1) := by decide +kernel
theorem d_B_checksum_41 : decode M_B_checksum.2.1 41 = .ok (.laload, 1) := by decide +kernel
theorem d_B_checksum_42 : decode M_B_checksum.2.1 42 = .ok (.invokestatic 284, 3) := by decide +kernel
theorem d_B_checksum_45 : decode M_B_checksum.2.1 45 = .ok (.lstore_n 1, 1) := by decide +kernel
theorem d_B_checksum_46 : decode M_B_checksum.2.1 46 = .ok (.iinc 3 1, 3) := by decide +kernel
theorem d_B_checksum_49 : decode M_B_checksum.2.1 49 = .ok (.goto (-20), 3) := by decide +kernel
theorem d_B_checksum_52 : decode M_B_checksum.2.1 52 = .ok (.aload_n 0, 1) := by decide +kernel
theorem d_B_checksum_53 : decode M_B_checksum.2.1 53 = .ok (.aload_n 0, 1) := by decide +kernel
theorem d_B_checksum_54 : decode M_B_checksum.2.1 54 = .ok (.getfield 23, 3) := by decide +kernel
theorem d_B_checksum_57 : decode M_B_checksum.2.1 57 = .ok (.bipush 6, 2) := by decide +kernel
theorem d_B_checksum_59 : decode M_B_checksum.2.1 59 = .ok (.invokevirtual 181, 3) := by decide +kernel
theorem d_B_checksum_62 : decode M_B_checksum.2.1 62 = .ok (.iconst 1, 1) := by decide +kernel
theorem d_B_checksum_63 : decode M_B_checksum.2.1 63 = .ok (.istore_n 3, 1) := by decide +kernel
theorem d_B_checksum_64 : decode M_B_checksum.2.1 64 = .ok (.iload_n 3, 1) := by decide +kernel
theorem d_B_checksum_65 : decode M_B_checksum.2.1 65 = .ok (.aload_n 0, 1) := by decide +kernel
theorem d_B_checksum_66 : decode M_B_checksum.2.1 66 = .ok (.getfield 16, 3) := by decide +kernel
theorem d_B_checksum_69 : decode M_B_checksum.2.1 69 = .ok (.if_icmp .ge 21, 3) := by decide +kernel
theorem d_B_checksum_72 : decode M_B_checksum.2.1 72 = .ok (.lload_n 1, 1) := by decide +kernel
theorem d_B_checksum_73 : decode M_B_checksum.2.1 73 = .ok (.aload_n 0, 1) := by decide +kernel
theorem d_B_checksum_74 : decode M_B_checksum.2.1 74 = .ok (.getfield 50, 3) := by decide +kernel
theorem d_B_checksum_77 : decode M_B_checksum.2.1 77 = .ok (.iload_n 3, 1) := by decide +kernel
theorem d_B_checksum_78 : decode M_B_checksum.2.1 78 = .ok (.iaload, 1) := by decide +kernel
theorem d_B_checksum_79 : decode M_B_checksum.2.1 79 = .ok (.i2l, 1) := by decide +kernel
theorem d_B_checksum_80 : decode M_B_checksum.2.1 80 = .ok (.invokestatic 284, 3) := by decide +kernel
theorem d_B_checksum_83 : decode M_B_checksum.2.1 83 = .ok (.lstore_n 1, 1) := by decide +kernel
theorem d_B_checksum_84 : decode M_B_checksum.2.1 84 = .ok (.iinc 3 1, 3) := by decide +kernel
theorem d_B_checksum_87 : decode M_B_checksum.2.1 87 = .ok (.goto (-23), 3) := by decide +kernel
theorem d_B_checksum_90 : decode M_B_checksum.2.1 90 = .ok (.lload_n 1, 1) := by decide +kernel
theorem d_B_checksum_91 : decode M_B_checksum.2.1 91 = .ok (.aload_n 0, 1) := by decide +kernel
theorem d_B_checksum_92 : decode M_B_checksum.2.1 92 = .ok (.invokevirtual 288, 3) := by decide +kernel
theorem d_B_checksum_95 : decode M_B_checksum.2.1 95 = .ok (.invokestatic 284, 3) := by decide +kernel
theorem d_B_checksum_98 : decode M_B_checksum.2.1 98 = .ok (.lstore_n 1, 1) := by decide +kernel
theorem d_B_checksum_99 : decode M_B_checksum.2.1 99 = .ok (.lload_n 1, 1) := by decide +kernel
theorem d_B_checksum_100 : decode M_B_checksum.2.1 100 = .ok (.aload_n 0, 1) := by decide +kernel
theorem d_B_checksum_101 : decode M_B_checksum.2.1 101 = .ok (.invokevirtual 292, 3) := by decide +kernel
theorem d_B_checksum_104 : decode M_B_checksum.2.1 104 = .ok (.i2l, 1) := by decide +kernel
theorem d_B_checksum_105 : decode M_B_checksum.2.1 105 = .ok (.invokestatic 284, 3) := by decide +kernel
theorem d_B_checksum_108 : decode M_B_checksum.2.1 108 = .ok (.lstore_n 1, 1) := by decide +kernel
theorem d_B_checksum_109 : decode M_B_checksum.2.1 109 = .ok (.aload_n 0, 1) := by decide +kernel
theorem d_B_checksum_110 : decode M_B_checksum.2.1 110 = .ok (.aload_n 0, 1) := by decide +kernel
theorem d_B_checksum_111 : decode M_B_checksum.2.1 111 = .ok (.getfield 23, 3) := by decide +kernel
theorem d_B_checksum_114 : decode M_B_checksum.2.1 114 = .ok (.iconst 0, 1) := by decide +kernel
theorem d_B_checksum_115 : decode M_B_checksum.2.1 115 = .ok (.aload_n 0, 1) := by decide +kernel
theorem d_B_checksum_116 : decode M_B_checksum.2.1 116 = .ok (.getfield 59, 3) := by decide +kernel
theorem d_B_checksum_119 : decode M_B_checksum.2.1 119 = .ok (.invokevirtual 205, 3) := by decide +kernel
theorem d_B_checksum_122 : decode M_B_checksum.2.1 122 = .ok (.iconst 0, 1) := by decide +kernel
theorem d_B_checksum_123 : decode M_B_checksum.2.1 123 = .ok (.istore_n 3, 1) := by decide +kernel
theorem d_B_checksum_124 : decode M_B_checksum.2.1 124 = .ok (.iload_n 3, 1) := by decide +kernel
theorem d_B_checksum_125 : decode M_B_checksum.2.1 125 = .ok (.aload_n 0, 1) := by decide +kernel
theorem d_B_checksum_126 : decode M_B_checksum.2.1 126 = .ok (.getfield 188, 3) := by decide +kernel
theorem d_B_checksum_129 : decode M_B_checksum.2.1 129 = .ok (.if_icmp .ge 20, 3) := by decide +kernel
theorem d_B_checksum_132 : decode M_B_checksum.2.1 132 = .ok (.lload_n 1, 1) := by decide +kernel
theorem d_B_checksum_133 : decode M_B_checksum.2.1 133 = .ok (.aload_n 0, 1) := by decide +kernel
theorem d_B_checksum_134 : decode M_B_checksum.2.1 134 = .ok (.getfield 59, 3) := by decide +kernel
theorem d_B_checksum_137 : decode M_B_checksum.2.1 137 = .ok (.iload_n 3, 1) := by decide +kernel
theorem d_B_checksum_138 : decode M_B_checksum.2.1 138 = .ok (.laload, 1) := by decide +kernel
theorem d_B_checksum_139 : decode M_B_checksum.2.1 139 = .ok (.invokestatic 284, 3) := by decide +kernel
theorem d_B_checksum_142 : decode M_B_checksum.2.1 142 = .ok (.lstore_n 1, 1) := by decide +kernel
theorem d_B_checksum_143 : decode M_B_checksum.2.1 143 = .ok (.iinc 3 1, 3) := by decide +kernel
theorem d_B_checksum_146 : decode M_B_checksum.2.1 146 = .ok (.goto (-22), 3) := by decide +kernel
theorem d_B_checksum_149 : decode M_B_checksum.2.1 149 = .ok (.lload_n 1, 1) := by decide +kernel
theorem d_B_checksum_150 : decode M_B_checksum.2.1 150 = .ok (.aload_n 0, 1) := by decide +kernel
theorem d_B_checksum_151 : decode M_B_checksum.2.1 151 = .ok (.invokevirtual 295, 3) := by decide +kernel
theorem d_B_checksum_154 : decode M_B_checksum.2.1 154 = .ok (.i2l, 1) := by decide +kernel
theorem d_B_checksum_155 : decode M_B_checksum.2.1 155 = .ok (.invokestatic 284, 3) := by decide +kernel
theorem d_B_checksum_158 : decode M_B_checksum.2.1 158 = .ok (.lstore_n 1, 1) := by decide +kernel
theorem d_B_checksum_159 : decode M_B_checksum.2.1 159 = .ok (.lload_n 1, 1) := by decide +kernel
theorem d_B_checksum_160 : decode M_B_checksum.2.1 160 = .ok (.aload_n 0, 1) := by decide +kernel
theorem d_B_checksum_161 : decode M_B_checksum.2.1 161 = .ok (.iconst 2, 1) := by decide +kernel
theorem d_B_checksum_162 : decode M_B_checksum.2.1 162 = .ok (.invokevirtual 222, 3) := by decide +kernel
theorem d_B_checksum_165 : decode M_B_checksum.2.1 165 = .ok (.i2l, 1) := by decide +kernel
theorem d_B_checksum_166 : decode M_B_checksum.2.1 166 = .ok (.invokestatic 284, 3) := by decide +kernel
theorem d_B_checksum_169 : decode M_B_checksum.2.1 169 = .ok (.lreturn, 1) := by decide +kernel
theorem d_B_clearText_0 : decode M_B_clearText.2.1 0 = .ok (.aload_n 0, 1) := by decide +kernel
theorem d_B_clearText_1 : decode M_B_clearText.2.1 1 = .ok (.getfield 245, 3) := by decide +kernel
theorem d_B_clearText_4 : decode M_B_clearText.2.1 4 = .ok (.istore_n 1, 1) := by decide +kernel
theorem d_B_clearText_5 : decode M_B_clearText.2.1 5 = .ok (.aload_n 0, 1) := by decide +kernel
theorem d_B_clearText_6 : decode M_B_clearText.2.1 6 = .ok (.iconst 0, 1) := by decide +kernel
theorem d_B_clearText_7 : decode M_B_clearText.2.1 7 = .ok (.putfield 245, 3) := by decide +kernel
theorem d_B_clearText_10 : decode M_B_clearText.2.1 10 = .ok (.iload_n 1, 1) := by decide +kernel
theorem d_B_clearText_11 : decode M_B_clearText.2.1 11 = .ok (.ireturn, 1) := by decide +kernel
theorem d_B_count_0 : decode M_B_count.2.1 0 = .ok (.iload_n 1, 1) := by decide +kernel
theorem d_B_count_1 : decode M_B_count.2.1 1 = .ok (.i2l, 1) := by decide +kernel
theorem d_B_count_2 : decode M_B_count.2.1 2 = .ok (.lconst 1, 1) := by decide +kernel
theorem d_B_count_3 : decode M_B_count.2.1 3 = .ok (.aload_n 0, 1) := by decide +kernel
theorem d_B_count_4 : decode M_B_count.2.1 4 = .ok (.getfield 16, 3) := by decide +kernel
theorem d_B_count_7 : decode M_B_count.2.1 7 = .ok (.iconst 1, 1) := by decide +kernel
theorem d_B_count_8 : decode M_B_count.2.1 8 = .ok (.isub, 1) := by decide +kernel
theorem d_B_count_9 : decode M_B_count.2.1 9 = .ok (.i2l, 1) := by decide +kernel
theorem d_B_count_10 : decode M_B_count.2.1 10 = .ok (.invokestatic 83, 3) := by decide +kernel
theorem d_B_count_13 : decode M_B_count.2.1 13 = .ok (.ifCond .ne 5, 3) := by decide +kernel
theorem d_B_count_16 : decode M_B_count.2.1 16 = .ok (.iconst (-1), 1) := by decide +kernel
theorem d_B_count_17 : decode M_B_count.2.1 17 = .ok (.ireturn, 1) := by decide +kernel
theorem d_B_count_18 : decode M_B_count.2.1 18 = .ok (.aload_n 0, 1) := by decide +kernel
theorem d_B_count_19 : decode M_B_count.2.1 19 = .ok (.aload_n 0, 1) := by decide +kernel
theorem d_B_count_20 : decode M_B_count.2.1 20 = .ok (.getfield 23, 3) := by decide +kernel
theorem d_B_count_23 : decode M_B_count.2.1 23 = .ok (.bipush 6, 2) := by decide +kernel
theorem d_B_count_25 : decode M_B_count.2.1 25 = .ok (.invokevirtual 181, 3) := by decide +kernel
theorem d_B_count_28 : decode M_B_count.2.1 28 = .ok (.aload_n 0, 1) := by decide +kernel
theorem d_B_count_29 : decode M_B_count.2.1 29 = .ok (.getfield 50, 3) := by decide +kernel
theorem d_B_count_32 : decode M_B_count.2.1 32 = .ok (.iload_n 1, 1) := by decide +kernel
theorem d_B_count_33 : decode M_B_count.2.1 33 = .ok (.iaload, 1) := by decide +kernel
theorem d_B_count_34 : decode M_B_count.2.1 34 = .ok (.ireturn, 1) := by decide +kernel
theorem d_B_covered_0 : decode M_B_covered.2.1 0 = .ok (.aload_n 0, 1) := by decide +kernel
theorem d_B_covered_1 : decode M_B_covered.2.1 1 = .ok (.aload_n 0, 1) := by decide +kernel
theorem d_B_covered_2 : decode M_B_covered.2.1 2 = .ok (.getfield 23, 3) := by decide +kernel
theorem d_B_covered_5 : decode M_B_covered.2.1 5 = .ok (.bipush 6, 2) := by decide +kernel
theorem d_B_covered_7 : decode M_B_covered.2.1 7 = .ok (.invokevirtual 181, 3) := by decide +kernel
theorem d_B_covered_10 : decode M_B_covered.2.1 10 = .ok (.iconst 0, 1) := by decide +kernel
theorem d_B_covered_11 : decode M_B_covered.2.1 11 = .ok (.istore_n 1, 1) := by decide +kernel
theorem d_B_covered_12 : decode M_B_covered.2.1 12 = .ok (.iconst 1, 1) := by decide +kernel
theorem d_B_covered_13 : decode M_B_covered.2.1 13 = .ok (.istore_n 2, 1) := by decide +kernel
theorem d_B_covered_14 : decode M_B_covered.2.1 14 = .ok (.iload_n 2, 1) := by decide +kernel
theorem d_B_covered_15 : decode M_B_covered.2.1 15 = .ok (.aload_n 0, 1) := by decide +kernel
theorem d_B_covered_16 : decode M_B_covered.2.1 16 = .ok (.getfield 16, 3) := by decide +kernel
theorem d_B_covered_19 : decode M_B_covered.2.1 19 = .ok (.if_icmp .ge 26, 3) := by decide +kernel
theorem d_B_covered_22 : decode M_B_covered.2.1 22 = .ok (.iload_n 1, 1) := by decide +kernel
theorem d_B_covered_23 : decode M_B_covered.2.1 23 = .ok (.aload_n 0, 1) := by decide +kernel
theorem d_B_covered_24 : decode M_B_covered.2.1 24 = .ok (.getfield 50, 3) := by decide +kernel
theorem d_B_covered_27 : decode M_B_covered.2.1 27 = .ok (.iload_n 2, 1) := by decide +kernel
theorem d_B_covered_28 : decode M_B_covered.2.1 28 = .ok (.iaload, 1) := by decide +kernel
theorem d_B_covered_29 : decode M_B_covered.2.1 29 = .ok (.ifCond .le 7, 3) := by decide +kernel
theorem d_B_covered_32 : decode M_B_covered.2.1 32 = .ok (.iconst 1, 1) := by decide +kernel
theorem d_B_covered_33 : decode M_B_covered.2.1 33 = .ok (.goto 4, 3) := by decide +kernel
theorem d_B_covered_36 : decode M_B_covered.2.1 36 = .ok (.iconst 0, 1) := by decide +kernel
theorem d_B_covered_37 : decode M_B_covered.2.1 37 = .ok (.iadd, 1) := by decide +kernel
theorem d_B_covered_38 : decode M_B_covered.2.1 38 = .ok (.istore_n 1, 1) := by decide +kernel
theorem d_B_covered_39 : decode M_B_covered.2.1 39 = .ok (.iinc 2 1, 3) := by decide +kernel
theorem d_B_covered_42 : decode M_B_covered.2.1 42 = .ok (.goto (-28), 3) := by decide +kernel
theorem d_B_covered_45 : decode M_B_covered.2.1 45 = .ok (.iload_n 1, 1) := by decide +kernel
theorem d_B_covered_46 : decode M_B_covered.2.1 46 = .ok (.ireturn, 1) := by decide +kernel
theorem d_B_lack_0 : decode M_B_lack.2.1 0 = .ok (.aload_n 0, 1) := by decide +kernel
theorem d_B_lack_1 : decode M_B_lack.2.1 1 = .ok (.aload_n 0, 1) := by decide +kernel
theorem d_B_lack_2 : decode M_B_lack.2.1 2 = .ok (.getfield 23, 3) := by decide +kernel
theorem d_B_lack_5 : decode M_B_lack.2.1 5 = .ok (.bipush 6, 2) := by decide +kernel
theorem d_B_lack_7 : decode M_B_lack.2.1 7 = .ok (.invokevirtual 181, 3) := by decide +kernel
theorem d_B_lack_10 : decode M_B_lack.2.1 10 = .ok (.iconst 0, 1) := by decide +kernel
theorem d_B_lack_11 : decode M_B_lack.2.1 11 = .ok (.istore_n 2, 1) := by decide +kernel
theorem d_B_lack_12 : decode M_B_lack.2.1 12 = .ok (.iconst 1, 1) := by decide +kernel
theorem d_B_lack_13 : decode M_B_lack.2.1 13 = .ok (.istore_n 3, 1) := by decide +kernel
theorem d_B_lack_14 : decode M_B_lack.2.1 14 = .ok (.iload_n 3, 1) := by decide +kernel
theorem d_B_lack_15 : decode M_B_lack.2.1 15 = .ok (.aload_n 0, 1) := by decide +kernel
theorem d_B_lack_16 : decode M_B_lack.2.1 16 = .ok (.getfield 16, 3) := by decide +kernel
theorem d_B_lack_19 : decode M_B_lack.2.1 19 = .ok (.if_icmp .ge 62, 3) := by decide +kernel
theorem d_B_lack_22 : decode M_B_lack.2.1 22 = .ok (.aload_n 0, 1) := by decide +kernel
theorem d_B_lack_23 : decode M_B_lack.2.1 23 = .ok (.getfield 19, 3) := by decide +kernel
theorem d_B_lack_26 : decode M_B_lack.2.1 26 = .ok (.iload_n 3, 1) := by decide +kernel
theorem d_B_lack_27 : decode M_B_lack.2.1 27 = .ok (.invokestatic 134, 3) := by decide +kernel
theorem d_B_lack_30 : decode M_B_lack.2.1 30 = .ok (.ifCond .eq 7, 3) := by decide +kernel
theorem d_B_lack_33 : decode M_B_lack.2.1 33 = .ok (.iconst 0, 1) := by decide +kernel
theorem d_B_lack_34 : decode M_B_lack.2.1 34 = .ok (.goto 4, 3) := by decide +kernel
theorem d_B_lack_37 : decode M_B_lack.2.1 37 = .ok (.iload_n 1, 1) := by decide +kernel
theorem d_B_lack_38 : decode M_B_lack.2.1 38 = .ok (.istore 4, 2) := by decide +kernel
theorem d_B_lack_40 : decode M_B_lack.2.1 40 = .ok (.iload_n 2, 1) := by decide +kernel
theorem d_B_lack_41 : decode M_B_lack.2.1 41 = .ok (.aload_n 0, 1) := by decide +kernel
theorem d_B_lack_42 : decode M_B_lack.2.1 42 = .ok (.getfield 50, 3) := by decide +kernel
theorem d_B_lack_45 : decode M_B_lack.2.1 45 = .ok (.iload_n 3, 1) := by decide +kernel
theorem d_B_lack_46 : decode M_B_lack.2.1 46 = .ok (.iaload, 1) := by decide +kernel
theorem d_B_lack_47 : decode M_B_lack.2.1 47 = .ok (.iload 4, 2) := by decide +kernel
theorem d_B_lack_49 : decode M_B_lack.2.1 49 = .ok (.if_icmp .le 15, 3) := by decide +kernel
theorem d_B_lack_52 : decode M_B_lack.2.1 52 = .ok (.aload_n 0, 1) := by decide +kernel
theorem d_B_lack_53 : decode M_B_lack.2.1 53 = .ok (.getfield 50, 3) := by decide +kernel
theorem d_B_lack_56 : decode M_B_lack.2.1 56 = .ok (.iload_n 3, 1) := by decide +kernel
theorem d_B_lack_57 : decode M_B_lack.2.1 57 = .ok (.iaload, 1) := by decide +kernel
theorem d_B_lack_58 : decode M_B_lack.2.1 58 = .ok (.iload 4, 2) := by decide +kernel
theorem d_B_lack_60 : decode M_B_lack.2.1 60 = .ok (.isub, 1) := by decide +kernel
theorem d_B_lack_61 : decode M_B_lack.2.1 61 = .ok (.goto 12, 3) := by decide +kernel
theorem d_B_lack_64 : decode M_B_lack.2.1 64 = .ok (.iload 4, 2) := by decide +kernel
theorem d_B_lack_66 : decode M_B_lack.2.1 66 = .ok (.aload_n 0, 1) := by decide +kernel
theorem d_B_lack_67 : decode M_B_lack.2.1 67 = .ok (.getfield 50, 3) := by decide +kernel
theorem d_B_lack_70 : decode M_B_lack.2.1 70 = .ok (.iload_n 3, 1) := by decide +kernel
theorem d_B_lack_71 : decode M_B_lack.2.1 71 = .ok (.iaload, 1) := by decide +kernel
theorem d_B_lack_72 : decode M_B_lack.2.1 72 = .ok (.isub, 1) := by decide +kernel
theorem d_B_lack_73 : decode M_B_lack.2.1 73 = .ok (.iadd, 1) := by decide +kernel
theorem d_B_lack_74 : decode M_B_lack.2.1 74 = .ok (.istore_n 2, 1) := by decide +kernel
theorem d_B_lack_75 : decode M_B_lack.2.1 75 = .ok (.iinc 3 1, 3) := by decide +kernel
theorem d_B_lack_78 : decode M_B_lack.2.1 78 = .ok (.goto (-64), 3) := by decide +kernel
theorem d_B_lack_81 : decode M_B_lack.2.1 81 = .ok (.iload_n 2, 1) := by decide +kernel
theorem d_B_lack_82 : decode M_B_lack.2.1 82 = .ok (.ireturn, 1) := by decide +kernel
theorem d_B_deficiency_0 : decode M_B_deficiency.2.1 0 = .ok (.iload_n 1, 1) := by decide +kernel
theorem d_B_deficiency_1 : decode M_B_deficiency.2.1 1 = .ok (.i2l, 1) := by decide +kernel
theorem d_B_deficiency_2 : decode M_B_deficiency.2.1 2 = .ok (.lconst 1, 1) := by decide +kernel
theorem d_B_deficiency_3 : decode M_B_deficiency.2.1 3 = .ok (.ldc2_w 168, 3) := by decide +kernel
theorem d_B_deficiency_6 : decode M_B_deficiency.2.1 6 = .ok (.invokestatic 83, 3) := by decide +kernel
theorem d_B_deficiency_9 : decode M_B_deficiency.2.1 9 = .ok (.ifCond .eq 11, 3) := by decide +kernel
theorem d_B_deficiency_12 : decode M_B_deficiency.2.1 12 = .ok (.aload_n 0, 1) := by decide +kernel
theorem d_B_deficiency_13 : decode M_B_deficiency.2.1 13 = .ok (.iload_n 1, 1) := by decide +kernel
theorem d_B_deficiency_14 : decode M_B_deficiency.2.1 14 = .ok (.invokevirtual 164, 3) := by decide +kernel
theorem d_B_deficiency_17 : decode M_B_deficiency.2.1 17 = .ok (.goto 4, 3) := by decide +kernel
theorem d_B_deficiency_20 : decode M_B_deficiency.2.1 20 = .ok (.iconst (-1), 1) := by decide +kernel
theorem d_B_deficiency_21 : decode M_B_deficiency.2.1 21 = .ok (.ireturn, 1) := by decide +kernel
theorem d_B_designBlock_0 : decode M_B_designBlock.2.1 0 = .ok (.aload_n 0, 1) := by decide +kernel
theorem d_B_designBlock_1 : decode M_B_designBlock.2.1 1 = .ok (.invokevirtual 212, 3) := by decide +kernel
theorem d_B_designBlock_4 : decode M_B_designBlock.2.1 4 = .ok (.iload_n 1, 1) := by decide +kernel
theorem d_B_designBlock_5 : decode M_B_designBlock.2.1 5 = .ok (.i2l, 1) := by decide +kernel
theorem d_B_designBlock_6 : decode M_B_designBlock.2.1 6 = .ok (.lconst 0, 1) := by decide +kernel
theorem d_B_designBlock_7 : decode M_B_designBlock.2.1 7 = .ok (.aload_n 0, 1) := by decide +kernel
theorem d_B_designBlock_8 : decode M_B_designBlock.2.1 8 = .ok (.getfield 209, 3) := by decide +kernel
theorem d_B_designBlock_11 : decode M_B_designBlock.2.1 11 = .ok (.iconst 1, 1) := by decide +kernel
theorem d_B_designBlock_12 : decode M_B_designBlock.2.1 12 = .ok (.isub, 1) := by decide +kernel
theorem d_B_designBlock_13 : decode M_B_designBlock.2.1 13 = .ok (.i2l, 1) := by decide +kernel
theorem d_B_designBlock_14 : decode M_B_designBlock.2.1 14 = .ok (.invokestatic 83, 3) := by decide +kernel
theorem d_B_designBlock_17 : decode M_B_designBlock.2.1 17 = .ok (.ifCond .eq 12, 3) := by decide +kernel
theorem d_B_designBlock_20 : decode M_B_designBlock.2.1 20 = .ok (.aload_n 0, 1) := by decide +kernel
theorem d_B_designBlock_21 : decode M_B_designBlock.2.1 21 = .ok (.getfield 62, 3) := by decide +kernel
theorem d_B_designBlock_24 : decode M_B_designBlock.2.1 24 = .ok (.iload_n 1, 1) := by decide +kernel
theorem d_B_designBlock_25 : decode M_B_designBlock.2.1 25 = .ok (.laload, 1) := by decide +kernel
theorem d_B_designBlock_26 : decode M_B_designBlock.2.1 26 = .ok (.goto 6, 3) := by decide +kernel
theorem d_B_designBlock_29 : decode M_B_designBlock.2.1 29 = .ok (.ldc2_w 170, 3) := by decide +kernel
theorem d_B_designBlock_32 : decode M_B_designBlock.2.1 32 = .ok (.lreturn, 1) := by decide +kernel
theorem d_B_disjointBlocks_0 : decode M_B_disjointBlocks.2.1 0 = .ok (.aload_n 0, 1) := by decide +kernel
theorem d_B_disjointBlocks_1 : decode M_B_disjointBlocks.2.1 1 = .ok (.invokevirtual 212, 3) := by decide +kernel
theorem d_B_disjointBlocks_4 : decode M_B_disjointBlocks.2.1 4 = .ok (.lconst 0, 1) := by decide +kernel
theorem d_B_disjointBlocks_5 : decode M_B_disjointBlocks.2.1 5 = .ok (.lstore_n 1, 1) := by decide +kernel
theorem d_B_disjointBlocks_6 : decode M_B_disjointBlocks.2.1 6 = .ok (.iconst 0, 1) := by decide +kernel
theorem d_B_disjointBlocks_7 : decode M_B_disjointBlocks.2.1 7 = .ok (.istore_n 3, 1) := by decide +kernel
theorem d_B_disjointBlocks_8 : decode M_B_disjointBlocks.2.1 8 = .ok (.iconst 0, 1) := by decide +kernel
theorem d_B_disjointBlocks_9 : decode M_B_disjointBlocks.2.1 9 = .ok (.istore 4, 2) := by decide +kernel
theorem d_B_disjointBlocks_11 : decode M_B_disjointBlocks.2.1 11 = .ok (.iload 4, 2) := by decide +kernel
theorem d_B_disjointBlocks_13 : decode M_B_disjointBlocks.2.1 13 = .ok (.aload_n 0, 1) := by decide +kernel
theorem d_B_disjointBlocks_14 : decode M_B_disjointBlocks.2.1 14 = .ok (.getfield 209, 3) := by decide +kernel
theorem d_B_disjointBlocks_17 : decode M_B_disjointBlocks.2.1 17 = .ok (.if_icmp .ge 36, 3) := by decide +kernel
theorem d_B_disjointBlocks_20 : decode M_B_disjointBlocks.2.1 20 = .ok (.lload_n 1, 1) := by decide +kernel
theorem d_B_disjointBlocks_21 : decode M_B_disjointBlocks.2.1 21 = .ok (.aload_n 0, 1) := by decide +kernel
theorem d_B_disjointBlocks_22 : decode M_B_disjointBlocks.2.1 22 = .ok (.getfield 62, 3) := by decide +kernel
theorem d_B_disjointBlocks_25 : decode M_B_disjointBlocks.2.1 25 = .ok (.iload 4, 2) := by decide +kernel
theorem d_B_disjointBlocks_27 : decode M_B_disjointBlocks.2.1 27 = .ok (.laload, 1) := by decide +kernel
theorem d_B_disjointBlocks_28 : decode M_B_disjointBlocks.2.1 28 = .ok (.land, 1) := by decide +kernel
theorem d_B_disjointBlocks_29 : decode M_B_disjointBlocks.2.1 29 = .ok (.lconst 0, 1) := by decide +kernel
theorem d_B_disjointBlocks_30 : decode M_B_disjointBlocks.2.1 30 = .ok (.lcmp, 1) := by decide +kernel
theorem d_B_disjointBlocks_31 : decode M_B_disjointBlocks.2.1 31 = .ok (.ifCond .ne 16, 3) := by decide +kernel
theorem d_B_disjointBlocks_34 : decode M_B_disjointBlocks.2.1 34 = .ok (.lload_n 1, 1) := by decide +kernel
theorem d_B_disjointBlocks_35 : decode M_B_disjointBlocks.2.1 35 = .ok (.aload_n 0, 1) := by decide +kernel
theorem d_B_disjointBlocks_36 : decode M_B_disjointBlocks.2.1 36 = .ok (.getfield 62, 3) := by decide +kernel
theorem d_B_disjointBlocks_39 : decode M_B_disjointBlocks.2.1 39 = .ok (.iload 4, 2) := by decide +kernel
theorem d_B_disjointBlocks_41 : decode M_B_disjointBlocks.2.1 41 = .ok (.laload, 1) := by decide +kernel
theorem d_B_disjointBlocks_42 : decode M_B_disjointBlocks.2.1 42 = .ok (.lor, 1) := by decide +kernel
theorem d_B_disjointBlocks_43 : decode M_B_disjointBlocks.2.1 43 = .ok (.lstore_n 1, 1) := by decide +kernel
theorem d_B_disjointBlocks_44 : decode M_B_disjointBlocks.2.1 44 = .ok (.iinc 3 1, 3) := by decide +kernel
theorem d_B_disjointBlocks_47 : decode M_B_disjointBlocks.2.1 47 = .ok (.iinc 4 1, 3) := by decide +kernel
theorem d_B_disjointBlocks_50 : decode M_B_disjointBlocks.2.1 50 = .ok (.goto (-39), 3) := by decide +kernel
theorem d_B_disjointBlocks_53 : decode M_B_disjointBlocks.2.1 53 = .ok (.iload_n 3, 1) := by decide +kernel
theorem d_B_disjointBlocks_54 : decode M_B_disjointBlocks.2.1 54 = .ok (.ireturn, 1) := by decide +kernel
theorem d_B_isElement_0 : decode M_B_isElement.2.1 0 = .ok (.iload_n 1, 1) := by decide +kernel
theorem d_B_isElement_1 : decode M_B_isElement.2.1 1 = .ok (.i2l, 1) := by decide +kernel
theorem d_B_isElement_2 : decode M_B_isElement.2.1 2 = .ok (.lconst 0, 1) := by decide +kernel
theorem d_B_isElement_3 : decode M_B_isElement.2.1 3 = .ok (.aload_n 0, 1) := by decide +kernel
theorem d_B_isElement_4 : decode M_B_isElement.2.1 4 = .ok (.getfield 16, 3) := by decide +kernel
theorem d_B_isElement_7 : decode M_B_isElement.2.1 7 = .ok (.iconst 1, 1) := by decide +kernel
theorem d_B_isElement_8 : decode M_B_isElement.2.1 8 = .ok (.isub, 1) := by decide +kernel
theorem d_B_isElement_9 : decode M_B_isElement.2.1 9 = .ok (.i2l, 1) := by decide +kernel
theorem d_B_isElement_10 : decode M_B_isElement.2.1 10 = .ok (.invokestatic 83, 3) := by decide +kernel
theorem d_B_isElement_13 : decode M_B_isElement.2.1 13 = .ok (.ireturn, 1) := by decide +kernel
theorem d_B_exchange_0 : decode M_B_exchange.2.1 0 = .ok (.iload_n 1, 1) := by decide +kernel
theorem d_B_exchange_1 : decode M_B_exchange.2.1 1 = .ok (.invokestatic 147, 3) := by decide +kernel
theorem d_B_exchange_4 : decode M_B_exchange.2.1 4 = .ok (.ifCond .eq 19, 3) := by decide +kernel
theorem d_B_exchange_7 : decode M_B_exchange.2.1 7 = .ok (.aload_n 0, 1) := by decide +kernel
theorem d_B_exchange_8 : decode M_B_exchange.2.1 8 = .ok (.iload_n 2, 1) := by decide +kernel
theorem d_B_exchange_9 : decode M_B_exchange.2.1 9 = .ok (.invokevirtual 121, 3) := by decide +kernel
theorem d_B_exchange_12 : decode M_B_exchange.2.1 12 = .ok (.ifCond .eq 11, 3) := by decide +kernel
theorem d_B_exchange_15 : decode M_B_exchange.2.1 15 = .ok (.aload_n 0, 1) := by decide +kernel
theorem d_B_exchange_16 : decode M_B_exchange.2.1 16 = .ok (.iload_n 3, 1) := by decide +kernel
theorem d_B_exchange_17 : decode M_B_exchange.2.1 17 = .ok (.invokevirtual 121, 3) := by decide +kernel
theorem d_B_exchange_20 : decode M_B_exchange.2.1 20 = .ok (.ifCond .ne 5, 3) := by decide +kernel
theorem d_B_exchange_23 : decode M_B_exchange.2.1 23 = .ok (.iconst (-1), 1) := by decide +kernel
theorem d_B_exchange_24 : decode M_B_exchange.2.1 24 = .ok (.ireturn, 1) := by decide +kernel
theorem d_B_exchange_25 : decode M_B_exchange.2.1 25 = .ok (.aload_n 0, 1) := by decide +kernel
theorem d_B_exchange_26 : decode M_B_exchange.2.1 26 = .ok (.getfield 23, 3) := by decide +kernel
theorem d_B_exchange_29 : decode M_B_exchange.2.1 29 = .ok (.iload_n 1, 1) := by decide +kernel
theorem d_B_exchange_30 : decode M_B_exchange.2.1 30 = .ok (.laload, 1) := by decide +kernel
theorem d_B_exchange_31 : decode M_B_exchange.2.1 31 = .ok (.iload_n 2, 1) := by decide +kernel
theorem d_B_exchange_32 : decode M_B_exchange.2.1 32 = .ok (.invokestatic 134, 3) := by decide +kernel
theorem d_B_exchange_35 : decode M_B_exchange.2.1 35 = .ok (.ifCond .eq 16, 3) := by decide +kernel
theorem d_B_exchange_38 : decode M_B_exchange.2.1 38 = .ok (.aload_n 0, 1) := by decide +kernel
theorem d_B_exchange_39 : decode M_B_exchange.2.1 39 = .ok (.getfield 23, 3) := by decide +kernel
theorem d_B_exchange_42 : decode M_B_exchange.2.1 42 = .ok (.iload_n 1, 1) := by decide +kernel
theorem d_B_exchange_43 : decode M_B_exchange.2.1 43 = .ok (.laload, 1) := by decide +kernel
theorem d_B_exchange_44 : decode M_B_exchange.2.1 44 = .ok (.iload_n 3, 1) := by decide +kernel
theorem d_B_exchange_45 : decode M_B_exchange.2.1 45 = .ok (.invokestatic 134, 3) := by decide +kernel
theorem d_B_exchange_48 : decode M_B_exchange.2.1 48 = .ok (.ifCond .eq 6, 3) := by decide +kernel
theorem d_B_exchange_51 : decode M_B_exchange.2.1 51 = .ok (.bipush (-3), 2) := by decide +kernel
theorem d_B_exchange_53 : decode M_B_exchange.2.1 53 = .ok (.ireturn, 1) := by decide +kernel
theorem d_B_exchange_54 : decode M_B_exchange.2.1 54 = .ok (.aload_n 0, 1) := by decide +kernel
theorem d_B_exchange_55 : decode M_B_exchange.2.1 55 = .ok (.iload_n 1, 1) := by decide +kernel
theorem d_B_exchange_56 : decode M_B_exchange.2.1 56 = .ok (.aload_n 0, 1) := by decide +kernel
theorem d_B_exchange_57 : decode M_B_exchange.2.1 57 = .ok (.getfield 23, 3) := by decide +kernel
theorem d_B_exchange_60 : decode M_B_exchange.2.1 60 = .ok (.iload_n 1, 1) := by decide +kernel
theorem d_B_exchange_61 : decode M_B_exchange.2.1 61 = .ok (.laload, 1) := by decide +kernel
theorem d_B_exchange_62 : decode M_B_exchange.2.1 62 = .ok (.lconst 1, 1) := by decide +kernel
theorem d_B_exchange_63 : decode M_B_exchange.2.1 63 = .ok (.iload_n 2, 1) := by decide +kernel
theorem d_B_exchange_64 : decode M_B_exchange.2.1 64 = .ok (.lshl, 1) := by decide +kernel
theorem d_B_exchange_65 : decode M_B_exchange.2.1 65 = .ok (.lxor, 1) := by decide +kernel
theorem d_B_exchange_66 : decode M_B_exchange.2.1 66 = .ok (.lconst 1, 1) := by decide +kernel
theorem d_B_exchange_67 : decode M_B_exchange.2.1 67 = .ok (.iload_n 3, 1) := by decide +kernel
theorem d_B_exchange_68 : decode M_B_exchange.2.1 68 = .ok (.lshl, 1) := by decide +kernel
theorem d_B_exchange_69 : decode M_B_exchange.2.1 69 = .ok (.lxor, 1) := by decide +kernel
theorem d_B_exchange_70 : decode M_B_exchange.2.1 70 = .ok (.invokevirtual 150, 3) := by decide +kernel
theorem d_B_exchange_73 : decode M_B_exchange.2.1 73 = .ok (.istore 4, 2) := by decide +kernel
theorem d_B_exchange_75 : decode M_B_exchange.2.1 75 = .ok (.aload_n 0, 1) := by decide +kernel
theorem d_B_exchange_76 : decode M_B_exchange.2.1 76 = .ok (.iconst 1, 1) := by decide +kernel
theorem d_B_exchange_77 : decode M_B_exchange.2.1 77 = .ok (.invokevirtual 164, 3) := by decide +kernel
theorem d_B_exchange_80 : decode M_B_exchange.2.1 80 = .ok (.ireturn, 1) := by decide +kernel
theorem d_B_here_0 : decode M_B_here.2.1 0 = .ok (.aload_n 0, 1) := by decide +kernel
theorem d_B_here_1 : decode M_B_here.2.1 1 = .ok (.getfield 248, 3) := by decide +kernel
theorem d_B_here_4 : decode M_B_here.2.1 4 = .ok (.aload_n 0, 1) := by decide +kernel
theorem d_B_here_5 : decode M_B_here.2.1 5 = .ok (.getfield 245, 3) := by decide +kernel
theorem d_B_here_8 : decode M_B_here.2.1 8 = .ok (.if_icmp .ge 15, 3) := by decide +kernel
theorem d_B_here_11 : decode M_B_here.2.1 11 = .ok (.aload_n 0, 1) := by decide +kernel
theorem d_B_here_12 : decode M_B_here.2.1 12 = .ok (.getfield 37, 3) := by decide +kernel
theorem d_B_here_15 : decode M_B_here.2.1 15 = .ok (.aload_n 0, 1) := by decide +kernel
theorem d_B_here_16 : decode M_B_here.2.1 16 = .ok (.getfield 248, 3) := by decide +kernel
theorem d_B_here_19 : decode M_B_here.2.1 19 = .ok (.iaload, 1) := by decide +kernel
theorem d_B_here_20 : decode M_B_here.2.1 20 = .ok (.goto 4, 3) := by decide +kernel
theorem d_B_here_23 : decode M_B_here.2.1 23 = .ok (.iconst 0, 1) := by decide +kernel
theorem d_B_here_24 : decode M_B_here.2.1 24 = .ok (.ireturn, 1) := by decide +kernel
theorem d_B_isDigit_0 : decode M_B_isDigit.2.1 0 = .ok (.aload_n 0, 1) := by decide +kernel
theorem d_B_isDigit_1 : decode M_B_isDigit.2.1 1 = .ok (.invokevirtual 251, 3) := by decide +kernel
theorem d_B_isDigit_4 : decode M_B_isDigit.2.1 4 = .ok (.i2l, 1) := by decide +kernel
theorem d_B_isDigit_5 : decode M_B_isDigit.2.1 5 = .ok (.ldc2_w 254, 3) := by decide +kernel
theorem d_B_isDigit_8 : decode M_B_isDigit.2.1 8 = .ok (.ldc2_w 256, 3) := by decide +kernel
theorem d_B_isDigit_11 : decode M_B_isDigit.2.1 11 = .ok (.invokestatic 83, 3) := by decide +kernel
theorem d_B_isDigit_14 : decode M_B_isDigit.2.1 14 = .ok (.ireturn, 1) := by decide +kernel
theorem d_B_number_0 : decode M_B_number.2.1 0 = .ok (.aload_n 0, 1) := by decide +kernel
theorem d_B_number_1 : decode M_B_number.2.1 1 = .ok (.invokevirtual 258, 3) := by decide +kernel
theorem d_B_number_4 : decode M_B_number.2.1 4 = .ok (.ifCond .ne 5, 3) := by decide +kernel
theorem d_B_number_7 : decode M_B_number.2.1 7 = .ok (.iconst (-1), 1) := by decide +kernel
theorem d_B_number_8 : decode M_B_number.2.1 8 = .ok (.ireturn, 1) := by decide +kernel
theorem d_B_number_9 : decode M_B_number.2.1 9 = .ok (.aload_n 0, 1) := by decide +kernel
theorem d_B_number_10 : decode M_B_number.2.1 10 = .ok (.getfield 248, 3) := by decide +kernel
theorem d_B_number_13 : decode M_B_number.2.1 13 = .ok (.istore_n 2, 1) := by decide +kernel
theorem d_B_number_14 : decode M_B_number.2.1 14 = .ok (.iconst 0, 1) := by decide +kernel
theorem d_B_number_15 : decode M_B_number.2.1 15 = .ok (.istore_n 3, 1) := by decide +kernel
theorem d_B_number_16 : decode M_B_number.2.1 16 = .ok (.iconst 1, 1) := by decide +kernel
theorem d_B_number_17 : decode M_B_number.2.1 17 = .ok (.istore 4, 2) := by decide +kernel
theorem d_B_number_19 : decode M_B_number.2.1 19 = .ok (.iload 4, 2) := by decide +kernel
theorem d_B_number_21 : decode M_B_number.2.1 21 = .ok (.ifCond .eq 65, 3) := by decide +kernel
theorem d_B_number_24 : decode M_B_number.2.1 24 = .ok (.iload_n 3, 1) := by decide +kernel
theorem d_B_number_25 : decode M_B_number.2.1 25 = .ok (.sipush 1000, 3) := by decide +kernel
theorem d_B_number_28 : decode M_B_number.2.1 28 = .ok (.if_icmp .ge 18, 3) := by decide +kernel
theorem d_B_number_31 : decode M_B_number.2.1 31 = .ok (.bipush 10, 2) := by decide +kernel
theorem d_B_number_33 : decode M_B_number.2.1 33 = .ok (.iload_n 3, 1) := by decide +kernel
theorem d_B_number_34 : decode M_B_number.2.1 34 = .ok (.imul, 1) := by decide +kernel
theorem d_B_number_35 : decode M_B_number.2.1 35 = .ok (.aload_n 0, 1) := by decide +kernel
theorem d_B_number_36 : decode M_B_number.2.1 36 = .ok (.invokevirtual 251, 3) := by decide +kernel
theorem d_B_number_39 : decode M_B_number.2.1 39 = .ok (.iadd, 1) := by decide +kernel
theorem d_B_number_40 : decode M_B_number.2.1 40 = .ok (.bipush 48, 2) := by decide +kernel
theorem d_B_number_42 : decode M_B_number.2.1 42 = .ok (.isub, 1) := by decide +kernel
theorem d_B_number_43 : decode M_B_number.2.1 43 = .ok (.goto 4, 3) := by decide +kernel
theorem d_B_number_46 : decode M_B_number.2.1 46 = .ok (.iload_n 3, 1) := by decide +kernel
theorem d_B_number_47 : decode M_B_number.2.1 47 = .ok (.istore_n 3, 1) := by decide +kernel
theorem d_B_number_48 : decode M_B_number.2.1 48 = .ok (.aload_n 0, 1) := by decide +kernel
theorem d_B_number_49 : decode M_B_number.2.1 49 = .ok (.dup, 1) := by decide +kernel
theorem d_B_number_50 : decode M_B_number.2.1 50 = .ok (.getfield 248, 3) := by decide +kernel
theorem d_B_number_53 : decode M_B_number.2.1 53 = .ok (.iconst 1, 1) := by decide +kernel
theorem d_B_number_54 : decode M_B_number.2.1 54 = .ok (.iadd, 1) := by decide +kernel
theorem d_B_number_55 : decode M_B_number.2.1 55 = .ok (.putfield 248, 3) := by decide +kernel
theorem d_B_number_58 : decode M_B_number.2.1 58 = .ok (.aload_n 0, 1) := by decide +kernel
theorem d_B_number_59 : decode M_B_number.2.1 59 = .ok (.invokevirtual 258, 3) := by decide +kernel
theorem d_B_number_62 : decode M_B_number.2.1 62 = .ok (.ifCond .eq 18, 3) := by decide +kernel
theorem d_B_number_65 : decode M_B_number.2.1 65 = .ok (.aload_n 0, 1) := by decide +kernel
theorem d_B_number_66 : decode M_B_number.2.1 66 = .ok (.getfield 37, 3) := by decide +kernel
theorem d_B_number_69 : decode M_B_number.2.1 69 = .ok (.iload_n 2, 1) := by decide +kernel
theorem d_B_number_70 : decode M_B_number.2.1 70 = .ok (.iaload, 1) := by decide +kernel
theorem d_B_number_71 : decode M_B_number.2.1 71 = .ok (.bipush 48, 2) := by decide +kernel
theorem d_B_number_73 : decode M_B_number.2.1 73 = .ok (.if_icmp .eq 7, 3) := by decide +kernel
theorem d_B_number_76 : decode M_B_number.2.1 76 = .ok (.iconst 1, 1) := by decide +kernel
theorem d_B_number_77 : decode M_B_number.2.1 77 = .ok (.goto 4, 3) := by decide +kernel
theorem d_B_number_80 : decode M_B_number.2.1 80 = .ok (.iconst 0, 1) := by decide +kernel
theorem d_B_number_81 : decode M_B_number.2.1 81 = .ok (.istore 4, 2) := by decide +kernel
theorem d_B_number_83 : decode M_B_number.2.1 83 = .ok (.goto (-64), 3) := by decide +kernel
theorem d_B_number_86 : decode M_B_number.2.1 86 = .ok (.iload_n 3, 1) := by decide +kernel
theorem d_B_number_87 : decode M_B_number.2.1 87 = .ok (.iload_n 1, 1) := by decide +kernel
theorem d_B_number_88 : decode M_B_number.2.1 88 = .ok (.if_icmp .lt 10, 3) := by decide +kernel
theorem d_B_number_91 : decode M_B_number.2.1 91 = .ok (.aload_n 0, 1) := by decide +kernel
theorem d_B_number_92 : decode M_B_number.2.1 92 = .ok (.iload_n 2, 1) := by decide +kernel
theorem d_B_number_93 : decode M_B_number.2.1 93 = .ok (.putfield 248, 3) := by decide +kernel
theorem d_B_number_96 : decode M_B_number.2.1 96 = .ok (.iconst (-1), 1) := by decide +kernel
theorem d_B_number_97 : decode M_B_number.2.1 97 = .ok (.ireturn, 1) := by decide +kernel
theorem d_B_number_98 : decode M_B_number.2.1 98 = .ok (.iload_n 3, 1) := by decide +kernel
theorem d_B_number_99 : decode M_B_number.2.1 99 = .ok (.ireturn, 1) := by decide +kernel
theorem d_B_isNextElement_0 : decode M_B_isNextElement.2.1 0 = .ok (.aload_n 0, 1) := by decide +kernel
theorem d_B_isNextElement_1 : decode M_B_isNextElement.2.1 1 = .ok (.getfield 248, 3) := by decide +kernel
theorem d_B_isNextElement_4 : decode M_B_isNextElement.2.1 4 = .ok (.istore_n 1, 1) := by decide +kernel
theorem d_B_isNextElement_5 : decode M_B_isNextElement.2.1 5 = .ok (.aload_n 0, 1) := by decide +kernel
theorem d_B_isNextElement_6 : decode M_B_isNextElement.2.1 6 = .ok (.aload_n 0, 1) := by decide +kernel
theorem d_B_isNextElement_7 : decode M_B_isNextElement.2.1 7 = .ok (.getfield 7, 3) := by decide +kernel
theorem d_B_isNextElement_10 : decode M_B_isNextElement.2.1 10 = .ok (.invokevirtual 262, 3) := by decide +kernel
theorem d_B_isNextElement_13 : decode M_B_isNextElement.2.1 13 = .ok (.istore_n 2, 1) := by decide +kernel
theorem d_B_isNextElement_14 : decode M_B_isNextElement.2.1 14 = .ok (.iload_n 2, 1) := by decide +kernel
theorem d_B_isNextElement_15 : decode M_B_isNextElement.2.1 15 = .ok (.ifCond .ge 5, 3) := by decide +kernel
theorem d_B_isNextElement_18 : decode M_B_isNextElement.2.1 18 = .ok (.iconst 0, 1) := by decide +kernel
theorem d_B_isNextElement_19 : decode M_B_isNextElement.2.1 19 = .ok (.ireturn, 1) := by decide +kernel
theorem d_B_isNextElement_20 : decode M_B_isNextElement.2.1 20 = .ok (.iconst 0, 1) := by decide +kernel
theorem d_B_isNextElement_21 : decode M_B_isNextElement.2.1 21 = .ok (.istore_n 3, 1) := by decide +kernel
theorem d_B_isNextElement_22 : decode M_B_isNextElement.2.1 22 = .ok (.aload_n 0, 1) := by decide +kernel
theorem d_B_isNextElement_23 : decode M_B_isNextElement.2.1 23 = .ok (.getfield 13, 3) := by decide +kernel
theorem d_B_isNextElement_26 : decode M_B_isNextElement.2.1 26 = .ok (.iconst 1, 1) := by decide +kernel
theorem d_B_isNextElement_27 : decode M_B_isNextElement.2.1 27 = .ok (.if_icmp .le 39, 3) := by decide +kernel
theorem d_B_isNextElement_30 : decode M_B_isNextElement.2.1 30 = .ok (.aload_n 0, 1) := by decide +kernel
theorem d_B_isNextElement_31 : decode M_B_isNextElement.2.1 31 = .ok (.invokevirtual 251, 3) := by decide +kernel
theorem d_B_isNextElement_34 : decode M_B_isNextElement.2.1 34 = .ok (.bipush 46, 2) := by decide +kernel
theorem d_B_isNextElement_36 : decode M_B_isNextElement.2.1 36 = .ok (.if_icmp .eq 5, 3) := by decide +kernel
theorem d_B_isNextElement_39 : decode M_B_isNextElement.2.1 39 = .ok (.iconst 0, 1) := by decide +kernel
theorem d_B_isNextElement_40 : decode M_B_isNextElement.2.1 40 = .ok (.ireturn, 1) := by decide +kernel
theorem d_B_isNextElement_41 : decode M_B_isNextElement.2.1 41 = .ok (.aload_n 0, 1) := by decide +kernel
theorem d_B_isNextElement_42 : decode M_B_isNextElement.2.1 42 = .ok (.dup, 1) := by decide +kernel
theorem d_B_isNextElement_43 : decode M_B_isNextElement.2.1 43 = .ok (.getfield 248, 3) := by decide +kernel
theorem d_B_isNextElement_46 : decode M_B_isNextElement.2.1 46 = .ok (.iconst 1, 1) := by decide +kernel
theorem d_B_isNextElement_47 : decode M_B_isNextElement.2.1 47 = .ok (.iadd, 1) := by decide +kernel
theorem d_B_isNextElement_48 : decode M_B_isNextElement.2.1 48 = .ok (.putfield 248, 3) := by decide +kernel
theorem d_B_isNextElement_51 : decode M_B_isNextElement.2.1 51 = .ok (.aload_n 0, 1) := by decide +kernel
theorem d_B_isNextElement_52 : decode M_B_isNextElement.2.1 52 = .ok (.aload_n 0, 1) := by decide +kernel
theorem d_B_isNextElement_53 : decode M_B_isNextElement.2.1 53 = .ok (.getfield 13, 3) := by decide +kernel
theorem d_B_isNextElement_56 : decode M_B_isNextElement.2.1 56 = .ok (.invokevirtual 262, 3) := by decide +kernel
theorem d_B_isNextElement_59 : decode M_B_isNextElement.2.1 59 = .ok (.istore_n 3, 1) := by decide +kernel
theorem d_B_isNextElement_60 : decode M_B_isNextElement.2.1 60 = .ok (.iload_n 3, 1) := by decide +kernel
theorem d_B_isNextElement_61 : decode M_B_isNextElement.2.1 61 = .ok (.ifCond .ge 5, 3) := by decide +kernel
theorem d_B_isNextElement_64 : decode M_B_isNextElement.2.1 64 = .ok (.iconst 0, 1) := by decide +kernel
theorem d_B_isNextElement_65 : decode M_B_isNextElement.2.1 65 = .ok (.ireturn, 1) := by decide +kernel
theorem d_B_isNextElement_66 : decode M_B_isNextElement.2.1 66 = .ok (.aload_n 0, 1) := by decide +kernel
theorem d_B_isNextElement_67 : decode M_B_isNextElement.2.1 67 = .ok (.getfield 77, 3) := by decide +kernel
theorem d_B_isNextElement_70 : decode M_B_isNextElement.2.1 70 = .ok (.aload_n 0, 1) := by decide +kernel
theorem d_B_isNextElement_71 : decode M_B_isNextElement.2.1 71 = .ok (.getfield 265, 3) := by decide +kernel
theorem d_B_isNextElement_74 : decode M_B_isNextElement.2.1 74 = .ok (.laload, 1) := by decide +kernel
theorem d_B_isNextElement_75 : decode M_B_isNextElement.2.1 75 = .ok (.aload_n 0, 1) := by decide +kernel
theorem d_B_isNextElement_76 : decode M_B_isNextElement.2.1 76 = .ok (.getfield 13, 3) := by decide +kernel
theorem d_B_isNextElement_79 : decode M_B_isNextElement.2.1 79 = .ok (.iload_n 2, 1) := by decide +kernel
theorem d_B_isNextElement_80 : decode M_B_isNextElement.2.1 80 = .ok (.imul, 1) := by decide +kernel
theorem d_B_isNextElement_81 : decode M_B_isNextElement.2.1 81 = .ok (.iload_n 3, 1) := by decide +kernel
theorem d_B_isNextElement_82 : decode M_B_isNextElement.2.1 82 = .ok (.iadd, 1) := by decide +kernel
theorem d_B_isNextElement_83 : decode M_B_isNextElement.2.1 83 = .ok (.invokestatic 134, 3) := by decide +kernel
theorem d_B_isNextElement_86 : decode M_B_isNextElement.2.1 86 = .ok (.ifCond .eq 10, 3) := by decide +kernel
theorem d_B_isNextElement_89 : decode M_B_isNextElement.2.1 89 = .ok (.aload_n 0, 1) := by decide +kernel
theorem d_B_isNextElement_90 : decode M_B_isNextElement.2.1 90 = .ok (.iload_n 1, 1) := by decide +kernel
theorem d_B_isNextElement_91 : decode M_B_isNextElement.2.1 91 = .ok (.putfield 248, 3) := by decide +kernel
theorem d_B_isNextElement_94 : decode M_B_isNextElement.2.1 94 = .ok (.iconst 0, 1) := by decide +kernel
theorem d_B_isNextElement_95 : decode M_B_isNextElement.2.1 95 = .ok (.ireturn, 1) := by decide +kernel
theorem d_B_isNextElement_96 : decode M_B_isNextElement.2.1 96 = .ok (.aload_n 0, 1) := by decide +kernel
theorem d_B_isNextElement_97 : decode M_B_isNextElement.2.1 97 = .ok (.getfield 77, 3) := by decide +kernel
theorem d_B_isNextElement_100 : decode M_B_isNextElement.2.1 100 = .ok (.aload_n 0, 1) := by decide +kernel
theorem d_B_isNextElement_101 : decode M_B_isNextElement.2.1 101 = .ok (.getfield 265, 3) := by decide +kernel
theorem d_B_isNextElement_104 : decode M_B_isNextElement.2.1 104 = .ok (.dup2, 1) := by decide +kernel
theorem d_B_isNextElement_105 : decode M_B_isNextElement.2.1 105 = .ok (.laload, 1) := by decide +kernel
theorem d_B_isNextElement_106 : decode M_B_isNextElement.2.1 106 = .ok (.lconst 1, 1) := by decide +kernel
theorem d_B_isNextElement_107 : decode M_B_isNextElement.2.1 107 = .ok (.aload_n 0, 1) := by decide +kernel
theorem d_B_isNextElement_108 : decode M_B_isNextElement.2.1 108 = .ok (.getfield 13, 3) := by decide +kernel
theorem d_B_isNextElement_111 : decode M_B_isNextElement.2.1 111 = .ok (.iload_n 2, 1) := by decide +kernel
theorem d_B_isNextElement_112 : decode M_B_isNextElement.2.1 112 = .ok (.imul, 1) := by decide +kernel
theorem d_B_isNextElement_113 : decode M_B_isNextElement.2.1 113 = .ok (.iload_n 3, 1) := by decide +kernel
theorem d_B_isNextElement_114 : decode M_B_isNextElement.2.1 114 = .ok (.iadd, 1) := by decide +kernel
theorem d_B_isNextElement_115 : decode M_B_isNextElement.2.1 115 = .ok (.lshl, 1) := by decide +kernel
theorem d_B_isNextElement_116 : decode M_B_isNextElement.2.1 116 = .ok (.lor, 1) := by decide +kernel
theorem d_B_isNextElement_117 : decode M_B_isNextElement.2.1 117 = .ok (.lastore, 1) := by decide +kernel
theorem d_B_isNextElement_118 : decode M_B_isNextElement.2.1 118 = .ok (.iconst 1, 1) := by decide +kernel
theorem d_B_isNextElement_119 : decode M_B_isNextElement.2.1 119 = .ok (.ireturn, 1) := by decide +kernel
theorem d_B_isNextBlock_0 : decode M_B_isNextBlock.2.1 0 = .ok (.aload_n 0, 1) := by decide +kernel
theorem d_B_isNextBlock_1 : decode M_B_isNextBlock.2.1 1 = .ok (.getfield 265, 3) := by decide +kernel
theorem d_B_isNextBlock_4 : decode M_B_isNextBlock.2.1 4 = .ok (.bipush 6, 2) := by decide +kernel
theorem d_B_isNextBlock_6 : decode M_B_isNextBlock.2.1 6 = .ok (.if_icmp .ne 5, 3) := by decide +kernel
theorem d_B_isNextBlock_9 : decode M_B_isNextBlock.2.1 9 = .ok (.iconst 0, 1) := by decide +kernel
theorem d_B_isNextBlock_10 : decode M_B_isNextBlock.2.1 10 = .ok (.ireturn, 1) := by decide +kernel
theorem d_B_isNextBlock_11 : decode M_B_isNextBlock.2.1 11 = .ok (.aload_n 0, 1) := by decide +kernel
theorem d_B_isNextBlock_12 : decode M_B_isNextBlock.2.1 12 = .ok (.getfield 77, 3) := by decide +kernel
theorem d_B_isNextBlock_15 : decode M_B_isNextBlock.2.1 15 = .ok (.aload_n 0, 1) := by decide +kernel
theorem d_B_isNextBlock_16 : decode M_B_isNextBlock.2.1 16 = .ok (.getfield 265, 3) := by decide +kernel
theorem d_B_isNextBlock_19 : decode M_B_isNextBlock.2.1 19 = .ok (.lconst 0, 1) := by decide +kernel
theorem d_B_isNextBlock_20 : decode M_B_isNextBlock.2.1 20 = .ok (.lastore, 1) := by decide +kernel
theorem d_B_isNextBlock_21 : decode M_B_isNextBlock.2.1 21 = .ok (.aload_n 0, 1) := by decide +kernel
theorem d_B_isNextBlock_22 : decode M_B_isNextBlock.2.1 22 = .ok (.invokevirtual 268, 3) := by decide +kernel
theorem d_B_isNextBlock_25 : decode M_B_isNextBlock.2.1 25 = .ok (.istore_n 1, 1) := by decide +kernel
theorem d_B_isNextBlock_26 : decode M_B_isNextBlock.2.1 26 = .ok (.iload_n 1, 1) := by decide +kernel
theorem d_B_isNextBlock_27 : decode M_B_isNextBlock.2.1 27 = .ok (.ifCond .eq 30, 3) := by decide +kernel
theorem d_B_isNextBlock_30 : decode M_B_isNextBlock.2.1 30 = .ok (.aload_n 0, 1) := by decide +kernel
theorem d_B_isNextBlock_31 : decode M_B_isNextBlock.2.1 31 = .ok (.invokevirtual 251, 3) := by decide +kernel
theorem d_B_isNextBlock_34 : decode M_B_isNextBlock.2.1 34 = .ok (.bipush 44, 2) := by decide +kernel
theorem d_B_isNextBlock_36 : decode M_B_isNextBlock.2.1 36 = .ok (.if_icmp .ne 21, 3) := by decide +kernel
theorem d_B_isNextBlock_39 : decode M_B_isNextBlock.2.1 39 = .ok (.aload_n 0, 1) := by decide +kernel
theorem d_B_isNextBlock_40 : decode M_B_isNextBlock.2.1 40 = .ok (.dup, 1) := by decide +kernel
theorem d_B_isNextBlock_41 : decode M_B_isNextBlock.2.1 41 = .ok (.getfield 248, 3) := by decide +kernel
theorem d_B_isNextBlock_44 : decode M_B_isNextBlock.2.1 44 = .ok (.iconst 1, 1) := by decide +kernel
theorem d_B_isNextBlock_45 : decode M_B_isNextBlock.2.1 45 = .ok (.iadd, 1) := by decide +kernel
theorem d_B_isNextBlock_46 : decode M_B_isNextBlock.2.1 46 = .ok (.putfield 248, 3) := by decide +kernel
theorem d_B_isNextBlock_49 : decode M_B_isNextBlock.2.1 49 = .ok (.aload_n 0, 1) := by decide +kernel
theorem d_B_isNextBlock_50 : decode M_B_isNextBlock.2.1 50 = .ok (.invokevirtual 268, 3) := by decide +kernel
theorem d_B_isNextBlock_53 : decode M_B_isNextBlock.2.1 53 = .ok (.istore_n 1, 1) := by decide +kernel
theorem d_B_isNextBlock_54 : decode M_B_isNextBlock.2.1 54 = .ok (.goto (-28), 3) := by decide +kernel
theorem d_B_isNextBlock_57 : decode M_B_isNextBlock.2.1 57 = .ok (.iload_n 1, 1) := by decide +kernel
theorem d_B_isNextBlock_58 : decode M_B_isNextBlock.2.1 58 = .ok (.ifCond .eq 12, 3) := by decide +kernel
theorem d_B_isNextBlock_61 : decode M_B_isNextBlock.2.1 61 = .ok (.aload_n 0, 1) := by decide +kernel
theorem d_B_isNextBlock_62 : decode M_B_isNextBlock.2.1 62 = .ok (.invokevirtual 251, 3) := by decide +kernel
theorem d_B_isNextBlock_65 : decode M_B_isNextBlock.2.1 65 = .ok (.bipush 59, 2) := by decide +kernel
theorem d_B_isNextBlock_67 : decode M_B_isNextBlock.2.1 67 = .ok (.if_icmp .eq 5, 3) := by decide +kernel
theorem d_B_isNextBlock_70 : decode M_B_isNextBlock.2.1 70 = .ok (.iconst 0, 1) := by decide +kernel
theorem d_B_isNextBlock_71 : decode M_B_isNextBlock.2.1 71 = .ok (.ireturn, 1) := by decide +kernel
theorem d_B_isNextBlock_72 : decode M_B_isNextBlock.2.1 72 = .ok (.aload_n 0, 1) := by decide +kernel
theorem d_B_isNextBlock_73 : decode M_B_isNextBlock.2.1 73 = .ok (.dup, 1) := by decide +kernel
theorem d_B_isNextBlock_74 : decode M_B_isNextBlock.2.1 74 = .ok (.getfield 248, 3) := by decide +kernel
theorem d_B_isNextBlock_77 : decode M_B_isNextBlock.2.1 77 = .ok (.iconst 1, 1) := by decide +kernel
theorem d_B_isNextBlock_78 : decode M_B_isNextBlock.2.1 78 = .ok (.iadd, 1) := by decide +kernel
theorem d_B_isNextBlock_79 : decode M_B_isNextBlock.2.1 79 = .ok (.putfield 248, 3) := by decide +kernel
theorem d_B_isNextBlock_82 : decode M_B_isNextBlock.2.1 82 = .ok (.aload_n 0, 1) := by decide +kernel
theorem d_B_isNextBlock_83 : decode M_B_isNextBlock.2.1 83 = .ok (.dup, 1) := by decide +kernel
theorem d_B_isNextBlock_84 : decode M_B_isNextBlock.2.1 84 = .ok (.getfield 265, 3) := by decide +kernel
theorem d_B_isNextBlock_87 : decode M_B_isNextBlock.2.1 87 = .ok (.iconst 1, 1) := by decide +kernel
theorem d_B_isNextBlock_88 : decode M_B_isNextBlock.2.1 88 = .ok (.iadd, 1) := by decide +kernel
theorem d_B_isNextBlock_89 : decode M_B_isNextBlock.2.1 89 = .ok (.putfield 265, 3) := by decide +kernel
theorem d_B_isNextBlock_92 : decode M_B_isNextBlock.2.1 92 = .ok (.iconst 1, 1) := by decide +kernel
theorem d_B_isNextBlock_93 : decode M_B_isNextBlock.2.1 93 = .ok (.ireturn, 1) := by decide +kernel
theorem d_B_isText_0 : decode M_B_isText.2.1 0 = .ok (.aload_n 0, 1) := by decide +kernel
theorem d_B_isText_1 : decode M_B_isText.2.1 1 = .ok (.iconst 0, 1) := by decide +kernel
theorem d_B_isText_2 : decode M_B_isText.2.1 2 = .ok (.putfield 265, 3) := by decide +kernel
theorem d_B_isText_5 : decode M_B_isText.2.1 5 = .ok (.aload_n 0, 1) := by decide +kernel
theorem d_B_isText_6 : decode M_B_isText.2.1 6 = .ok (.iconst 0, 1) := by decide +kernel
theorem d_B_isText_7 : decode M_B_isText.2.1 7 = .ok (.putfield 248, 3) := by decide +kernel
theorem d_B_isText_10 : decode M_B_isText.2.1 10 = .ok (.iconst 1, 1) := by decide +kernel
theorem d_B_isText_11 : decode M_B_isText.2.1 11 = .ok (.istore_n 1, 1) := by decide +kernel
theorem d_B_isText_12 : decode M_B_isText.2.1 12 = .ok (.iload_n 1, 1) := by decide +kernel
theorem d_B_isText_13 : decode M_B_isText.2.1 13 = .ok (.ifCond .eq 22, 3) := by decide +kernel
theorem d_B_isText_16 : decode M_B_isText.2.1 16 = .ok (.aload_n 0, 1) := by decide +kernel
theorem d_B_isText_17 : decode M_B_isText.2.1 17 = .ok (.getfield 248, 3) := by decide +kernel
theorem d_B_isText_20 : decode M_B_isText.2.1 20 = .ok (.aload_n 0, 1) := by decide +kernel
theorem d_B_isText_21 : decode M_B_isText.2.1 21 = .ok (.getfield 245, 3) := by decide +kernel
theorem d_B_isText_24 : decode M_B_isText.2.1 24 = .ok (.if_icmp .ge 11, 3) := by decide +kernel
theorem d_B_isText_27 : decode M_B_isText.2.1 27 = .ok (.aload_n 0, 1) := by decide +kernel
theorem d_B_isText_28 : decode M_B_isText.2.1 28 = .ok (.invokevirtual 271, 3) := by decide +kernel
theorem d_B_isText_31 : decode M_B_isText.2.1 31 = .ok (.istore_n 1, 1) := by decide +kernel
theorem d_B_isText_32 : decode M_B_isText.2.1 32 = .ok (.goto (-20), 3) := by decide +kernel
theorem d_B_isText_35 : decode M_B_isText.2.1 35 = .ok (.iload_n 1, 1) := by decide +kernel
theorem d_B_isText_36 : decode M_B_isText.2.1 36 = .ok (.ireturn, 1) := by decide +kernel
theorem d_B_faultPosition_0 : decode M_B_faultPosition.2.1 0 = .ok (.aload_n 0, 1) := by decide +kernel
theorem d_B_faultPosition_1 : decode M_B_faultPosition.2.1 1 = .ok (.invokevirtual 274, 3) := by decide +kernel
theorem d_B_faultPosition_4 : decode M_B_faultPosition.2.1 4 = .ok (.ifCond .eq 8, 3) := by decide +kernel
theorem d_B_faultPosition_7 : decode M_B_faultPosition.2.1 7 = .ok (.bipush (-4), 2) := by decide +kernel
theorem d_B_faultPosition_9 : decode M_B_faultPosition.2.1 9 = .ok (.goto 7, 3) := by decide +kernel
theorem d_B_faultPosition_12 : decode M_B_faultPosition.2.1 12 = .ok (.aload_n 0, 1) := by decide +kernel
theorem d_B_faultPosition_13 : decode M_B_faultPosition.2.1 13 = .ok (.getfield 248, 3) := by decide +kernel
theorem d_B_faultPosition_16 : decode M_B_faultPosition.2.1 16 = .ok (.ireturn, 1) := by decide +kernel
theorem d_B_isAutomorphism_0 : decode M_B_isAutomorphism.2.1 0 = .ok (.aload_n 0, 1) := by decide +kernel
theorem d_B_isAutomorphism_1 : decode M_B_isAutomorphism.2.1 1 = .ok (.aload_n 0, 1) := by decide +kernel
theorem d_B_isAutomorphism_2 : decode M_B_isAutomorphism.2.1 2 = .ok (.getfield 7, 3) := by decide +kernel
theorem d_B_isAutomorphism_5 : decode M_B_isAutomorphism.2.1 5 = .ok (.iload_n 1, 1) := by decide +kernel
theorem d_B_isAutomorphism_6 : decode M_B_isAutomorphism.2.1 6 = .ok (.invokevirtual 87, 3) := by decide +kernel
theorem d_B_isAutomorphism_9 : decode M_B_isAutomorphism.2.1 9 = .ok (.ifCond .ne 15, 3) := by decide +kernel
theorem d_B_isAutomorphism_12 : decode M_B_isAutomorphism.2.1 12 = .ok (.aload_n 0, 1) := by decide +kernel
theorem d_B_isAutomorphism_13 : decode M_B_isAutomorphism.2.1 13 = .ok (.aload_n 0, 1) := by decide +kernel
theorem d_B_isAutomorphism_14 : decode M_B_isAutomorphism.2.1 14 = .ok (.getfield 13, 3) := by decide +kernel
theorem d_B_isAutomorphism_17 : decode M_B_isAutomorphism.2.1 17 = .ok (.iload_n 2, 1) := by decide +kernel
theorem d_B_isAutomorphism_18 : decode M_B_isAutomorphism.2.1 18 = .ok (.invokevirtual 87, 3) := by decide +kernel
theorem d_B_isAutomorphism_21 : decode M_B_isAutomorphism.2.1 21 = .ok (.ifCond .eq 5, 3) := by decide +kernel
theorem d_B_isAutomorphism_24 : decode M_B_isAutomorphism.2.1 24 = .ok (.iconst 0, 1) := by decide +kernel
theorem d_B_isAutomorphism_25 : decode M_B_isAutomorphism.2.1 25 = .ok (.ireturn, 1) := by decide +kernel
theorem d_B_isAutomorphism_26 : decode M_B_isAutomorphism.2.1 26 = .ok (.lconst 0, 1) := by decide +kernel
theorem d_B_isAutomorphism_27 : decode M_B_isAutomorphism.2.1 27 = .ok (.lstore_n 3, 1) := by decide +kernel
theorem d_B_isAutomorphism_28 : decode M_B_isAutomorphism.2.1 28 = .ok (.iconst 0, 1) := by decide +kernel
theorem d_B_isAutomorphism_29 : decode M_B_isAutomorphism.2.1 29 = .ok (.istore 5, 2) := by decide +kernel
theorem d_B_isAutomorphism_31 : decode M_B_isAutomorphism.2.1 31 = .ok (.iload 5, 2) := by decide +kernel
theorem d_B_isAutomorphism_33 : decode M_B_isAutomorphism.2.1 33 = .ok (.aload_n 0, 1) := by decide +kernel
theorem d_B_isAutomorphism_34 : decode M_B_isAutomorphism.2.1 34 = .ok (.getfield 16, 3) := by decide +kernel
theorem d_B_isAutomorphism_37 : decode M_B_isAutomorphism.2.1 37 = .ok (.if_icmp .ge 22, 3) := by decide +kernel
theorem d_B_isAutomorphism_40 : decode M_B_isAutomorphism.2.1 40 = .ok (.lload_n 3, 1) := by decide +kernel
theorem d_B_isAutomorphism_41 : decode M_B_isAutomorphism.2.1 41 = .ok (.lconst 1, 1) := by decide +kernel
theorem d_B_isAutomorphism_42 : decode M_B_isAutomorphism.2.1 42 = .ok (.aload_n 0, 1) := by decide +kernel
theorem d_B_isAutomorphism_43 : decode M_B_isAutomorphism.2.1 43 = .ok (.iload_n 1, 1) := by decide +kernel
theorem d_B_isAutomorphism_44 : decode M_B_isAutomorphism.2.1 44 = .ok (.iload_n 2, 1) := by decide +kernel
theorem d_B_isAutomorphism_45 : decode M_B_isAutomorphism.2.1 45 = .ok (.iload 5, 2) := by decide +kernel
theorem d_B_isAutomorphism_47 : decode M_B_isAutomorphism.2.1 47 = .ok (.invokevirtual 94, 3) := by decide +kernel
theorem d_B_isAutomorphism_50 : decode M_B_isAutomorphism.2.1 50 = .ok (.lshl, 1) := by decide +kernel
theorem d_B_isAutomorphism_51 : decode M_B_isAutomorphism.2.1 51 = .ok (.lor, 1) := by decide +kernel
theorem d_B_isAutomorphism_52 : decode M_B_isAutomorphism.2.1 52 = .ok (.lstore_n 3, 1) := by decide +kernel
theorem d_B_isAutomorphism_53 : decode M_B_isAutomorphism.2.1 53 = .ok (.iinc 5 1, 3) := by decide +kernel
theorem d_B_isAutomorphism_56 : decode M_B_isAutomorphism.2.1 56 = .ok (.goto (-25), 3) := by decide +kernel
theorem d_B_isAutomorphism_59 : decode M_B_isAutomorphism.2.1 59 = .ok (.lload_n 3, 1) := by decide +kernel
theorem d_B_isAutomorphism_60 : decode M_B_isAutomorphism.2.1 60 = .ok (.lconst 1, 1) := by decide +kernel
theorem d_B_isAutomorphism_61 : decode M_B_isAutomorphism.2.1 61 = .ok (.aload_n 0, 1) := by decide +kernel
theorem d_B_isAutomorphism_62 : decode M_B_isAutomorphism.2.1 62 = .ok (.getfield 16, 3) := by decide +kernel
theorem d_B_isAutomorphism_65 : decode M_B_isAutomorphism.2.1 65 = .ok (.lshl, 1) := by decide +kernel
theorem d_B_isAutomorphism_66 : decode M_B_isAutomorphism.2.1 66 = .ok (.lconst 1, 1) := by decide +kernel
theorem d_B_isAutomorphism_67 : decode M_B_isAutomorphism.2.1 67 = .ok (.lsub, 1) := by decide +kernel
theorem d_B_isAutomorphism_68 : decode M_B_isAutomorphism.2.1 68 = .ok (.lcmp, 1) := by decide +kernel
theorem d_B_isAutomorphism_69 : decode M_B_isAutomorphism.2.1 69 = .ok (.ifCond .ne 7, 3) := by decide +kernel
theorem d_B_isAutomorphism_72 : decode M_B_isAutomorphism.2.1 72 = .ok (.iconst 1, 1) := by decide +kernel
theorem d_B_isAutomorphism_73 : decode M_B_isAutomorphism.2.1 73 = .ok (.goto 4, 3) := by decide +kernel
theorem d_B_isAutomorphism_76 : decode M_B_isAutomorphism.2.1 76 = .ok (.iconst 0, 1) := by decide +kernel
theorem d_B_isAutomorphism_77 : decode M_B_isAutomorphism.2.1 77 = .ok (.ireturn, 1) := by decide +kernel
theorem d_B_findAutomorphisms_0 : decode M_B_findAutomorphisms.2.1 0 = .ok (.aload_n 0, 1) := by decide +kernel
theorem d_B_findAutomorphisms_1 : decode M_B_findAutomorphisms.2.1 1 = .ok (.iconst 0, 1) := by decide +kernel
theorem d_B_findAutomorphisms_2 : decode M_B_findAutomorphisms.2.1 2 = .ok (.putfield 98, 3) := by decide +kernel
theorem d_B_findAutomorphisms_5 : decode M_B_findAutomorphisms.2.1 5 = .ok (.iconst 0, 1) := by decide +kernel
theorem d_B_findAutomorphisms_6 : decode M_B_findAutomorphisms.2.1 6 = .ok (.istore_n 1, 1) := by decide +kernel
theorem d_B_findAutomorphisms_7 : decode M_B_findAutomorphisms.2.1 7 = .ok (.iload_n 1, 1) := by decide +kernel
theorem d_B_findAutomorphisms_8 : decode M_B_findAutomorphisms.2.1 8 = .ok (.aload_n 0, 1) := by decide +kernel
theorem d_B_findAutomorphisms_9 : decode M_B_findAutomorphisms.2.1 9 = .ok (.getfield 13, 3) := by decide +kernel
theorem d_B_findAutomorphisms_12 : decode M_B_findAutomorphisms.2.1 12 = .ok (.iconst 1, 1) := by decide +kernel
theorem d_B_findAutomorphisms_13 : decode M_B_findAutomorphisms.2.1 13 = .ok (.if_icmp .ne 7, 3) := by decide +kernel
theorem d_B_findAutomorphisms_16 : decode M_B_findAutomorphisms.2.1 16 = .ok (.iconst 1, 1) := by decide +kernel
theorem d_B_findAutomorphisms_17 : decode M_B_findAutomorphisms.2.1 17 = .ok (.goto 7, 3) := by decide +kernel
theorem d_B_findAutomorphisms_20 : decode M_B_findAutomorphisms.2.1 20 = .ok (.aload_n 0, 1) := by decide +kernel
theorem d_B_findAutomorphisms_21 : decode M_B_findAutomorphisms.2.1 21 = .ok (.getfield 16, 3) := by decide +kernel
theorem d_B_findAutomorphisms_24 : decode M_B_findAutomorphisms.2.1 24 = .ok (.if_icmp .ge 64, 3) := by decide +kernel
theorem d_B_findAutomorphisms_27 : decode M_B_findAutomorphisms.2.1 27 = .ok (.iconst 0, 1) := by decide +kernel
theorem d_B_findAutomorphisms_28 : decode M_B_findAutomorphisms.2.1 28 = .ok (.istore_n 2, 1) := by decide +kernel
theorem d_B_findAutomorphisms_29 : decode M_B_findAutomorphisms.2.1 29 = .ok (.iload_n 2, 1) := by decide +kernel
theorem d_B_findAutomorphisms_30 : decode M_B_findAutomorphisms.2.1 30 = .ok (.aload_n 0, 1) := by decide +kernel
theorem d_B_findAutomorphisms_31 : decode M_B_findAutomorphisms.2.1 31 = .ok (.getfield 16, 3) := by decide +kernel
theorem d_B_findAutomorphisms_34 : decode M_B_findAutomorphisms.2.1 34 = .ok (.if_icmp .ge 48, 3) := by decide +kernel
theorem d_B_findAutomorphisms_37 : decode M_B_findAutomorphisms.2.1 37 = .ok (.aload_n 0, 1) := by decide +kernel
theorem d_B_findAutomorphisms_38 : decode M_B_findAutomorphisms.2.1 38 = .ok (.iload_n 2, 1) := by decide +kernel
theorem d_B_findAutomorphisms_39 : decode M_B_findAutomorphisms.2.1 39 = .ok (.iload_n 1, 1) := by decide +kernel
theorem d_B_findAutomorphisms_40 : decode M_B_findAutomorphisms.2.1 40 = .ok (.invokevirtual 101, 3) := by decide +kernel
theorem d_B_findAutomorphisms_43 : decode M_B_findAutomorphisms.2.1 43 = .ok (.ifCond .eq 33, 3) := by decide +kernel
theorem d_B_findAutomorphisms_46 : decode M_B_findAutomorphisms.2.1 46 = .ok (.aload_n 0, 1) := by decide +kernel
theorem d_B_findAutomorphisms_47 : decode M_B_findAutomorphisms.2.1 47 = .ok (.getfield 41, 3) := by decide +kernel
theorem d_B_findAutomorphisms_50 : decode M_B_findAutomorphisms.2.1 50 = .ok (.aload_n 0, 1) := by decide +kernel
theorem d_B_findAutomorphisms_51 : decode M_B_findAutomorphisms.2.1 51 = .ok (.getfield 98, 3) := by decide +kernel
theorem d_B_findAutomorphisms_54 : decode M_B_findAutomorphisms.2.1 54 = .ok (.iload_n 2, 1) := by decide +kernel
theorem d_B_findAutomorphisms_55 : decode M_B_findAutomorphisms.2.1 55 = .ok (.iastore, 1) := by decide +kernel
theorem d_B_findAutomorphisms_56 : decode M_B_findAutomorphisms.2.1 56 = .ok (.aload_n 0, 1) := by decide +kernel
theorem d_B_findAutomorphisms_57 : decode M_B_findAutomorphisms.2.1 57 = .ok (.getfield 44, 3) := by decide +kernel
theorem d_B_findAutomorphisms_60 : decode M_B_findAutomorphisms.2.1 60 = .ok (.aload_n 0, 1) := by decide +kernel
theorem d_B_findAutomorphisms_61 : decode M_B_findAutomorphisms.2.1 61 = .ok (.getfield 98, 3) := by decide +kernel
theorem d_B_findAutomorphisms_64 : decode M_B_findAutomorphisms.2.1 64 = .ok (.iload_n 1, 1) := by decide +kernel
theorem d_B_findAutomorphisms_65 : decode M_B_findAutomorphisms.2.1 65 = .ok (.iastore, 1) := by decide +kernel
theorem d_B_findAutomorphisms_66 : decode M_B_findAutomorphisms.2.1 66 = .ok (.aload_n 0, 1) := by decide +kernel
theorem d_B_findAutomorphisms_67 : decode M_B_findAutomorphisms.2.1 67 = .ok (.dup, 1) := by decide +kernel
theorem d_B_findAutomorphisms_68 : decode M_B_findAutomorphisms.2.1 68 = .ok (.getfield 98, 3) := by decide +kernel
theorem d_B_findAutomorphisms_71 : decode M_B_findAutomorphisms.2.1 71 = .ok (.iconst 1, 1) := by decide +kernel
theorem d_B_findAutomorphisms_72 : decode M_B_findAutomorphisms.2.1 72 = .ok (.iadd, 1) := by decide +kernel
theorem d_B_findAutomorphisms_73 : decode M_B_findAutomorphisms.2.1 73 = .ok (.putfield 98, 3) := by decide +kernel
theorem d_B_findAutomorphisms_76 : decode M_B_findAutomorphisms.2.1 76 = .ok (.iinc 2 1, 3) := by decide +kernel
theorem d_B_findAutomorphisms_79 : decode M_B_findAutomorphisms.2.1 79 = .ok (.goto (-50), 3) := by decide +kernel
theorem d_B_findAutomorphisms_82 : decode M_B_findAutomorphisms.2.1 82 = .ok (.iinc 1 1, 3) := by decide +kernel
theorem d_B_findAutomorphisms_85 : decode M_B_findAutomorphisms.2.1 85 = .ok (.goto (-78), 3) := by decide +kernel
theorem d_B_findAutomorphisms_88 : decode M_B_findAutomorphisms.2.1 88 = .ok (.return_, 1) := by decide +kernel
theorem d_B_timesOf_0 : decode M_B_timesOf.2.1 0 = .ok (.lconst 0, 1) := by decide +kernel
theorem d_B_timesOf_1 : decode M_B_timesOf.2.1 1 = .ok (.lstore 4, 2) := by decide +kernel
theorem d_B_timesOf_3 : decode M_B_timesOf.2.1 3 = .ok (.iconst 0, 1) := by decide +kernel
theorem d_B_timesOf_4 : decode M_B_timesOf.2.1 4 = .ok (.istore 6, 2) := by decide +kernel
theorem d_B_timesOf_6 : decode M_B_timesOf.2.1 6 = .ok (.iload 6, 2) := by decide +kernel
theorem d_B_timesOf_8 : decode M_B_timesOf.2.1 8 = .ok (.aload_n 0, 1) := by decide +kernel
theorem d_B_timesOf_9 : decode M_B_timesOf.2.1 9 = .ok (.getfield 16, 3) := by decide +kernel
theorem d_B_timesOf_12 : decode M_B_timesOf.2.1 12 = .ok (.if_icmp .ge 36, 3) := by decide +kernel
theorem d_B_timesOf_15 : decode M_B_timesOf.2.1 15 = .ok (.lload 4, 2) := by decide +kernel
theorem d_B_timesOf_17 : decode M_B_timesOf.2.1 17 = .ok (.lload_n 1, 1) := by decide +kernel
theorem d_B_timesOf_18 : decode M_B_timesOf.2.1 18 = .ok (.iload 6, 2) := by decide +kernel
theorem d_B_timesOf_20 : decode M_B_timesOf.2.1 20 = .ok (.invokestatic 134, 3) := by decide +kernel
theorem d_B_timesOf_23 : decode M_B_timesOf.2.1 23 = .ok (.ifCond .eq 15, 3) := by decide +kernel
theorem d_B_timesOf_26 : decode M_B_timesOf.2.1 26 = .ok (.lconst 1, 1) := by decide +kernel
theorem d_B_timesOf_27 : decode M_B_timesOf.2.1 27 = .ok (.aload_n 0, 1) := by decide +kernel
theorem d_B_timesOf_28 : decode M_B_timesOf.2.1 28 = .ok (.iload_n 3, 1) := by decide +kernel
theorem d_B_timesOf_29 : decode M_B_timesOf.2.1 29 = .ok (.iload 6, 2) := by decide +kernel
theorem d_B_timesOf_31 : decode M_B_timesOf.2.1 31 = .ok (.invokevirtual 87, 3) := by decide +kernel
theorem d_B_timesOf_34 : decode M_B_timesOf.2.1 34 = .ok (.lshl, 1) := by decide +kernel
theorem d_B_timesOf_35 : decode M_B_timesOf.2.1 35 = .ok (.goto 4, 3) := by decide +kernel
theorem d_B_timesOf_38 : decode M_B_timesOf.2.1 38 = .ok (.lconst 0, 1) := by decide +kernel
theorem d_B_timesOf_39 : decode M_B_timesOf.2.1 39 = .ok (.lor, 1) := by decide +kernel
theorem d_B_timesOf_40 : decode M_B_timesOf.2.1 40 = .ok (.lstore 4, 2) := by decide +kernel
theorem d_B_timesOf_42 : decode M_B_timesOf.2.1 42 = .ok (.iinc 6 1, 3) := by decide +kernel
theorem d_B_timesOf_45 : decode M_B_timesOf.2.1 45 = .ok (.goto (-39), 3) := by decide +kernel
theorem d_B_timesOf_48 : decode M_B_timesOf.2.1 48 = .ok (.lload 4, 2) := by decide +kernel
theorem d_B_timesOf_50 : decode M_B_timesOf.2.1 50 = .ok (.lreturn, 1) := by decide +kernel
theorem d_B_findCandidates_0 : decode M_B_findCandidates.2.1 0 = .ok (.aload_n 0, 1) := by decide +kernel
theorem d_B_findCandidates_1 : decode M_B_findCandidates.2.1 1 = .ok (.iconst 0, 1) := by decide +kernel
theorem d_B_findCandidates_2 : decode M_B_findCandidates.2.1 2 = .ok (.putfield 115, 3) := by decide +kernel
theorem d_B_findCandidates_5 : decode M_B_findCandidates.2.1 5 = .ok (.lconst 1, 1) := by decide +kernel
theorem d_B_findCandidates_6 : decode M_B_findCandidates.2.1 6 = .ok (.aload_n 0, 1) := by decide +kernel
theorem d_B_findCandidates_7 : decode M_B_findCandidates.2.1 7 = .ok (.getfield 16, 3) := by decide +kernel
theorem d_B_findCandidates_10 : decode M_B_findCandidates.2.1 10 = .ok (.lshl, 1) := by decide +kernel
theorem d_B_findCandidates_11 : decode M_B_findCandidates.2.1 11 = .ok (.lstore_n 3, 1) := by decide +kernel
theorem d_B_findCandidates_12 : decode M_B_findCandidates.2.1 12 = .ok (.lconst 1, 1) := by decide +kernel
theorem d_B_findCandidates_13 : decode M_B_findCandidates.2.1 13 = .ok (.iload_n 1, 1) := by decide +kernel
theorem d_B_findCandidates_14 : decode M_B_findCandidates.2.1 14 = .ok (.lshl, 1) := by decide +kernel
theorem d_B_findCandidates_15 : decode M_B_findCandidates.2.1 15 = .ok (.lconst 1, 1) := by decide +kernel
theorem d_B_findCandidates_16 : decode M_B_findCandidates.2.1 16 = .ok (.lsub, 1) := by decide +kernel
theorem d_B_findCandidates_17 : decode M_B_findCandidates.2.1 17 = .ok (.lstore 5, 2) := by decide +kernel
theorem d_B_findCandidates_19 : decode M_B_findCandidates.2.1 19 = .ok (.lload 5, 2) := by decide +kernel
theorem d_B_findCandidates_21 : decode M_B_findCandidates.2.1 21 = .ok (.lload_n 3, 1) := by decide +kernel
theorem d_B_findCandidates_22 : decode M_B_findCandidates.2.1 22 = .ok (.lcmp, 1) := by decide +kernel
theorem d_B_findCandidates_23 : decode M_B_findCandidates.2.1 23 = .ok (.ifCond .ge 86, 3) := by decide +kernel
theorem d_B_findCandidates_26 : decode M_B_findCandidates.2.1 26 = .ok (.aload_n 0, 1) := by decide +kernel
theorem d_B_findCandidates_27 : decode M_B_findCandidates.2.1 27 = .ok (.lload 5, 2) := by decide +kernel
theorem d_B_findCandidates_29 : decode M_B_findCandidates.2.1 29 = .ok (.invokevirtual 174, 3) := by decide +kernel
theorem d_B_findCandidates_32 : decode M_B_findCandidates.2.1 32 = .ok (.lload 5, 2) := by decide +kernel
theorem d_B_findCandidates_34 : decode M_B_findCandidates.2.1 34 = .ok (.lcmp, 1) := by decide +kernel
theorem d_B_findCandidates_35 : decode M_B_findCandidates.2.1 35 = .ok (.ifCond .ne 41, 3) := by decide +kernel
theorem d_B_findCandidates_38 : decode M_B_findCandidates.2.1 38 = .ok (.aload_n 0, 1) := by decide +kernel
theorem d_B_findCandidates_39 : decode M_B_findCandidates.2.1 39 = .ok (.aload_n 0, 1) := by decide +kernel
theorem d_B_findCandidates_40 : decode M_B_findCandidates.2.1 40 = .ok (.lload 5, 2) := by decide +kernel
theorem d_B_findCandidates_42 : decode M_B_findCandidates.2.1 42 = .ok (.iload_n 2, 1) := by decide +kernel
theorem d_B_findCandidates_43 : decode M_B_findCandidates.2.1 43 = .ok (.invokevirtual 161, 3) := by decide +kernel
theorem d_B_findCandidates_46 : decode M_B_findCandidates.2.1 46 = .ok (.invokevirtual 174, 3) := by decide +kernel
theorem d_B_findCandidates_49 : decode M_B_findCandidates.2.1 49 = .ok (.lload 5, 2) := by decide +kernel
theorem d_B_findCandidates_51 : decode M_B_findCandidates.2.1 51 = .ok (.lcmp, 1) := by decide +kernel
theorem d_B_findCandidates_52 : decode M_B_findCandidates.2.1 52 = .ok (.ifCond .ne 24, 3) := by decide +kernel
theorem d_B_findCandidates_55 : decode M_B_findCandidates.2.1 55 = .ok (.aload_n 0, 1) := by decide +kernel
theorem d_B_findCandidates_56 : decode M_B_findCandidates.2.1 56 = .ok (.getfield 68, 3) := by decide +kernel
theorem d_B_findCandidates_59 : decode M_B_findCandidates.2.1 59 = .ok (.aload_n 0, 1) := by decide +kernel
theorem d_B_findCandidates_60 : decode M_B_findCandidates.2.1 60 = .ok (.getfield 115, 3) := by decide +kernel
theorem d_B_findCandidates_63 : decode M_B_findCandidates.2.1 63 = .ok (.lload 5, 2) := by decide +kernel
theorem d_B_findCandidates_65 : decode M_B_findCandidates.2.1 65 = .ok (.lastore, 1) := by decide +kernel
theorem d_B_findCandidates_66 : decode M_B_findCandidates.2.1 66 = .ok (.aload_n 0, 1) := by decide +kernel
theorem d_B_findCandidates_67 : decode M_B_findCandidates.2.1 67 = .ok (.dup, 1) := by decide +kernel
theorem d_B_findCandidates_68 : decode M_B_findCandidates.2.1 68 = .ok (.getfield 115, 3) := by decide +kernel
theorem d_B_findCandidates_71 : decode M_B_findCandidates.2.1 71 = .ok (.iconst 1, 1) := by decide +kernel
theorem d_B_findCandidates_72 : decode M_B_findCandidates.2.1 72 = .ok (.iadd, 1) := by decide +kernel
theorem d_B_findCandidates_73 : decode M_B_findCandidates.2.1 73 = .ok (.putfield 115, 3) := by decide +kernel
theorem d_B_findCandidates_76 : decode M_B_findCandidates.2.1 76 = .ok (.lload 5, 2) := by decide +kernel
theorem d_B_findCandidates_78 : decode M_B_findCandidates.2.1 78 = .ok (.lload 5, 2) := by decide +kernel
theorem d_B_findCandidates_80 : decode M_B_findCandidates.2.1 80 = .ok (.lneg, 1) := by decide +kernel
theorem d_B_findCandidates_81 : decode M_B_findCandidates.2.1 81 = .ok (.land, 1) := by decide +kernel
theorem d_B_findCandidates_82 : decode M_B_findCandidates.2.1 82 = .ok (.lstore 7, 2) := by decide +kernel
theorem d_B_findCandidates_84 : decode M_B_findCandidates.2.1 84 = .ok (.lload 5, 2) := by decide +kernel
theorem d_B_findCandidates_86 : decode M_B_findCandidates.2.1 86 = .ok (.lload 7, 2) := by decide +kernel
theorem d_B_findCandidates_88 : decode M_B_findCandidates.2.1 88 = .ok (.ladd, 1) := by decide +kernel
theorem d_B_findCandidates_89 : decode M_B_findCandidates.2.1 89 = .ok (.lstore 9, 2) := by decide +kernel
theorem d_B_findCandidates_91 : decode M_B_findCandidates.2.1 91 = .ok (.lload 9, 2) := by decide +kernel
theorem d_B_findCandidates_93 : decode M_B_findCandidates.2.1 93 = .ok (.lload 5, 2) := by decide +kernel
theorem d_B_findCandidates_95 : decode M_B_findCandidates.2.1 95 = .ok (.lload 9, 2) := by decide +kernel
theorem d_B_findCandidates_97 : decode M_B_findCandidates.2.1 97 = .ok (.lxor, 1) := by decide +kernel
theorem d_B_findCandidates_98 : decode M_B_findCandidates.2.1 98 = .ok (.lload 7, 2) := by decide +kernel
theorem d_B_findCandidates_100 : decode M_B_findCandidates.2.1 100 = .ok (.ldiv, 1) := by decide +kernel
theorem d_B_findCandidates_101 : decode M_B_findCandidates.2.1 101 = .ok (.iconst 2, 1) := by decide +kernel
theorem d_B_findCandidates_102 : decode M_B_findCandidates.2.1 102 = .ok (.lshr, 1) := by decide +kernel
theorem d_B_findCandidates_103 : decode M_B_findCandidates.2.1 103 = .ok (.lor, 1) := by decide +kernel
theorem d_B_findCandidates_104 : decode M_B_findCandidates.2.1 104 = .ok (.lstore 5, 2) := by decide +kernel
theorem d_B_findCandidates_106 : decode M_B_findCandidates.2.1 106 = .ok (.goto (-87), 3) := by decide +kernel
theorem d_B_findCandidates_109 : decode M_B_findCandidates.2.1 109 = .ok (.return_, 1) := by decide +kernel
theorem d_B_greatestCount_0 : decode M_B_greatestCount.2.1 0 = .ok (.aload_n 0, 1) := by decide +kernel
theorem d_B_greatestCount_1 : decode M_B_greatestCount.2.1 1 = .ok (.aload_n 0, 1) := by decide +kernel
theorem d_B_greatestCount_2 : decode M_B_greatestCount.2.1 2 = .ok (.getfield 23, 3) := by decide +kernel
theorem d_B_greatestCount_5 : decode M_B_greatestCount.2.1 5 = .ok (.bipush 6, 2) := by decide +kernel
theorem d_B_greatestCount_7 : decode M_B_greatestCount.2.1 7 = .ok (.invokevirtual 181, 3) := by decide +kernel
theorem d_B_greatestCount_10 : decode M_B_greatestCount.2.1 10 = .ok (.iconst 0, 1) := by decide +kernel
theorem d_B_greatestCount_11 : decode M_B_greatestCount.2.1 11 = .ok (.istore_n 1, 1) := by decide +kernel
theorem d_B_greatestCount_12 : decode M_B_greatestCount.2.1 12 = .ok (.iconst 1, 1) := by decide +kernel
theorem d_B_greatestCount_13 : decode M_B_greatestCount.2.1 13 = .ok (.istore_n 2, 1) := by decide +kernel
theorem d_B_greatestCount_14 : decode M_B_greatestCount.2.1 14 = .ok (.iload_n 2, 1) := by decide +kernel
theorem d_B_greatestCount_15 : decode M_B_greatestCount.2.1 15 = .ok (.aload_n 0, 1) := by decide +kernel
theorem d_B_greatestCount_16 : decode M_B_greatestCount.2.1 16 = .ok (.getfield 16, 3) := by decide +kernel
theorem d_B_greatestCount_19 : decode M_B_greatestCount.2.1 19 = .ok (.if_icmp .ge 30, 3) := by decide +kernel
theorem d_B_greatestCount_22 : decode M_B_greatestCount.2.1 22 = .ok (.aload_n 0, 1) := by decide +kernel
theorem d_B_greatestCount_23 : decode M_B_greatestCount.2.1 23 = .ok (.getfield 50, 3) := by decide +kernel
theorem d_B_greatestCount_26 : decode M_B_greatestCount.2.1 26 = .ok (.iload_n 2, 1) := by decide +kernel
theorem d_B_greatestCount_27 : decode M_B_greatestCount.2.1 27 = .ok (.iaload, 1) := by decide +kernel
theorem d_B_greatestCount_28 : decode M_B_greatestCount.2.1 28 = .ok (.iload_n 1, 1) := by decide +kernel
theorem d_B_greatestCount_29 : decode M_B_greatestCount.2.1 29 = .ok (.if_icmp .le 12, 3) := by decide +kernel
theorem d_B_greatestCount_32 : decode M_B_greatestCount.2.1 32 = .ok (.aload_n 0, 1) := by decide +kernel
theorem d_B_greatestCount_33 : decode M_B_greatestCount.2.1 33 = .ok (.getfield 50, 3) := by decide +kernel
theorem d_B_greatestCount_36 : decode M_B_greatestCount.2.1 36 = .ok (.iload_n 2, 1) := by decide +kernel
theorem d_B_greatestCount_37 : decode M_B_greatestCount.2.1 37 = .ok (.iaload, 1) := by decide +kernel
theorem d_B_greatestCount_38 : decode M_B_greatestCount.2.1 38 = .ok (.goto 4, 3) := by decide +kernel
theorem d_B_greatestCount_41 : decode M_B_greatestCount.2.1 41 = .ok (.iload_n 1, 1) := by decide +kernel
theorem d_B_greatestCount_42 : decode M_B_greatestCount.2.1 42 = .ok (.istore_n 1, 1) := by decide +kernel
theorem d_B_greatestCount_43 : decode M_B_greatestCount.2.1 43 = .ok (.iinc 2 1, 3) := by decide +kernel
theorem d_B_greatestCount_46 : decode M_B_greatestCount.2.1 46 = .ok (.goto (-32), 3) := by decide +kernel
theorem d_B_greatestCount_49 : decode M_B_greatestCount.2.1 49 = .ok (.iload_n 1, 1) := by decide +kernel
theorem d_B_greatestCount_50 : decode M_B_greatestCount.2.1 50 = .ok (.ireturn, 1) := by decide +kernel
theorem d_B_hole_0 : decode M_B_hole.2.1 0 = .ok (.aload_n 0, 1) := by decide +kernel
theorem d_B_hole_1 : decode M_B_hole.2.1 1 = .ok (.getfield 19, 3) := by decide +kernel
theorem d_B_hole_4 : decode M_B_hole.2.1 4 = .ok (.lreturn, 1) := by decide +kernel
theorem d_B_image_0 : decode M_B_image.2.1 0 = .ok (.aload_n 0, 1) := by decide +kernel
theorem d_B_image_1 : decode M_B_image.2.1 1 = .ok (.iload_n 1, 1) := by decide +kernel
theorem d_B_image_2 : decode M_B_image.2.1 2 = .ok (.invokevirtual 127, 3) := by decide +kernel
theorem d_B_image_5 : decode M_B_image.2.1 5 = .ok (.ifCond .eq 31, 3) := by decide +kernel
theorem d_B_image_8 : decode M_B_image.2.1 8 = .ok (.aload_n 0, 1) := by decide +kernel
theorem d_B_image_9 : decode M_B_image.2.1 9 = .ok (.iload_n 2, 1) := by decide +kernel
theorem d_B_image_10 : decode M_B_image.2.1 10 = .ok (.invokevirtual 121, 3) := by decide +kernel
theorem d_B_image_13 : decode M_B_image.2.1 13 = .ok (.ifCond .eq 23, 3) := by decide +kernel
theorem d_B_image_16 : decode M_B_image.2.1 16 = .ok (.aload_n 0, 1) := by decide +kernel
theorem d_B_image_17 : decode M_B_image.2.1 17 = .ok (.aload_n 0, 1) := by decide +kernel
theorem d_B_image_18 : decode M_B_image.2.1 18 = .ok (.getfield 41, 3) := by decide +kernel
theorem d_B_image_21 : decode M_B_image.2.1 21 = .ok (.iload_n 1, 1) := by decide +kernel
theorem d_B_image_22 : decode M_B_image.2.1 22 = .ok (.iaload, 1) := by decide +kernel
theorem d_B_image_23 : decode M_B_image.2.1 23 = .ok (.aload_n 0, 1) := by decide +kernel
theorem d_B_image_24 : decode M_B_image.2.1 24 = .ok (.getfield 44, 3) := by decide +kernel
theorem d_B_image_27 : decode M_B_image.2.1 27 = .ok (.iload_n 1, 1) := by decide +kernel
theorem d_B_image_28 : decode M_B_image.2.1 28 = .ok (.iaload, 1) := by decide +kernel
theorem d_B_image_29 : decode M_B_image.2.1 29 = .ok (.iload_n 2, 1) := by decide +kernel
theorem d_B_image_30 : decode M_B_image.2.1 30 = .ok (.invokevirtual 94, 3) := by decide +kernel
theorem d_B_image_33 : decode M_B_image.2.1 33 = .ok (.goto 4, 3) := by decide +kernel
theorem d_B_image_36 : decode M_B_image.2.1 36 = .ok (.iconst (-1), 1) := by decide +kernel
theorem d_B_image_37 : decode M_B_image.2.1 37 = .ok (.ireturn, 1) := by decide +kernel
theorem d_B_improve_0 : decode M_B_improve.2.1 0 = .ok (.iload_n 1, 1) := by decide +kernel
theorem d_B_improve_1 : decode M_B_improve.2.1 1 = .ok (.i2l, 1) := by decide +kernel
theorem d_B_improve_2 : decode M_B_improve.2.1 2 = .ok (.lconst 1, 1) := by decide +kernel
theorem d_B_improve_3 : decode M_B_improve.2.1 3 = .ok (.ldc2_w 168, 3) := by decide +kernel
theorem d_B_improve_6 : decode M_B_improve.2.1 6 = .ok (.invokestatic 83, 3) := by decide +kernel
theorem d_B_improve_9 : decode M_B_improve.2.1 9 = .ok (.ifCond .ne 5, 3) := by decide +kernel
theorem d_B_improve_12 : decode M_B_improve.2.1 12 = .ok (.iconst (-1), 1) := by decide +kernel
theorem d_B_improve_13 : decode M_B_improve.2.1 13 = .ok (.ireturn, 1) := by decide +kernel
theorem d_B_improve_14 : decode M_B_improve.2.1 14 = .ok (.aload_n 0, 1) := by decide +kernel
theorem d_B_improve_15 : decode M_B_improve.2.1 15 = .ok (.iload_n 1, 1) := by decide +kernel
theorem d_B_improve_16 : decode M_B_improve.2.1 16 = .ok (.invokevirtual 164, 3) := by decide +kernel
theorem d_B_improve_19 : decode M_B_improve.2.1 19 = .ok (.istore_n 2, 1) := by decide +kernel
theorem d_B_improve_20 : decode M_B_improve.2.1 20 = .ok (.iconst (-1), 1) := by decide +kernel
theorem d_B_improve_21 : decode M_B_improve.2.1 21 = .ok (.istore_n 3, 1) := by decide +kernel
theorem d_B_improve_22 : decode M_B_improve.2.1 22 = .ok (.lconst 0, 1) := by decide +kernel
theorem d_B_improve_23 : decode M_B_improve.2.1 23 = .ok (.lstore 4, 2) := by decide +kernel
theorem d_B_improve_25 : decode M_B_improve.2.1 25 = .ok (.iconst 0, 1) := by decide +kernel
theorem d_B_improve_26 : decode M_B_improve.2.1 26 = .ok (.istore 6, 2) := by decide +kernel
theorem d_B_improve_28 : decode M_B_improve.2.1 28 = .ok (.iload 6, 2) := by decide +kernel
theorem d_B_improve_30 : decode M_B_improve.2.1 30 = .ok (.bipush 6, 2) := by decide +kernel
theorem d_B_improve_32 : decode M_B_improve.2.1 32 = .ok (.if_icmp .ge 130, 3) := by decide +kernel
theorem d_B_improve_35 : decode M_B_improve.2.1 35 = .ok (.aload_n 0, 1) := by decide +kernel
theorem d_B_improve_36 : decode M_B_improve.2.1 36 = .ok (.getfield 23, 3) := by decide +kernel
theorem d_B_improve_39 : decode M_B_improve.2.1 39 = .ok (.iload 6, 2) := by decide +kernel
theorem d_B_improve_41 : decode M_B_improve.2.1 41 = .ok (.laload, 1) := by decide +kernel
theorem d_B_improve_42 : decode M_B_improve.2.1 42 = .ok (.lstore 7, 2) := by decide +kernel
theorem d_B_improve_44 : decode M_B_improve.2.1 44 = .ok (.iconst 0, 1) := by decide +kernel
theorem d_B_improve_45 : decode M_B_improve.2.1 45 = .ok (.istore 9, 2) := by decide +kernel
theorem d_B_improve_47 : decode M_B_improve.2.1 47 = .ok (.iload 9, 2) := by decide +kernel
theorem d_B_improve_49 : decode M_B_improve.2.1 49 = .ok (.aload_n 0, 1) := by decide +kernel
theorem d_B_improve_50 : decode M_B_improve.2.1 50 = .ok (.getfield 16, 3) := by decide +kernel
theorem d_B_improve_53 : decode M_B_improve.2.1 53 = .ok (.if_icmp .ge 94, 3) := by decide +kernel
theorem d_B_improve_56 : decode M_B_improve.2.1 56 = .ok (.iconst 0, 1) := by decide +kernel
theorem d_B_improve_57 : decode M_B_improve.2.1 57 = .ok (.istore 10, 2) := by decide +kernel
theorem d_B_improve_59 : decode M_B_improve.2.1 59 = .ok (.iload 10, 2) := by decide +kernel
theorem d_B_improve_61 : decode M_B_improve.2.1 61 = .ok (.aload_n 0, 1) := by decide +kernel
theorem d_B_improve_62 : decode M_B_improve.2.1 62 = .ok (.getfield 16, 3) := by decide +kernel
theorem d_B_improve_65 : decode M_B_improve.2.1 65 = .ok (.if_icmp .ge 76, 3) := by decide +kernel
theorem d_B_improve_68 : decode M_B_improve.2.1 68 = .ok (.lload 7, 2) := by decide +kernel
theorem d_B_improve_70 : decode M_B_improve.2.1 70 = .ok (.iload 9, 2) := by decide +kernel
theorem d_B_improve_72 : decode M_B_improve.2.1 72 = .ok (.invokestatic 134, 3) := by decide +kernel
theorem d_B_improve_75 : decode M_B_improve.2.1 75 = .ok (.ifCond .eq 66, 3) := by decide +kernel
theorem d_B_improve_78 : decode M_B_improve.2.1 78 = .ok (.lload 7, 2) := by decide +kernel
theorem d_B_improve_80 : decode M_B_improve.2.1 80 = .ok (.iload 10, 2) := by decide +kernel
theorem d_B_improve_82 : decode M_B_improve.2.1 82 = .ok (.invokestatic 134, 3) := by decide +kernel
theorem d_B_improve_85 : decode M_B_improve.2.1 85 = .ok (.ifCond .ne 50, 3) := by decide +kernel
theorem d_B_improve_88 : decode M_B_improve.2.1 88 = .ok (.aload_n 0, 1) := by decide +kernel
theorem d_B_improve_89 : decode M_B_improve.2.1 89 = .ok (.getfield 23, 3) := by decide +kernel
theorem d_B_improve_92 : decode M_B_improve.2.1 92 = .ok (.iload 6, 2) := by decide +kernel
theorem d_B_improve_94 : decode M_B_improve.2.1 94 = .ok (.lload 7, 2) := by decide +kernel
theorem d_B_improve_96 : decode M_B_improve.2.1 96 = .ok (.lconst 1, 1) := by decide +kernel
theorem d_B_improve_97 : decode M_B_improve.2.1 97 = .ok (.iload 9, 2) := by decide +kernel
theorem d_B_improve_99 : decode M_B_improve.2.1 99 = .ok (.lshl, 1) := by decide +kernel
theorem d_B_improve_100 : decode M_B_improve.2.1 100 = .ok (.lxor, 1) := by decide +kernel
theorem d_B_improve_101 : decode M_B_improve.2.1 101 = .ok (.lconst 1, 1) := by decide +kernel
theorem d_B_improve_102 : decode M_B_improve.2.1 102 = .ok (.iload 10, 2) := by decide +kernel
theorem d_B_improve_104 : decode M_B_improve.2.1 104 = .ok (.lshl, 1) := by decide +kernel
theorem d_B_improve_105 : decode M_B_improve.2.1 105 = .ok (.lxor, 1) := by decide +kernel
theorem d_B_improve_106 : decode M_B_improve.2.1 106 = .ok (.lastore, 1) := by decide +kernel
theorem d_B_improve_107 : decode M_B_improve.2.1 107 = .ok (.aload_n 0, 1) := by decide +kernel
theorem d_B_improve_108 : decode M_B_improve.2.1 108 = .ok (.iload_n 1, 1) := by decide +kernel
theorem d_B_improve_109 : decode M_B_improve.2.1 109 = .ok (.invokevirtual 164, 3) := by decide +kernel
theorem d_B_improve_112 : decode M_B_improve.2.1 112 = .ok (.istore 11, 2) := by decide +kernel
theorem d_B_improve_114 : decode M_B_improve.2.1 114 = .ok (.iload 11, 2) := by decide +kernel
theorem d_B_improve_116 : decode M_B_improve.2.1 116 = .ok (.iload_n 2, 1) := by decide +kernel
theorem d_B_improve_117 : decode M_B_improve.2.1 117 = .ok (.if_icmp .ge 18, 3) := by decide +kernel
theorem d_B_improve_120 : decode M_B_improve.2.1 120 = .ok (.iload 11, 2) := by decide +kernel
theorem d_B_improve_122 : decode M_B_improve.2.1 122 = .ok (.istore_n 2, 1) := by decide +kernel
theorem d_B_improve_123 : decode M_B_improve.2.1 123 = .ok (.iload 6, 2) := by decide +kernel
theorem d_B_improve_125 : decode M_B_improve.2.1 125 = .ok (.istore_n 3, 1) := by decide +kernel
theorem d_B_improve_126 : decode M_B_improve.2.1 126 = .ok (.aload_n 0, 1) := by decide +kernel
theorem d_B_improve_127 : decode M_B_improve.2.1 127 = .ok (.getfield 23, 3) := by decide +kernel
theorem d_B_improve_130 : decode M_B_improve.2.1 130 = .ok (.iload 6, 2) := by decide +kernel
theorem d_B_improve_132 : decode M_B_improve.2.1 132 = .ok (.laload, 1) := by decide +kernel
theorem d_B_improve_133 : decode M_B_improve.2.1 133 = .ok (.lstore 4, 2) := by decide +kernel
theorem d_B_improve_135 : decode M_B_improve.2.1 135 = .ok (.iinc 10 1, 3) := by decide +kernel
theorem d_B_improve_138 : decode M_B_improve.2.1 138 = .ok (.goto (-79), 3) := by decide +kernel
theorem d_B_improve_141 : decode M_B_improve.2.1 141 = .ok (.iinc 9 1, 3) := by decide +kernel
theorem d_B_improve_144 : decode M_B_improve.2.1 144 = .ok (.goto (-97), 3) := by decide +kernel
theorem d_B_improve_147 : decode M_B_improve.2.1 147 = .ok (.aload_n 0, 1) := by decide +kernel
theorem d_B_improve_148 : decode M_B_improve.2.1 148 = .ok (.getfield 23, 3) := by decide +kernel
theorem d_B_improve_151 : decode M_B_improve.2.1 151 = .ok (.iload 6, 2) := by decide +kernel
theorem d_B_improve_153 : decode M_B_improve.2.1 153 = .ok (.lload 7, 2) := by decide +kernel
theorem d_B_improve_155 : decode M_B_improve.2.1 155 = .ok (.lastore, 1) := by decide +kernel
theorem d_B_improve_156 : decode M_B_improve.2.1 156 = .ok (.iinc 6 1, 3) := by decide +kernel
theorem d_B_improve_159 : decode M_B_improve.2.1 159 = .ok (.goto (-131), 3) := by decide +kernel
theorem d_B_improve_162 : decode M_B_improve.2.1 162 = .ok (.iload_n 3, 1) := by decide +kernel
theorem d_B_improve_163 : decode M_B_improve.2.1 163 = .ok (.ifCond .ge 6, 3) := by decide +kernel
theorem d_B_improve_166 : decode M_B_improve.2.1 166 = .ok (.bipush (-4), 2) := by decide +kernel
theorem d_B_improve_168 : decode M_B_improve.2.1 168 = .ok (.ireturn, 1) := by decide +kernel
theorem d_B_improve_169 : decode M_B_improve.2.1 169 = .ok (.aload_n 0, 1) := by decide +kernel
theorem d_B_improve_170 : decode M_B_improve.2.1 170 = .ok (.iload_n 3, 1) := by decide +kernel
theorem d_B_improve_171 : decode M_B_improve.2.1 171 = .ok (.lload 4, 2) := by decide +kernel
theorem d_B_improve_173 : decode M_B_improve.2.1 173 = .ok (.invokevirtual 150, 3) := by decide +kernel
theorem d_B_improve_176 : decode M_B_improve.2.1 176 = .ok (.istore 6, 2) := by decide +kernel
theorem d_B_improve_178 : decode M_B_improve.2.1 178 = .ok (.iload_n 2, 1) := by decide +kernel
theorem d_B_improve_179 : decode M_B_improve.2.1 179 = .ok (.ireturn, 1) := by decide +kernel
theorem d_B_indexOfCounts_0 : decode M_B_indexOfCounts.2.1 0 = .ok (.iconst 0, 1) := by decide +kernel
theorem d_B_indexOfCounts_1 : decode M_B_indexOfCounts.2.1 1 = .ok (.istore_n 1, 1) := by decide +kernel
theorem d_B_indexOfCounts_2 : decode M_B_indexOfCounts.2.1 2 = .ok (.iconst 1, 1) := by decide +kernel
theorem d_B_indexOfCounts_3 : decode M_B_indexOfCounts.2.1 3 = .ok (.istore_n 2, 1) := by decide +kernel
theorem d_B_indexOfCounts_4 : decode M_B_indexOfCounts.2.1 4 = .ok (.iconst 1, 1) := by decide +kernel
theorem d_B_indexOfCounts_5 : decode M_B_indexOfCounts.2.1 5 = .ok (.istore_n 3, 1) := by decide +kernel
theorem d_B_indexOfCounts_6 : decode M_B_indexOfCounts.2.1 6 = .ok (.iload_n 3, 1) := by decide +kernel
theorem d_B_indexOfCounts_7 : decode M_B_indexOfCounts.2.1 7 = .ok (.aload_n 0, 1) := by decide +kernel
theorem d_B_indexOfCounts_8 : decode M_B_indexOfCounts.2.1 8 = .ok (.getfield 16, 3) := by decide +kernel
theorem d_B_indexOfCounts_11 : decode M_B_indexOfCounts.2.1 11 = .ok (.if_icmp .ge 82, 3) := by decide +kernel
theorem d_B_indexOfCounts_14 : decode M_B_indexOfCounts.2.1 14 = .ok (.aload_n 0, 1) := by decide +kernel
theorem d_B_indexOfCounts_15 : decode M_B_indexOfCounts.2.1 15 = .ok (.getfield 19, 3) := by decide +kernel
theorem d_B_indexOfCounts_18 : decode M_B_indexOfCounts.2.1 18 = .ok (.iload_n 3, 1) := by decide +kernel
theorem d_B_indexOfCounts_19 : decode M_B_indexOfCounts.2.1 19 = .ok (.invokestatic 134, 3) := by decide +kernel
theorem d_B_indexOfCounts_22 : decode M_B_indexOfCounts.2.1 22 = .ok (.ifCond .eq 25, 3) := by decide +kernel
theorem d_B_indexOfCounts_25 : decode M_B_indexOfCounts.2.1 25 = .ok (.iload_n 2, 1) := by decide +kernel
theorem d_B_indexOfCounts_26 : decode M_B_indexOfCounts.2.1 26 = .ok (.ifCond .eq 16, 3) := by decide +kernel
theorem d_B_indexOfCounts_29 : decode M_B_indexOfCounts.2.1 29 = .ok (.aload_n 0, 1) := by decide +kernel
theorem d_B_indexOfCounts_30 : decode M_B_indexOfCounts.2.1 30 = .ok (.getfield 50, 3) := by decide +kernel
theorem d_B_indexOfCounts_33 : decode M_B_indexOfCounts.2.1 33 = .ok (.iload_n 3, 1) := by decide +kernel
theorem d_B_indexOfCounts_34 : decode M_B_indexOfCounts.2.1 34 = .ok (.iaload, 1) := by decide +kernel
theorem d_B_indexOfCounts_35 : decode M_B_indexOfCounts.2.1 35 = .ok (.ifCond .ne 7, 3) := by decide +kernel
theorem d_B_indexOfCounts_38 : decode M_B_indexOfCounts.2.1 38 = .ok (.iconst 1, 1) := by decide +kernel
theorem d_B_indexOfCounts_39 : decode M_B_indexOfCounts.2.1 39 = .ok (.goto 4, 3) := by decide +kernel
theorem d_B_indexOfCounts_42 : decode M_B_indexOfCounts.2.1 42 = .ok (.iconst 0, 1) := by decide +kernel
theorem d_B_indexOfCounts_43 : decode M_B_indexOfCounts.2.1 43 = .ok (.istore_n 2, 1) := by decide +kernel
theorem d_B_indexOfCounts_44 : decode M_B_indexOfCounts.2.1 44 = .ok (.goto 43, 3) := by decide +kernel
theorem d_B_indexOfCounts_47 : decode M_B_indexOfCounts.2.1 47 = .ok (.iload_n 2, 1) := by decide +kernel
theorem d_B_indexOfCounts_48 : decode M_B_indexOfCounts.2.1 48 = .ok (.ifCond .eq 30, 3) := by decide +kernel
theorem d_B_indexOfCounts_51 : decode M_B_indexOfCounts.2.1 51 = .ok (.aload_n 0, 1) := by decide +kernel
theorem d_B_indexOfCounts_52 : decode M_B_indexOfCounts.2.1 52 = .ok (.getfield 50, 3) := by decide +kernel
theorem d_B_indexOfCounts_55 : decode M_B_indexOfCounts.2.1 55 = .ok (.iload_n 3, 1) := by decide +kernel
theorem d_B_indexOfCounts_56 : decode M_B_indexOfCounts.2.1 56 = .ok (.iaload, 1) := by decide +kernel
theorem d_B_indexOfCounts_57 : decode M_B_indexOfCounts.2.1 57 = .ok (.ifCond .le 21, 3) := by decide +kernel
theorem d_B_indexOfCounts_60 : decode M_B_indexOfCounts.2.1 60 = .ok (.iload_n 1, 1) := by decide +kernel
theorem d_B_indexOfCounts_61 : decode M_B_indexOfCounts.2.1 61 = .ok (.ifCond .eq 13, 3) := by decide +kernel
theorem d_B_indexOfCounts_64 : decode M_B_indexOfCounts.2.1 64 = .ok (.aload_n 0, 1) := by decide +kernel
theorem d_B_indexOfCounts_65 : decode M_B_indexOfCounts.2.1 65 = .ok (.getfield 50, 3) := by decide +kernel
theorem d_B_indexOfCounts_68 : decode M_B_indexOfCounts.2.1 68 = .ok (.iload_n 3, 1) := by decide +kernel
theorem d_B_indexOfCounts_69 : decode M_B_indexOfCounts.2.1 69 = .ok (.iaload, 1) := by decide +kernel
theorem d_B_indexOfCounts_70 : decode M_B_indexOfCounts.2.1 70 = .ok (.iload_n 1, 1) := by decide +kernel
theorem d_B_indexOfCounts_71 : decode M_B_indexOfCounts.2.1 71 = .ok (.if_icmp .ne 7, 3) := by decide +kernel
theorem d_B_indexOfCounts_74 : decode M_B_indexOfCounts.2.1 74 = .ok (.iconst 1, 1) := by decide +kernel
theorem d_B_indexOfCounts_75 : decode M_B_indexOfCounts.2.1 75 = .ok (.goto 4, 3) := by decide +kernel
theorem d_B_indexOfCounts_78 : decode M_B_indexOfCounts.2.1 78 = .ok (.iconst 0, 1) := by decide +kernel
theorem d_B_indexOfCounts_79 : decode M_B_indexOfCounts.2.1 79 = .ok (.istore_n 2, 1) := by decide +kernel
theorem d_B_indexOfCounts_80 : decode M_B_indexOfCounts.2.1 80 = .ok (.aload_n 0, 1) := by decide +kernel
theorem d_B_indexOfCounts_81 : decode M_B_indexOfCounts.2.1 81 = .ok (.getfield 50, 3) := by decide +kernel
theorem d_B_indexOfCounts_84 : decode M_B_indexOfCounts.2.1 84 = .ok (.iload_n 3, 1) := by decide +kernel
theorem d_B_indexOfCounts_85 : decode M_B_indexOfCounts.2.1 85 = .ok (.iaload, 1) := by decide +kernel
theorem d_B_indexOfCounts_86 : decode M_B_indexOfCounts.2.1 86 = .ok (.istore_n 1, 1) := by decide +kernel
theorem d_B_indexOfCounts_87 : decode M_B_indexOfCounts.2.1 87 = .ok (.iinc 3 1, 3) := by decide +kernel
theorem d_B_indexOfCounts_90 : decode M_B_indexOfCounts.2.1 90 = .ok (.goto (-84), 3) := by decide +kernel
theorem d_B_indexOfCounts_93 : decode M_B_indexOfCounts.2.1 93 = .ok (.iload_n 2, 1) := by decide +kernel
theorem d_B_indexOfCounts_94 : decode M_B_indexOfCounts.2.1 94 = .ok (.ifCond .eq 7, 3) := by decide +kernel
theorem d_B_indexOfCounts_97 : decode M_B_indexOfCounts.2.1 97 = .ok (.iload_n 1, 1) := by decide +kernel
theorem d_B_indexOfCounts_98 : decode M_B_indexOfCounts.2.1 98 = .ok (.goto 4, 3) := by decide +kernel
theorem d_B_indexOfCounts_101 : decode M_B_indexOfCounts.2.1 101 = .ok (.iconst 0, 1) := by decide +kernel
theorem d_B_indexOfCounts_102 : decode M_B_indexOfCounts.2.1 102 = .ok (.ireturn, 1) := by decide +kernel
theorem d_B_index_0 : decode M_B_index.2.1 0 = .ok (.aload_n 0, 1) := by decide +kernel
theorem d_B_index_1 : decode M_B_index.2.1 1 = .ok (.aload_n 0, 1) := by decide +kernel
theorem d_B_index_2 : decode M_B_index.2.1 2 = .ok (.getfield 23, 3) := by decide +kernel
theorem d_B_index_5 : decode M_B_index.2.1 5 = .ok (.bipush 6, 2) := by decide +kernel
theorem d_B_index_7 : decode M_B_index.2.1 7 = .ok (.invokevirtual 181, 3) := by decide +kernel
theorem d_B_index_10 : decode M_B_index.2.1 10 = .ok (.aload_n 0, 1) := by decide +kernel
theorem d_B_index_11 : decode M_B_index.2.1 11 = .ok (.invokevirtual 184, 3) := by decide +kernel
theorem d_B_index_14 : decode M_B_index.2.1 14 = .ok (.istore_n 1, 1) := by decide +kernel
theorem d_B_index_15 : decode M_B_index.2.1 15 = .ok (.iload_n 1, 1) := by decide +kernel
theorem d_B_index_16 : decode M_B_index.2.1 16 = .ok (.ifCond .ne 8, 3) := by decide +kernel
theorem d_B_index_19 : decode M_B_index.2.1 19 = .ok (.bipush (-4), 2) := by decide +kernel
theorem d_B_index_21 : decode M_B_index.2.1 21 = .ok (.goto 4, 3) := by decide +kernel
theorem d_B_index_24 : decode M_B_index.2.1 24 = .ok (.iload_n 1, 1) := by decide +kernel
theorem d_B_index_25 : decode M_B_index.2.1 25 = .ok (.ireturn, 1) := by decide +kernel
theorem d_B_init_0 : decode M_B_init.2.1 0 = .ok (.aload_n 0, 1) := by decide +kernel
theorem d_B_init_1 : decode M_B_init.2.1 1 = .ok (.invokespecial 1, 3) := by decide +kernel
theorem d_B_init_4 : decode M_B_init.2.1 4 = .ok (.aload_n 0, 1) := by decide +kernel
theorem d_B_init_5 : decode M_B_init.2.1 5 = .ok (.bipush 7, 2) := by decide +kernel
theorem d_B_init_7 : decode M_B_init.2.1 7 = .ok (.putfield 7, 3) := by decide +kernel
theorem d_B_init_10 : decode M_B_init.2.1 10 = .ok (.aload_n 0, 1) := by decide +kernel
theorem d_B_init_11 : decode M_B_init.2.1 11 = .ok (.iconst 1, 1) := by decide +kernel
theorem d_B_init_12 : decode M_B_init.2.1 12 = .ok (.putfield 13, 3) := by decide +kernel
theorem d_B_init_15 : decode M_B_init.2.1 15 = .ok (.aload_n 0, 1) := by decide +kernel
theorem d_B_init_16 : decode M_B_init.2.1 16 = .ok (.bipush 7, 2) := by decide +kernel
theorem d_B_init_18 : decode M_B_init.2.1 18 = .ok (.putfield 16, 3) := by decide +kernel
theorem d_B_init_21 : decode M_B_init.2.1 21 = .ok (.aload_n 0, 1) := by decide +kernel
theorem d_B_init_22 : decode M_B_init.2.1 22 = .ok (.lconst 1, 1) := by decide +kernel
theorem d_B_init_23 : decode M_B_init.2.1 23 = .ok (.putfield 19, 3) := by decide +kernel
theorem d_B_init_26 : decode M_B_init.2.1 26 = .ok (.aload_n 0, 1) := by decide +kernel
theorem d_B_init_27 : decode M_B_init.2.1 27 = .ok (.bipush 6, 2) := by decide +kernel
theorem d_B_init_29 : decode M_B_init.2.1 29 = .ok (.newarray .long, 2) := by decide +kernel
theorem d_B_init_31 : decode M_B_init.2.1 31 = .ok (.putfield 23, 3) := by decide +kernel
theorem d_B_init_34 : decode M_B_init.2.1 34 = .ok (.aload_n 0, 1) := by decide +kernel
theorem d_B_init_35 : decode M_B_init.2.1 35 = .ok (.bipush 30, 2) := by decide +kernel
theorem d_B_init_37 : decode M_B_init.2.1 37 = .ok (.newarray .long, 2) := by decide +kernel
theorem d_B_init_39 : decode M_B_init.2.1 39 = .ok (.putfield 27, 3) := by decide +kernel
theorem d_B_init_42 : decode M_B_init.2.1 42 = .ok (.aload_n 0, 1) := by decide +kernel
theorem d_B_init_43 : decode M_B_init.2.1 43 = .ok (.bipush 14, 2) := by decide +kernel
theorem d_B_init_45 : decode M_B_init.2.1 45 = .ok (.newarray .long, 2) := by decide +kernel
theorem d_B_init_47 : decode M_B_init.2.1 47 = .ok (.putfield 30, 3) := by decide +kernel
theorem d_B_init_50 : decode M_B_init.2.1 50 = .ok (.aload_n 0, 1) := by decide +kernel
theorem d_B_init_51 : decode M_B_init.2.1 51 = .ok (.iconst 2, 1) := by decide +kernel
theorem d_B_init_52 : decode M_B_init.2.1 52 = .ok (.newarray .boolean, 2) := by decide +kernel
theorem d_B_init_54 : decode M_B_init.2.1 54 = .ok (.putfield 33, 3) := by decide +kernel
theorem d_B_init_57 : decode M_B_init.2.1 57 = .ok (.aload_n 0, 1) := by decide +kernel
theorem d_B_init_58 : decode M_B_init.2.1 58 = .ok (.sipush 160, 3) := by decide +kernel
theorem d_B_init_61 : decode M_B_init.2.1 61 = .ok (.newarray .int, 2) := by decide +kernel
theorem d_B_init_63 : decode M_B_init.2.1 63 = .ok (.putfield 37, 3) := by decide +kernel
theorem d_B_init_66 : decode M_B_init.2.1 66 = .ok (.aload_n 0, 1) := by decide +kernel
theorem d_B_init_67 : decode M_B_init.2.1 67 = .ok (.sipush 500, 3) := by decide +kernel
theorem d_B_init_70 : decode M_B_init.2.1 70 = .ok (.newarray .int, 2) := by decide +kernel
theorem d_B_init_72 : decode M_B_init.2.1 72 = .ok (.putfield 41, 3) := by decide +kernel
theorem d_B_init_75 : decode M_B_init.2.1 75 = .ok (.aload_n 0, 1) := by decide +kernel
theorem d_B_init_76 : decode M_B_init.2.1 76 = .ok (.sipush 500, 3) := by decide +kernel
theorem d_B_init_79 : decode M_B_init.2.1 79 = .ok (.newarray .int, 2) := by decide +kernel
theorem d_B_init_81 : decode M_B_init.2.1 81 = .ok (.putfield 44, 3) := by decide +kernel
theorem d_B_init_84 : decode M_B_init.2.1 84 = .ok (.aload_n 0, 1) := by decide +kernel
theorem d_B_init_85 : decode M_B_init.2.1 85 = .ok (.iconst 4, 1) := by decide +kernel
theorem d_B_init_86 : decode M_B_init.2.1 86 = .ok (.newarray .long, 2) := by decide +kernel
theorem d_B_init_88 : decode M_B_init.2.1 88 = .ok (.putfield 47, 3) := by decide +kernel
theorem d_B_init_91 : decode M_B_init.2.1 91 = .ok (.aload_n 0, 1) := by decide +kernel
theorem d_B_init_92 : decode M_B_init.2.1 92 = .ok (.bipush 40, 2) := by decide +kernel
theorem d_B_init_94 : decode M_B_init.2.1 94 = .ok (.newarray .int, 2) := by decide +kernel
theorem d_B_init_96 : decode M_B_init.2.1 96 = .ok (.putfield 50, 3) := by decide +kernel
theorem d_B_init_99 : decode M_B_init.2.1 99 = .ok (.aload_n 0, 1) := by decide +kernel
theorem d_B_init_100 : decode M_B_init.2.1 100 = .ok (.bipush 6, 2) := by decide +kernel
theorem d_B_init_102 : decode M_B_init.2.1 102 = .ok (.newarray .long, 2) := by decide +kernel
theorem d_B_init_104 : decode M_B_init.2.1 104 = .ok (.putfield 53, 3) := by decide +kernel
theorem d_B_init_107 : decode M_B_init.2.1 107 = .ok (.aload_n 0, 1) := by decide +kernel
theorem d_B_init_108 : decode M_B_init.2.1 108 = .ok (.bipush 6, 2) := by decide +kernel
theorem d_B_init_110 : decode M_B_init.2.1 110 = .ok (.newarray .long, 2) := by decide +kernel
theorem d_B_init_112 : decode M_B_init.2.1 112 = .ok (.putfield 56, 3) := by decide +kernel
theorem d_B_init_115 : decode M_B_init.2.1 115 = .ok (.aload_n 0, 1) := by decide +kernel
theorem d_B_init_116 : decode M_B_init.2.1 116 = .ok (.bipush 6, 2) := by decide +kernel
theorem d_B_init_118 : decode M_B_init.2.1 118 = .ok (.newarray .long, 2) := by decide +kernel
theorem d_B_init_120 : decode M_B_init.2.1 120 = .ok (.putfield 59, 3) := by decide +kernel
theorem d_B_init_123 : decode M_B_init.2.1 123 = .ok (.aload_n 0, 1) := by decide +kernel
theorem d_B_init_124 : decode M_B_init.2.1 124 = .ok (.sipush 240, 3) := by decide +kernel
theorem d_B_init_127 : decode M_B_init.2.1 127 = .ok (.newarray .long, 2) := by decide +kernel
theorem d_B_init_129 : decode M_B_init.2.1 129 = .ok (.putfield 62, 3) := by decide +kernel
theorem d_B_init_132 : decode M_B_init.2.1 132 = .ok (.aload_n 0, 1) := by decide +kernel
theorem d_B_init_133 : decode M_B_init.2.1 133 = .ok (.sipush 9600, 3) := by decide +kernel
theorem d_B_init_136 : decode M_B_init.2.1 136 = .ok (.newarray .int, 2) := by decide +kernel
theorem d_B_init_138 : decode M_B_init.2.1 138 = .ok (.putfield 65, 3) := by decide +kernel
theorem d_B_init_141 : decode M_B_init.2.1 141 = .ok (.aload_n 0, 1) := by decide +kernel
theorem d_B_init_142 : decode M_B_init.2.1 142 = .ok (.sipush 3000, 3) := by decide +kernel
theorem d_B_init_145 : decode M_B_init.2.1 145 = .ok (.newarray .long, 2) := by decide +kernel
theorem d_B_init_147 : decode M_B_init.2.1 147 = .ok (.putfield 68, 3) := by decide +kernel
theorem d_B_init_150 : decode M_B_init.2.1 150 = .ok (.aload_n 0, 1) := by decide +kernel
theorem d_B_init_151 : decode M_B_init.2.1 151 = .ok (.iconst 4, 1) := by decide +kernel
theorem d_B_init_152 : decode M_B_init.2.1 152 = .ok (.newarray .long, 2) := by decide +kernel
theorem d_B_init_154 : decode M_B_init.2.1 154 = .ok (.putfield 71, 3) := by decide +kernel
theorem d_B_init_157 : decode M_B_init.2.1 157 = .ok (.aload_n 0, 1) := by decide +kernel
theorem d_B_init_158 : decode M_B_init.2.1 158 = .ok (.iconst 5, 1) := by decide +kernel
theorem d_B_init_159 : decode M_B_init.2.1 159 = .ok (.newarray .int, 2) := by decide +kernel
theorem d_B_init_161 : decode M_B_init.2.1 161 = .ok (.putfield 74, 3) := by decide +kernel
theorem d_B_init_164 : decode M_B_init.2.1 164 = .ok (.aload_n 0, 1) := by decide +kernel
theorem d_B_init_165 : decode M_B_init.2.1 165 = .ok (.bipush 6, 2) := by decide +kernel
theorem d_B_init_167 : decode M_B_init.2.1 167 = .ok (.newarray .long, 2) := by decide +kernel
theorem d_B_init_169 : decode M_B_init.2.1 169 = .ok (.putfield 77, 3) := by decide +kernel
theorem d_B_init_172 : decode M_B_init.2.1 172 = .ok (.aload_n 0, 1) := by decide +kernel
theorem d_B_init_173 : decode M_B_init.2.1 173 = .ok (.invokevirtual 80, 3) := by decide +kernel
theorem d_B_init_176 : decode M_B_init.2.1 176 = .ok (.return_, 1) := by decide +kernel
theorem d_B_intersections_0 : decode M_B_intersections.2.1 0 = .ok (.iload_n 1, 1) := by decide +kernel
theorem d_B_intersections_1 : decode M_B_intersections.2.1 1 = .ok (.i2l, 1) := by decide +kernel
theorem d_B_intersections_2 : decode M_B_intersections.2.1 2 = .ok (.lconst 0, 1) := by decide +kernel
theorem d_B_intersections_3 : decode M_B_intersections.2.1 3 = .ok (.ldc2_w 107, 3) := by decide +kernel
theorem d_B_intersections_6 : decode M_B_intersections.2.1 6 = .ok (.invokestatic 83, 3) := by decide +kernel
theorem d_B_intersections_9 : decode M_B_intersections.2.1 9 = .ok (.ifCond .ne 5, 3) := by decide +kernel
theorem d_B_intersections_12 : decode M_B_intersections.2.1 12 = .ok (.iconst (-1), 1) := by decide +kernel
theorem d_B_intersections_13 : decode M_B_intersections.2.1 13 = .ok (.ireturn, 1) := by decide +kernel
theorem d_B_intersections_14 : decode M_B_intersections.2.1 14 = .ok (.aload_n 0, 1) := by decide +kernel
theorem d_B_intersections_15 : decode M_B_intersections.2.1 15 = .ok (.invokevirtual 212, 3) := by decide +kernel
theorem d_B_intersections_18 : decode M_B_intersections.2.1 18 = .ok (.iconst 0, 1) := by decide +kernel
theorem d_B_intersections_19 : decode M_B_intersections.2.1 19 = .ok (.istore_n 2, 1) := by decide +kernel
theorem d_B_intersections_20 : decode M_B_intersections.2.1 20 = .ok (.iconst 1, 1) := by decide +kernel
theorem d_B_intersections_21 : decode M_B_intersections.2.1 21 = .ok (.istore_n 3, 1) := by decide +kernel
theorem d_B_intersections_22 : decode M_B_intersections.2.1 22 = .ok (.iload_n 3, 1) := by decide +kernel
theorem d_B_intersections_23 : decode M_B_intersections.2.1 23 = .ok (.aload_n 0, 1) := by decide +kernel
theorem d_B_intersections_24 : decode M_B_intersections.2.1 24 = .ok (.getfield 209, 3) := by decide +kernel
theorem d_B_intersections_27 : decode M_B_intersections.2.1 27 = .ok (.if_icmp .ge 53, 3) := by decide +kernel
theorem d_B_intersections_30 : decode M_B_intersections.2.1 30 = .ok (.iconst 0, 1) := by decide +kernel
theorem d_B_intersections_31 : decode M_B_intersections.2.1 31 = .ok (.istore 4, 2) := by decide +kernel
theorem d_B_intersections_33 : decode M_B_intersections.2.1 33 = .ok (.iload 4, 2) := by decide +kernel
theorem d_B_intersections_35 : decode M_B_intersections.2.1 35 = .ok (.iload_n 3, 1) := by decide +kernel
theorem d_B_intersections_36 : decode M_B_intersections.2.1 36 = .ok (.if_icmp .ge 38, 3) := by decide +kernel
theorem d_B_intersections_39 : decode M_B_intersections.2.1 39 = .ok (.iload_n 2, 1) := by decide +kernel
theorem d_B_intersections_40 : decode M_B_intersections.2.1 40 = .ok (.aload_n 0, 1) := by decide +kernel
theorem d_B_intersections_41 : decode M_B_intersections.2.1 41 = .ok (.getfield 62, 3) := by decide +kernel
theorem d_B_intersections_44 : decode M_B_intersections.2.1 44 = .ok (.iload_n 3, 1) := by decide +kernel
theorem d_B_intersections_45 : decode M_B_intersections.2.1 45 = .ok (.laload, 1) := by decide +kernel
theorem d_B_intersections_46 : decode M_B_intersections.2.1 46 = .ok (.aload_n 0, 1) := by decide +kernel
theorem d_B_intersections_47 : decode M_B_intersections.2.1 47 = .ok (.getfield 62, 3) := by decide +kernel
theorem d_B_intersections_50 : decode M_B_intersections.2.1 50 = .ok (.iload 4, 2) := by decide +kernel
theorem d_B_intersections_52 : decode M_B_intersections.2.1 52 = .ok (.laload, 1) := by decide +kernel
theorem d_B_intersections_53 : decode M_B_intersections.2.1 53 = .ok (.land, 1) := by decide +kernel
theorem d_B_intersections_54 : decode M_B_intersections.2.1 54 = .ok (.invokestatic 130, 3) := by decide +kernel
theorem d_B_intersections_57 : decode M_B_intersections.2.1 57 = .ok (.iload_n 1, 1) := by decide +kernel
theorem d_B_intersections_58 : decode M_B_intersections.2.1 58 = .ok (.if_icmp .ne 7, 3) := by decide +kernel
theorem d_B_intersections_61 : decode M_B_intersections.2.1 61 = .ok (.iconst 1, 1) := by decide +kernel
theorem d_B_intersections_62 : decode M_B_intersections.2.1 62 = .ok (.goto 4, 3) := by decide +kernel
theorem d_B_intersections_65 : decode M_B_intersections.2.1 65 = .ok (.iconst 0, 1) := by decide +kernel
theorem d_B_intersections_66 : decode M_B_intersections.2.1 66 = .ok (.iadd, 1) := by decide +kernel
theorem d_B_intersections_67 : decode M_B_intersections.2.1 67 = .ok (.istore_n 2, 1) := by decide +kernel
theorem d_B_intersections_68 : decode M_B_intersections.2.1 68 = .ok (.iinc 4 1, 3) := by decide +kernel
theorem d_B_intersections_71 : decode M_B_intersections.2.1 71 = .ok (.goto (-38), 3) := by decide +kernel
theorem d_B_intersections_74 : decode M_B_intersections.2.1 74 = .ok (.iinc 3 1, 3) := by decide +kernel
theorem d_B_intersections_77 : decode M_B_intersections.2.1 77 = .ok (.goto (-55), 3) := by decide +kernel
theorem d_B_intersections_80 : decode M_B_intersections.2.1 80 = .ok (.iload_n 2, 1) := by decide +kernel
theorem d_B_intersections_81 : decode M_B_intersections.2.1 81 = .ok (.ireturn, 1) := by decide +kernel
