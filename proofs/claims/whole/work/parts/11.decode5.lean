theorem d_B_isEquivalent_0 : decode M_B_isEquivalent.2.1 0 = .ok (.iload_n 1, 1) := by decide +kernel
theorem d_B_isEquivalent_1 : decode M_B_isEquivalent.2.1 1 = .ok (.i2l, 1) := by decide +kernel
theorem d_B_isEquivalent_2 : decode M_B_isEquivalent.2.1 2 = .ok (.lconst 0, 1) := by decide +kernel
theorem d_B_isEquivalent_3 : decode M_B_isEquivalent.2.1 3 = .ok (.lconst 1, 1) := by decide +kernel
theorem d_B_isEquivalent_4 : decode M_B_isEquivalent.2.1 4 = .ok (.invokestatic 83, 3) := by decide +kernel
theorem d_B_isEquivalent_7 : decode M_B_isEquivalent.2.1 7 = .ok (.ifCond .ne 5, 3) := by decide +kernel
theorem d_B_isEquivalent_10 : decode M_B_isEquivalent.2.1 10 = .ok (.iconst (-1), 1) := by decide +kernel
theorem d_B_isEquivalent_11 : decode M_B_isEquivalent.2.1 11 = .ok (.ireturn, 1) := by decide +kernel
theorem d_B_isEquivalent_12 : decode M_B_isEquivalent.2.1 12 = .ok (.aload_n 0, 1) := by decide +kernel
theorem d_B_isEquivalent_13 : decode M_B_isEquivalent.2.1 13 = .ok (.getfield 33, 3) := by decide +kernel
theorem d_B_isEquivalent_16 : decode M_B_isEquivalent.2.1 16 = .ok (.iload_n 1, 1) := by decide +kernel
theorem d_B_isEquivalent_17 : decode M_B_isEquivalent.2.1 17 = .ok (.baload, 1) := by decide +kernel
theorem d_B_isEquivalent_18 : decode M_B_isEquivalent.2.1 18 = .ok (.ifCond .ne 6, 3) := by decide +kernel
theorem d_B_isEquivalent_21 : decode M_B_isEquivalent.2.1 21 = .ok (.bipush (-3), 2) := by decide +kernel
theorem d_B_isEquivalent_23 : decode M_B_isEquivalent.2.1 23 = .ok (.ireturn, 1) := by decide +kernel
theorem d_B_isEquivalent_24 : decode M_B_isEquivalent.2.1 24 = .ok (.aload_n 0, 1) := by decide +kernel
theorem d_B_isEquivalent_25 : decode M_B_isEquivalent.2.1 25 = .ok (.aload_n 0, 1) := by decide +kernel
theorem d_B_isEquivalent_26 : decode M_B_isEquivalent.2.1 26 = .ok (.getfield 23, 3) := by decide +kernel
theorem d_B_isEquivalent_29 : decode M_B_isEquivalent.2.1 29 = .ok (.iconst 0, 1) := by decide +kernel
theorem d_B_isEquivalent_30 : decode M_B_isEquivalent.2.1 30 = .ok (.aload_n 0, 1) := by decide +kernel
theorem d_B_isEquivalent_31 : decode M_B_isEquivalent.2.1 31 = .ok (.getfield 59, 3) := by decide +kernel
theorem d_B_isEquivalent_34 : decode M_B_isEquivalent.2.1 34 = .ok (.invokevirtual 205, 3) := by decide +kernel
theorem d_B_isEquivalent_37 : decode M_B_isEquivalent.2.1 37 = .ok (.aload_n 0, 1) := by decide +kernel
theorem d_B_isEquivalent_38 : decode M_B_isEquivalent.2.1 38 = .ok (.getfield 188, 3) := by decide +kernel
theorem d_B_isEquivalent_41 : decode M_B_isEquivalent.2.1 41 = .ok (.istore_n 2, 1) := by decide +kernel
theorem d_B_isEquivalent_42 : decode M_B_isEquivalent.2.1 42 = .ok (.aload_n 0, 1) := by decide +kernel
theorem d_B_isEquivalent_43 : decode M_B_isEquivalent.2.1 43 = .ok (.aload_n 0, 1) := by decide +kernel
theorem d_B_isEquivalent_44 : decode M_B_isEquivalent.2.1 44 = .ok (.getfield 30, 3) := by decide +kernel
theorem d_B_isEquivalent_47 : decode M_B_isEquivalent.2.1 47 = .ok (.bipush 7, 2) := by decide +kernel
theorem d_B_isEquivalent_49 : decode M_B_isEquivalent.2.1 49 = .ok (.iload_n 1, 1) := by decide +kernel
theorem d_B_isEquivalent_50 : decode M_B_isEquivalent.2.1 50 = .ok (.imul, 1) := by decide +kernel
theorem d_B_isEquivalent_51 : decode M_B_isEquivalent.2.1 51 = .ok (.aload_n 0, 1) := by decide +kernel
theorem d_B_isEquivalent_52 : decode M_B_isEquivalent.2.1 52 = .ok (.getfield 56, 3) := by decide +kernel
theorem d_B_isEquivalent_55 : decode M_B_isEquivalent.2.1 55 = .ok (.invokevirtual 205, 3) := by decide +kernel
theorem d_B_isEquivalent_58 : decode M_B_isEquivalent.2.1 58 = .ok (.iload_n 2, 1) := by decide +kernel
theorem d_B_isEquivalent_59 : decode M_B_isEquivalent.2.1 59 = .ok (.aload_n 0, 1) := by decide +kernel
theorem d_B_isEquivalent_60 : decode M_B_isEquivalent.2.1 60 = .ok (.getfield 188, 3) := by decide +kernel
theorem d_B_isEquivalent_63 : decode M_B_isEquivalent.2.1 63 = .ok (.if_icmp .ne 22, 3) := by decide +kernel
theorem d_B_isEquivalent_66 : decode M_B_isEquivalent.2.1 66 = .ok (.aload_n 0, 1) := by decide +kernel
theorem d_B_isEquivalent_67 : decode M_B_isEquivalent.2.1 67 = .ok (.aload_n 0, 1) := by decide +kernel
theorem d_B_isEquivalent_68 : decode M_B_isEquivalent.2.1 68 = .ok (.getfield 59, 3) := by decide +kernel
theorem d_B_isEquivalent_71 : decode M_B_isEquivalent.2.1 71 = .ok (.aload_n 0, 1) := by decide +kernel
theorem d_B_isEquivalent_72 : decode M_B_isEquivalent.2.1 72 = .ok (.getfield 56, 3) := by decide +kernel
theorem d_B_isEquivalent_75 : decode M_B_isEquivalent.2.1 75 = .ok (.invokevirtual 195, 3) := by decide +kernel
theorem d_B_isEquivalent_78 : decode M_B_isEquivalent.2.1 78 = .ok (.ifCond .ne 7, 3) := by decide +kernel
theorem d_B_isEquivalent_81 : decode M_B_isEquivalent.2.1 81 = .ok (.iconst 1, 1) := by decide +kernel
theorem d_B_isEquivalent_82 : decode M_B_isEquivalent.2.1 82 = .ok (.goto 4, 3) := by decide +kernel
theorem d_B_isEquivalent_85 : decode M_B_isEquivalent.2.1 85 = .ok (.iconst 0, 1) := by decide +kernel
theorem d_B_isEquivalent_86 : decode M_B_isEquivalent.2.1 86 = .ok (.ireturn, 1) := by decide +kernel
theorem d_B_isMultiplier_0 : decode M_B_isMultiplier.2.1 0 = .ok (.iload_n 1, 1) := by decide +kernel
theorem d_B_isMultiplier_1 : decode M_B_isMultiplier.2.1 1 = .ok (.i2l, 1) := by decide +kernel
theorem d_B_isMultiplier_2 : decode M_B_isMultiplier.2.1 2 = .ok (.lconst 1, 1) := by decide +kernel
theorem d_B_isMultiplier_3 : decode M_B_isMultiplier.2.1 3 = .ok (.aload_n 0, 1) := by decide +kernel
theorem d_B_isMultiplier_4 : decode M_B_isMultiplier.2.1 4 = .ok (.getfield 16, 3) := by decide +kernel
theorem d_B_isMultiplier_7 : decode M_B_isMultiplier.2.1 7 = .ok (.iconst 1, 1) := by decide +kernel
theorem d_B_isMultiplier_8 : decode M_B_isMultiplier.2.1 8 = .ok (.isub, 1) := by decide +kernel
theorem d_B_isMultiplier_9 : decode M_B_isMultiplier.2.1 9 = .ok (.i2l, 1) := by decide +kernel
theorem d_B_isMultiplier_10 : decode M_B_isMultiplier.2.1 10 = .ok (.invokestatic 83, 3) := by decide +kernel
theorem d_B_isMultiplier_13 : decode M_B_isMultiplier.2.1 13 = .ok (.ifCond .ne 7, 3) := by decide +kernel
theorem d_B_isMultiplier_16 : decode M_B_isMultiplier.2.1 16 = .ok (.iconst (-1), 1) := by decide +kernel
theorem d_B_isMultiplier_17 : decode M_B_isMultiplier.2.1 17 = .ok (.goto 16, 3) := by decide +kernel
theorem d_B_isMultiplier_20 : decode M_B_isMultiplier.2.1 20 = .ok (.aload_n 0, 1) := by decide +kernel
theorem d_B_isMultiplier_21 : decode M_B_isMultiplier.2.1 21 = .ok (.iload_n 1, 1) := by decide +kernel
theorem d_B_isMultiplier_22 : decode M_B_isMultiplier.2.1 22 = .ok (.invokevirtual 202, 3) := by decide +kernel
theorem d_B_isMultiplier_25 : decode M_B_isMultiplier.2.1 25 = .ok (.ifCond .eq 7, 3) := by decide +kernel
theorem d_B_isMultiplier_28 : decode M_B_isMultiplier.2.1 28 = .ok (.iconst 1, 1) := by decide +kernel
theorem d_B_isMultiplier_29 : decode M_B_isMultiplier.2.1 29 = .ok (.goto 4, 3) := by decide +kernel
theorem d_B_isMultiplier_32 : decode M_B_isMultiplier.2.1 32 = .ok (.iconst 0, 1) := by decide +kernel
theorem d_B_isMultiplier_33 : decode M_B_isMultiplier.2.1 33 = .ok (.ireturn, 1) := by decide +kernel
theorem d_B_isPartial_0 : decode M_B_isPartial.2.1 0 = .ok (.aload_n 0, 1) := by decide +kernel
theorem d_B_isPartial_1 : decode M_B_isPartial.2.1 1 = .ok (.aload_n 0, 1) := by decide +kernel
theorem d_B_isPartial_2 : decode M_B_isPartial.2.1 2 = .ok (.getfield 71, 3) := by decide +kernel
theorem d_B_isPartial_5 : decode M_B_isPartial.2.1 5 = .ok (.iload_n 1, 1) := by decide +kernel
theorem d_B_isPartial_6 : decode M_B_isPartial.2.1 6 = .ok (.invokevirtual 181, 3) := by decide +kernel
theorem d_B_isPartial_9 : decode M_B_isPartial.2.1 9 = .ok (.iconst 1, 1) := by decide +kernel
theorem d_B_isPartial_10 : decode M_B_isPartial.2.1 10 = .ok (.istore_n 3, 1) := by decide +kernel
theorem d_B_isPartial_11 : decode M_B_isPartial.2.1 11 = .ok (.iconst 1, 1) := by decide +kernel
theorem d_B_isPartial_12 : decode M_B_isPartial.2.1 12 = .ok (.istore 4, 2) := by decide +kernel
theorem d_B_isPartial_14 : decode M_B_isPartial.2.1 14 = .ok (.iload 4, 2) := by decide +kernel
theorem d_B_isPartial_16 : decode M_B_isPartial.2.1 16 = .ok (.aload_n 0, 1) := by decide +kernel
theorem d_B_isPartial_17 : decode M_B_isPartial.2.1 17 = .ok (.getfield 16, 3) := by decide +kernel
theorem d_B_isPartial_20 : decode M_B_isPartial.2.1 20 = .ok (.if_icmp .ge 46, 3) := by decide +kernel
theorem d_B_isPartial_23 : decode M_B_isPartial.2.1 23 = .ok (.iload_n 3, 1) := by decide +kernel
theorem d_B_isPartial_24 : decode M_B_isPartial.2.1 24 = .ok (.ifCond .eq 34, 3) := by decide +kernel
theorem d_B_isPartial_27 : decode M_B_isPartial.2.1 27 = .ok (.aload_n 0, 1) := by decide +kernel
theorem d_B_isPartial_28 : decode M_B_isPartial.2.1 28 = .ok (.getfield 50, 3) := by decide +kernel
theorem d_B_isPartial_31 : decode M_B_isPartial.2.1 31 = .ok (.iload 4, 2) := by decide +kernel
theorem d_B_isPartial_33 : decode M_B_isPartial.2.1 33 = .ok (.iaload, 1) := by decide +kernel
theorem d_B_isPartial_34 : decode M_B_isPartial.2.1 34 = .ok (.aload_n 0, 1) := by decide +kernel
theorem d_B_isPartial_35 : decode M_B_isPartial.2.1 35 = .ok (.getfield 19, 3) := by decide +kernel
theorem d_B_isPartial_38 : decode M_B_isPartial.2.1 38 = .ok (.iload 4, 2) := by decide +kernel
theorem d_B_isPartial_40 : decode M_B_isPartial.2.1 40 = .ok (.invokestatic 134, 3) := by decide +kernel
theorem d_B_isPartial_43 : decode M_B_isPartial.2.1 43 = .ok (.ifCond .eq 7, 3) := by decide +kernel
theorem d_B_isPartial_46 : decode M_B_isPartial.2.1 46 = .ok (.iconst 0, 1) := by decide +kernel
theorem d_B_isPartial_47 : decode M_B_isPartial.2.1 47 = .ok (.goto 4, 3) := by decide +kernel
theorem d_B_isPartial_50 : decode M_B_isPartial.2.1 50 = .ok (.iload_n 2, 1) := by decide +kernel
theorem d_B_isPartial_51 : decode M_B_isPartial.2.1 51 = .ok (.if_icmp .gt 7, 3) := by decide +kernel
theorem d_B_isPartial_54 : decode M_B_isPartial.2.1 54 = .ok (.iconst 1, 1) := by decide +kernel
theorem d_B_isPartial_55 : decode M_B_isPartial.2.1 55 = .ok (.goto 4, 3) := by decide +kernel
theorem d_B_isPartial_58 : decode M_B_isPartial.2.1 58 = .ok (.iconst 0, 1) := by decide +kernel
theorem d_B_isPartial_59 : decode M_B_isPartial.2.1 59 = .ok (.istore_n 3, 1) := by decide +kernel
theorem d_B_isPartial_60 : decode M_B_isPartial.2.1 60 = .ok (.iinc 4 1, 3) := by decide +kernel
theorem d_B_isPartial_63 : decode M_B_isPartial.2.1 63 = .ok (.goto (-49), 3) := by decide +kernel
theorem d_B_isPartial_66 : decode M_B_isPartial.2.1 66 = .ok (.iload_n 3, 1) := by decide +kernel
theorem d_B_isPartial_67 : decode M_B_isPartial.2.1 67 = .ok (.ireturn, 1) := by decide +kernel
theorem d_B_used_0 : decode M_B_used.2.1 0 = .ok (.iconst 0, 1) := by decide +kernel
theorem d_B_used_1 : decode M_B_used.2.1 1 = .ok (.istore_n 1, 1) := by decide +kernel
theorem d_B_used_2 : decode M_B_used.2.1 2 = .ok (.iconst 0, 1) := by decide +kernel
theorem d_B_used_3 : decode M_B_used.2.1 3 = .ok (.istore_n 2, 1) := by decide +kernel
theorem d_B_used_4 : decode M_B_used.2.1 4 = .ok (.iload_n 2, 1) := by decide +kernel
theorem d_B_used_5 : decode M_B_used.2.1 5 = .ok (.bipush 6, 2) := by decide +kernel
theorem d_B_used_7 : decode M_B_used.2.1 7 = .ok (.if_icmp .ge 28, 3) := by decide +kernel
theorem d_B_used_10 : decode M_B_used.2.1 10 = .ok (.iload_n 1, 1) := by decide +kernel
theorem d_B_used_11 : decode M_B_used.2.1 11 = .ok (.aload_n 0, 1) := by decide +kernel
theorem d_B_used_12 : decode M_B_used.2.1 12 = .ok (.getfield 23, 3) := by decide +kernel
theorem d_B_used_15 : decode M_B_used.2.1 15 = .ok (.iload_n 2, 1) := by decide +kernel
theorem d_B_used_16 : decode M_B_used.2.1 16 = .ok (.laload, 1) := by decide +kernel
theorem d_B_used_17 : decode M_B_used.2.1 17 = .ok (.lconst 0, 1) := by decide +kernel
theorem d_B_used_18 : decode M_B_used.2.1 18 = .ok (.lcmp, 1) := by decide +kernel
theorem d_B_used_19 : decode M_B_used.2.1 19 = .ok (.ifCond .ne 7, 3) := by decide +kernel
theorem d_B_used_22 : decode M_B_used.2.1 22 = .ok (.iconst 0, 1) := by decide +kernel
theorem d_B_used_23 : decode M_B_used.2.1 23 = .ok (.goto 4, 3) := by decide +kernel
theorem d_B_used_26 : decode M_B_used.2.1 26 = .ok (.iconst 1, 1) := by decide +kernel
theorem d_B_used_27 : decode M_B_used.2.1 27 = .ok (.iadd, 1) := by decide +kernel
theorem d_B_used_28 : decode M_B_used.2.1 28 = .ok (.istore_n 1, 1) := by decide +kernel
theorem d_B_used_29 : decode M_B_used.2.1 29 = .ok (.iinc 2 1, 3) := by decide +kernel
theorem d_B_used_32 : decode M_B_used.2.1 32 = .ok (.goto (-28), 3) := by decide +kernel
theorem d_B_used_35 : decode M_B_used.2.1 35 = .ok (.iload_n 1, 1) := by decide +kernel
theorem d_B_used_36 : decode M_B_used.2.1 36 = .ok (.ireturn, 1) := by decide +kernel
theorem d_B_keep_0 : decode M_B_keep.2.1 0 = .ok (.iload_n 1, 1) := by decide +kernel
theorem d_B_keep_1 : decode M_B_keep.2.1 1 = .ok (.i2l, 1) := by decide +kernel
theorem d_B_keep_2 : decode M_B_keep.2.1 2 = .ok (.lconst 0, 1) := by decide +kernel
theorem d_B_keep_3 : decode M_B_keep.2.1 3 = .ok (.lconst 1, 1) := by decide +kernel
theorem d_B_keep_4 : decode M_B_keep.2.1 4 = .ok (.invokestatic 83, 3) := by decide +kernel
theorem d_B_keep_7 : decode M_B_keep.2.1 7 = .ok (.ifCond .ne 5, 3) := by decide +kernel
theorem d_B_keep_10 : decode M_B_keep.2.1 10 = .ok (.iconst (-1), 1) := by decide +kernel
theorem d_B_keep_11 : decode M_B_keep.2.1 11 = .ok (.ireturn, 1) := by decide +kernel
theorem d_B_keep_12 : decode M_B_keep.2.1 12 = .ok (.iconst 0, 1) := by decide +kernel
theorem d_B_keep_13 : decode M_B_keep.2.1 13 = .ok (.istore_n 2, 1) := by decide +kernel
theorem d_B_keep_14 : decode M_B_keep.2.1 14 = .ok (.iload_n 2, 1) := by decide +kernel
theorem d_B_keep_15 : decode M_B_keep.2.1 15 = .ok (.bipush 6, 2) := by decide +kernel
theorem d_B_keep_17 : decode M_B_keep.2.1 17 = .ok (.if_icmp .ge 26, 3) := by decide +kernel
theorem d_B_keep_20 : decode M_B_keep.2.1 20 = .ok (.aload_n 0, 1) := by decide +kernel
theorem d_B_keep_21 : decode M_B_keep.2.1 21 = .ok (.getfield 30, 3) := by decide +kernel
theorem d_B_keep_24 : decode M_B_keep.2.1 24 = .ok (.bipush 7, 2) := by decide +kernel
theorem d_B_keep_26 : decode M_B_keep.2.1 26 = .ok (.iload_n 1, 1) := by decide +kernel
theorem d_B_keep_27 : decode M_B_keep.2.1 27 = .ok (.imul, 1) := by decide +kernel
theorem d_B_keep_28 : decode M_B_keep.2.1 28 = .ok (.iload_n 2, 1) := by decide +kernel
theorem d_B_keep_29 : decode M_B_keep.2.1 29 = .ok (.iadd, 1) := by decide +kernel
theorem d_B_keep_30 : decode M_B_keep.2.1 30 = .ok (.aload_n 0, 1) := by decide +kernel
theorem d_B_keep_31 : decode M_B_keep.2.1 31 = .ok (.getfield 23, 3) := by decide +kernel
theorem d_B_keep_34 : decode M_B_keep.2.1 34 = .ok (.iload_n 2, 1) := by decide +kernel
theorem d_B_keep_35 : decode M_B_keep.2.1 35 = .ok (.laload, 1) := by decide +kernel
theorem d_B_keep_36 : decode M_B_keep.2.1 36 = .ok (.lastore, 1) := by decide +kernel
theorem d_B_keep_37 : decode M_B_keep.2.1 37 = .ok (.iinc 2 1, 3) := by decide +kernel
theorem d_B_keep_40 : decode M_B_keep.2.1 40 = .ok (.goto (-26), 3) := by decide +kernel
theorem d_B_keep_43 : decode M_B_keep.2.1 43 = .ok (.aload_n 0, 1) := by decide +kernel
theorem d_B_keep_44 : decode M_B_keep.2.1 44 = .ok (.getfield 30, 3) := by decide +kernel
theorem d_B_keep_47 : decode M_B_keep.2.1 47 = .ok (.bipush 7, 2) := by decide +kernel
theorem d_B_keep_49 : decode M_B_keep.2.1 49 = .ok (.iload_n 1, 1) := by decide +kernel
theorem d_B_keep_50 : decode M_B_keep.2.1 50 = .ok (.imul, 1) := by decide +kernel
theorem d_B_keep_51 : decode M_B_keep.2.1 51 = .ok (.bipush 6, 2) := by decide +kernel
theorem d_B_keep_53 : decode M_B_keep.2.1 53 = .ok (.iadd, 1) := by decide +kernel
theorem d_B_keep_54 : decode M_B_keep.2.1 54 = .ok (.aload_n 0, 1) := by decide +kernel
theorem d_B_keep_55 : decode M_B_keep.2.1 55 = .ok (.getfield 19, 3) := by decide +kernel
theorem d_B_keep_58 : decode M_B_keep.2.1 58 = .ok (.lastore, 1) := by decide +kernel
theorem d_B_keep_59 : decode M_B_keep.2.1 59 = .ok (.aload_n 0, 1) := by decide +kernel
theorem d_B_keep_60 : decode M_B_keep.2.1 60 = .ok (.getfield 33, 3) := by decide +kernel
theorem d_B_keep_63 : decode M_B_keep.2.1 63 = .ok (.iload_n 1, 1) := by decide +kernel
theorem d_B_keep_64 : decode M_B_keep.2.1 64 = .ok (.iconst 1, 1) := by decide +kernel
theorem d_B_keep_65 : decode M_B_keep.2.1 65 = .ok (.bastore, 1) := by decide +kernel
theorem d_B_keep_66 : decode M_B_keep.2.1 66 = .ok (.aload_n 0, 1) := by decide +kernel
theorem d_B_keep_67 : decode M_B_keep.2.1 67 = .ok (.invokevirtual 277, 3) := by decide +kernel
theorem d_B_keep_70 : decode M_B_keep.2.1 70 = .ok (.ireturn, 1) := by decide +kernel
theorem d_B_multiple_0 : decode M_B_multiple.2.1 0 = .ok (.aload_n 0, 1) := by decide +kernel
theorem d_B_multiple_1 : decode M_B_multiple.2.1 1 = .ok (.iload_n 1, 1) := by decide +kernel
theorem d_B_multiple_2 : decode M_B_multiple.2.1 2 = .ok (.invokevirtual 121, 3) := by decide +kernel
theorem d_B_multiple_5 : decode M_B_multiple.2.1 5 = .ok (.ifCond .eq 24, 3) := by decide +kernel
theorem d_B_multiple_8 : decode M_B_multiple.2.1 8 = .ok (.iload_n 2, 1) := by decide +kernel
theorem d_B_multiple_9 : decode M_B_multiple.2.1 9 = .ok (.i2l, 1) := by decide +kernel
theorem d_B_multiple_10 : decode M_B_multiple.2.1 10 = .ok (.lconst 0, 1) := by decide +kernel
theorem d_B_multiple_11 : decode M_B_multiple.2.1 11 = .ok (.ldc2_w 125, 3) := by decide +kernel
theorem d_B_multiple_14 : decode M_B_multiple.2.1 14 = .ok (.invokestatic 83, 3) := by decide +kernel
theorem d_B_multiple_17 : decode M_B_multiple.2.1 17 = .ok (.ifCond .eq 12, 3) := by decide +kernel
theorem d_B_multiple_20 : decode M_B_multiple.2.1 20 = .ok (.aload_n 0, 1) := by decide +kernel
theorem d_B_multiple_21 : decode M_B_multiple.2.1 21 = .ok (.iload_n 2, 1) := by decide +kernel
theorem d_B_multiple_22 : decode M_B_multiple.2.1 22 = .ok (.iload_n 1, 1) := by decide +kernel
theorem d_B_multiple_23 : decode M_B_multiple.2.1 23 = .ok (.invokevirtual 87, 3) := by decide +kernel
theorem d_B_multiple_26 : decode M_B_multiple.2.1 26 = .ok (.goto 4, 3) := by decide +kernel
theorem d_B_multiple_29 : decode M_B_multiple.2.1 29 = .ok (.iconst (-1), 1) := by decide +kernel
theorem d_B_multiple_30 : decode M_B_multiple.2.1 30 = .ok (.ireturn, 1) := by decide +kernel
theorem d_B_multiply_0 : decode M_B_multiply.2.1 0 = .ok (.iload_n 1, 1) := by decide +kernel
theorem d_B_multiply_1 : decode M_B_multiply.2.1 1 = .ok (.i2l, 1) := by decide +kernel
theorem d_B_multiply_2 : decode M_B_multiply.2.1 2 = .ok (.lconst 1, 1) := by decide +kernel
theorem d_B_multiply_3 : decode M_B_multiply.2.1 3 = .ok (.ldc2_w 125, 3) := by decide +kernel
theorem d_B_multiply_6 : decode M_B_multiply.2.1 6 = .ok (.invokestatic 83, 3) := by decide +kernel
theorem d_B_multiply_9 : decode M_B_multiply.2.1 9 = .ok (.ifCond .eq 15, 3) := by decide +kernel
theorem d_B_multiply_12 : decode M_B_multiply.2.1 12 = .ok (.iload_n 1, 1) := by decide +kernel
theorem d_B_multiply_13 : decode M_B_multiply.2.1 13 = .ok (.aload_n 0, 1) := by decide +kernel
theorem d_B_multiply_14 : decode M_B_multiply.2.1 14 = .ok (.getfield 16, 3) := by decide +kernel
theorem d_B_multiply_17 : decode M_B_multiply.2.1 17 = .ok (.invokestatic 158, 3) := by decide +kernel
theorem d_B_multiply_20 : decode M_B_multiply.2.1 20 = .ok (.iconst 1, 1) := by decide +kernel
theorem d_B_multiply_21 : decode M_B_multiply.2.1 21 = .ok (.if_icmp .le 5, 3) := by decide +kernel
theorem d_B_multiply_24 : decode M_B_multiply.2.1 24 = .ok (.iconst (-1), 1) := by decide +kernel
theorem d_B_multiply_25 : decode M_B_multiply.2.1 25 = .ok (.ireturn, 1) := by decide +kernel
theorem d_B_multiply_26 : decode M_B_multiply.2.1 26 = .ok (.aload_n 0, 1) := by decide +kernel
theorem d_B_multiply_27 : decode M_B_multiply.2.1 27 = .ok (.invokevirtual 144, 3) := by decide +kernel
theorem d_B_multiply_30 : decode M_B_multiply.2.1 30 = .ok (.iconst 0, 1) := by decide +kernel
theorem d_B_multiply_31 : decode M_B_multiply.2.1 31 = .ok (.istore_n 2, 1) := by decide +kernel
theorem d_B_multiply_32 : decode M_B_multiply.2.1 32 = .ok (.iconst 0, 1) := by decide +kernel
theorem d_B_multiply_33 : decode M_B_multiply.2.1 33 = .ok (.istore_n 3, 1) := by decide +kernel
theorem d_B_multiply_34 : decode M_B_multiply.2.1 34 = .ok (.iload_n 3, 1) := by decide +kernel
theorem d_B_multiply_35 : decode M_B_multiply.2.1 35 = .ok (.bipush 6, 2) := by decide +kernel
theorem d_B_multiply_37 : decode M_B_multiply.2.1 37 = .ok (.if_icmp .ge 50, 3) := by decide +kernel
theorem d_B_multiply_40 : decode M_B_multiply.2.1 40 = .ok (.aload_n 0, 1) := by decide +kernel
theorem d_B_multiply_41 : decode M_B_multiply.2.1 41 = .ok (.aload_n 0, 1) := by decide +kernel
theorem d_B_multiply_42 : decode M_B_multiply.2.1 42 = .ok (.getfield 23, 3) := by decide +kernel
theorem d_B_multiply_45 : decode M_B_multiply.2.1 45 = .ok (.iload_n 3, 1) := by decide +kernel
theorem d_B_multiply_46 : decode M_B_multiply.2.1 46 = .ok (.laload, 1) := by decide +kernel
theorem d_B_multiply_47 : decode M_B_multiply.2.1 47 = .ok (.iload_n 1, 1) := by decide +kernel
theorem d_B_multiply_48 : decode M_B_multiply.2.1 48 = .ok (.invokevirtual 161, 3) := by decide +kernel
theorem d_B_multiply_51 : decode M_B_multiply.2.1 51 = .ok (.lstore 4, 2) := by decide +kernel
theorem d_B_multiply_53 : decode M_B_multiply.2.1 53 = .ok (.iload_n 2, 1) := by decide +kernel
theorem d_B_multiply_54 : decode M_B_multiply.2.1 54 = .ok (.lload 4, 2) := by decide +kernel
theorem d_B_multiply_56 : decode M_B_multiply.2.1 56 = .ok (.aload_n 0, 1) := by decide +kernel
theorem d_B_multiply_57 : decode M_B_multiply.2.1 57 = .ok (.getfield 23, 3) := by decide +kernel
theorem d_B_multiply_60 : decode M_B_multiply.2.1 60 = .ok (.iload_n 3, 1) := by decide +kernel
theorem d_B_multiply_61 : decode M_B_multiply.2.1 61 = .ok (.laload, 1) := by decide +kernel
theorem d_B_multiply_62 : decode M_B_multiply.2.1 62 = .ok (.lcmp, 1) := by decide +kernel
theorem d_B_multiply_63 : decode M_B_multiply.2.1 63 = .ok (.ifCond .ne 7, 3) := by decide +kernel
theorem d_B_multiply_66 : decode M_B_multiply.2.1 66 = .ok (.iconst 0, 1) := by decide +kernel
theorem d_B_multiply_67 : decode M_B_multiply.2.1 67 = .ok (.goto 4, 3) := by decide +kernel
theorem d_B_multiply_70 : decode M_B_multiply.2.1 70 = .ok (.iconst 1, 1) := by decide +kernel
theorem d_B_multiply_71 : decode M_B_multiply.2.1 71 = .ok (.iadd, 1) := by decide +kernel
theorem d_B_multiply_72 : decode M_B_multiply.2.1 72 = .ok (.istore_n 2, 1) := by decide +kernel
theorem d_B_multiply_73 : decode M_B_multiply.2.1 73 = .ok (.aload_n 0, 1) := by decide +kernel
theorem d_B_multiply_74 : decode M_B_multiply.2.1 74 = .ok (.getfield 23, 3) := by decide +kernel
theorem d_B_multiply_77 : decode M_B_multiply.2.1 77 = .ok (.iload_n 3, 1) := by decide +kernel
theorem d_B_multiply_78 : decode M_B_multiply.2.1 78 = .ok (.lload 4, 2) := by decide +kernel
theorem d_B_multiply_80 : decode M_B_multiply.2.1 80 = .ok (.lastore, 1) := by decide +kernel
theorem d_B_multiply_81 : decode M_B_multiply.2.1 81 = .ok (.iinc 3 1, 3) := by decide +kernel
theorem d_B_multiply_84 : decode M_B_multiply.2.1 84 = .ok (.goto (-50), 3) := by decide +kernel
theorem d_B_multiply_87 : decode M_B_multiply.2.1 87 = .ok (.iload_n 2, 1) := by decide +kernel
theorem d_B_multiply_88 : decode M_B_multiply.2.1 88 = .ok (.ireturn, 1) := by decide +kernel
theorem d_B_normal_0 : decode M_B_normal.2.1 0 = .ok (.iload_n 1, 1) := by decide +kernel
theorem d_B_normal_1 : decode M_B_normal.2.1 1 = .ok (.invokestatic 147, 3) := by decide +kernel
theorem d_B_normal_4 : decode M_B_normal.2.1 4 = .ok (.ifCond .ne 7, 3) := by decide +kernel
theorem d_B_normal_7 : decode M_B_normal.2.1 7 = .ok (.ldc2_w 170, 3) := by decide +kernel
theorem d_B_normal_10 : decode M_B_normal.2.1 10 = .ok (.lreturn, 1) := by decide +kernel
theorem d_B_normal_11 : decode M_B_normal.2.1 11 = .ok (.aload_n 0, 1) := by decide +kernel
theorem d_B_normal_12 : decode M_B_normal.2.1 12 = .ok (.getfield 23, 3) := by decide +kernel
theorem d_B_normal_15 : decode M_B_normal.2.1 15 = .ok (.iload_n 1, 1) := by decide +kernel
theorem d_B_normal_16 : decode M_B_normal.2.1 16 = .ok (.laload, 1) := by decide +kernel
theorem d_B_normal_17 : decode M_B_normal.2.1 17 = .ok (.lconst 0, 1) := by decide +kernel
theorem d_B_normal_18 : decode M_B_normal.2.1 18 = .ok (.lcmp, 1) := by decide +kernel
theorem d_B_normal_19 : decode M_B_normal.2.1 19 = .ok (.ifCond .ne 9, 3) := by decide +kernel
theorem d_B_normal_22 : decode M_B_normal.2.1 22 = .ok (.ldc2_w 172, 3) := by decide +kernel
theorem d_B_normal_25 : decode M_B_normal.2.1 25 = .ok (.goto 13, 3) := by decide +kernel
theorem d_B_normal_28 : decode M_B_normal.2.1 28 = .ok (.aload_n 0, 1) := by decide +kernel
theorem d_B_normal_29 : decode M_B_normal.2.1 29 = .ok (.aload_n 0, 1) := by decide +kernel
theorem d_B_normal_30 : decode M_B_normal.2.1 30 = .ok (.getfield 23, 3) := by decide +kernel
theorem d_B_normal_33 : decode M_B_normal.2.1 33 = .ok (.iload_n 1, 1) := by decide +kernel
theorem d_B_normal_34 : decode M_B_normal.2.1 34 = .ok (.laload, 1) := by decide +kernel
theorem d_B_normal_35 : decode M_B_normal.2.1 35 = .ok (.invokevirtual 174, 3) := by decide +kernel
theorem d_B_normal_38 : decode M_B_normal.2.1 38 = .ok (.lreturn, 1) := by decide +kernel
theorem d_B_order_0 : decode M_B_order.2.1 0 = .ok (.aload_n 0, 1) := by decide +kernel
theorem d_B_order_1 : decode M_B_order.2.1 1 = .ok (.getfield 16, 3) := by decide +kernel
theorem d_B_order_4 : decode M_B_order.2.1 4 = .ok (.ireturn, 1) := by decide +kernel
theorem d_B_orderOf_0 : decode M_B_orderOf.2.1 0 = .ok (.aload_n 0, 1) := by decide +kernel
theorem d_B_orderOf_1 : decode M_B_orderOf.2.1 1 = .ok (.iload_n 1, 1) := by decide +kernel
theorem d_B_orderOf_2 : decode M_B_orderOf.2.1 2 = .ok (.invokevirtual 121, 3) := by decide +kernel
theorem d_B_orderOf_5 : decode M_B_orderOf.2.1 5 = .ok (.ifCond .ne 5, 3) := by decide +kernel
theorem d_B_orderOf_8 : decode M_B_orderOf.2.1 8 = .ok (.iconst (-1), 1) := by decide +kernel
theorem d_B_orderOf_9 : decode M_B_orderOf.2.1 9 = .ok (.ireturn, 1) := by decide +kernel
theorem d_B_orderOf_10 : decode M_B_orderOf.2.1 10 = .ok (.iconst 1, 1) := by decide +kernel
theorem d_B_orderOf_11 : decode M_B_orderOf.2.1 11 = .ok (.istore_n 2, 1) := by decide +kernel
theorem d_B_orderOf_12 : decode M_B_orderOf.2.1 12 = .ok (.aload_n 0, 1) := by decide +kernel
theorem d_B_orderOf_13 : decode M_B_orderOf.2.1 13 = .ok (.iload_n 2, 1) := by decide +kernel
theorem d_B_orderOf_14 : decode M_B_orderOf.2.1 14 = .ok (.iload_n 1, 1) := by decide +kernel
theorem d_B_orderOf_15 : decode M_B_orderOf.2.1 15 = .ok (.invokevirtual 87, 3) := by decide +kernel
theorem d_B_orderOf_18 : decode M_B_orderOf.2.1 18 = .ok (.ifCond .eq 9, 3) := by decide +kernel
theorem d_B_orderOf_21 : decode M_B_orderOf.2.1 21 = .ok (.iinc 2 1, 3) := by decide +kernel
theorem d_B_orderOf_24 : decode M_B_orderOf.2.1 24 = .ok (.goto (-12), 3) := by decide +kernel
theorem d_B_orderOf_27 : decode M_B_orderOf.2.1 27 = .ok (.iload_n 2, 1) := by decide +kernel
theorem d_B_orderOf_28 : decode M_B_orderOf.2.1 28 = .ok (.ireturn, 1) := by decide +kernel
theorem d_B_pairs_0 : decode M_B_pairs.2.1 0 = .ok (.aload_n 0, 1) := by decide +kernel
theorem d_B_pairs_1 : decode M_B_pairs.2.1 1 = .ok (.iload_n 1, 1) := by decide +kernel
theorem d_B_pairs_2 : decode M_B_pairs.2.1 2 = .ok (.invokevirtual 121, 3) := by decide +kernel
theorem d_B_pairs_5 : decode M_B_pairs.2.1 5 = .ok (.ifCond .eq 16, 3) := by decide +kernel
theorem d_B_pairs_8 : decode M_B_pairs.2.1 8 = .ok (.aload_n 0, 1) := by decide +kernel
theorem d_B_pairs_9 : decode M_B_pairs.2.1 9 = .ok (.iload_n 2, 1) := by decide +kernel
theorem d_B_pairs_10 : decode M_B_pairs.2.1 10 = .ok (.invokevirtual 121, 3) := by decide +kernel
theorem d_B_pairs_13 : decode M_B_pairs.2.1 13 = .ok (.ifCond .eq 8, 3) := by decide +kernel
theorem d_B_pairs_16 : decode M_B_pairs.2.1 16 = .ok (.iload_n 1, 1) := by decide +kernel
theorem d_B_pairs_17 : decode M_B_pairs.2.1 17 = .ok (.iload_n 2, 1) := by decide +kernel
theorem d_B_pairs_18 : decode M_B_pairs.2.1 18 = .ok (.if_icmp .ne 5, 3) := by decide +kernel
theorem d_B_pairs_21 : decode M_B_pairs.2.1 21 = .ok (.iconst (-1), 1) := by decide +kernel
theorem d_B_pairs_22 : decode M_B_pairs.2.1 22 = .ok (.ireturn, 1) := by decide +kernel
theorem d_B_pairs_23 : decode M_B_pairs.2.1 23 = .ok (.aload_n 0, 1) := by decide +kernel
theorem d_B_pairs_24 : decode M_B_pairs.2.1 24 = .ok (.invokevirtual 212, 3) := by decide +kernel
theorem d_B_pairs_27 : decode M_B_pairs.2.1 27 = .ok (.iconst 0, 1) := by decide +kernel
theorem d_B_pairs_28 : decode M_B_pairs.2.1 28 = .ok (.istore_n 3, 1) := by decide +kernel
theorem d_B_pairs_29 : decode M_B_pairs.2.1 29 = .ok (.iconst 0, 1) := by decide +kernel
theorem d_B_pairs_30 : decode M_B_pairs.2.1 30 = .ok (.istore 4, 2) := by decide +kernel
theorem d_B_pairs_32 : decode M_B_pairs.2.1 32 = .ok (.iload 4, 2) := by decide +kernel
theorem d_B_pairs_34 : decode M_B_pairs.2.1 34 = .ok (.aload_n 0, 1) := by decide +kernel
theorem d_B_pairs_35 : decode M_B_pairs.2.1 35 = .ok (.getfield 209, 3) := by decide +kernel
theorem d_B_pairs_38 : decode M_B_pairs.2.1 38 = .ok (.if_icmp .ge 45, 3) := by decide +kernel
theorem d_B_pairs_41 : decode M_B_pairs.2.1 41 = .ok (.iload_n 3, 1) := by decide +kernel
theorem d_B_pairs_42 : decode M_B_pairs.2.1 42 = .ok (.aload_n 0, 1) := by decide +kernel
theorem d_B_pairs_43 : decode M_B_pairs.2.1 43 = .ok (.getfield 62, 3) := by decide +kernel
theorem d_B_pairs_46 : decode M_B_pairs.2.1 46 = .ok (.iload 4, 2) := by decide +kernel
theorem d_B_pairs_48 : decode M_B_pairs.2.1 48 = .ok (.laload, 1) := by decide +kernel
theorem d_B_pairs_49 : decode M_B_pairs.2.1 49 = .ok (.iload_n 1, 1) := by decide +kernel
theorem d_B_pairs_50 : decode M_B_pairs.2.1 50 = .ok (.invokestatic 134, 3) := by decide +kernel
theorem d_B_pairs_53 : decode M_B_pairs.2.1 53 = .ok (.ifCond .eq 21, 3) := by decide +kernel
theorem d_B_pairs_56 : decode M_B_pairs.2.1 56 = .ok (.aload_n 0, 1) := by decide +kernel
theorem d_B_pairs_57 : decode M_B_pairs.2.1 57 = .ok (.getfield 62, 3) := by decide +kernel
theorem d_B_pairs_60 : decode M_B_pairs.2.1 60 = .ok (.iload 4, 2) := by decide +kernel
theorem d_B_pairs_62 : decode M_B_pairs.2.1 62 = .ok (.laload, 1) := by decide +kernel
theorem d_B_pairs_63 : decode M_B_pairs.2.1 63 = .ok (.iload_n 2, 1) := by decide +kernel
theorem d_B_pairs_64 : decode M_B_pairs.2.1 64 = .ok (.invokestatic 134, 3) := by decide +kernel
theorem d_B_pairs_67 : decode M_B_pairs.2.1 67 = .ok (.ifCond .eq 7, 3) := by decide +kernel
theorem d_B_pairs_70 : decode M_B_pairs.2.1 70 = .ok (.iconst 1, 1) := by decide +kernel
theorem d_B_pairs_71 : decode M_B_pairs.2.1 71 = .ok (.goto 4, 3) := by decide +kernel
theorem d_B_pairs_74 : decode M_B_pairs.2.1 74 = .ok (.iconst 0, 1) := by decide +kernel
theorem d_B_pairs_75 : decode M_B_pairs.2.1 75 = .ok (.iadd, 1) := by decide +kernel
theorem d_B_pairs_76 : decode M_B_pairs.2.1 76 = .ok (.istore_n 3, 1) := by decide +kernel
theorem d_B_pairs_77 : decode M_B_pairs.2.1 77 = .ok (.iinc 4 1, 3) := by decide +kernel
theorem d_B_pairs_80 : decode M_B_pairs.2.1 80 = .ok (.goto (-48), 3) := by decide +kernel
theorem d_B_pairs_83 : decode M_B_pairs.2.1 83 = .ok (.iload_n 3, 1) := by decide +kernel
theorem d_B_pairs_84 : decode M_B_pairs.2.1 84 = .ok (.ireturn, 1) := by decide +kernel
theorem d_B_put_0 : decode M_B_put.2.1 0 = .ok (.iload_n 1, 1) := by decide +kernel
theorem d_B_put_1 : decode M_B_put.2.1 1 = .ok (.invokestatic 147, 3) := by decide +kernel
theorem d_B_put_4 : decode M_B_put.2.1 4 = .ok (.ifCond .eq 11, 3) := by decide +kernel
theorem d_B_put_7 : decode M_B_put.2.1 7 = .ok (.aload_n 0, 1) := by decide +kernel
theorem d_B_put_8 : decode M_B_put.2.1 8 = .ok (.iload_n 2, 1) := by decide +kernel
theorem d_B_put_9 : decode M_B_put.2.1 9 = .ok (.invokevirtual 121, 3) := by decide +kernel
theorem d_B_put_12 : decode M_B_put.2.1 12 = .ok (.ifCond .ne 5, 3) := by decide +kernel
theorem d_B_put_15 : decode M_B_put.2.1 15 = .ok (.iconst (-1), 1) := by decide +kernel
theorem d_B_put_16 : decode M_B_put.2.1 16 = .ok (.ireturn, 1) := by decide +kernel
theorem d_B_put_17 : decode M_B_put.2.1 17 = .ok (.aload_n 0, 1) := by decide +kernel
theorem d_B_put_18 : decode M_B_put.2.1 18 = .ok (.getfield 23, 3) := by decide +kernel
theorem d_B_put_21 : decode M_B_put.2.1 21 = .ok (.iload_n 1, 1) := by decide +kernel
theorem d_B_put_22 : decode M_B_put.2.1 22 = .ok (.laload, 1) := by decide +kernel
theorem d_B_put_23 : decode M_B_put.2.1 23 = .ok (.iload_n 2, 1) := by decide +kernel
theorem d_B_put_24 : decode M_B_put.2.1 24 = .ok (.invokestatic 134, 3) := by decide +kernel
theorem d_B_put_27 : decode M_B_put.2.1 27 = .ok (.ifCond .eq 8, 3) := by decide +kernel
theorem d_B_put_30 : decode M_B_put.2.1 30 = .ok (.bipush (-3), 2) := by decide +kernel
theorem d_B_put_32 : decode M_B_put.2.1 32 = .ok (.goto 18, 3) := by decide +kernel
theorem d_B_put_35 : decode M_B_put.2.1 35 = .ok (.aload_n 0, 1) := by decide +kernel
theorem d_B_put_36 : decode M_B_put.2.1 36 = .ok (.iload_n 1, 1) := by decide +kernel
theorem d_B_put_37 : decode M_B_put.2.1 37 = .ok (.aload_n 0, 1) := by decide +kernel
theorem d_B_put_38 : decode M_B_put.2.1 38 = .ok (.getfield 23, 3) := by decide +kernel
theorem d_B_put_41 : decode M_B_put.2.1 41 = .ok (.iload_n 1, 1) := by decide +kernel
theorem d_B_put_42 : decode M_B_put.2.1 42 = .ok (.laload, 1) := by decide +kernel
theorem d_B_put_43 : decode M_B_put.2.1 43 = .ok (.lconst 1, 1) := by decide +kernel
theorem d_B_put_44 : decode M_B_put.2.1 44 = .ok (.iload_n 2, 1) := by decide +kernel
theorem d_B_put_45 : decode M_B_put.2.1 45 = .ok (.lshl, 1) := by decide +kernel
theorem d_B_put_46 : decode M_B_put.2.1 46 = .ok (.lor, 1) := by decide +kernel
theorem d_B_put_47 : decode M_B_put.2.1 47 = .ok (.invokevirtual 150, 3) := by decide +kernel
theorem d_B_put_50 : decode M_B_put.2.1 50 = .ok (.ireturn, 1) := by decide +kernel
theorem d_B_rank_0 : decode M_B_rank.2.1 0 = .ok (.iload_n 1, 1) := by decide +kernel
theorem d_B_rank_1 : decode M_B_rank.2.1 1 = .ok (.iconst 2, 1) := by decide +kernel
theorem d_B_rank_2 : decode M_B_rank.2.1 2 = .ok (.if_icmp .eq 19, 3) := by decide +kernel
theorem d_B_rank_5 : decode M_B_rank.2.1 5 = .ok (.iload_n 1, 1) := by decide +kernel
theorem d_B_rank_6 : decode M_B_rank.2.1 6 = .ok (.iconst 3, 1) := by decide +kernel
theorem d_B_rank_7 : decode M_B_rank.2.1 7 = .ok (.if_icmp .eq 14, 3) := by decide +kernel
theorem d_B_rank_10 : decode M_B_rank.2.1 10 = .ok (.iload_n 1, 1) := by decide +kernel
theorem d_B_rank_11 : decode M_B_rank.2.1 11 = .ok (.iconst 5, 1) := by decide +kernel
theorem d_B_rank_12 : decode M_B_rank.2.1 12 = .ok (.if_icmp .eq 9, 3) := by decide +kernel
theorem d_B_rank_15 : decode M_B_rank.2.1 15 = .ok (.iload_n 1, 1) := by decide +kernel
theorem d_B_rank_16 : decode M_B_rank.2.1 16 = .ok (.bipush 7, 2) := by decide +kernel
theorem d_B_rank_18 : decode M_B_rank.2.1 18 = .ok (.if_icmp .ne 11, 3) := by decide +kernel
theorem d_B_rank_21 : decode M_B_rank.2.1 21 = .ok (.aload_n 0, 1) := by decide +kernel
theorem d_B_rank_22 : decode M_B_rank.2.1 22 = .ok (.iload_n 1, 1) := by decide +kernel
theorem d_B_rank_23 : decode M_B_rank.2.1 23 = .ok (.invokevirtual 222, 3) := by decide +kernel
theorem d_B_rank_26 : decode M_B_rank.2.1 26 = .ok (.goto 4, 3) := by decide +kernel
theorem d_B_rank_29 : decode M_B_rank.2.1 29 = .ok (.iconst (-1), 1) := by decide +kernel
theorem d_B_rank_30 : decode M_B_rank.2.1 30 = .ok (.ireturn, 1) := by decide +kernel
theorem d_B_read_0 : decode M_B_read.2.1 0 = .ok (.aload_n 0, 1) := by decide +kernel
theorem d_B_read_1 : decode M_B_read.2.1 1 = .ok (.invokevirtual 274, 3) := by decide +kernel
theorem d_B_read_4 : decode M_B_read.2.1 4 = .ok (.ifCond .ne 6, 3) := by decide +kernel
theorem d_B_read_7 : decode M_B_read.2.1 7 = .ok (.bipush (-3), 2) := by decide +kernel
theorem d_B_read_9 : decode M_B_read.2.1 9 = .ok (.ireturn, 1) := by decide +kernel
theorem d_B_read_10 : decode M_B_read.2.1 10 = .ok (.aload_n 0, 1) := by decide +kernel
theorem d_B_read_11 : decode M_B_read.2.1 11 = .ok (.invokevirtual 144, 3) := by decide +kernel
theorem d_B_read_14 : decode M_B_read.2.1 14 = .ok (.iconst 0, 1) := by decide +kernel
theorem d_B_read_15 : decode M_B_read.2.1 15 = .ok (.istore_n 1, 1) := by decide +kernel
theorem d_B_read_16 : decode M_B_read.2.1 16 = .ok (.iload_n 1, 1) := by decide +kernel
theorem d_B_read_17 : decode M_B_read.2.1 17 = .ok (.bipush 6, 2) := by decide +kernel
theorem d_B_read_19 : decode M_B_read.2.1 19 = .ok (.if_icmp .ge 33, 3) := by decide +kernel
theorem d_B_read_22 : decode M_B_read.2.1 22 = .ok (.aload_n 0, 1) := by decide +kernel
theorem d_B_read_23 : decode M_B_read.2.1 23 = .ok (.getfield 23, 3) := by decide +kernel
theorem d_B_read_26 : decode M_B_read.2.1 26 = .ok (.iload_n 1, 1) := by decide +kernel
theorem d_B_read_27 : decode M_B_read.2.1 27 = .ok (.iload_n 1, 1) := by decide +kernel
theorem d_B_read_28 : decode M_B_read.2.1 28 = .ok (.aload_n 0, 1) := by decide +kernel
theorem d_B_read_29 : decode M_B_read.2.1 29 = .ok (.getfield 265, 3) := by decide +kernel
theorem d_B_read_32 : decode M_B_read.2.1 32 = .ok (.if_icmp .ge 12, 3) := by decide +kernel
theorem d_B_read_35 : decode M_B_read.2.1 35 = .ok (.aload_n 0, 1) := by decide +kernel
theorem d_B_read_36 : decode M_B_read.2.1 36 = .ok (.getfield 77, 3) := by decide +kernel
theorem d_B_read_39 : decode M_B_read.2.1 39 = .ok (.iload_n 1, 1) := by decide +kernel
theorem d_B_read_40 : decode M_B_read.2.1 40 = .ok (.laload, 1) := by decide +kernel
theorem d_B_read_41 : decode M_B_read.2.1 41 = .ok (.goto 4, 3) := by decide +kernel
theorem d_B_read_44 : decode M_B_read.2.1 44 = .ok (.lconst 0, 1) := by decide +kernel
theorem d_B_read_45 : decode M_B_read.2.1 45 = .ok (.lastore, 1) := by decide +kernel
theorem d_B_read_46 : decode M_B_read.2.1 46 = .ok (.iinc 1 1, 3) := by decide +kernel
theorem d_B_read_49 : decode M_B_read.2.1 49 = .ok (.goto (-33), 3) := by decide +kernel
theorem d_B_read_52 : decode M_B_read.2.1 52 = .ok (.aload_n 0, 1) := by decide +kernel
theorem d_B_read_53 : decode M_B_read.2.1 53 = .ok (.getfield 265, 3) := by decide +kernel
theorem d_B_read_56 : decode M_B_read.2.1 56 = .ok (.ireturn, 1) := by decide +kernel
theorem d_B_replication_0 : decode M_B_replication.2.1 0 = .ok (.aload_n 0, 1) := by decide +kernel
theorem d_B_replication_1 : decode M_B_replication.2.1 1 = .ok (.iload_n 1, 1) := by decide +kernel
theorem d_B_replication_2 : decode M_B_replication.2.1 2 = .ok (.invokevirtual 121, 3) := by decide +kernel
theorem d_B_replication_5 : decode M_B_replication.2.1 5 = .ok (.ifCond .ne 5, 3) := by decide +kernel
theorem d_B_replication_8 : decode M_B_replication.2.1 8 = .ok (.iconst (-1), 1) := by decide +kernel
theorem d_B_replication_9 : decode M_B_replication.2.1 9 = .ok (.ireturn, 1) := by decide +kernel
theorem d_B_replication_10 : decode M_B_replication.2.1 10 = .ok (.aload_n 0, 1) := by decide +kernel
theorem d_B_replication_11 : decode M_B_replication.2.1 11 = .ok (.invokevirtual 212, 3) := by decide +kernel
theorem d_B_replication_14 : decode M_B_replication.2.1 14 = .ok (.iconst 0, 1) := by decide +kernel
theorem d_B_replication_15 : decode M_B_replication.2.1 15 = .ok (.istore_n 2, 1) := by decide +kernel
theorem d_B_replication_16 : decode M_B_replication.2.1 16 = .ok (.iconst 0, 1) := by decide +kernel
theorem d_B_replication_17 : decode M_B_replication.2.1 17 = .ok (.istore_n 3, 1) := by decide +kernel
theorem d_B_replication_18 : decode M_B_replication.2.1 18 = .ok (.iload_n 3, 1) := by decide +kernel
theorem d_B_replication_19 : decode M_B_replication.2.1 19 = .ok (.aload_n 0, 1) := by decide +kernel
theorem d_B_replication_20 : decode M_B_replication.2.1 20 = .ok (.getfield 209, 3) := by decide +kernel
theorem d_B_replication_23 : decode M_B_replication.2.1 23 = .ok (.if_icmp .ge 30, 3) := by decide +kernel
theorem d_B_replication_26 : decode M_B_replication.2.1 26 = .ok (.iload_n 2, 1) := by decide +kernel
theorem d_B_replication_27 : decode M_B_replication.2.1 27 = .ok (.aload_n 0, 1) := by decide +kernel
theorem d_B_replication_28 : decode M_B_replication.2.1 28 = .ok (.getfield 62, 3) := by decide +kernel
theorem d_B_replication_31 : decode M_B_replication.2.1 31 = .ok (.iload_n 3, 1) := by decide +kernel
theorem d_B_replication_32 : decode M_B_replication.2.1 32 = .ok (.laload, 1) := by decide +kernel
theorem d_B_replication_33 : decode M_B_replication.2.1 33 = .ok (.iload_n 1, 1) := by decide +kernel
theorem d_B_replication_34 : decode M_B_replication.2.1 34 = .ok (.invokestatic 134, 3) := by decide +kernel
theorem d_B_replication_37 : decode M_B_replication.2.1 37 = .ok (.ifCond .eq 7, 3) := by decide +kernel
theorem d_B_replication_40 : decode M_B_replication.2.1 40 = .ok (.iconst 1, 1) := by decide +kernel
theorem d_B_replication_41 : decode M_B_replication.2.1 41 = .ok (.goto 4, 3) := by decide +kernel
theorem d_B_replication_44 : decode M_B_replication.2.1 44 = .ok (.iconst 0, 1) := by decide +kernel
theorem d_B_replication_45 : decode M_B_replication.2.1 45 = .ok (.iadd, 1) := by decide +kernel
theorem d_B_replication_46 : decode M_B_replication.2.1 46 = .ok (.istore_n 2, 1) := by decide +kernel
theorem d_B_replication_47 : decode M_B_replication.2.1 47 = .ok (.iinc 3 1, 3) := by decide +kernel
theorem d_B_replication_50 : decode M_B_replication.2.1 50 = .ok (.goto (-32), 3) := by decide +kernel
theorem d_B_replication_53 : decode M_B_replication.2.1 53 = .ok (.iload_n 2, 1) := by decide +kernel
theorem d_B_replication_54 : decode M_B_replication.2.1 54 = .ok (.ireturn, 1) := by decide +kernel
theorem d_B_restore_0 : decode M_B_restore.2.1 0 = .ok (.iload_n 1, 1) := by decide +kernel
theorem d_B_restore_1 : decode M_B_restore.2.1 1 = .ok (.i2l, 1) := by decide +kernel
theorem d_B_restore_2 : decode M_B_restore.2.1 2 = .ok (.lconst 0, 1) := by decide +kernel
theorem d_B_restore_3 : decode M_B_restore.2.1 3 = .ok (.lconst 1, 1) := by decide +kernel
theorem d_B_restore_4 : decode M_B_restore.2.1 4 = .ok (.invokestatic 83, 3) := by decide +kernel
theorem d_B_restore_7 : decode M_B_restore.2.1 7 = .ok (.ifCond .ne 5, 3) := by decide +kernel
theorem d_B_restore_10 : decode M_B_restore.2.1 10 = .ok (.iconst (-1), 1) := by decide +kernel
theorem d_B_restore_11 : decode M_B_restore.2.1 11 = .ok (.ireturn, 1) := by decide +kernel
theorem d_B_restore_12 : decode M_B_restore.2.1 12 = .ok (.aload_n 0, 1) := by decide +kernel
theorem d_B_restore_13 : decode M_B_restore.2.1 13 = .ok (.getfield 33, 3) := by decide +kernel
theorem d_B_restore_16 : decode M_B_restore.2.1 16 = .ok (.iload_n 1, 1) := by decide +kernel
theorem d_B_restore_17 : decode M_B_restore.2.1 17 = .ok (.baload, 1) := by decide +kernel
theorem d_B_restore_18 : decode M_B_restore.2.1 18 = .ok (.ifCond .ne 6, 3) := by decide +kernel
theorem d_B_restore_21 : decode M_B_restore.2.1 21 = .ok (.bipush (-3), 2) := by decide +kernel
theorem d_B_restore_23 : decode M_B_restore.2.1 23 = .ok (.ireturn, 1) := by decide +kernel
theorem d_B_restore_24 : decode M_B_restore.2.1 24 = .ok (.iconst 0, 1) := by decide +kernel
theorem d_B_restore_25 : decode M_B_restore.2.1 25 = .ok (.istore_n 2, 1) := by decide +kernel
theorem d_B_restore_26 : decode M_B_restore.2.1 26 = .ok (.iload_n 2, 1) := by decide +kernel
theorem d_B_restore_27 : decode M_B_restore.2.1 27 = .ok (.bipush 6, 2) := by decide +kernel
theorem d_B_restore_29 : decode M_B_restore.2.1 29 = .ok (.if_icmp .ge 26, 3) := by decide +kernel
theorem d_B_restore_32 : decode M_B_restore.2.1 32 = .ok (.aload_n 0, 1) := by decide +kernel
theorem d_B_restore_33 : decode M_B_restore.2.1 33 = .ok (.getfield 23, 3) := by decide +kernel
theorem d_B_restore_36 : decode M_B_restore.2.1 36 = .ok (.iload_n 2, 1) := by decide +kernel
theorem d_B_restore_37 : decode M_B_restore.2.1 37 = .ok (.aload_n 0, 1) := by decide +kernel
theorem d_B_restore_38 : decode M_B_restore.2.1 38 = .ok (.getfield 30, 3) := by decide +kernel
theorem d_B_restore_41 : decode M_B_restore.2.1 41 = .ok (.bipush 7, 2) := by decide +kernel
theorem d_B_restore_43 : decode M_B_restore.2.1 43 = .ok (.iload_n 1, 1) := by decide +kernel
theorem d_B_restore_44 : decode M_B_restore.2.1 44 = .ok (.imul, 1) := by decide +kernel
theorem d_B_restore_45 : decode M_B_restore.2.1 45 = .ok (.iload_n 2, 1) := by decide +kernel
theorem d_B_restore_46 : decode M_B_restore.2.1 46 = .ok (.iadd, 1) := by decide +kernel
theorem d_B_restore_47 : decode M_B_restore.2.1 47 = .ok (.laload, 1) := by decide +kernel
theorem d_B_restore_48 : decode M_B_restore.2.1 48 = .ok (.lastore, 1) := by decide +kernel
theorem d_B_restore_49 : decode M_B_restore.2.1 49 = .ok (.iinc 2 1, 3) := by decide +kernel
theorem d_B_restore_52 : decode M_B_restore.2.1 52 = .ok (.goto (-26), 3) := by decide +kernel
theorem d_B_restore_55 : decode M_B_restore.2.1 55 = .ok (.aload_n 0, 1) := by decide +kernel
theorem d_B_restore_56 : decode M_B_restore.2.1 56 = .ok (.aload_n 0, 1) := by decide +kernel
theorem d_B_restore_57 : decode M_B_restore.2.1 57 = .ok (.getfield 30, 3) := by decide +kernel
theorem d_B_restore_60 : decode M_B_restore.2.1 60 = .ok (.bipush 7, 2) := by decide +kernel
theorem d_B_restore_62 : decode M_B_restore.2.1 62 = .ok (.iload_n 1, 1) := by decide +kernel
theorem d_B_restore_63 : decode M_B_restore.2.1 63 = .ok (.imul, 1) := by decide +kernel
theorem d_B_restore_64 : decode M_B_restore.2.1 64 = .ok (.bipush 6, 2) := by decide +kernel
theorem d_B_restore_66 : decode M_B_restore.2.1 66 = .ok (.iadd, 1) := by decide +kernel
theorem d_B_restore_67 : decode M_B_restore.2.1 67 = .ok (.laload, 1) := by decide +kernel
theorem d_B_restore_68 : decode M_B_restore.2.1 68 = .ok (.putfield 19, 3) := by decide +kernel
theorem d_B_restore_71 : decode M_B_restore.2.1 71 = .ok (.aload_n 0, 1) := by decide +kernel
theorem d_B_restore_72 : decode M_B_restore.2.1 72 = .ok (.iconst 0, 1) := by decide +kernel
theorem d_B_restore_73 : decode M_B_restore.2.1 73 = .ok (.putfield 109, 3) := by decide +kernel
theorem d_B_restore_76 : decode M_B_restore.2.1 76 = .ok (.aload_n 0, 1) := by decide +kernel
theorem d_B_restore_77 : decode M_B_restore.2.1 77 = .ok (.invokevirtual 277, 3) := by decide +kernel
theorem d_B_restore_80 : decode M_B_restore.2.1 80 = .ok (.ireturn, 1) := by decide +kernel
theorem d_B_searches_0 : decode M_B_searches.2.1 0 = .ok (.aload_n 0, 1) := by decide +kernel
theorem d_B_searches_1 : decode M_B_searches.2.1 1 = .ok (.iconst 0, 1) := by decide +kernel
theorem d_B_searches_2 : decode M_B_searches.2.1 2 = .ok (.putfield 112, 3) := by decide +kernel
theorem d_B_searches_5 : decode M_B_searches.2.1 5 = .ok (.aload_n 0, 1) := by decide +kernel
theorem d_B_searches_6 : decode M_B_searches.2.1 6 = .ok (.iconst 0, 1) := by decide +kernel
theorem d_B_searches_7 : decode M_B_searches.2.1 7 = .ok (.putfield 118, 3) := by decide +kernel
theorem d_B_searches_10 : decode M_B_searches.2.1 10 = .ok (.iconst 0, 1) := by decide +kernel
theorem d_B_searches_11 : decode M_B_searches.2.1 11 = .ok (.istore 4, 2) := by decide +kernel
theorem d_B_searches_13 : decode M_B_searches.2.1 13 = .ok (.iconst 0, 1) := by decide +kernel
theorem d_B_searches_14 : decode M_B_searches.2.1 14 = .ok (.istore 5, 2) := by decide +kernel
theorem d_B_searches_16 : decode M_B_searches.2.1 16 = .ok (.aload_n 0, 1) := by decide +kernel
theorem d_B_searches_17 : decode M_B_searches.2.1 17 = .ok (.getfield 74, 3) := by decide +kernel
theorem d_B_searches_20 : decode M_B_searches.2.1 20 = .ok (.iconst 0, 1) := by decide +kernel
theorem d_B_searches_21 : decode M_B_searches.2.1 21 = .ok (.iconst 0, 1) := by decide +kernel
theorem d_B_searches_22 : decode M_B_searches.2.1 22 = .ok (.iastore, 1) := by decide +kernel
theorem d_B_searches_23 : decode M_B_searches.2.1 23 = .ok (.iload 5, 2) := by decide +kernel
theorem d_B_searches_25 : decode M_B_searches.2.1 25 = .ok (.ifCond .lt 168, 3) := by decide +kernel
theorem d_B_searches_28 : decode M_B_searches.2.1 28 = .ok (.aload_n 0, 1) := by decide +kernel
theorem d_B_searches_29 : decode M_B_searches.2.1 29 = .ok (.getfield 112, 3) := by decide +kernel
theorem d_B_searches_32 : decode M_B_searches.2.1 32 = .ok (.iload_n 3, 1) := by decide +kernel
theorem d_B_searches_33 : decode M_B_searches.2.1 33 = .ok (.if_icmp .ge 160, 3) := by decide +kernel
theorem d_B_searches_36 : decode M_B_searches.2.1 36 = .ok (.aload_n 0, 1) := by decide +kernel
theorem d_B_searches_37 : decode M_B_searches.2.1 37 = .ok (.getfield 74, 3) := by decide +kernel
theorem d_B_searches_40 : decode M_B_searches.2.1 40 = .ok (.iload 5, 2) := by decide +kernel
theorem d_B_searches_42 : decode M_B_searches.2.1 42 = .ok (.iaload, 1) := by decide +kernel
theorem d_B_searches_43 : decode M_B_searches.2.1 43 = .ok (.aload_n 0, 1) := by decide +kernel
theorem d_B_searches_44 : decode M_B_searches.2.1 44 = .ok (.getfield 115, 3) := by decide +kernel
theorem d_B_searches_47 : decode M_B_searches.2.1 47 = .ok (.if_icmp .ne 9, 3) := by decide +kernel
theorem d_B_searches_50 : decode M_B_searches.2.1 50 = .ok (.iinc 5 (-1), 3) := by decide +kernel
theorem d_B_searches_53 : decode M_B_searches.2.1 53 = .ok (.goto (-30), 3) := by decide +kernel
theorem d_B_searches_56 : decode M_B_searches.2.1 56 = .ok (.aload_n 0, 1) := by decide +kernel
theorem d_B_searches_57 : decode M_B_searches.2.1 57 = .ok (.getfield 74, 3) := by decide +kernel
theorem d_B_searches_60 : decode M_B_searches.2.1 60 = .ok (.iload 5, 2) := by decide +kernel
theorem d_B_searches_62 : decode M_B_searches.2.1 62 = .ok (.iaload, 1) := by decide +kernel
theorem d_B_searches_63 : decode M_B_searches.2.1 63 = .ok (.istore 6, 2) := by decide +kernel
theorem d_B_searches_65 : decode M_B_searches.2.1 65 = .ok (.aload_n 0, 1) := by decide +kernel
theorem d_B_searches_66 : decode M_B_searches.2.1 66 = .ok (.getfield 74, 3) := by decide +kernel
theorem d_B_searches_69 : decode M_B_searches.2.1 69 = .ok (.iload 5, 2) := by decide +kernel
theorem d_B_searches_71 : decode M_B_searches.2.1 71 = .ok (.dup2, 1) := by decide +kernel
theorem d_B_searches_72 : decode M_B_searches.2.1 72 = .ok (.iaload, 1) := by decide +kernel
theorem d_B_searches_73 : decode M_B_searches.2.1 73 = .ok (.iconst 1, 1) := by decide +kernel
theorem d_B_searches_74 : decode M_B_searches.2.1 74 = .ok (.iadd, 1) := by decide +kernel
theorem d_B_searches_75 : decode M_B_searches.2.1 75 = .ok (.iastore, 1) := by decide +kernel
theorem d_B_searches_76 : decode M_B_searches.2.1 76 = .ok (.aload_n 0, 1) := by decide +kernel
theorem d_B_searches_77 : decode M_B_searches.2.1 77 = .ok (.dup, 1) := by decide +kernel
theorem d_B_searches_78 : decode M_B_searches.2.1 78 = .ok (.getfield 112, 3) := by decide +kernel
theorem d_B_searches_81 : decode M_B_searches.2.1 81 = .ok (.iconst 1, 1) := by decide +kernel
theorem d_B_searches_82 : decode M_B_searches.2.1 82 = .ok (.iadd, 1) := by decide +kernel
theorem d_B_searches_83 : decode M_B_searches.2.1 83 = .ok (.putfield 112, 3) := by decide +kernel
theorem d_B_searches_86 : decode M_B_searches.2.1 86 = .ok (.aload_n 0, 1) := by decide +kernel
theorem d_B_searches_87 : decode M_B_searches.2.1 87 = .ok (.getfield 71, 3) := by decide +kernel
theorem d_B_searches_90 : decode M_B_searches.2.1 90 = .ok (.iload 5, 2) := by decide +kernel
theorem d_B_searches_92 : decode M_B_searches.2.1 92 = .ok (.aload_n 0, 1) := by decide +kernel
theorem d_B_searches_93 : decode M_B_searches.2.1 93 = .ok (.getfield 68, 3) := by decide +kernel
theorem d_B_searches_96 : decode M_B_searches.2.1 96 = .ok (.iload 6, 2) := by decide +kernel
theorem d_B_searches_98 : decode M_B_searches.2.1 98 = .ok (.laload, 1) := by decide +kernel
theorem d_B_searches_99 : decode M_B_searches.2.1 99 = .ok (.lastore, 1) := by decide +kernel
theorem d_B_searches_100 : decode M_B_searches.2.1 100 = .ok (.aload_n 0, 1) := by decide +kernel
theorem d_B_searches_101 : decode M_B_searches.2.1 101 = .ok (.iload 5, 2) := by decide +kernel
theorem d_B_searches_103 : decode M_B_searches.2.1 103 = .ok (.iconst 1, 1) := by decide +kernel
theorem d_B_searches_104 : decode M_B_searches.2.1 104 = .ok (.iadd, 1) := by decide +kernel
theorem d_B_searches_105 : decode M_B_searches.2.1 105 = .ok (.iload_n 1, 1) := by decide +kernel
theorem d_B_searches_106 : decode M_B_searches.2.1 106 = .ok (.invokevirtual 238, 3) := by decide +kernel
theorem d_B_searches_109 : decode M_B_searches.2.1 109 = .ok (.ifCond .ne 6, 3) := by decide +kernel
theorem d_B_searches_112 : decode M_B_searches.2.1 112 = .ok (.goto (-89), 3) := by decide +kernel
theorem d_B_searches_115 : decode M_B_searches.2.1 115 = .ok (.iload 5, 2) := by decide +kernel
theorem d_B_searches_117 : decode M_B_searches.2.1 117 = .ok (.iconst 1, 1) := by decide +kernel
theorem d_B_searches_118 : decode M_B_searches.2.1 118 = .ok (.iadd, 1) := by decide +kernel
theorem d_B_searches_119 : decode M_B_searches.2.1 119 = .ok (.iload_n 2, 1) := by decide +kernel
theorem d_B_searches_120 : decode M_B_searches.2.1 120 = .ok (.if_icmp .ge 18, 3) := by decide +kernel
theorem d_B_searches_123 : decode M_B_searches.2.1 123 = .ok (.iinc 5 1, 3) := by decide +kernel
theorem d_B_searches_126 : decode M_B_searches.2.1 126 = .ok (.aload_n 0, 1) := by decide +kernel
theorem d_B_searches_127 : decode M_B_searches.2.1 127 = .ok (.getfield 74, 3) := by decide +kernel
theorem d_B_searches_130 : decode M_B_searches.2.1 130 = .ok (.iload 5, 2) := by decide +kernel
theorem d_B_searches_132 : decode M_B_searches.2.1 132 = .ok (.iload 6, 2) := by decide +kernel
theorem d_B_searches_134 : decode M_B_searches.2.1 134 = .ok (.iastore, 1) := by decide +kernel
theorem d_B_searches_135 : decode M_B_searches.2.1 135 = .ok (.goto 55, 3) := by decide +kernel
theorem d_B_searches_138 : decode M_B_searches.2.1 138 = .ok (.aload_n 0, 1) := by decide +kernel
theorem d_B_searches_139 : decode M_B_searches.2.1 139 = .ok (.invokevirtual 184, 3) := by decide +kernel
theorem d_B_searches_142 : decode M_B_searches.2.1 142 = .ok (.iload_n 1, 1) := by decide +kernel
theorem d_B_searches_143 : decode M_B_searches.2.1 143 = .ok (.if_icmp .ne 47, 3) := by decide +kernel
theorem d_B_searches_146 : decode M_B_searches.2.1 146 = .ok (.iinc 4 1, 3) := by decide +kernel
theorem d_B_searches_149 : decode M_B_searches.2.1 149 = .ok (.aload_n 0, 1) := by decide +kernel
theorem d_B_searches_150 : decode M_B_searches.2.1 150 = .ok (.getfield 118, 3) := by decide +kernel
theorem d_B_searches_153 : decode M_B_searches.2.1 153 = .ok (.ifCond .ne 37, 3) := by decide +kernel
theorem d_B_searches_156 : decode M_B_searches.2.1 156 = .ok (.aload_n 0, 1) := by decide +kernel
theorem d_B_searches_157 : decode M_B_searches.2.1 157 = .ok (.iload_n 2, 1) := by decide +kernel
theorem d_B_searches_158 : decode M_B_searches.2.1 158 = .ok (.putfield 118, 3) := by decide +kernel
theorem d_B_searches_161 : decode M_B_searches.2.1 161 = .ok (.iconst 0, 1) := by decide +kernel
theorem d_B_searches_162 : decode M_B_searches.2.1 162 = .ok (.istore 7, 2) := by decide +kernel
theorem d_B_searches_164 : decode M_B_searches.2.1 164 = .ok (.iload 7, 2) := by decide +kernel
theorem d_B_searches_166 : decode M_B_searches.2.1 166 = .ok (.iload_n 2, 1) := by decide +kernel
theorem d_B_searches_167 : decode M_B_searches.2.1 167 = .ok (.if_icmp .ge 23, 3) := by decide +kernel
theorem d_B_searches_170 : decode M_B_searches.2.1 170 = .ok (.aload_n 0, 1) := by decide +kernel
theorem d_B_searches_171 : decode M_B_searches.2.1 171 = .ok (.getfield 47, 3) := by decide +kernel
theorem d_B_searches_174 : decode M_B_searches.2.1 174 = .ok (.iload 7, 2) := by decide +kernel
theorem d_B_searches_176 : decode M_B_searches.2.1 176 = .ok (.aload_n 0, 1) := by decide +kernel
theorem d_B_searches_177 : decode M_B_searches.2.1 177 = .ok (.getfield 71, 3) := by decide +kernel
theorem d_B_searches_180 : decode M_B_searches.2.1 180 = .ok (.iload 7, 2) := by decide +kernel
theorem d_B_searches_182 : decode M_B_searches.2.1 182 = .ok (.laload, 1) := by decide +kernel
theorem d_B_searches_183 : decode M_B_searches.2.1 183 = .ok (.lastore, 1) := by decide +kernel
theorem d_B_searches_184 : decode M_B_searches.2.1 184 = .ok (.iinc 7 1, 3) := by decide +kernel
theorem d_B_searches_187 : decode M_B_searches.2.1 187 = .ok (.goto (-23), 3) := by decide +kernel
theorem d_B_searches_190 : decode M_B_searches.2.1 190 = .ok (.goto (-167), 3) := by decide +kernel
theorem d_B_searches_193 : decode M_B_searches.2.1 193 = .ok (.iload 4, 2) := by decide +kernel
theorem d_B_searches_195 : decode M_B_searches.2.1 195 = .ok (.ireturn, 1) := by decide +kernel
theorem d_B_search_0 : decode M_B_search.2.1 0 = .ok (.iload_n 1, 1) := by decide +kernel
theorem d_B_search_1 : decode M_B_search.2.1 1 = .ok (.i2l, 1) := by decide +kernel
theorem d_B_search_2 : decode M_B_search.2.1 2 = .ok (.ldc2_w 105, 3) := by decide +kernel
theorem d_B_search_5 : decode M_B_search.2.1 5 = .ok (.ldc2_w 142, 3) := by decide +kernel
theorem d_B_search_8 : decode M_B_search.2.1 8 = .ok (.invokestatic 83, 3) := by decide +kernel
theorem d_B_search_11 : decode M_B_search.2.1 11 = .ok (.ifCond .eq 61, 3) := by decide +kernel
theorem d_B_search_14 : decode M_B_search.2.1 14 = .ok (.iload_n 2, 1) := by decide +kernel
theorem d_B_search_15 : decode M_B_search.2.1 15 = .ok (.i2l, 1) := by decide +kernel
theorem d_B_search_16 : decode M_B_search.2.1 16 = .ok (.lconst 1, 1) := by decide +kernel
theorem d_B_search_17 : decode M_B_search.2.1 17 = .ok (.ldc2_w 225, 3) := by decide +kernel
theorem d_B_search_20 : decode M_B_search.2.1 20 = .ok (.invokestatic 83, 3) := by decide +kernel
theorem d_B_search_23 : decode M_B_search.2.1 23 = .ok (.ifCond .eq 49, 3) := by decide +kernel
theorem d_B_search_26 : decode M_B_search.2.1 26 = .ok (.iload_n 3, 1) := by decide +kernel
theorem d_B_search_27 : decode M_B_search.2.1 27 = .ok (.i2l, 1) := by decide +kernel
theorem d_B_search_28 : decode M_B_search.2.1 28 = .ok (.lconst 1, 1) := by decide +kernel
theorem d_B_search_29 : decode M_B_search.2.1 29 = .ok (.ldc2_w 227, 3) := by decide +kernel
theorem d_B_search_32 : decode M_B_search.2.1 32 = .ok (.invokestatic 83, 3) := by decide +kernel
theorem d_B_search_35 : decode M_B_search.2.1 35 = .ok (.ifCond .eq 37, 3) := by decide +kernel
theorem d_B_search_38 : decode M_B_search.2.1 38 = .ok (.iload 4, 2) := by decide +kernel
theorem d_B_search_40 : decode M_B_search.2.1 40 = .ok (.i2l, 1) := by decide +kernel
theorem d_B_search_41 : decode M_B_search.2.1 41 = .ok (.lconst 1, 1) := by decide +kernel
theorem d_B_search_42 : decode M_B_search.2.1 42 = .ok (.aload_n 0, 1) := by decide +kernel
theorem d_B_search_43 : decode M_B_search.2.1 43 = .ok (.getfield 16, 3) := by decide +kernel
theorem d_B_search_46 : decode M_B_search.2.1 46 = .ok (.iconst 1, 1) := by decide +kernel
theorem d_B_search_47 : decode M_B_search.2.1 47 = .ok (.isub, 1) := by decide +kernel
theorem d_B_search_48 : decode M_B_search.2.1 48 = .ok (.i2l, 1) := by decide +kernel
theorem d_B_search_49 : decode M_B_search.2.1 49 = .ok (.invokestatic 83, 3) := by decide +kernel
theorem d_B_search_52 : decode M_B_search.2.1 52 = .ok (.ifCond .eq 20, 3) := by decide +kernel
theorem d_B_search_55 : decode M_B_search.2.1 55 = .ok (.iload 5, 2) := by decide +kernel
theorem d_B_search_57 : decode M_B_search.2.1 57 = .ok (.i2l, 1) := by decide +kernel
theorem d_B_search_58 : decode M_B_search.2.1 58 = .ok (.lconst 1, 1) := by decide +kernel
theorem d_B_search_59 : decode M_B_search.2.1 59 = .ok (.ldc2_w 229, 3) := by decide +kernel
theorem d_B_search_62 : decode M_B_search.2.1 62 = .ok (.invokestatic 83, 3) := by decide +kernel
theorem d_B_search_65 : decode M_B_search.2.1 65 = .ok (.ifCond .eq 7, 3) := by decide +kernel
theorem d_B_search_68 : decode M_B_search.2.1 68 = .ok (.iconst 1, 1) := by decide +kernel
theorem d_B_search_69 : decode M_B_search.2.1 69 = .ok (.goto 4, 3) := by decide +kernel
theorem d_B_search_72 : decode M_B_search.2.1 72 = .ok (.iconst 0, 1) := by decide +kernel
theorem d_B_search_73 : decode M_B_search.2.1 73 = .ok (.istore 6, 2) := by decide +kernel
theorem d_B_search_75 : decode M_B_search.2.1 75 = .ok (.iload 6, 2) := by decide +kernel
theorem d_B_search_77 : decode M_B_search.2.1 77 = .ok (.ifCond .eq 16, 3) := by decide +kernel
theorem d_B_search_80 : decode M_B_search.2.1 80 = .ok (.iload 4, 2) := by decide +kernel
theorem d_B_search_82 : decode M_B_search.2.1 82 = .ok (.aload_n 0, 1) := by decide +kernel
theorem d_B_search_83 : decode M_B_search.2.1 83 = .ok (.getfield 16, 3) := by decide +kernel
theorem d_B_search_86 : decode M_B_search.2.1 86 = .ok (.invokestatic 158, 3) := by decide +kernel
theorem d_B_search_89 : decode M_B_search.2.1 89 = .ok (.iconst 1, 1) := by decide +kernel
theorem d_B_search_90 : decode M_B_search.2.1 90 = .ok (.if_icmp .le 5, 3) := by decide +kernel
theorem d_B_search_93 : decode M_B_search.2.1 93 = .ok (.iconst (-1), 1) := by decide +kernel
theorem d_B_search_94 : decode M_B_search.2.1 94 = .ok (.ireturn, 1) := by decide +kernel
theorem d_B_search_95 : decode M_B_search.2.1 95 = .ok (.aload_n 0, 1) := by decide +kernel
theorem d_B_search_96 : decode M_B_search.2.1 96 = .ok (.getfield 16, 3) := by decide +kernel
theorem d_B_search_99 : decode M_B_search.2.1 99 = .ok (.bipush 25, 2) := by decide +kernel
theorem d_B_search_101 : decode M_B_search.2.1 101 = .ok (.if_icmp .le 6, 3) := by decide +kernel
theorem d_B_search_104 : decode M_B_search.2.1 104 = .ok (.bipush (-3), 2) := by decide +kernel
theorem d_B_search_106 : decode M_B_search.2.1 106 = .ok (.ireturn, 1) := by decide +kernel
theorem d_B_search_107 : decode M_B_search.2.1 107 = .ok (.iload_n 1, 1) := by decide +kernel
theorem d_B_search_108 : decode M_B_search.2.1 108 = .ok (.aload_n 0, 1) := by decide +kernel
theorem d_B_search_109 : decode M_B_search.2.1 109 = .ok (.getfield 16, 3) := by decide +kernel
theorem d_B_search_112 : decode M_B_search.2.1 112 = .ok (.if_icmp .le 11, 3) := by decide +kernel
theorem d_B_search_115 : decode M_B_search.2.1 115 = .ok (.aload_n 0, 1) := by decide +kernel
theorem d_B_search_116 : decode M_B_search.2.1 116 = .ok (.iconst 0, 1) := by decide +kernel
theorem d_B_search_117 : decode M_B_search.2.1 117 = .ok (.putfield 115, 3) := by decide +kernel
theorem d_B_search_120 : decode M_B_search.2.1 120 = .ok (.goto 10, 3) := by decide +kernel
theorem d_B_search_123 : decode M_B_search.2.1 123 = .ok (.aload_n 0, 1) := by decide +kernel
theorem d_B_search_124 : decode M_B_search.2.1 124 = .ok (.iload_n 1, 1) := by decide +kernel
theorem d_B_search_125 : decode M_B_search.2.1 125 = .ok (.iload 4, 2) := by decide +kernel
theorem d_B_search_127 : decode M_B_search.2.1 127 = .ok (.invokevirtual 231, 3) := by decide +kernel
theorem d_B_search_130 : decode M_B_search.2.1 130 = .ok (.aload_n 0, 1) := by decide +kernel
theorem d_B_search_131 : decode M_B_search.2.1 131 = .ok (.iload_n 2, 1) := by decide +kernel
theorem d_B_search_132 : decode M_B_search.2.1 132 = .ok (.iload_n 3, 1) := by decide +kernel
theorem d_B_search_133 : decode M_B_search.2.1 133 = .ok (.iload 5, 2) := by decide +kernel
theorem d_B_search_135 : decode M_B_search.2.1 135 = .ok (.invokevirtual 235, 3) := by decide +kernel
theorem d_B_search_138 : decode M_B_search.2.1 138 = .ok (.ireturn, 1) := by decide +kernel
theorem d_B_searchSteps_0 : decode M_B_searchSteps.2.1 0 = .ok (.aload_n 0, 1) := by decide +kernel
theorem d_B_searchSteps_1 : decode M_B_searchSteps.2.1 1 = .ok (.getfield 112, 3) := by decide +kernel
theorem d_B_searchSteps_4 : decode M_B_searchSteps.2.1 4 = .ok (.ireturn, 1) := by decide +kernel
theorem d_B_setGroup_0 : decode M_B_setGroup.2.1 0 = .ok (.iload_n 1, 1) := by decide +kernel
theorem d_B_setGroup_1 : decode M_B_setGroup.2.1 1 = .ok (.i2l, 1) := by decide +kernel
theorem d_B_setGroup_2 : decode M_B_setGroup.2.1 2 = .ok (.ldc2_w 105, 3) := by decide +kernel
theorem d_B_setGroup_5 : decode M_B_setGroup.2.1 5 = .ok (.ldc2_w 107, 3) := by decide +kernel
theorem d_B_setGroup_8 : decode M_B_setGroup.2.1 8 = .ok (.invokestatic 83, 3) := by decide +kernel
theorem d_B_setGroup_11 : decode M_B_setGroup.2.1 11 = .ok (.ifCond .eq 23, 3) := by decide +kernel
theorem d_B_setGroup_14 : decode M_B_setGroup.2.1 14 = .ok (.iload_n 2, 1) := by decide +kernel
theorem d_B_setGroup_15 : decode M_B_setGroup.2.1 15 = .ok (.i2l, 1) := by decide +kernel
theorem d_B_setGroup_16 : decode M_B_setGroup.2.1 16 = .ok (.lconst 1, 1) := by decide +kernel
theorem d_B_setGroup_17 : decode M_B_setGroup.2.1 17 = .ok (.ldc2_w 107, 3) := by decide +kernel
theorem d_B_setGroup_20 : decode M_B_setGroup.2.1 20 = .ok (.invokestatic 83, 3) := by decide +kernel
theorem d_B_setGroup_23 : decode M_B_setGroup.2.1 23 = .ok (.ifCond .eq 11, 3) := by decide +kernel
theorem d_B_setGroup_26 : decode M_B_setGroup.2.1 26 = .ok (.iload_n 1, 1) := by decide +kernel
theorem d_B_setGroup_27 : decode M_B_setGroup.2.1 27 = .ok (.iload_n 2, 1) := by decide +kernel
theorem d_B_setGroup_28 : decode M_B_setGroup.2.1 28 = .ok (.imul, 1) := by decide +kernel
theorem d_B_setGroup_29 : decode M_B_setGroup.2.1 29 = .ok (.bipush 40, 2) := by decide +kernel
theorem d_B_setGroup_31 : decode M_B_setGroup.2.1 31 = .ok (.if_icmp .le 5, 3) := by decide +kernel
theorem d_B_setGroup_34 : decode M_B_setGroup.2.1 34 = .ok (.iconst (-1), 1) := by decide +kernel
theorem d_B_setGroup_35 : decode M_B_setGroup.2.1 35 = .ok (.ireturn, 1) := by decide +kernel
theorem d_B_setGroup_36 : decode M_B_setGroup.2.1 36 = .ok (.aload_n 0, 1) := by decide +kernel
theorem d_B_setGroup_37 : decode M_B_setGroup.2.1 37 = .ok (.getfield 16, 3) := by decide +kernel
theorem d_B_setGroup_40 : decode M_B_setGroup.2.1 40 = .ok (.istore_n 3, 1) := by decide +kernel
theorem d_B_setGroup_41 : decode M_B_setGroup.2.1 41 = .ok (.aload_n 0, 1) := by decide +kernel
theorem d_B_setGroup_42 : decode M_B_setGroup.2.1 42 = .ok (.iload_n 1, 1) := by decide +kernel
theorem d_B_setGroup_43 : decode M_B_setGroup.2.1 43 = .ok (.putfield 7, 3) := by decide +kernel
theorem d_B_setGroup_46 : decode M_B_setGroup.2.1 46 = .ok (.aload_n 0, 1) := by decide +kernel
theorem d_B_setGroup_47 : decode M_B_setGroup.2.1 47 = .ok (.iload_n 2, 1) := by decide +kernel
theorem d_B_setGroup_48 : decode M_B_setGroup.2.1 48 = .ok (.putfield 13, 3) := by decide +kernel
theorem d_B_setGroup_51 : decode M_B_setGroup.2.1 51 = .ok (.aload_n 0, 1) := by decide +kernel
theorem d_B_setGroup_52 : decode M_B_setGroup.2.1 52 = .ok (.iload_n 1, 1) := by decide +kernel
theorem d_B_setGroup_53 : decode M_B_setGroup.2.1 53 = .ok (.iload_n 2, 1) := by decide +kernel
theorem d_B_setGroup_54 : decode M_B_setGroup.2.1 54 = .ok (.imul, 1) := by decide +kernel
theorem d_B_setGroup_55 : decode M_B_setGroup.2.1 55 = .ok (.putfield 16, 3) := by decide +kernel
theorem d_B_setGroup_58 : decode M_B_setGroup.2.1 58 = .ok (.aload_n 0, 1) := by decide +kernel
theorem d_B_setGroup_59 : decode M_B_setGroup.2.1 59 = .ok (.lconst 1, 1) := by decide +kernel
theorem d_B_setGroup_60 : decode M_B_setGroup.2.1 60 = .ok (.putfield 19, 3) := by decide +kernel
theorem d_B_setGroup_63 : decode M_B_setGroup.2.1 63 = .ok (.iconst 0, 1) := by decide +kernel
theorem d_B_setGroup_64 : decode M_B_setGroup.2.1 64 = .ok (.istore 4, 2) := by decide +kernel
theorem d_B_setGroup_66 : decode M_B_setGroup.2.1 66 = .ok (.iload 4, 2) := by decide +kernel
theorem d_B_setGroup_68 : decode M_B_setGroup.2.1 68 = .ok (.bipush 6, 2) := by decide +kernel
theorem d_B_setGroup_70 : decode M_B_setGroup.2.1 70 = .ok (.if_icmp .ge 17, 3) := by decide +kernel
theorem d_B_setGroup_73 : decode M_B_setGroup.2.1 73 = .ok (.aload_n 0, 1) := by decide +kernel
theorem d_B_setGroup_74 : decode M_B_setGroup.2.1 74 = .ok (.getfield 23, 3) := by decide +kernel
theorem d_B_setGroup_77 : decode M_B_setGroup.2.1 77 = .ok (.iload 4, 2) := by decide +kernel
theorem d_B_setGroup_79 : decode M_B_setGroup.2.1 79 = .ok (.lconst 0, 1) := by decide +kernel
theorem d_B_setGroup_80 : decode M_B_setGroup.2.1 80 = .ok (.lastore, 1) := by decide +kernel
theorem d_B_setGroup_81 : decode M_B_setGroup.2.1 81 = .ok (.iinc 4 1, 3) := by decide +kernel
theorem d_B_setGroup_84 : decode M_B_setGroup.2.1 84 = .ok (.goto (-18), 3) := by decide +kernel
theorem d_B_setGroup_87 : decode M_B_setGroup.2.1 87 = .ok (.aload_n 0, 1) := by decide +kernel
theorem d_B_setGroup_88 : decode M_B_setGroup.2.1 88 = .ok (.iconst 0, 1) := by decide +kernel
theorem d_B_setGroup_89 : decode M_B_setGroup.2.1 89 = .ok (.putfield 109, 3) := by decide +kernel
theorem d_B_setGroup_92 : decode M_B_setGroup.2.1 92 = .ok (.aload_n 0, 1) := by decide +kernel
theorem d_B_setGroup_93 : decode M_B_setGroup.2.1 93 = .ok (.iconst 0, 1) := by decide +kernel
theorem d_B_setGroup_94 : decode M_B_setGroup.2.1 94 = .ok (.putfield 112, 3) := by decide +kernel
theorem d_B_setGroup_97 : decode M_B_setGroup.2.1 97 = .ok (.aload_n 0, 1) := by decide +kernel
theorem d_B_setGroup_98 : decode M_B_setGroup.2.1 98 = .ok (.iconst 0, 1) := by decide +kernel
theorem d_B_setGroup_99 : decode M_B_setGroup.2.1 99 = .ok (.putfield 115, 3) := by decide +kernel
theorem d_B_setGroup_102 : decode M_B_setGroup.2.1 102 = .ok (.aload_n 0, 1) := by decide +kernel
theorem d_B_setGroup_103 : decode M_B_setGroup.2.1 103 = .ok (.iconst 0, 1) := by decide +kernel
theorem d_B_setGroup_104 : decode M_B_setGroup.2.1 104 = .ok (.putfield 118, 3) := by decide +kernel
theorem d_B_setGroup_107 : decode M_B_setGroup.2.1 107 = .ok (.aload_n 0, 1) := by decide +kernel
theorem d_B_setGroup_108 : decode M_B_setGroup.2.1 108 = .ok (.getfield 33, 3) := by decide +kernel
theorem d_B_setGroup_111 : decode M_B_setGroup.2.1 111 = .ok (.iconst 0, 1) := by decide +kernel
theorem d_B_setGroup_112 : decode M_B_setGroup.2.1 112 = .ok (.iconst 0, 1) := by decide +kernel
theorem d_B_setGroup_113 : decode M_B_setGroup.2.1 113 = .ok (.bastore, 1) := by decide +kernel
theorem d_B_setGroup_114 : decode M_B_setGroup.2.1 114 = .ok (.aload_n 0, 1) := by decide +kernel
theorem d_B_setGroup_115 : decode M_B_setGroup.2.1 115 = .ok (.getfield 33, 3) := by decide +kernel
theorem d_B_setGroup_118 : decode M_B_setGroup.2.1 118 = .ok (.iconst 1, 1) := by decide +kernel
theorem d_B_setGroup_119 : decode M_B_setGroup.2.1 119 = .ok (.iconst 0, 1) := by decide +kernel
theorem d_B_setGroup_120 : decode M_B_setGroup.2.1 120 = .ok (.bastore, 1) := by decide +kernel
theorem d_B_setGroup_121 : decode M_B_setGroup.2.1 121 = .ok (.aload_n 0, 1) := by decide +kernel
theorem d_B_setGroup_122 : decode M_B_setGroup.2.1 122 = .ok (.invokevirtual 80, 3) := by decide +kernel
theorem d_B_setGroup_125 : decode M_B_setGroup.2.1 125 = .ok (.iload_n 3, 1) := by decide +kernel
theorem d_B_setGroup_126 : decode M_B_setGroup.2.1 126 = .ok (.ireturn, 1) := by decide +kernel
theorem d_B_setHole_0 : decode M_B_setHole.2.1 0 = .ok (.aload_n 0, 1) := by decide +kernel
theorem d_B_setHole_1 : decode M_B_setHole.2.1 1 = .ok (.iload_n 1, 1) := by decide +kernel
theorem d_B_setHole_2 : decode M_B_setHole.2.1 2 = .ok (.invokevirtual 121, 3) := by decide +kernel
theorem d_B_setHole_5 : decode M_B_setHole.2.1 5 = .ok (.ifCond .eq 11, 3) := by decide +kernel
theorem d_B_setHole_8 : decode M_B_setHole.2.1 8 = .ok (.aload_n 0, 1) := by decide +kernel
theorem d_B_setHole_9 : decode M_B_setHole.2.1 9 = .ok (.iload_n 2, 1) := by decide +kernel
theorem d_B_setHole_10 : decode M_B_setHole.2.1 10 = .ok (.invokevirtual 121, 3) := by decide +kernel
theorem d_B_setHole_13 : decode M_B_setHole.2.1 13 = .ok (.ifCond .ne 5, 3) := by decide +kernel
theorem d_B_setHole_16 : decode M_B_setHole.2.1 16 = .ok (.iconst (-1), 1) := by decide +kernel
theorem d_B_setHole_17 : decode M_B_setHole.2.1 17 = .ok (.ireturn, 1) := by decide +kernel
theorem d_B_setHole_18 : decode M_B_setHole.2.1 18 = .ok (.lconst 1, 1) := by decide +kernel
theorem d_B_setHole_19 : decode M_B_setHole.2.1 19 = .ok (.lstore_n 3, 1) := by decide +kernel
theorem d_B_setHole_20 : decode M_B_setHole.2.1 20 = .ok (.iconst 0, 1) := by decide +kernel
theorem d_B_setHole_21 : decode M_B_setHole.2.1 21 = .ok (.istore 5, 2) := by decide +kernel
theorem d_B_setHole_23 : decode M_B_setHole.2.1 23 = .ok (.iload 5, 2) := by decide +kernel
theorem d_B_setHole_25 : decode M_B_setHole.2.1 25 = .ok (.aload_n 0, 1) := by decide +kernel
theorem d_B_setHole_26 : decode M_B_setHole.2.1 26 = .ok (.getfield 16, 3) := by decide +kernel
theorem d_B_setHole_29 : decode M_B_setHole.2.1 29 = .ok (.if_icmp .ge 50, 3) := by decide +kernel
theorem d_B_setHole_32 : decode M_B_setHole.2.1 32 = .ok (.iconst 0, 1) := by decide +kernel
theorem d_B_setHole_33 : decode M_B_setHole.2.1 33 = .ok (.istore 6, 2) := by decide +kernel
theorem d_B_setHole_35 : decode M_B_setHole.2.1 35 = .ok (.iload 6, 2) := by decide +kernel
theorem d_B_setHole_37 : decode M_B_setHole.2.1 37 = .ok (.aload_n 0, 1) := by decide +kernel
theorem d_B_setHole_38 : decode M_B_setHole.2.1 38 = .ok (.getfield 16, 3) := by decide +kernel
theorem d_B_setHole_41 : decode M_B_setHole.2.1 41 = .ok (.if_icmp .ge 32, 3) := by decide +kernel
theorem d_B_setHole_44 : decode M_B_setHole.2.1 44 = .ok (.lload_n 3, 1) := by decide +kernel
theorem d_B_setHole_45 : decode M_B_setHole.2.1 45 = .ok (.lconst 1, 1) := by decide +kernel
theorem d_B_setHole_46 : decode M_B_setHole.2.1 46 = .ok (.aload_n 0, 1) := by decide +kernel
theorem d_B_setHole_47 : decode M_B_setHole.2.1 47 = .ok (.aload_n 0, 1) := by decide +kernel
theorem d_B_setHole_48 : decode M_B_setHole.2.1 48 = .ok (.iload 5, 2) := by decide +kernel
theorem d_B_setHole_50 : decode M_B_setHole.2.1 50 = .ok (.iload_n 1, 1) := by decide +kernel
theorem d_B_setHole_51 : decode M_B_setHole.2.1 51 = .ok (.invokevirtual 87, 3) := by decide +kernel
theorem d_B_setHole_54 : decode M_B_setHole.2.1 54 = .ok (.aload_n 0, 1) := by decide +kernel
theorem d_B_setHole_55 : decode M_B_setHole.2.1 55 = .ok (.iload 6, 2) := by decide +kernel
theorem d_B_setHole_57 : decode M_B_setHole.2.1 57 = .ok (.iload_n 2, 1) := by decide +kernel
theorem d_B_setHole_58 : decode M_B_setHole.2.1 58 = .ok (.invokevirtual 87, 3) := by decide +kernel
theorem d_B_setHole_61 : decode M_B_setHole.2.1 61 = .ok (.invokevirtual 91, 3) := by decide +kernel
theorem d_B_setHole_64 : decode M_B_setHole.2.1 64 = .ok (.lshl, 1) := by decide +kernel
theorem d_B_setHole_65 : decode M_B_setHole.2.1 65 = .ok (.lor, 1) := by decide +kernel
theorem d_B_setHole_66 : decode M_B_setHole.2.1 66 = .ok (.lstore_n 3, 1) := by decide +kernel
theorem d_B_setHole_67 : decode M_B_setHole.2.1 67 = .ok (.iinc 6 1, 3) := by decide +kernel
theorem d_B_setHole_70 : decode M_B_setHole.2.1 70 = .ok (.goto (-35), 3) := by decide +kernel
theorem d_B_setHole_73 : decode M_B_setHole.2.1 73 = .ok (.iinc 5 1, 3) := by decide +kernel
theorem d_B_setHole_76 : decode M_B_setHole.2.1 76 = .ok (.goto (-53), 3) := by decide +kernel
theorem d_B_setHole_79 : decode M_B_setHole.2.1 79 = .ok (.aload_n 0, 1) := by decide +kernel
theorem d_B_setHole_80 : decode M_B_setHole.2.1 80 = .ok (.lload_n 3, 1) := by decide +kernel
theorem d_B_setHole_81 : decode M_B_setHole.2.1 81 = .ok (.putfield 19, 3) := by decide +kernel
theorem d_B_setHole_84 : decode M_B_setHole.2.1 84 = .ok (.aload_n 0, 1) := by decide +kernel
theorem d_B_setHole_85 : decode M_B_setHole.2.1 85 = .ok (.iconst 0, 1) := by decide +kernel
theorem d_B_setHole_86 : decode M_B_setHole.2.1 86 = .ok (.putfield 109, 3) := by decide +kernel
theorem d_B_setHole_89 : decode M_B_setHole.2.1 89 = .ok (.lload_n 3, 1) := by decide +kernel
theorem d_B_setHole_90 : decode M_B_setHole.2.1 90 = .ok (.invokestatic 130, 3) := by decide +kernel
theorem d_B_setHole_93 : decode M_B_setHole.2.1 93 = .ok (.ireturn, 1) := by decide +kernel
theorem d_B_shift_0 : decode M_B_shift.2.1 0 = .ok (.iload_n 1, 1) := by decide +kernel
theorem d_B_shift_1 : decode M_B_shift.2.1 1 = .ok (.invokestatic 147, 3) := by decide +kernel
theorem d_B_shift_4 : decode M_B_shift.2.1 4 = .ok (.ifCond .eq 30, 3) := by decide +kernel
theorem d_B_shift_7 : decode M_B_shift.2.1 7 = .ok (.aload_n 0, 1) := by decide +kernel
theorem d_B_shift_8 : decode M_B_shift.2.1 8 = .ok (.iload_n 2, 1) := by decide +kernel
theorem d_B_shift_9 : decode M_B_shift.2.1 9 = .ok (.invokevirtual 121, 3) := by decide +kernel
theorem d_B_shift_12 : decode M_B_shift.2.1 12 = .ok (.ifCond .eq 22, 3) := by decide +kernel
theorem d_B_shift_15 : decode M_B_shift.2.1 15 = .ok (.aload_n 0, 1) := by decide +kernel
theorem d_B_shift_16 : decode M_B_shift.2.1 16 = .ok (.iload_n 1, 1) := by decide +kernel
theorem d_B_shift_17 : decode M_B_shift.2.1 17 = .ok (.aload_n 0, 1) := by decide +kernel
theorem d_B_shift_18 : decode M_B_shift.2.1 18 = .ok (.aload_n 0, 1) := by decide +kernel
theorem d_B_shift_19 : decode M_B_shift.2.1 19 = .ok (.getfield 23, 3) := by decide +kernel
theorem d_B_shift_22 : decode M_B_shift.2.1 22 = .ok (.iload_n 1, 1) := by decide +kernel
theorem d_B_shift_23 : decode M_B_shift.2.1 23 = .ok (.laload, 1) := by decide +kernel
theorem d_B_shift_24 : decode M_B_shift.2.1 24 = .ok (.iload_n 2, 1) := by decide +kernel
theorem d_B_shift_25 : decode M_B_shift.2.1 25 = .ok (.invokevirtual 138, 3) := by decide +kernel
theorem d_B_shift_28 : decode M_B_shift.2.1 28 = .ok (.invokevirtual 150, 3) := by decide +kernel
theorem d_B_shift_31 : decode M_B_shift.2.1 31 = .ok (.goto 4, 3) := by decide +kernel
theorem d_B_shift_34 : decode M_B_shift.2.1 34 = .ok (.iconst (-1), 1) := by decide +kernel
theorem d_B_shift_35 : decode M_B_shift.2.1 35 = .ok (.ireturn, 1) := by decide +kernel
theorem d_B_stabilizer_0 : decode M_B_stabilizer.2.1 0 = .ok (.iload_n 1, 1) := by decide +kernel
theorem d_B_stabilizer_1 : decode M_B_stabilizer.2.1 1 = .ok (.invokestatic 147, 3) := by decide +kernel
theorem d_B_stabilizer_4 : decode M_B_stabilizer.2.1 4 = .ok (.ifCond .ne 5, 3) := by decide +kernel
theorem d_B_stabilizer_7 : decode M_B_stabilizer.2.1 7 = .ok (.iconst (-1), 1) := by decide +kernel
theorem d_B_stabilizer_8 : decode M_B_stabilizer.2.1 8 = .ok (.ireturn, 1) := by decide +kernel
theorem d_B_stabilizer_9 : decode M_B_stabilizer.2.1 9 = .ok (.aload_n 0, 1) := by decide +kernel
theorem d_B_stabilizer_10 : decode M_B_stabilizer.2.1 10 = .ok (.getfield 23, 3) := by decide +kernel
theorem d_B_stabilizer_13 : decode M_B_stabilizer.2.1 13 = .ok (.iload_n 1, 1) := by decide +kernel
theorem d_B_stabilizer_14 : decode M_B_stabilizer.2.1 14 = .ok (.laload, 1) := by decide +kernel
theorem d_B_stabilizer_15 : decode M_B_stabilizer.2.1 15 = .ok (.lconst 0, 1) := by decide +kernel
theorem d_B_stabilizer_16 : decode M_B_stabilizer.2.1 16 = .ok (.lcmp, 1) := by decide +kernel
theorem d_B_stabilizer_17 : decode M_B_stabilizer.2.1 17 = .ok (.ifCond .ne 6, 3) := by decide +kernel
theorem d_B_stabilizer_20 : decode M_B_stabilizer.2.1 20 = .ok (.bipush (-4), 2) := by decide +kernel
theorem d_B_stabilizer_22 : decode M_B_stabilizer.2.1 22 = .ok (.ireturn, 1) := by decide +kernel
theorem d_B_stabilizer_23 : decode M_B_stabilizer.2.1 23 = .ok (.iconst 0, 1) := by decide +kernel
theorem d_B_stabilizer_24 : decode M_B_stabilizer.2.1 24 = .ok (.istore_n 2, 1) := by decide +kernel
theorem d_B_stabilizer_25 : decode M_B_stabilizer.2.1 25 = .ok (.iconst 0, 1) := by decide +kernel
theorem d_B_stabilizer_26 : decode M_B_stabilizer.2.1 26 = .ok (.istore_n 3, 1) := by decide +kernel
theorem d_B_stabilizer_27 : decode M_B_stabilizer.2.1 27 = .ok (.iload_n 3, 1) := by decide +kernel
theorem d_B_stabilizer_28 : decode M_B_stabilizer.2.1 28 = .ok (.aload_n 0, 1) := by decide +kernel
theorem d_B_stabilizer_29 : decode M_B_stabilizer.2.1 29 = .ok (.getfield 16, 3) := by decide +kernel
theorem d_B_stabilizer_32 : decode M_B_stabilizer.2.1 32 = .ok (.if_icmp .ge 38, 3) := by decide +kernel
theorem d_B_stabilizer_35 : decode M_B_stabilizer.2.1 35 = .ok (.iload_n 2, 1) := by decide +kernel
theorem d_B_stabilizer_36 : decode M_B_stabilizer.2.1 36 = .ok (.aload_n 0, 1) := by decide +kernel
theorem d_B_stabilizer_37 : decode M_B_stabilizer.2.1 37 = .ok (.aload_n 0, 1) := by decide +kernel
theorem d_B_stabilizer_38 : decode M_B_stabilizer.2.1 38 = .ok (.getfield 23, 3) := by decide +kernel
theorem d_B_stabilizer_41 : decode M_B_stabilizer.2.1 41 = .ok (.iload_n 1, 1) := by decide +kernel
theorem d_B_stabilizer_42 : decode M_B_stabilizer.2.1 42 = .ok (.laload, 1) := by decide +kernel
theorem d_B_stabilizer_43 : decode M_B_stabilizer.2.1 43 = .ok (.iload_n 3, 1) := by decide +kernel
theorem d_B_stabilizer_44 : decode M_B_stabilizer.2.1 44 = .ok (.invokevirtual 138, 3) := by decide +kernel
theorem d_B_stabilizer_47 : decode M_B_stabilizer.2.1 47 = .ok (.aload_n 0, 1) := by decide +kernel
theorem d_B_stabilizer_48 : decode M_B_stabilizer.2.1 48 = .ok (.getfield 23, 3) := by decide +kernel
theorem d_B_stabilizer_51 : decode M_B_stabilizer.2.1 51 = .ok (.iload_n 1, 1) := by decide +kernel
theorem d_B_stabilizer_52 : decode M_B_stabilizer.2.1 52 = .ok (.laload, 1) := by decide +kernel
theorem d_B_stabilizer_53 : decode M_B_stabilizer.2.1 53 = .ok (.lcmp, 1) := by decide +kernel
theorem d_B_stabilizer_54 : decode M_B_stabilizer.2.1 54 = .ok (.ifCond .ne 7, 3) := by decide +kernel
theorem d_B_stabilizer_57 : decode M_B_stabilizer.2.1 57 = .ok (.iconst 1, 1) := by decide +kernel
theorem d_B_stabilizer_58 : decode M_B_stabilizer.2.1 58 = .ok (.goto 4, 3) := by decide +kernel
theorem d_B_stabilizer_61 : decode M_B_stabilizer.2.1 61 = .ok (.iconst 0, 1) := by decide +kernel
theorem d_B_stabilizer_62 : decode M_B_stabilizer.2.1 62 = .ok (.iadd, 1) := by decide +kernel
theorem d_B_stabilizer_63 : decode M_B_stabilizer.2.1 63 = .ok (.istore_n 2, 1) := by decide +kernel
theorem d_B_stabilizer_64 : decode M_B_stabilizer.2.1 64 = .ok (.iinc 3 1, 3) := by decide +kernel
theorem d_B_stabilizer_67 : decode M_B_stabilizer.2.1 67 = .ok (.goto (-40), 3) := by decide +kernel
theorem d_B_stabilizer_70 : decode M_B_stabilizer.2.1 70 = .ok (.iload_n 2, 1) := by decide +kernel
theorem d_B_stabilizer_71 : decode M_B_stabilizer.2.1 71 = .ok (.ireturn, 1) := by decide +kernel
theorem d_B_sum_0 : decode M_B_sum.2.1 0 = .ok (.aload_n 0, 1) := by decide +kernel
theorem d_B_sum_1 : decode M_B_sum.2.1 1 = .ok (.iload_n 1, 1) := by decide +kernel
theorem d_B_sum_2 : decode M_B_sum.2.1 2 = .ok (.invokevirtual 121, 3) := by decide +kernel
theorem d_B_sum_5 : decode M_B_sum.2.1 5 = .ok (.ifCond .eq 20, 3) := by decide +kernel
theorem d_B_sum_8 : decode M_B_sum.2.1 8 = .ok (.aload_n 0, 1) := by decide +kernel
theorem d_B_sum_9 : decode M_B_sum.2.1 9 = .ok (.iload_n 2, 1) := by decide +kernel
theorem d_B_sum_10 : decode M_B_sum.2.1 10 = .ok (.invokevirtual 121, 3) := by decide +kernel
theorem d_B_sum_13 : decode M_B_sum.2.1 13 = .ok (.ifCond .eq 12, 3) := by decide +kernel
theorem d_B_sum_16 : decode M_B_sum.2.1 16 = .ok (.aload_n 0, 1) := by decide +kernel
theorem d_B_sum_17 : decode M_B_sum.2.1 17 = .ok (.iload_n 1, 1) := by decide +kernel
theorem d_B_sum_18 : decode M_B_sum.2.1 18 = .ok (.iload_n 2, 1) := by decide +kernel
theorem d_B_sum_19 : decode M_B_sum.2.1 19 = .ok (.invokevirtual 91, 3) := by decide +kernel
theorem d_B_sum_22 : decode M_B_sum.2.1 22 = .ok (.goto 4, 3) := by decide +kernel
theorem d_B_sum_25 : decode M_B_sum.2.1 25 = .ok (.iconst (-1), 1) := by decide +kernel
theorem d_B_sum_26 : decode M_B_sum.2.1 26 = .ok (.ireturn, 1) := by decide +kernel
theorem d_B_take_0 : decode M_B_take.2.1 0 = .ok (.iload_n 1, 1) := by decide +kernel
theorem d_B_take_1 : decode M_B_take.2.1 1 = .ok (.invokestatic 147, 3) := by decide +kernel
theorem d_B_take_4 : decode M_B_take.2.1 4 = .ok (.ifCond .eq 11, 3) := by decide +kernel
theorem d_B_take_7 : decode M_B_take.2.1 7 = .ok (.aload_n 0, 1) := by decide +kernel
theorem d_B_take_8 : decode M_B_take.2.1 8 = .ok (.iload_n 2, 1) := by decide +kernel
theorem d_B_take_9 : decode M_B_take.2.1 9 = .ok (.invokevirtual 121, 3) := by decide +kernel
theorem d_B_take_12 : decode M_B_take.2.1 12 = .ok (.ifCond .ne 5, 3) := by decide +kernel
theorem d_B_take_15 : decode M_B_take.2.1 15 = .ok (.iconst (-1), 1) := by decide +kernel
theorem d_B_take_16 : decode M_B_take.2.1 16 = .ok (.ireturn, 1) := by decide +kernel
theorem d_B_take_17 : decode M_B_take.2.1 17 = .ok (.aload_n 0, 1) := by decide +kernel
theorem d_B_take_18 : decode M_B_take.2.1 18 = .ok (.getfield 23, 3) := by decide +kernel
theorem d_B_take_21 : decode M_B_take.2.1 21 = .ok (.iload_n 1, 1) := by decide +kernel
theorem d_B_take_22 : decode M_B_take.2.1 22 = .ok (.laload, 1) := by decide +kernel
theorem d_B_take_23 : decode M_B_take.2.1 23 = .ok (.iload_n 2, 1) := by decide +kernel
theorem d_B_take_24 : decode M_B_take.2.1 24 = .ok (.invokestatic 134, 3) := by decide +kernel
theorem d_B_take_27 : decode M_B_take.2.1 27 = .ok (.ifCond .eq 21, 3) := by decide +kernel
theorem d_B_take_30 : decode M_B_take.2.1 30 = .ok (.aload_n 0, 1) := by decide +kernel
theorem d_B_take_31 : decode M_B_take.2.1 31 = .ok (.iload_n 1, 1) := by decide +kernel
theorem d_B_take_32 : decode M_B_take.2.1 32 = .ok (.aload_n 0, 1) := by decide +kernel
theorem d_B_take_33 : decode M_B_take.2.1 33 = .ok (.getfield 23, 3) := by decide +kernel
theorem d_B_take_36 : decode M_B_take.2.1 36 = .ok (.iload_n 1, 1) := by decide +kernel
theorem d_B_take_37 : decode M_B_take.2.1 37 = .ok (.laload, 1) := by decide +kernel
theorem d_B_take_38 : decode M_B_take.2.1 38 = .ok (.lconst 1, 1) := by decide +kernel
theorem d_B_take_39 : decode M_B_take.2.1 39 = .ok (.iload_n 2, 1) := by decide +kernel
theorem d_B_take_40 : decode M_B_take.2.1 40 = .ok (.lshl, 1) := by decide +kernel
theorem d_B_take_41 : decode M_B_take.2.1 41 = .ok (.lxor, 1) := by decide +kernel
theorem d_B_take_42 : decode M_B_take.2.1 42 = .ok (.invokevirtual 150, 3) := by decide +kernel
theorem d_B_take_45 : decode M_B_take.2.1 45 = .ok (.goto 5, 3) := by decide +kernel
theorem d_B_take_48 : decode M_B_take.2.1 48 = .ok (.bipush (-3), 2) := by decide +kernel
theorem d_B_take_50 : decode M_B_take.2.1 50 = .ok (.ireturn, 1) := by decide +kernel
theorem d_B_takeSolution_0 : decode M_B_takeSolution.2.1 0 = .ok (.aload_n 0, 1) := by decide +kernel
theorem d_B_takeSolution_1 : decode M_B_takeSolution.2.1 1 = .ok (.getfield 118, 3) := by decide +kernel
theorem d_B_takeSolution_4 : decode M_B_takeSolution.2.1 4 = .ok (.ifCond .ne 6, 3) := by decide +kernel
theorem d_B_takeSolution_7 : decode M_B_takeSolution.2.1 7 = .ok (.bipush (-3), 2) := by decide +kernel
theorem d_B_takeSolution_9 : decode M_B_takeSolution.2.1 9 = .ok (.ireturn, 1) := by decide +kernel
theorem d_B_takeSolution_10 : decode M_B_takeSolution.2.1 10 = .ok (.aload_n 0, 1) := by decide +kernel
theorem d_B_takeSolution_11 : decode M_B_takeSolution.2.1 11 = .ok (.invokevirtual 144, 3) := by decide +kernel
theorem d_B_takeSolution_14 : decode M_B_takeSolution.2.1 14 = .ok (.iconst 0, 1) := by decide +kernel
theorem d_B_takeSolution_15 : decode M_B_takeSolution.2.1 15 = .ok (.istore_n 1, 1) := by decide +kernel
theorem d_B_takeSolution_16 : decode M_B_takeSolution.2.1 16 = .ok (.iload_n 1, 1) := by decide +kernel
theorem d_B_takeSolution_17 : decode M_B_takeSolution.2.1 17 = .ok (.bipush 6, 2) := by decide +kernel
theorem d_B_takeSolution_19 : decode M_B_takeSolution.2.1 19 = .ok (.if_icmp .ge 33, 3) := by decide +kernel
theorem d_B_takeSolution_22 : decode M_B_takeSolution.2.1 22 = .ok (.aload_n 0, 1) := by decide +kernel
theorem d_B_takeSolution_23 : decode M_B_takeSolution.2.1 23 = .ok (.getfield 23, 3) := by decide +kernel
theorem d_B_takeSolution_26 : decode M_B_takeSolution.2.1 26 = .ok (.iload_n 1, 1) := by decide +kernel
theorem d_B_takeSolution_27 : decode M_B_takeSolution.2.1 27 = .ok (.iload_n 1, 1) := by decide +kernel
theorem d_B_takeSolution_28 : decode M_B_takeSolution.2.1 28 = .ok (.aload_n 0, 1) := by decide +kernel
theorem d_B_takeSolution_29 : decode M_B_takeSolution.2.1 29 = .ok (.getfield 118, 3) := by decide +kernel
theorem d_B_takeSolution_32 : decode M_B_takeSolution.2.1 32 = .ok (.if_icmp .ge 12, 3) := by decide +kernel
theorem d_B_takeSolution_35 : decode M_B_takeSolution.2.1 35 = .ok (.aload_n 0, 1) := by decide +kernel
theorem d_B_takeSolution_36 : decode M_B_takeSolution.2.1 36 = .ok (.getfield 47, 3) := by decide +kernel
theorem d_B_takeSolution_39 : decode M_B_takeSolution.2.1 39 = .ok (.iload_n 1, 1) := by decide +kernel
theorem d_B_takeSolution_40 : decode M_B_takeSolution.2.1 40 = .ok (.laload, 1) := by decide +kernel
theorem d_B_takeSolution_41 : decode M_B_takeSolution.2.1 41 = .ok (.goto 4, 3) := by decide +kernel
theorem d_B_takeSolution_44 : decode M_B_takeSolution.2.1 44 = .ok (.lconst 0, 1) := by decide +kernel
theorem d_B_takeSolution_45 : decode M_B_takeSolution.2.1 45 = .ok (.lastore, 1) := by decide +kernel
theorem d_B_takeSolution_46 : decode M_B_takeSolution.2.1 46 = .ok (.iinc 1 1, 3) := by decide +kernel
theorem d_B_takeSolution_49 : decode M_B_takeSolution.2.1 49 = .ok (.goto (-33), 3) := by decide +kernel
theorem d_B_takeSolution_52 : decode M_B_takeSolution.2.1 52 = .ok (.aload_n 0, 1) := by decide +kernel
theorem d_B_takeSolution_53 : decode M_B_takeSolution.2.1 53 = .ok (.getfield 118, 3) := by decide +kernel
theorem d_B_takeSolution_56 : decode M_B_takeSolution.2.1 56 = .ok (.ireturn, 1) := by decide +kernel
theorem d_B_undo_0 : decode M_B_undo.2.1 0 = .ok (.aload_n 0, 1) := by decide +kernel
theorem d_B_undo_1 : decode M_B_undo.2.1 1 = .ok (.getfield 109, 3) := by decide +kernel
theorem d_B_undo_4 : decode M_B_undo.2.1 4 = .ok (.ifCond .ne 6, 3) := by decide +kernel
theorem d_B_undo_7 : decode M_B_undo.2.1 7 = .ok (.bipush (-3), 2) := by decide +kernel
theorem d_B_undo_9 : decode M_B_undo.2.1 9 = .ok (.ireturn, 1) := by decide +kernel
theorem d_B_undo_10 : decode M_B_undo.2.1 10 = .ok (.aload_n 0, 1) := by decide +kernel
theorem d_B_undo_11 : decode M_B_undo.2.1 11 = .ok (.dup, 1) := by decide +kernel
theorem d_B_undo_12 : decode M_B_undo.2.1 12 = .ok (.getfield 109, 3) := by decide +kernel
theorem d_B_undo_15 : decode M_B_undo.2.1 15 = .ok (.iconst 1, 1) := by decide +kernel
theorem d_B_undo_16 : decode M_B_undo.2.1 16 = .ok (.isub, 1) := by decide +kernel
theorem d_B_undo_17 : decode M_B_undo.2.1 17 = .ok (.putfield 109, 3) := by decide +kernel
theorem d_B_undo_20 : decode M_B_undo.2.1 20 = .ok (.iconst 0, 1) := by decide +kernel
theorem d_B_undo_21 : decode M_B_undo.2.1 21 = .ok (.istore_n 1, 1) := by decide +kernel
theorem d_B_undo_22 : decode M_B_undo.2.1 22 = .ok (.iload_n 1, 1) := by decide +kernel
theorem d_B_undo_23 : decode M_B_undo.2.1 23 = .ok (.bipush 6, 2) := by decide +kernel
theorem d_B_undo_25 : decode M_B_undo.2.1 25 = .ok (.if_icmp .ge 29, 3) := by decide +kernel
theorem d_B_undo_28 : decode M_B_undo.2.1 28 = .ok (.aload_n 0, 1) := by decide +kernel
theorem d_B_undo_29 : decode M_B_undo.2.1 29 = .ok (.getfield 23, 3) := by decide +kernel
theorem d_B_undo_32 : decode M_B_undo.2.1 32 = .ok (.iload_n 1, 1) := by decide +kernel
theorem d_B_undo_33 : decode M_B_undo.2.1 33 = .ok (.aload_n 0, 1) := by decide +kernel
theorem d_B_undo_34 : decode M_B_undo.2.1 34 = .ok (.getfield 27, 3) := by decide +kernel
theorem d_B_undo_37 : decode M_B_undo.2.1 37 = .ok (.bipush 6, 2) := by decide +kernel
theorem d_B_undo_39 : decode M_B_undo.2.1 39 = .ok (.aload_n 0, 1) := by decide +kernel
theorem d_B_undo_40 : decode M_B_undo.2.1 40 = .ok (.getfield 109, 3) := by decide +kernel
theorem d_B_undo_43 : decode M_B_undo.2.1 43 = .ok (.imul, 1) := by decide +kernel
theorem d_B_undo_44 : decode M_B_undo.2.1 44 = .ok (.iload_n 1, 1) := by decide +kernel
theorem d_B_undo_45 : decode M_B_undo.2.1 45 = .ok (.iadd, 1) := by decide +kernel
theorem d_B_undo_46 : decode M_B_undo.2.1 46 = .ok (.laload, 1) := by decide +kernel
theorem d_B_undo_47 : decode M_B_undo.2.1 47 = .ok (.lastore, 1) := by decide +kernel
theorem d_B_undo_48 : decode M_B_undo.2.1 48 = .ok (.iinc 1 1, 3) := by decide +kernel
theorem d_B_undo_51 : decode M_B_undo.2.1 51 = .ok (.goto (-29), 3) := by decide +kernel
theorem d_B_undo_54 : decode M_B_undo.2.1 54 = .ok (.aload_n 0, 1) := by decide +kernel
theorem d_B_undo_55 : decode M_B_undo.2.1 55 = .ok (.getfield 109, 3) := by decide +kernel
theorem d_B_undo_58 : decode M_B_undo.2.1 58 = .ok (.ireturn, 1) := by decide +kernel
