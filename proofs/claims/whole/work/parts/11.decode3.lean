theorem d_A_replication_0 : decode M_A_replication.2.1 0 = .ok (.aload_n 0, 1) := by decide +kernel
theorem d_A_replication_1 : decode M_A_replication.2.1 1 = .ok (.iload_n 1, 1) := by decide +kernel
theorem d_A_replication_2 : decode M_A_replication.2.1 2 = .ok (.invokevirtual 120, 3) := by decide +kernel
theorem d_A_replication_5 : decode M_A_replication.2.1 5 = .ok (.ifCond .ne 5, 3) := by decide +kernel
theorem d_A_replication_8 : decode M_A_replication.2.1 8 = .ok (.iconst (-1), 1) := by decide +kernel
theorem d_A_replication_9 : decode M_A_replication.2.1 9 = .ok (.ireturn, 1) := by decide +kernel
theorem d_A_replication_10 : decode M_A_replication.2.1 10 = .ok (.aload_n 0, 1) := by decide +kernel
theorem d_A_replication_11 : decode M_A_replication.2.1 11 = .ok (.getfield 59, 3) := by decide +kernel
theorem d_A_replication_14 : decode M_A_replication.2.1 14 = .ok (.aload_n 0, 1) := by decide +kernel
theorem d_A_replication_15 : decode M_A_replication.2.1 15 = .ok (.getfield 25, 3) := by decide +kernel
theorem d_A_replication_18 : decode M_A_replication.2.1 18 = .ok (.invokevirtual 265, 3) := by decide +kernel
theorem d_A_replication_21 : decode M_A_replication.2.1 21 = .ok (.aload_n 0, 1) := by decide +kernel
theorem d_A_replication_22 : decode M_A_replication.2.1 22 = .ok (.getfield 59, 3) := by decide +kernel
theorem d_A_replication_25 : decode M_A_replication.2.1 25 = .ok (.lconst 1, 1) := by decide +kernel
theorem d_A_replication_26 : decode M_A_replication.2.1 26 = .ok (.iload_n 1, 1) := by decide +kernel
theorem d_A_replication_27 : decode M_A_replication.2.1 27 = .ok (.lshl, 1) := by decide +kernel
theorem d_A_replication_28 : decode M_A_replication.2.1 28 = .ok (.invokevirtual 272, 3) := by decide +kernel
theorem d_A_replication_31 : decode M_A_replication.2.1 31 = .ok (.ireturn, 1) := by decide +kernel
theorem d_H_forget_0 : decode M_H_forget.2.1 0 = .ok (.aload_n 0, 1) := by decide +kernel
theorem d_H_forget_1 : decode M_H_forget.2.1 1 = .ok (.iconst 0, 1) := by decide +kernel
theorem d_H_forget_2 : decode M_H_forget.2.1 2 = .ok (.putfield 15, 3) := by decide +kernel
theorem d_H_forget_5 : decode M_H_forget.2.1 5 = .ok (.return_, 1) := by decide +kernel
theorem d_A_restore_0 : decode M_A_restore.2.1 0 = .ok (.iload_n 1, 1) := by decide +kernel
theorem d_A_restore_1 : decode M_A_restore.2.1 1 = .ok (.invokestatic 251, 3) := by decide +kernel
theorem d_A_restore_4 : decode M_A_restore.2.1 4 = .ok (.ifCond .ne 5, 3) := by decide +kernel
theorem d_A_restore_7 : decode M_A_restore.2.1 7 = .ok (.iconst (-1), 1) := by decide +kernel
theorem d_A_restore_8 : decode M_A_restore.2.1 8 = .ok (.ireturn, 1) := by decide +kernel
theorem d_A_restore_9 : decode M_A_restore.2.1 9 = .ok (.aload_n 0, 1) := by decide +kernel
theorem d_A_restore_10 : decode M_A_restore.2.1 10 = .ok (.iload_n 1, 1) := by decide +kernel
theorem d_A_restore_11 : decode M_A_restore.2.1 11 = .ok (.invokevirtual 254, 3) := by decide +kernel
theorem d_A_restore_14 : decode M_A_restore.2.1 14 = .ok (.getfield 116, 3) := by decide +kernel
theorem d_A_restore_17 : decode M_A_restore.2.1 17 = .ok (.ifCond .ne 6, 3) := by decide +kernel
theorem d_A_restore_20 : decode M_A_restore.2.1 20 = .ok (.bipush (-3), 2) := by decide +kernel
theorem d_A_restore_22 : decode M_A_restore.2.1 22 = .ok (.ireturn, 1) := by decide +kernel
theorem d_A_restore_23 : decode M_A_restore.2.1 23 = .ok (.aload_n 0, 1) := by decide +kernel
theorem d_A_restore_24 : decode M_A_restore.2.1 24 = .ok (.iload_n 1, 1) := by decide +kernel
theorem d_A_restore_25 : decode M_A_restore.2.1 25 = .ok (.invokevirtual 254, 3) := by decide +kernel
theorem d_A_restore_28 : decode M_A_restore.2.1 28 = .ok (.getfield 258, 3) := by decide +kernel
theorem d_A_restore_31 : decode M_A_restore.2.1 31 = .ok (.iconst 0, 1) := by decide +kernel
theorem d_A_restore_32 : decode M_A_restore.2.1 32 = .ok (.aload_n 0, 1) := by decide +kernel
theorem d_A_restore_33 : decode M_A_restore.2.1 33 = .ok (.getfield 25, 3) := by decide +kernel
theorem d_A_restore_36 : decode M_A_restore.2.1 36 = .ok (.iconst 0, 1) := by decide +kernel
theorem d_A_restore_37 : decode M_A_restore.2.1 37 = .ok (.bipush 6, 2) := by decide +kernel
theorem d_A_restore_39 : decode M_A_restore.2.1 39 = .ok (.invokestatic 308, 3) := by decide +kernel
theorem d_A_restore_42 : decode M_A_restore.2.1 42 = .ok (.aload_n 0, 1) := by decide +kernel
theorem d_A_restore_43 : decode M_A_restore.2.1 43 = .ok (.aload_n 0, 1) := by decide +kernel
theorem d_A_restore_44 : decode M_A_restore.2.1 44 = .ok (.iload_n 1, 1) := by decide +kernel
theorem d_A_restore_45 : decode M_A_restore.2.1 45 = .ok (.invokevirtual 254, 3) := by decide +kernel
theorem d_A_restore_48 : decode M_A_restore.2.1 48 = .ok (.getfield 335, 3) := by decide +kernel
theorem d_A_restore_51 : decode M_A_restore.2.1 51 = .ok (.putfield 94, 3) := by decide +kernel
theorem d_A_restore_54 : decode M_A_restore.2.1 54 = .ok (.aload_n 0, 1) := by decide +kernel
theorem d_A_restore_55 : decode M_A_restore.2.1 55 = .ok (.getfield 32, 3) := by decide +kernel
theorem d_A_restore_58 : decode M_A_restore.2.1 58 = .ok (.invokevirtual 112, 3) := by decide +kernel
theorem d_A_restore_61 : decode M_A_restore.2.1 61 = .ok (.aload_n 0, 1) := by decide +kernel
theorem d_A_restore_62 : decode M_A_restore.2.1 62 = .ok (.invokevirtual 314, 3) := by decide +kernel
theorem d_A_restore_65 : decode M_A_restore.2.1 65 = .ok (.ireturn, 1) := by decide +kernel
theorem d_N_setLimits_0 : decode M_N_setLimits.2.1 0 = .ok (.iconst 0, 1) := by decide +kernel
theorem d_N_setLimits_1 : decode M_N_setLimits.2.1 1 = .ok (.istore 4, 2) := by decide +kernel
theorem d_N_setLimits_3 : decode M_N_setLimits.2.1 3 = .ok (.iload 4, 2) := by decide +kernel
theorem d_N_setLimits_5 : decode M_N_setLimits.2.1 5 = .ok (.aload_n 0, 1) := by decide +kernel
theorem d_N_setLimits_6 : decode M_N_setLimits.2.1 6 = .ok (.getfield 34, 3) := by decide +kernel
theorem d_N_setLimits_9 : decode M_N_setLimits.2.1 9 = .ok (.getfield 48, 3) := by decide +kernel
theorem d_N_setLimits_12 : decode M_N_setLimits.2.1 12 = .ok (.if_icmp .ge 30, 3) := by decide +kernel
theorem d_N_setLimits_15 : decode M_N_setLimits.2.1 15 = .ok (.aload_n 0, 1) := by decide +kernel
theorem d_N_setLimits_16 : decode M_N_setLimits.2.1 16 = .ok (.getfield 19, 3) := by decide +kernel
theorem d_N_setLimits_19 : decode M_N_setLimits.2.1 19 = .ok (.iload 4, 2) := by decide +kernel
theorem d_N_setLimits_21 : decode M_N_setLimits.2.1 21 = .ok (.lload_n 1, 1) := by decide +kernel
theorem d_N_setLimits_22 : decode M_N_setLimits.2.1 22 = .ok (.iload 4, 2) := by decide +kernel
theorem d_N_setLimits_24 : decode M_N_setLimits.2.1 24 = .ok (.invokestatic 53, 3) := by decide +kernel
theorem d_N_setLimits_27 : decode M_N_setLimits.2.1 27 = .ok (.ifCond .eq 7, 3) := by decide +kernel
theorem d_N_setLimits_30 : decode M_N_setLimits.2.1 30 = .ok (.iconst 0, 1) := by decide +kernel
theorem d_N_setLimits_31 : decode M_N_setLimits.2.1 31 = .ok (.goto 4, 3) := by decide +kernel
theorem d_N_setLimits_34 : decode M_N_setLimits.2.1 34 = .ok (.iload_n 3, 1) := by decide +kernel
theorem d_N_setLimits_35 : decode M_N_setLimits.2.1 35 = .ok (.iastore, 1) := by decide +kernel
theorem d_N_setLimits_36 : decode M_N_setLimits.2.1 36 = .ok (.iinc 4 1, 3) := by decide +kernel
theorem d_N_setLimits_39 : decode M_N_setLimits.2.1 39 = .ok (.goto (-36), 3) := by decide +kernel
theorem d_N_setLimits_42 : decode M_N_setLimits.2.1 42 = .ok (.return_, 1) := by decide +kernel
theorem d_N_possibleBits_0 : decode M_N_possibleBits.2.1 0 = .ok (.iload_n 1, 1) := by decide +kernel
theorem d_N_possibleBits_1 : decode M_N_possibleBits.2.1 1 = .ok (.ifCond .le 17, 3) := by decide +kernel
theorem d_N_possibleBits_4 : decode M_N_possibleBits.2.1 4 = .ok (.aload_n 0, 1) := by decide +kernel
theorem d_N_possibleBits_5 : decode M_N_possibleBits.2.1 5 = .ok (.getfield 34, 3) := by decide +kernel
theorem d_N_possibleBits_8 : decode M_N_possibleBits.2.1 8 = .ok (.getfield 74, 3) := by decide +kernel
theorem d_N_possibleBits_11 : decode M_N_possibleBits.2.1 11 = .ok (.iconst 1, 1) := by decide +kernel
theorem d_N_possibleBits_12 : decode M_N_possibleBits.2.1 12 = .ok (.isub, 1) := by decide +kernel
theorem d_N_possibleBits_13 : decode M_N_possibleBits.2.1 13 = .ok (.iload_n 1, 1) := by decide +kernel
theorem d_N_possibleBits_14 : decode M_N_possibleBits.2.1 14 = .ok (.idiv, 1) := by decide +kernel
theorem d_N_possibleBits_15 : decode M_N_possibleBits.2.1 15 = .ok (.goto 4, 3) := by decide +kernel
theorem d_N_possibleBits_18 : decode M_N_possibleBits.2.1 18 = .ok (.iconst 0, 1) := by decide +kernel
theorem d_N_possibleBits_19 : decode M_N_possibleBits.2.1 19 = .ok (.istore_n 2, 1) := by decide +kernel
theorem d_N_possibleBits_20 : decode M_N_possibleBits.2.1 20 = .ok (.aload_n 0, 1) := by decide +kernel
theorem d_N_possibleBits_21 : decode M_N_possibleBits.2.1 21 = .ok (.getfield 34, 3) := by decide +kernel
theorem d_N_possibleBits_24 : decode M_N_possibleBits.2.1 24 = .ok (.getfield 77, 3) := by decide +kernel
theorem d_N_possibleBits_27 : decode M_N_possibleBits.2.1 27 = .ok (.aload_n 0, 1) := by decide +kernel
theorem d_N_possibleBits_28 : decode M_N_possibleBits.2.1 28 = .ok (.getfield 34, 3) := by decide +kernel
theorem d_N_possibleBits_31 : decode M_N_possibleBits.2.1 31 = .ok (.getfield 74, 3) := by decide +kernel
theorem d_N_possibleBits_34 : decode M_N_possibleBits.2.1 34 = .ok (.iload_n 2, 1) := by decide +kernel
theorem d_N_possibleBits_35 : decode M_N_possibleBits.2.1 35 = .ok (.isub, 1) := by decide +kernel
theorem d_N_possibleBits_36 : decode M_N_possibleBits.2.1 36 = .ok (.imul, 1) := by decide +kernel
theorem d_N_possibleBits_37 : decode M_N_possibleBits.2.1 37 = .ok (.ireturn, 1) := by decide +kernel
theorem d_G_isLeastTranslate_0 : decode M_G_isLeastTranslate.2.1 0 = .ok (.lload_n 1, 1) := by decide +kernel
theorem d_G_isLeastTranslate_1 : decode M_G_isLeastTranslate.2.1 1 = .ok (.lstore_n 3, 1) := by decide +kernel
theorem d_G_isLeastTranslate_2 : decode M_G_isLeastTranslate.2.1 2 = .ok (.iconst 0, 1) := by decide +kernel
theorem d_G_isLeastTranslate_3 : decode M_G_isLeastTranslate.2.1 3 = .ok (.istore 5, 2) := by decide +kernel
theorem d_G_isLeastTranslate_5 : decode M_G_isLeastTranslate.2.1 5 = .ok (.iload 5, 2) := by decide +kernel
theorem d_G_isLeastTranslate_7 : decode M_G_isLeastTranslate.2.1 7 = .ok (.aload_n 0, 1) := by decide +kernel
theorem d_G_isLeastTranslate_8 : decode M_G_isLeastTranslate.2.1 8 = .ok (.getfield 37, 3) := by decide +kernel
theorem d_G_isLeastTranslate_11 : decode M_G_isLeastTranslate.2.1 11 = .ok (.if_icmp .ge 25, 3) := by decide +kernel
theorem d_G_isLeastTranslate_14 : decode M_G_isLeastTranslate.2.1 14 = .ok (.aload_n 0, 1) := by decide +kernel
theorem d_G_isLeastTranslate_15 : decode M_G_isLeastTranslate.2.1 15 = .ok (.lload_n 3, 1) := by decide +kernel
theorem d_G_isLeastTranslate_16 : decode M_G_isLeastTranslate.2.1 16 = .ok (.iload 5, 2) := by decide +kernel
theorem d_G_isLeastTranslate_18 : decode M_G_isLeastTranslate.2.1 18 = .ok (.invokevirtual 82, 3) := by decide +kernel
theorem d_G_isLeastTranslate_21 : decode M_G_isLeastTranslate.2.1 21 = .ok (.lstore_n 3, 1) := by decide +kernel
theorem d_G_isLeastTranslate_22 : decode M_G_isLeastTranslate.2.1 22 = .ok (.lload_n 3, 1) := by decide +kernel
theorem d_G_isLeastTranslate_23 : decode M_G_isLeastTranslate.2.1 23 = .ok (.lload_n 1, 1) := by decide +kernel
theorem d_G_isLeastTranslate_24 : decode M_G_isLeastTranslate.2.1 24 = .ok (.lcmp, 1) := by decide +kernel
theorem d_G_isLeastTranslate_25 : decode M_G_isLeastTranslate.2.1 25 = .ok (.ifCond .ge 5, 3) := by decide +kernel
theorem d_G_isLeastTranslate_28 : decode M_G_isLeastTranslate.2.1 28 = .ok (.iconst 0, 1) := by decide +kernel
theorem d_G_isLeastTranslate_29 : decode M_G_isLeastTranslate.2.1 29 = .ok (.ireturn, 1) := by decide +kernel
theorem d_G_isLeastTranslate_30 : decode M_G_isLeastTranslate.2.1 30 = .ok (.iinc 5 1, 3) := by decide +kernel
theorem d_G_isLeastTranslate_33 : decode M_G_isLeastTranslate.2.1 33 = .ok (.goto (-28), 3) := by decide +kernel
theorem d_G_isLeastTranslate_36 : decode M_G_isLeastTranslate.2.1 36 = .ok (.iconst 1, 1) := by decide +kernel
theorem d_G_isLeastTranslate_37 : decode M_G_isLeastTranslate.2.1 37 = .ok (.ireturn, 1) := by decide +kernel
theorem d_N_isCandidate_0 : decode M_N_isCandidate.2.1 0 = .ok (.aload_n 0, 1) := by decide +kernel
theorem d_N_isCandidate_1 : decode M_N_isCandidate.2.1 1 = .ok (.getfield 34, 3) := by decide +kernel
theorem d_N_isCandidate_4 : decode M_N_isCandidate.2.1 4 = .ok (.lload_n 1, 1) := by decide +kernel
theorem d_N_isCandidate_5 : decode M_N_isCandidate.2.1 5 = .ok (.invokevirtual 80, 3) := by decide +kernel
theorem d_N_isCandidate_8 : decode M_N_isCandidate.2.1 8 = .ok (.ifCond .eq 31, 3) := by decide +kernel
theorem d_N_isCandidate_11 : decode M_N_isCandidate.2.1 11 = .ok (.aload_n 0, 1) := by decide +kernel
theorem d_N_isCandidate_12 : decode M_N_isCandidate.2.1 12 = .ok (.getfield 34, 3) := by decide +kernel
theorem d_N_isCandidate_15 : decode M_N_isCandidate.2.1 15 = .ok (.aload_n 0, 1) := by decide +kernel
theorem d_N_isCandidate_16 : decode M_N_isCandidate.2.1 16 = .ok (.getfield 34, 3) := by decide +kernel
theorem d_N_isCandidate_19 : decode M_N_isCandidate.2.1 19 = .ok (.lload_n 1, 1) := by decide +kernel
theorem d_N_isCandidate_20 : decode M_N_isCandidate.2.1 20 = .ok (.aload_n 0, 1) := by decide +kernel
theorem d_N_isCandidate_21 : decode M_N_isCandidate.2.1 21 = .ok (.getfield 15, 3) := by decide +kernel
theorem d_N_isCandidate_24 : decode M_N_isCandidate.2.1 24 = .ok (.invokevirtual 83, 3) := by decide +kernel
theorem d_N_isCandidate_27 : decode M_N_isCandidate.2.1 27 = .ok (.invokevirtual 87, 3) := by decide +kernel
theorem d_N_isCandidate_30 : decode M_N_isCandidate.2.1 30 = .ok (.lload_n 1, 1) := by decide +kernel
theorem d_N_isCandidate_31 : decode M_N_isCandidate.2.1 31 = .ok (.lcmp, 1) := by decide +kernel
theorem d_N_isCandidate_32 : decode M_N_isCandidate.2.1 32 = .ok (.ifCond .ne 7, 3) := by decide +kernel
theorem d_N_isCandidate_35 : decode M_N_isCandidate.2.1 35 = .ok (.iconst 1, 1) := by decide +kernel
theorem d_N_isCandidate_36 : decode M_N_isCandidate.2.1 36 = .ok (.goto 4, 3) := by decide +kernel
theorem d_N_isCandidate_39 : decode M_N_isCandidate.2.1 39 = .ok (.iconst 0, 1) := by decide +kernel
theorem d_N_isCandidate_40 : decode M_N_isCandidate.2.1 40 = .ok (.ireturn, 1) := by decide +kernel
theorem d_N_nextOfSameSize_0 : decode M_N_nextOfSameSize.2.1 0 = .ok (.lload_n 0, 1) := by decide +kernel
theorem d_N_nextOfSameSize_1 : decode M_N_nextOfSameSize.2.1 1 = .ok (.lload_n 0, 1) := by decide +kernel
theorem d_N_nextOfSameSize_2 : decode M_N_nextOfSameSize.2.1 2 = .ok (.lneg, 1) := by decide +kernel
theorem d_N_nextOfSameSize_3 : decode M_N_nextOfSameSize.2.1 3 = .ok (.land, 1) := by decide +kernel
theorem d_N_nextOfSameSize_4 : decode M_N_nextOfSameSize.2.1 4 = .ok (.lstore_n 2, 1) := by decide +kernel
theorem d_N_nextOfSameSize_5 : decode M_N_nextOfSameSize.2.1 5 = .ok (.lload_n 0, 1) := by decide +kernel
theorem d_N_nextOfSameSize_6 : decode M_N_nextOfSameSize.2.1 6 = .ok (.lload_n 2, 1) := by decide +kernel
theorem d_N_nextOfSameSize_7 : decode M_N_nextOfSameSize.2.1 7 = .ok (.ladd, 1) := by decide +kernel
theorem d_N_nextOfSameSize_8 : decode M_N_nextOfSameSize.2.1 8 = .ok (.lstore 4, 2) := by decide +kernel
theorem d_N_nextOfSameSize_10 : decode M_N_nextOfSameSize.2.1 10 = .ok (.lload_n 2, 1) := by decide +kernel
theorem d_N_nextOfSameSize_11 : decode M_N_nextOfSameSize.2.1 11 = .ok (.lconst 1, 1) := by decide +kernel
theorem d_N_nextOfSameSize_12 : decode M_N_nextOfSameSize.2.1 12 = .ok (.lsub, 1) := by decide +kernel
theorem d_N_nextOfSameSize_13 : decode M_N_nextOfSameSize.2.1 13 = .ok (.invokestatic 90, 3) := by decide +kernel
theorem d_N_nextOfSameSize_16 : decode M_N_nextOfSameSize.2.1 16 = .ok (.iconst 2, 1) := by decide +kernel
theorem d_N_nextOfSameSize_17 : decode M_N_nextOfSameSize.2.1 17 = .ok (.iadd, 1) := by decide +kernel
theorem d_N_nextOfSameSize_18 : decode M_N_nextOfSameSize.2.1 18 = .ok (.istore 6, 2) := by decide +kernel
theorem d_N_nextOfSameSize_20 : decode M_N_nextOfSameSize.2.1 20 = .ok (.lload 4, 2) := by decide +kernel
theorem d_N_nextOfSameSize_22 : decode M_N_nextOfSameSize.2.1 22 = .ok (.lload 4, 2) := by decide +kernel
theorem d_N_nextOfSameSize_24 : decode M_N_nextOfSameSize.2.1 24 = .ok (.lload_n 0, 1) := by decide +kernel
theorem d_N_nextOfSameSize_25 : decode M_N_nextOfSameSize.2.1 25 = .ok (.lxor, 1) := by decide +kernel
theorem d_N_nextOfSameSize_26 : decode M_N_nextOfSameSize.2.1 26 = .ok (.iload 6, 2) := by decide +kernel
theorem d_N_nextOfSameSize_28 : decode M_N_nextOfSameSize.2.1 28 = .ok (.lushr, 1) := by decide +kernel
theorem d_N_nextOfSameSize_29 : decode M_N_nextOfSameSize.2.1 29 = .ok (.lor, 1) := by decide +kernel
theorem d_N_nextOfSameSize_30 : decode M_N_nextOfSameSize.2.1 30 = .ok (.lreturn, 1) := by decide +kernel
theorem d_N_listCandidates_0 : decode M_N_listCandidates.2.1 0 = .ok (.aload_n 0, 1) := by decide +kernel
theorem d_N_listCandidates_1 : decode M_N_listCandidates.2.1 1 = .ok (.iconst 0, 1) := by decide +kernel
theorem d_N_listCandidates_2 : decode M_N_listCandidates.2.1 2 = .ok (.putfield 38, 3) := by decide +kernel
theorem d_N_listCandidates_5 : decode M_N_listCandidates.2.1 5 = .ok (.aload_n 0, 1) := by decide +kernel
theorem d_N_listCandidates_6 : decode M_N_listCandidates.2.1 6 = .ok (.getfield 34, 3) := by decide +kernel
theorem d_N_listCandidates_9 : decode M_N_listCandidates.2.1 9 = .ok (.iload_n 2, 1) := by decide +kernel
theorem d_N_listCandidates_10 : decode M_N_listCandidates.2.1 10 = .ok (.aload_n 0, 1) := by decide +kernel
theorem d_N_listCandidates_11 : decode M_N_listCandidates.2.1 11 = .ok (.getfield 15, 3) := by decide +kernel
theorem d_N_listCandidates_14 : decode M_N_listCandidates.2.1 14 = .ok (.invokevirtual 57, 3) := by decide +kernel
theorem d_N_listCandidates_17 : decode M_N_listCandidates.2.1 17 = .ok (.lconst 1, 1) := by decide +kernel
theorem d_N_listCandidates_18 : decode M_N_listCandidates.2.1 18 = .ok (.aload_n 0, 1) := by decide +kernel
theorem d_N_listCandidates_19 : decode M_N_listCandidates.2.1 19 = .ok (.iload_n 1, 1) := by decide +kernel
theorem d_N_listCandidates_20 : decode M_N_listCandidates.2.1 20 = .ok (.invokevirtual 61, 3) := by decide +kernel
theorem d_N_listCandidates_23 : decode M_N_listCandidates.2.1 23 = .ok (.lshl, 1) := by decide +kernel
theorem d_N_listCandidates_24 : decode M_N_listCandidates.2.1 24 = .ok (.lstore_n 3, 1) := by decide +kernel
theorem d_N_listCandidates_25 : decode M_N_listCandidates.2.1 25 = .ok (.lconst 1, 1) := by decide +kernel
theorem d_N_listCandidates_26 : decode M_N_listCandidates.2.1 26 = .ok (.iload_n 1, 1) := by decide +kernel
theorem d_N_listCandidates_27 : decode M_N_listCandidates.2.1 27 = .ok (.lshl, 1) := by decide +kernel
theorem d_N_listCandidates_28 : decode M_N_listCandidates.2.1 28 = .ok (.lconst 1, 1) := by decide +kernel
theorem d_N_listCandidates_29 : decode M_N_listCandidates.2.1 29 = .ok (.lsub, 1) := by decide +kernel
theorem d_N_listCandidates_30 : decode M_N_listCandidates.2.1 30 = .ok (.lstore 5, 2) := by decide +kernel
theorem d_N_listCandidates_32 : decode M_N_listCandidates.2.1 32 = .ok (.iconst 0, 1) := by decide +kernel
theorem d_N_listCandidates_33 : decode M_N_listCandidates.2.1 33 = .ok (.istore 7, 2) := by decide +kernel
theorem d_N_listCandidates_35 : decode M_N_listCandidates.2.1 35 = .ok (.iload 7, 2) := by decide +kernel
theorem d_N_listCandidates_37 : decode M_N_listCandidates.2.1 37 = .ok (.ldc 65, 2) := by decide +kernel
theorem d_N_listCandidates_39 : decode M_N_listCandidates.2.1 39 = .ok (.if_icmp .ge 63, 3) := by decide +kernel
theorem d_N_listCandidates_42 : decode M_N_listCandidates.2.1 42 = .ok (.lload 5, 2) := by decide +kernel
theorem d_N_listCandidates_44 : decode M_N_listCandidates.2.1 44 = .ok (.lload_n 3, 1) := by decide +kernel
theorem d_N_listCandidates_45 : decode M_N_listCandidates.2.1 45 = .ok (.lcmp, 1) := by decide +kernel
theorem d_N_listCandidates_46 : decode M_N_listCandidates.2.1 46 = .ok (.ifCond .ge 56, 3) := by decide +kernel
theorem d_N_listCandidates_49 : decode M_N_listCandidates.2.1 49 = .ok (.aload_n 0, 1) := by decide +kernel
theorem d_N_listCandidates_50 : decode M_N_listCandidates.2.1 50 = .ok (.lload 5, 2) := by decide +kernel
theorem d_N_listCandidates_52 : decode M_N_listCandidates.2.1 52 = .ok (.invokevirtual 66, 3) := by decide +kernel
theorem d_N_listCandidates_55 : decode M_N_listCandidates.2.1 55 = .ok (.ifCond .eq 34, 3) := by decide +kernel
theorem d_N_listCandidates_58 : decode M_N_listCandidates.2.1 58 = .ok (.aload_n 0, 1) := by decide +kernel
theorem d_N_listCandidates_59 : decode M_N_listCandidates.2.1 59 = .ok (.getfield 38, 3) := by decide +kernel
theorem d_N_listCandidates_62 : decode M_N_listCandidates.2.1 62 = .ok (.sipush 2130, 3) := by decide +kernel
theorem d_N_listCandidates_65 : decode M_N_listCandidates.2.1 65 = .ok (.if_icmp .ge 24, 3) := by decide +kernel
theorem d_N_listCandidates_68 : decode M_N_listCandidates.2.1 68 = .ok (.aload_n 0, 1) := by decide +kernel
theorem d_N_listCandidates_69 : decode M_N_listCandidates.2.1 69 = .ok (.getfield 11, 3) := by decide +kernel
theorem d_N_listCandidates_72 : decode M_N_listCandidates.2.1 72 = .ok (.aload_n 0, 1) := by decide +kernel
theorem d_N_listCandidates_73 : decode M_N_listCandidates.2.1 73 = .ok (.getfield 38, 3) := by decide +kernel
theorem d_N_listCandidates_76 : decode M_N_listCandidates.2.1 76 = .ok (.lload 5, 2) := by decide +kernel
theorem d_N_listCandidates_78 : decode M_N_listCandidates.2.1 78 = .ok (.lastore, 1) := by decide +kernel
theorem d_N_listCandidates_79 : decode M_N_listCandidates.2.1 79 = .ok (.aload_n 0, 1) := by decide +kernel
theorem d_N_listCandidates_80 : decode M_N_listCandidates.2.1 80 = .ok (.dup, 1) := by decide +kernel
theorem d_N_listCandidates_81 : decode M_N_listCandidates.2.1 81 = .ok (.getfield 38, 3) := by decide +kernel
theorem d_N_listCandidates_84 : decode M_N_listCandidates.2.1 84 = .ok (.iconst 1, 1) := by decide +kernel
theorem d_N_listCandidates_85 : decode M_N_listCandidates.2.1 85 = .ok (.iadd, 1) := by decide +kernel
theorem d_N_listCandidates_86 : decode M_N_listCandidates.2.1 86 = .ok (.putfield 38, 3) := by decide +kernel
theorem d_N_listCandidates_89 : decode M_N_listCandidates.2.1 89 = .ok (.lload 5, 2) := by decide +kernel
theorem d_N_listCandidates_91 : decode M_N_listCandidates.2.1 91 = .ok (.invokestatic 70, 3) := by decide +kernel
theorem d_N_listCandidates_94 : decode M_N_listCandidates.2.1 94 = .ok (.lstore 5, 2) := by decide +kernel
theorem d_N_listCandidates_96 : decode M_N_listCandidates.2.1 96 = .ok (.iinc 7 1, 3) := by decide +kernel
theorem d_N_listCandidates_99 : decode M_N_listCandidates.2.1 99 = .ok (.goto (-64), 3) := by decide +kernel
theorem d_N_listCandidates_102 : decode M_N_listCandidates.2.1 102 = .ok (.return_, 1) := by decide +kernel
theorem d_N_fits_0 : decode M_N_fits.2.1 0 = .ok (.iload_n 1, 1) := by decide +kernel
theorem d_N_fits_1 : decode M_N_fits.2.1 1 = .ok (.bipush 40, 2) := by decide +kernel
theorem d_N_fits_3 : decode M_N_fits.2.1 3 = .ok (.imul, 1) := by decide +kernel
theorem d_N_fits_4 : decode M_N_fits.2.1 4 = .ok (.istore 4, 2) := by decide +kernel
theorem d_N_fits_6 : decode M_N_fits.2.1 6 = .ok (.iload 4, 2) := by decide +kernel
theorem d_N_fits_8 : decode M_N_fits.2.1 8 = .ok (.bipush 40, 2) := by decide +kernel
theorem d_N_fits_10 : decode M_N_fits.2.1 10 = .ok (.iadd, 1) := by decide +kernel
theorem d_N_fits_11 : decode M_N_fits.2.1 11 = .ok (.istore 5, 2) := by decide +kernel
theorem d_N_fits_13 : decode M_N_fits.2.1 13 = .ok (.lload_n 2, 1) := by decide +kernel
theorem d_N_fits_14 : decode M_N_fits.2.1 14 = .ok (.lstore 6, 2) := by decide +kernel
theorem d_N_fits_16 : decode M_N_fits.2.1 16 = .ok (.iconst 1, 1) := by decide +kernel
theorem d_N_fits_17 : decode M_N_fits.2.1 17 = .ok (.istore 8, 2) := by decide +kernel
theorem d_N_fits_19 : decode M_N_fits.2.1 19 = .ok (.iload 8, 2) := by decide +kernel
theorem d_N_fits_21 : decode M_N_fits.2.1 21 = .ok (.aload_n 0, 1) := by decide +kernel
theorem d_N_fits_22 : decode M_N_fits.2.1 22 = .ok (.getfield 34, 3) := by decide +kernel
theorem d_N_fits_25 : decode M_N_fits.2.1 25 = .ok (.getfield 48, 3) := by decide +kernel
theorem d_N_fits_28 : decode M_N_fits.2.1 28 = .ok (.if_icmp .ge 70, 3) := by decide +kernel
theorem d_N_fits_31 : decode M_N_fits.2.1 31 = .ok (.aload_n 0, 1) := by decide +kernel
theorem d_N_fits_32 : decode M_N_fits.2.1 32 = .ok (.getfield 34, 3) := by decide +kernel
theorem d_N_fits_35 : decode M_N_fits.2.1 35 = .ok (.lload 6, 2) := by decide +kernel
theorem d_N_fits_37 : decode M_N_fits.2.1 37 = .ok (.iload 8, 2) := by decide +kernel
theorem d_N_fits_39 : decode M_N_fits.2.1 39 = .ok (.iconst 1, 1) := by decide +kernel
theorem d_N_fits_40 : decode M_N_fits.2.1 40 = .ok (.isub, 1) := by decide +kernel
theorem d_N_fits_41 : decode M_N_fits.2.1 41 = .ok (.invokevirtual 118, 3) := by decide +kernel
theorem d_N_fits_44 : decode M_N_fits.2.1 44 = .ok (.lstore 6, 2) := by decide +kernel
theorem d_N_fits_46 : decode M_N_fits.2.1 46 = .ok (.aload_n 0, 1) := by decide +kernel
theorem d_N_fits_47 : decode M_N_fits.2.1 47 = .ok (.getfield 22, 3) := by decide +kernel
theorem d_N_fits_50 : decode M_N_fits.2.1 50 = .ok (.iload 4, 2) := by decide +kernel
theorem d_N_fits_52 : decode M_N_fits.2.1 52 = .ok (.iload 8, 2) := by decide +kernel
theorem d_N_fits_54 : decode M_N_fits.2.1 54 = .ok (.iadd, 1) := by decide +kernel
theorem d_N_fits_55 : decode M_N_fits.2.1 55 = .ok (.iaload, 1) := by decide +kernel
theorem d_N_fits_56 : decode M_N_fits.2.1 56 = .ok (.lload_n 2, 1) := by decide +kernel
theorem d_N_fits_57 : decode M_N_fits.2.1 57 = .ok (.lload 6, 2) := by decide +kernel
theorem d_N_fits_59 : decode M_N_fits.2.1 59 = .ok (.land, 1) := by decide +kernel
theorem d_N_fits_60 : decode M_N_fits.2.1 60 = .ok (.invokestatic 90, 3) := by decide +kernel
theorem d_N_fits_63 : decode M_N_fits.2.1 63 = .ok (.iadd, 1) := by decide +kernel
theorem d_N_fits_64 : decode M_N_fits.2.1 64 = .ok (.istore 9, 2) := by decide +kernel
theorem d_N_fits_66 : decode M_N_fits.2.1 66 = .ok (.iload 9, 2) := by decide +kernel
theorem d_N_fits_68 : decode M_N_fits.2.1 68 = .ok (.aload_n 0, 1) := by decide +kernel
theorem d_N_fits_69 : decode M_N_fits.2.1 69 = .ok (.getfield 19, 3) := by decide +kernel
theorem d_N_fits_72 : decode M_N_fits.2.1 72 = .ok (.iload 8, 2) := by decide +kernel
theorem d_N_fits_74 : decode M_N_fits.2.1 74 = .ok (.iaload, 1) := by decide +kernel
theorem d_N_fits_75 : decode M_N_fits.2.1 75 = .ok (.if_icmp .le 5, 3) := by decide +kernel
theorem d_N_fits_78 : decode M_N_fits.2.1 78 = .ok (.iconst 0, 1) := by decide +kernel
theorem d_N_fits_79 : decode M_N_fits.2.1 79 = .ok (.ireturn, 1) := by decide +kernel
theorem d_N_fits_80 : decode M_N_fits.2.1 80 = .ok (.aload_n 0, 1) := by decide +kernel
theorem d_N_fits_81 : decode M_N_fits.2.1 81 = .ok (.getfield 22, 3) := by decide +kernel
theorem d_N_fits_84 : decode M_N_fits.2.1 84 = .ok (.iload 5, 2) := by decide +kernel
theorem d_N_fits_86 : decode M_N_fits.2.1 86 = .ok (.iload 8, 2) := by decide +kernel
theorem d_N_fits_88 : decode M_N_fits.2.1 88 = .ok (.iadd, 1) := by decide +kernel
theorem d_N_fits_89 : decode M_N_fits.2.1 89 = .ok (.iload 9, 2) := by decide +kernel
theorem d_N_fits_91 : decode M_N_fits.2.1 91 = .ok (.iastore, 1) := by decide +kernel
theorem d_N_fits_92 : decode M_N_fits.2.1 92 = .ok (.iinc 8 1, 3) := by decide +kernel
theorem d_N_fits_95 : decode M_N_fits.2.1 95 = .ok (.goto (-76), 3) := by decide +kernel
theorem d_N_fits_98 : decode M_N_fits.2.1 98 = .ok (.iconst 1, 1) := by decide +kernel
theorem d_N_fits_99 : decode M_N_fits.2.1 99 = .ok (.ireturn, 1) := by decide +kernel
theorem d_N_isComplete_0 : decode M_N_isComplete.2.1 0 = .ok (.iconst 1, 1) := by decide +kernel
theorem d_N_isComplete_1 : decode M_N_isComplete.2.1 1 = .ok (.istore_n 2, 1) := by decide +kernel
theorem d_N_isComplete_2 : decode M_N_isComplete.2.1 2 = .ok (.iload_n 2, 1) := by decide +kernel
theorem d_N_isComplete_3 : decode M_N_isComplete.2.1 3 = .ok (.aload_n 0, 1) := by decide +kernel
theorem d_N_isComplete_4 : decode M_N_isComplete.2.1 4 = .ok (.getfield 34, 3) := by decide +kernel
theorem d_N_isComplete_7 : decode M_N_isComplete.2.1 7 = .ok (.getfield 48, 3) := by decide +kernel
theorem d_N_isComplete_10 : decode M_N_isComplete.2.1 10 = .ok (.if_icmp .ge 31, 3) := by decide +kernel
theorem d_N_isComplete_13 : decode M_N_isComplete.2.1 13 = .ok (.aload_n 0, 1) := by decide +kernel
theorem d_N_isComplete_14 : decode M_N_isComplete.2.1 14 = .ok (.getfield 22, 3) := by decide +kernel
theorem d_N_isComplete_17 : decode M_N_isComplete.2.1 17 = .ok (.iload_n 1, 1) := by decide +kernel
theorem d_N_isComplete_18 : decode M_N_isComplete.2.1 18 = .ok (.bipush 40, 2) := by decide +kernel
theorem d_N_isComplete_20 : decode M_N_isComplete.2.1 20 = .ok (.imul, 1) := by decide +kernel
theorem d_N_isComplete_21 : decode M_N_isComplete.2.1 21 = .ok (.iload_n 2, 1) := by decide +kernel
theorem d_N_isComplete_22 : decode M_N_isComplete.2.1 22 = .ok (.iadd, 1) := by decide +kernel
theorem d_N_isComplete_23 : decode M_N_isComplete.2.1 23 = .ok (.iaload, 1) := by decide +kernel
theorem d_N_isComplete_24 : decode M_N_isComplete.2.1 24 = .ok (.aload_n 0, 1) := by decide +kernel
theorem d_N_isComplete_25 : decode M_N_isComplete.2.1 25 = .ok (.getfield 19, 3) := by decide +kernel
theorem d_N_isComplete_28 : decode M_N_isComplete.2.1 28 = .ok (.iload_n 2, 1) := by decide +kernel
theorem d_N_isComplete_29 : decode M_N_isComplete.2.1 29 = .ok (.iaload, 1) := by decide +kernel
theorem d_N_isComplete_30 : decode M_N_isComplete.2.1 30 = .ok (.if_icmp .eq 5, 3) := by decide +kernel
theorem d_N_isComplete_33 : decode M_N_isComplete.2.1 33 = .ok (.iconst 0, 1) := by decide +kernel
theorem d_N_isComplete_34 : decode M_N_isComplete.2.1 34 = .ok (.ireturn, 1) := by decide +kernel
theorem d_N_isComplete_35 : decode M_N_isComplete.2.1 35 = .ok (.iinc 2 1, 3) := by decide +kernel
theorem d_N_isComplete_38 : decode M_N_isComplete.2.1 38 = .ok (.goto (-36), 3) := by decide +kernel
theorem d_N_isComplete_41 : decode M_N_isComplete.2.1 41 = .ok (.iconst 1, 1) := by decide +kernel
theorem d_N_isComplete_42 : decode M_N_isComplete.2.1 42 = .ok (.ireturn, 1) := by decide +kernel
theorem d_N_noteSolution_0 : decode M_N_noteSolution.2.1 0 = .ok (.aload_n 0, 1) := by decide +kernel
theorem d_N_noteSolution_1 : decode M_N_noteSolution.2.1 1 = .ok (.getfield 45, 3) := by decide +kernel
theorem d_N_noteSolution_4 : decode M_N_noteSolution.2.1 4 = .ok (.ifCond .ne 17, 3) := by decide +kernel
theorem d_N_noteSolution_7 : decode M_N_noteSolution.2.1 7 = .ok (.aload_n 0, 1) := by decide +kernel
theorem d_N_noteSolution_8 : decode M_N_noteSolution.2.1 8 = .ok (.getfield 28, 3) := by decide +kernel
theorem d_N_noteSolution_11 : decode M_N_noteSolution.2.1 11 = .ok (.iconst 0, 1) := by decide +kernel
theorem d_N_noteSolution_12 : decode M_N_noteSolution.2.1 12 = .ok (.aload_n 0, 1) := by decide +kernel
theorem d_N_noteSolution_13 : decode M_N_noteSolution.2.1 13 = .ok (.getfield 31, 3) := by decide +kernel
theorem d_N_noteSolution_16 : decode M_N_noteSolution.2.1 16 = .ok (.iconst 0, 1) := by decide +kernel
theorem d_N_noteSolution_17 : decode M_N_noteSolution.2.1 17 = .ok (.iload_n 1, 1) := by decide +kernel
theorem d_N_noteSolution_18 : decode M_N_noteSolution.2.1 18 = .ok (.invokestatic 122, 3) := by decide +kernel
theorem d_N_noteSolution_21 : decode M_N_noteSolution.2.1 21 = .ok (.aload_n 0, 1) := by decide +kernel
theorem d_N_noteSolution_22 : decode M_N_noteSolution.2.1 22 = .ok (.dup, 1) := by decide +kernel
theorem d_N_noteSolution_23 : decode M_N_noteSolution.2.1 23 = .ok (.getfield 45, 3) := by decide +kernel
theorem d_N_noteSolution_26 : decode M_N_noteSolution.2.1 26 = .ok (.iconst 1, 1) := by decide +kernel
theorem d_N_noteSolution_27 : decode M_N_noteSolution.2.1 27 = .ok (.iadd, 1) := by decide +kernel
theorem d_N_noteSolution_28 : decode M_N_noteSolution.2.1 28 = .ok (.putfield 45, 3) := by decide +kernel
theorem d_N_noteSolution_31 : decode M_N_noteSolution.2.1 31 = .ok (.return_, 1) := by decide +kernel
theorem d_N_tryNext_0 : decode M_N_tryNext.2.1 0 = .ok (.aload_n 0, 1) := by decide +kernel
theorem d_N_tryNext_1 : decode M_N_tryNext.2.1 1 = .ok (.getfield 25, 3) := by decide +kernel
theorem d_N_tryNext_4 : decode M_N_tryNext.2.1 4 = .ok (.iload_n 1, 1) := by decide +kernel
theorem d_N_tryNext_5 : decode M_N_tryNext.2.1 5 = .ok (.iaload, 1) := by decide +kernel
theorem d_N_tryNext_6 : decode M_N_tryNext.2.1 6 = .ok (.istore_n 3, 1) := by decide +kernel
theorem d_N_tryNext_7 : decode M_N_tryNext.2.1 7 = .ok (.aload_n 0, 1) := by decide +kernel
theorem d_N_tryNext_8 : decode M_N_tryNext.2.1 8 = .ok (.getfield 25, 3) := by decide +kernel
theorem d_N_tryNext_11 : decode M_N_tryNext.2.1 11 = .ok (.iload_n 1, 1) := by decide +kernel
theorem d_N_tryNext_12 : decode M_N_tryNext.2.1 12 = .ok (.dup2, 1) := by decide +kernel
theorem d_N_tryNext_13 : decode M_N_tryNext.2.1 13 = .ok (.iaload, 1) := by decide +kernel
theorem d_N_tryNext_14 : decode M_N_tryNext.2.1 14 = .ok (.iconst 1, 1) := by decide +kernel
theorem d_N_tryNext_15 : decode M_N_tryNext.2.1 15 = .ok (.iadd, 1) := by decide +kernel
theorem d_N_tryNext_16 : decode M_N_tryNext.2.1 16 = .ok (.iastore, 1) := by decide +kernel
theorem d_N_tryNext_17 : decode M_N_tryNext.2.1 17 = .ok (.aload_n 0, 1) := by decide +kernel
theorem d_N_tryNext_18 : decode M_N_tryNext.2.1 18 = .ok (.dup, 1) := by decide +kernel
theorem d_N_tryNext_19 : decode M_N_tryNext.2.1 19 = .ok (.getfield 42, 3) := by decide +kernel
theorem d_N_tryNext_22 : decode M_N_tryNext.2.1 22 = .ok (.iconst 1, 1) := by decide +kernel
theorem d_N_tryNext_23 : decode M_N_tryNext.2.1 23 = .ok (.iadd, 1) := by decide +kernel
theorem d_N_tryNext_24 : decode M_N_tryNext.2.1 24 = .ok (.putfield 42, 3) := by decide +kernel
theorem d_N_tryNext_27 : decode M_N_tryNext.2.1 27 = .ok (.aload_n 0, 1) := by decide +kernel
theorem d_N_tryNext_28 : decode M_N_tryNext.2.1 28 = .ok (.getfield 28, 3) := by decide +kernel
theorem d_N_tryNext_31 : decode M_N_tryNext.2.1 31 = .ok (.iload_n 1, 1) := by decide +kernel
theorem d_N_tryNext_32 : decode M_N_tryNext.2.1 32 = .ok (.aload_n 0, 1) := by decide +kernel
theorem d_N_tryNext_33 : decode M_N_tryNext.2.1 33 = .ok (.getfield 11, 3) := by decide +kernel
theorem d_N_tryNext_36 : decode M_N_tryNext.2.1 36 = .ok (.iload_n 3, 1) := by decide +kernel
theorem d_N_tryNext_37 : decode M_N_tryNext.2.1 37 = .ok (.laload, 1) := by decide +kernel
theorem d_N_tryNext_38 : decode M_N_tryNext.2.1 38 = .ok (.lastore, 1) := by decide +kernel
theorem d_N_tryNext_39 : decode M_N_tryNext.2.1 39 = .ok (.aload_n 0, 1) := by decide +kernel
theorem d_N_tryNext_40 : decode M_N_tryNext.2.1 40 = .ok (.iload_n 1, 1) := by decide +kernel
theorem d_N_tryNext_41 : decode M_N_tryNext.2.1 41 = .ok (.aload_n 0, 1) := by decide +kernel
theorem d_N_tryNext_42 : decode M_N_tryNext.2.1 42 = .ok (.getfield 11, 3) := by decide +kernel
theorem d_N_tryNext_45 : decode M_N_tryNext.2.1 45 = .ok (.iload_n 3, 1) := by decide +kernel
theorem d_N_tryNext_46 : decode M_N_tryNext.2.1 46 = .ok (.laload, 1) := by decide +kernel
theorem d_N_tryNext_47 : decode M_N_tryNext.2.1 47 = .ok (.invokevirtual 106, 3) := by decide +kernel
theorem d_N_tryNext_50 : decode M_N_tryNext.2.1 50 = .ok (.ifCond .ne 5, 3) := by decide +kernel
theorem d_N_tryNext_53 : decode M_N_tryNext.2.1 53 = .ok (.iload_n 1, 1) := by decide +kernel
theorem d_N_tryNext_54 : decode M_N_tryNext.2.1 54 = .ok (.ireturn, 1) := by decide +kernel
theorem d_N_tryNext_55 : decode M_N_tryNext.2.1 55 = .ok (.iload_n 1, 1) := by decide +kernel
theorem d_N_tryNext_56 : decode M_N_tryNext.2.1 56 = .ok (.iconst 1, 1) := by decide +kernel
theorem d_N_tryNext_57 : decode M_N_tryNext.2.1 57 = .ok (.iadd, 1) := by decide +kernel
theorem d_N_tryNext_58 : decode M_N_tryNext.2.1 58 = .ok (.iload_n 2, 1) := by decide +kernel
theorem d_N_tryNext_59 : decode M_N_tryNext.2.1 59 = .ok (.if_icmp .ge 16, 3) := by decide +kernel
theorem d_N_tryNext_62 : decode M_N_tryNext.2.1 62 = .ok (.aload_n 0, 1) := by decide +kernel
theorem d_N_tryNext_63 : decode M_N_tryNext.2.1 63 = .ok (.getfield 25, 3) := by decide +kernel
theorem d_N_tryNext_66 : decode M_N_tryNext.2.1 66 = .ok (.iload_n 1, 1) := by decide +kernel
theorem d_N_tryNext_67 : decode M_N_tryNext.2.1 67 = .ok (.iconst 1, 1) := by decide +kernel
theorem d_N_tryNext_68 : decode M_N_tryNext.2.1 68 = .ok (.iadd, 1) := by decide +kernel
theorem d_N_tryNext_69 : decode M_N_tryNext.2.1 69 = .ok (.iload_n 3, 1) := by decide +kernel
theorem d_N_tryNext_70 : decode M_N_tryNext.2.1 70 = .ok (.iastore, 1) := by decide +kernel
theorem d_N_tryNext_71 : decode M_N_tryNext.2.1 71 = .ok (.iload_n 1, 1) := by decide +kernel
theorem d_N_tryNext_72 : decode M_N_tryNext.2.1 72 = .ok (.iconst 1, 1) := by decide +kernel
theorem d_N_tryNext_73 : decode M_N_tryNext.2.1 73 = .ok (.iadd, 1) := by decide +kernel
theorem d_N_tryNext_74 : decode M_N_tryNext.2.1 74 = .ok (.ireturn, 1) := by decide +kernel
theorem d_N_tryNext_75 : decode M_N_tryNext.2.1 75 = .ok (.aload_n 0, 1) := by decide +kernel
theorem d_N_tryNext_76 : decode M_N_tryNext.2.1 76 = .ok (.iload_n 2, 1) := by decide +kernel
theorem d_N_tryNext_77 : decode M_N_tryNext.2.1 77 = .ok (.invokevirtual 110, 3) := by decide +kernel
theorem d_N_tryNext_80 : decode M_N_tryNext.2.1 80 = .ok (.ifCond .eq 8, 3) := by decide +kernel
theorem d_N_tryNext_83 : decode M_N_tryNext.2.1 83 = .ok (.aload_n 0, 1) := by decide +kernel
theorem d_N_tryNext_84 : decode M_N_tryNext.2.1 84 = .ok (.iload_n 2, 1) := by decide +kernel
theorem d_N_tryNext_85 : decode M_N_tryNext.2.1 85 = .ok (.invokevirtual 114, 3) := by decide +kernel
theorem d_N_tryNext_88 : decode M_N_tryNext.2.1 88 = .ok (.iload_n 1, 1) := by decide +kernel
theorem d_N_tryNext_89 : decode M_N_tryNext.2.1 89 = .ok (.ireturn, 1) := by decide +kernel
theorem d_N_run_0 : decode M_N_run.2.1 0 = .ok (.aload_n 0, 1) := by decide +kernel
theorem d_N_run_1 : decode M_N_run.2.1 1 = .ok (.iconst 0, 1) := by decide +kernel
theorem d_N_run_2 : decode M_N_run.2.1 2 = .ok (.putfield 42, 3) := by decide +kernel
theorem d_N_run_5 : decode M_N_run.2.1 5 = .ok (.aload_n 0, 1) := by decide +kernel
theorem d_N_run_6 : decode M_N_run.2.1 6 = .ok (.iconst 0, 1) := by decide +kernel
theorem d_N_run_7 : decode M_N_run.2.1 7 = .ok (.putfield 45, 3) := by decide +kernel
theorem d_N_run_10 : decode M_N_run.2.1 10 = .ok (.aload_n 0, 1) := by decide +kernel
theorem d_N_run_11 : decode M_N_run.2.1 11 = .ok (.getfield 31, 3) := by decide +kernel
theorem d_N_run_14 : decode M_N_run.2.1 14 = .ok (.lconst 0, 1) := by decide +kernel
theorem d_N_run_15 : decode M_N_run.2.1 15 = .ok (.invokestatic 96, 3) := by decide +kernel
theorem d_N_run_18 : decode M_N_run.2.1 18 = .ok (.aload_n 0, 1) := by decide +kernel
theorem d_N_run_19 : decode M_N_run.2.1 19 = .ok (.getfield 25, 3) := by decide +kernel
theorem d_N_run_22 : decode M_N_run.2.1 22 = .ok (.iconst 0, 1) := by decide +kernel
theorem d_N_run_23 : decode M_N_run.2.1 23 = .ok (.iconst 0, 1) := by decide +kernel
theorem d_N_run_24 : decode M_N_run.2.1 24 = .ok (.iastore, 1) := by decide +kernel
theorem d_N_run_25 : decode M_N_run.2.1 25 = .ok (.iconst 0, 1) := by decide +kernel
theorem d_N_run_26 : decode M_N_run.2.1 26 = .ok (.istore_n 3, 1) := by decide +kernel
theorem d_N_run_27 : decode M_N_run.2.1 27 = .ok (.iconst 2, 1) := by decide +kernel
theorem d_N_run_28 : decode M_N_run.2.1 28 = .ok (.iload_n 2, 1) := by decide +kernel
theorem d_N_run_29 : decode M_N_run.2.1 29 = .ok (.imul, 1) := by decide +kernel
theorem d_N_run_30 : decode M_N_run.2.1 30 = .ok (.iconst 1, 1) := by decide +kernel
theorem d_N_run_31 : decode M_N_run.2.1 31 = .ok (.iadd, 1) := by decide +kernel
theorem d_N_run_32 : decode M_N_run.2.1 32 = .ok (.istore 4, 2) := by decide +kernel
theorem d_N_run_34 : decode M_N_run.2.1 34 = .ok (.iconst 0, 1) := by decide +kernel
theorem d_N_run_35 : decode M_N_run.2.1 35 = .ok (.istore 5, 2) := by decide +kernel
theorem d_N_run_37 : decode M_N_run.2.1 37 = .ok (.iload 5, 2) := by decide +kernel
theorem d_N_run_39 : decode M_N_run.2.1 39 = .ok (.iload 4, 2) := by decide +kernel
theorem d_N_run_41 : decode M_N_run.2.1 41 = .ok (.if_icmp .ge 47, 3) := by decide +kernel
theorem d_N_run_44 : decode M_N_run.2.1 44 = .ok (.iload_n 3, 1) := by decide +kernel
theorem d_N_run_45 : decode M_N_run.2.1 45 = .ok (.ifCond .lt 43, 3) := by decide +kernel
theorem d_N_run_48 : decode M_N_run.2.1 48 = .ok (.aload_n 0, 1) := by decide +kernel
theorem d_N_run_49 : decode M_N_run.2.1 49 = .ok (.getfield 42, 3) := by decide +kernel
theorem d_N_run_52 : decode M_N_run.2.1 52 = .ok (.iload_n 2, 1) := by decide +kernel
theorem d_N_run_53 : decode M_N_run.2.1 53 = .ok (.if_icmp .ge 35, 3) := by decide +kernel
theorem d_N_run_56 : decode M_N_run.2.1 56 = .ok (.aload_n 0, 1) := by decide +kernel
theorem d_N_run_57 : decode M_N_run.2.1 57 = .ok (.getfield 25, 3) := by decide +kernel
theorem d_N_run_60 : decode M_N_run.2.1 60 = .ok (.iload_n 3, 1) := by decide +kernel
theorem d_N_run_61 : decode M_N_run.2.1 61 = .ok (.iaload, 1) := by decide +kernel
theorem d_N_run_62 : decode M_N_run.2.1 62 = .ok (.aload_n 0, 1) := by decide +kernel
theorem d_N_run_63 : decode M_N_run.2.1 63 = .ok (.getfield 38, 3) := by decide +kernel
theorem d_N_run_66 : decode M_N_run.2.1 66 = .ok (.if_icmp .ge 13, 3) := by decide +kernel
theorem d_N_run_69 : decode M_N_run.2.1 69 = .ok (.aload_n 0, 1) := by decide +kernel
theorem d_N_run_70 : decode M_N_run.2.1 70 = .ok (.iload_n 3, 1) := by decide +kernel
theorem d_N_run_71 : decode M_N_run.2.1 71 = .ok (.iload_n 1, 1) := by decide +kernel
theorem d_N_run_72 : decode M_N_run.2.1 72 = .ok (.invokevirtual 102, 3) := by decide +kernel
theorem d_N_run_75 : decode M_N_run.2.1 75 = .ok (.istore_n 3, 1) := by decide +kernel
theorem d_N_run_76 : decode M_N_run.2.1 76 = .ok (.goto 6, 3) := by decide +kernel
theorem d_N_run_79 : decode M_N_run.2.1 79 = .ok (.iinc 3 (-1), 3) := by decide +kernel
theorem d_N_run_82 : decode M_N_run.2.1 82 = .ok (.iinc 5 1, 3) := by decide +kernel
theorem d_N_run_85 : decode M_N_run.2.1 85 = .ok (.goto (-48), 3) := by decide +kernel
theorem d_N_run_88 : decode M_N_run.2.1 88 = .ok (.return_, 1) := by decide +kernel
theorem d_A_search_0 : decode M_A_search.2.1 0 = .ok (.iload_n 1, 1) := by decide +kernel
theorem d_A_search_1 : decode M_A_search.2.1 1 = .ok (.iconst 2, 1) := by decide +kernel
theorem d_A_search_2 : decode M_A_search.2.1 2 = .ok (.iconst 5, 1) := by decide +kernel
theorem d_A_search_3 : decode M_A_search.2.1 3 = .ok (.invokestatic 128, 3) := by decide +kernel
theorem d_A_search_6 : decode M_A_search.2.1 6 = .ok (.ifCond .eq 22, 3) := by decide +kernel
theorem d_A_search_9 : decode M_A_search.2.1 9 = .ok (.iload_n 2, 1) := by decide +kernel
theorem d_A_search_10 : decode M_A_search.2.1 10 = .ok (.iconst 1, 1) := by decide +kernel
theorem d_A_search_11 : decode M_A_search.2.1 11 = .ok (.bipush 9, 2) := by decide +kernel
theorem d_A_search_13 : decode M_A_search.2.1 13 = .ok (.invokestatic 128, 3) := by decide +kernel
theorem d_A_search_16 : decode M_A_search.2.1 16 = .ok (.ifCond .eq 12, 3) := by decide +kernel
theorem d_A_search_19 : decode M_A_search.2.1 19 = .ok (.iload_n 3, 1) := by decide +kernel
theorem d_A_search_20 : decode M_A_search.2.1 20 = .ok (.iconst 1, 1) := by decide +kernel
theorem d_A_search_21 : decode M_A_search.2.1 21 = .ok (.iconst 4, 1) := by decide +kernel
theorem d_A_search_22 : decode M_A_search.2.1 22 = .ok (.invokestatic 128, 3) := by decide +kernel
theorem d_A_search_25 : decode M_A_search.2.1 25 = .ok (.ifCond .ne 5, 3) := by decide +kernel
theorem d_A_search_28 : decode M_A_search.2.1 28 = .ok (.iconst (-1), 1) := by decide +kernel
theorem d_A_search_29 : decode M_A_search.2.1 29 = .ok (.ireturn, 1) := by decide +kernel
theorem d_A_search_30 : decode M_A_search.2.1 30 = .ok (.iload 4, 2) := by decide +kernel
theorem d_A_search_32 : decode M_A_search.2.1 32 = .ok (.iconst 1, 1) := by decide +kernel
theorem d_A_search_33 : decode M_A_search.2.1 33 = .ok (.aload_n 0, 1) := by decide +kernel
theorem d_A_search_34 : decode M_A_search.2.1 34 = .ok (.getfield 19, 3) := by decide +kernel
theorem d_A_search_37 : decode M_A_search.2.1 37 = .ok (.getfield 102, 3) := by decide +kernel
theorem d_A_search_40 : decode M_A_search.2.1 40 = .ok (.iconst 1, 1) := by decide +kernel
theorem d_A_search_41 : decode M_A_search.2.1 41 = .ok (.isub, 1) := by decide +kernel
theorem d_A_search_42 : decode M_A_search.2.1 42 = .ok (.invokestatic 128, 3) := by decide +kernel
theorem d_A_search_45 : decode M_A_search.2.1 45 = .ok (.ifCond .eq 15, 3) := by decide +kernel
theorem d_A_search_48 : decode M_A_search.2.1 48 = .ok (.iload 5, 2) := by decide +kernel
theorem d_A_search_50 : decode M_A_search.2.1 50 = .ok (.iconst 1, 1) := by decide +kernel
theorem d_A_search_51 : decode M_A_search.2.1 51 = .ok (.sipush 5000, 3) := by decide +kernel
theorem d_A_search_54 : decode M_A_search.2.1 54 = .ok (.invokestatic 128, 3) := by decide +kernel
theorem d_A_search_57 : decode M_A_search.2.1 57 = .ok (.ifCond .ne 5, 3) := by decide +kernel
theorem d_A_search_60 : decode M_A_search.2.1 60 = .ok (.iconst (-1), 1) := by decide +kernel
theorem d_A_search_61 : decode M_A_search.2.1 61 = .ok (.ireturn, 1) := by decide +kernel
theorem d_A_search_62 : decode M_A_search.2.1 62 = .ok (.aload_n 0, 1) := by decide +kernel
theorem d_A_search_63 : decode M_A_search.2.1 63 = .ok (.getfield 19, 3) := by decide +kernel
theorem d_A_search_66 : decode M_A_search.2.1 66 = .ok (.iload 4, 2) := by decide +kernel
theorem d_A_search_68 : decode M_A_search.2.1 68 = .ok (.invokevirtual 179, 3) := by decide +kernel
theorem d_A_search_71 : decode M_A_search.2.1 71 = .ok (.ifCond .ne 5, 3) := by decide +kernel
theorem d_A_search_74 : decode M_A_search.2.1 74 = .ok (.iconst (-1), 1) := by decide +kernel
theorem d_A_search_75 : decode M_A_search.2.1 75 = .ok (.ireturn, 1) := by decide +kernel
theorem d_A_search_76 : decode M_A_search.2.1 76 = .ok (.aload_n 0, 1) := by decide +kernel
theorem d_A_search_77 : decode M_A_search.2.1 77 = .ok (.getfield 19, 3) := by decide +kernel
theorem d_A_search_80 : decode M_A_search.2.1 80 = .ok (.getfield 102, 3) := by decide +kernel
theorem d_A_search_83 : decode M_A_search.2.1 83 = .ok (.bipush 25, 2) := by decide +kernel
theorem d_A_search_85 : decode M_A_search.2.1 85 = .ok (.if_icmp .le 6, 3) := by decide +kernel
theorem d_A_search_88 : decode M_A_search.2.1 88 = .ok (.bipush (-3), 2) := by decide +kernel
theorem d_A_search_90 : decode M_A_search.2.1 90 = .ok (.ireturn, 1) := by decide +kernel
theorem d_A_search_91 : decode M_A_search.2.1 91 = .ok (.aload_n 0, 1) := by decide +kernel
theorem d_A_search_92 : decode M_A_search.2.1 92 = .ok (.getfield 73, 3) := by decide +kernel
theorem d_A_search_95 : decode M_A_search.2.1 95 = .ok (.aload_n 0, 1) := by decide +kernel
theorem d_A_search_96 : decode M_A_search.2.1 96 = .ok (.getfield 94, 3) := by decide +kernel
theorem d_A_search_99 : decode M_A_search.2.1 99 = .ok (.iload_n 2, 1) := by decide +kernel
theorem d_A_search_100 : decode M_A_search.2.1 100 = .ok (.invokevirtual 286, 3) := by decide +kernel
theorem d_A_search_103 : decode M_A_search.2.1 103 = .ok (.aload_n 0, 1) := by decide +kernel
theorem d_A_search_104 : decode M_A_search.2.1 104 = .ok (.getfield 73, 3) := by decide +kernel
theorem d_A_search_107 : decode M_A_search.2.1 107 = .ok (.iload_n 1, 1) := by decide +kernel
theorem d_A_search_108 : decode M_A_search.2.1 108 = .ok (.iload 4, 2) := by decide +kernel
theorem d_A_search_110 : decode M_A_search.2.1 110 = .ok (.invokevirtual 290, 3) := by decide +kernel
theorem d_A_search_113 : decode M_A_search.2.1 113 = .ok (.aload_n 0, 1) := by decide +kernel
theorem d_A_search_114 : decode M_A_search.2.1 114 = .ok (.getfield 73, 3) := by decide +kernel
theorem d_A_search_117 : decode M_A_search.2.1 117 = .ok (.iload_n 3, 1) := by decide +kernel
theorem d_A_search_118 : decode M_A_search.2.1 118 = .ok (.iload 5, 2) := by decide +kernel
theorem d_A_search_120 : decode M_A_search.2.1 120 = .ok (.invokevirtual 293, 3) := by decide +kernel
theorem d_A_search_123 : decode M_A_search.2.1 123 = .ok (.aload_n 0, 1) := by decide +kernel
theorem d_A_search_124 : decode M_A_search.2.1 124 = .ok (.getfield 73, 3) := by decide +kernel
theorem d_A_search_127 : decode M_A_search.2.1 127 = .ok (.getfield 296, 3) := by decide +kernel
theorem d_A_search_130 : decode M_A_search.2.1 130 = .ok (.ireturn, 1) := by decide +kernel
theorem d_A_searchSteps_0 : decode M_A_searchSteps.2.1 0 = .ok (.aload_n 0, 1) := by decide +kernel
theorem d_A_searchSteps_1 : decode M_A_searchSteps.2.1 1 = .ok (.getfield 73, 3) := by decide +kernel
theorem d_A_searchSteps_4 : decode M_A_searchSteps.2.1 4 = .ok (.getfield 299, 3) := by decide +kernel
theorem d_A_searchSteps_7 : decode M_A_searchSteps.2.1 7 = .ok (.ireturn, 1) := by decide +kernel
theorem d_G_isPossible_0 : decode M_G_isPossible.2.1 0 = .ok (.iload_n 0, 1) := by decide +kernel
theorem d_G_isPossible_1 : decode M_G_isPossible.2.1 1 = .ok (.iconst 2, 1) := by decide +kernel
theorem d_G_isPossible_2 : decode M_G_isPossible.2.1 2 = .ok (.if_icmp .lt 32, 3) := by decide +kernel
theorem d_G_isPossible_5 : decode M_G_isPossible.2.1 5 = .ok (.iload_n 1, 1) := by decide +kernel
theorem d_G_isPossible_6 : decode M_G_isPossible.2.1 6 = .ok (.iconst 1, 1) := by decide +kernel
theorem d_G_isPossible_7 : decode M_G_isPossible.2.1 7 = .ok (.if_icmp .lt 27, 3) := by decide +kernel
theorem d_G_isPossible_10 : decode M_G_isPossible.2.1 10 = .ok (.iload_n 0, 1) := by decide +kernel
theorem d_G_isPossible_11 : decode M_G_isPossible.2.1 11 = .ok (.bipush 40, 2) := by decide +kernel
theorem d_G_isPossible_13 : decode M_G_isPossible.2.1 13 = .ok (.if_icmp .gt 21, 3) := by decide +kernel
theorem d_G_isPossible_16 : decode M_G_isPossible.2.1 16 = .ok (.iload_n 1, 1) := by decide +kernel
theorem d_G_isPossible_17 : decode M_G_isPossible.2.1 17 = .ok (.bipush 40, 2) := by decide +kernel
theorem d_G_isPossible_19 : decode M_G_isPossible.2.1 19 = .ok (.if_icmp .gt 15, 3) := by decide +kernel
theorem d_G_isPossible_22 : decode M_G_isPossible.2.1 22 = .ok (.iload_n 0, 1) := by decide +kernel
theorem d_G_isPossible_23 : decode M_G_isPossible.2.1 23 = .ok (.iload_n 1, 1) := by decide +kernel
theorem d_G_isPossible_24 : decode M_G_isPossible.2.1 24 = .ok (.imul, 1) := by decide +kernel
theorem d_G_isPossible_25 : decode M_G_isPossible.2.1 25 = .ok (.bipush 40, 2) := by decide +kernel
theorem d_G_isPossible_27 : decode M_G_isPossible.2.1 27 = .ok (.if_icmp .gt 7, 3) := by decide +kernel
theorem d_G_isPossible_30 : decode M_G_isPossible.2.1 30 = .ok (.iconst 1, 1) := by decide +kernel
theorem d_G_isPossible_31 : decode M_G_isPossible.2.1 31 = .ok (.goto 4, 3) := by decide +kernel
theorem d_G_isPossible_34 : decode M_G_isPossible.2.1 34 = .ok (.iconst 0, 1) := by decide +kernel
theorem d_G_isPossible_35 : decode M_G_isPossible.2.1 35 = .ok (.ireturn, 1) := by decide +kernel
theorem d_N_forget_0 : decode M_N_forget.2.1 0 = .ok (.aload_n 0, 1) := by decide +kernel
theorem d_N_forget_1 : decode M_N_forget.2.1 1 = .ok (.iconst 0, 1) := by decide +kernel
theorem d_N_forget_2 : decode M_N_forget.2.1 2 = .ok (.putfield 38, 3) := by decide +kernel
theorem d_N_forget_5 : decode M_N_forget.2.1 5 = .ok (.aload_n 0, 1) := by decide +kernel
theorem d_N_forget_6 : decode M_N_forget.2.1 6 = .ok (.iconst 0, 1) := by decide +kernel
theorem d_N_forget_7 : decode M_N_forget.2.1 7 = .ok (.putfield 42, 3) := by decide +kernel
theorem d_N_forget_10 : decode M_N_forget.2.1 10 = .ok (.aload_n 0, 1) := by decide +kernel
theorem d_N_forget_11 : decode M_N_forget.2.1 11 = .ok (.iconst 0, 1) := by decide +kernel
theorem d_N_forget_12 : decode M_N_forget.2.1 12 = .ok (.putfield 45, 3) := by decide +kernel
theorem d_N_forget_15 : decode M_N_forget.2.1 15 = .ok (.return_, 1) := by decide +kernel
theorem d_A_setGroup_0 : decode M_A_setGroup.2.1 0 = .ok (.iload_n 1, 1) := by decide +kernel
theorem d_A_setGroup_1 : decode M_A_setGroup.2.1 1 = .ok (.iload_n 2, 1) := by decide +kernel
theorem d_A_setGroup_2 : decode M_A_setGroup.2.1 2 = .ok (.invokestatic 98, 3) := by decide +kernel
theorem d_A_setGroup_5 : decode M_A_setGroup.2.1 5 = .ok (.ifCond .ne 5, 3) := by decide +kernel
theorem d_A_setGroup_8 : decode M_A_setGroup.2.1 8 = .ok (.iconst (-1), 1) := by decide +kernel
theorem d_A_setGroup_9 : decode M_A_setGroup.2.1 9 = .ok (.ireturn, 1) := by decide +kernel
theorem d_A_setGroup_10 : decode M_A_setGroup.2.1 10 = .ok (.aload_n 0, 1) := by decide +kernel
theorem d_A_setGroup_11 : decode M_A_setGroup.2.1 11 = .ok (.getfield 19, 3) := by decide +kernel
theorem d_A_setGroup_14 : decode M_A_setGroup.2.1 14 = .ok (.getfield 102, 3) := by decide +kernel
theorem d_A_setGroup_17 : decode M_A_setGroup.2.1 17 = .ok (.istore_n 3, 1) := by decide +kernel
theorem d_A_setGroup_18 : decode M_A_setGroup.2.1 18 = .ok (.aload_n 0, 1) := by decide +kernel
theorem d_A_setGroup_19 : decode M_A_setGroup.2.1 19 = .ok (.getfield 19, 3) := by decide +kernel
theorem d_A_setGroup_22 : decode M_A_setGroup.2.1 22 = .ok (.iload_n 1, 1) := by decide +kernel
theorem d_A_setGroup_23 : decode M_A_setGroup.2.1 23 = .ok (.iload_n 2, 1) := by decide +kernel
theorem d_A_setGroup_24 : decode M_A_setGroup.2.1 24 = .ok (.invokevirtual 10, 3) := by decide +kernel
theorem d_A_setGroup_27 : decode M_A_setGroup.2.1 27 = .ok (.aload_n 0, 1) := by decide +kernel
theorem d_A_setGroup_28 : decode M_A_setGroup.2.1 28 = .ok (.lconst 1, 1) := by decide +kernel
theorem d_A_setGroup_29 : decode M_A_setGroup.2.1 29 = .ok (.putfield 94, 3) := by decide +kernel
theorem d_A_setGroup_32 : decode M_A_setGroup.2.1 32 = .ok (.aload_n 0, 1) := by decide +kernel
theorem d_A_setGroup_33 : decode M_A_setGroup.2.1 33 = .ok (.getfield 25, 3) := by decide +kernel
theorem d_A_setGroup_36 : decode M_A_setGroup.2.1 36 = .ok (.lconst 0, 1) := by decide +kernel
theorem d_A_setGroup_37 : decode M_A_setGroup.2.1 37 = .ok (.invokestatic 106, 3) := by decide +kernel
theorem d_A_setGroup_40 : decode M_A_setGroup.2.1 40 = .ok (.aload_n 0, 1) := by decide +kernel
theorem d_A_setGroup_41 : decode M_A_setGroup.2.1 41 = .ok (.getfield 32, 3) := by decide +kernel
theorem d_A_setGroup_44 : decode M_A_setGroup.2.1 44 = .ok (.invokevirtual 112, 3) := by decide +kernel
theorem d_A_setGroup_47 : decode M_A_setGroup.2.1 47 = .ok (.aload_n 0, 1) := by decide +kernel
theorem d_A_setGroup_48 : decode M_A_setGroup.2.1 48 = .ok (.getfield 73, 3) := by decide +kernel
theorem d_A_setGroup_51 : decode M_A_setGroup.2.1 51 = .ok (.invokevirtual 115, 3) := by decide +kernel
theorem d_A_setGroup_54 : decode M_A_setGroup.2.1 54 = .ok (.aload_n 0, 1) := by decide +kernel
theorem d_A_setGroup_55 : decode M_A_setGroup.2.1 55 = .ok (.getfield 87, 3) := by decide +kernel
theorem d_A_setGroup_58 : decode M_A_setGroup.2.1 58 = .ok (.iconst 0, 1) := by decide +kernel
theorem d_A_setGroup_59 : decode M_A_setGroup.2.1 59 = .ok (.putfield 116, 3) := by decide +kernel
theorem d_A_setGroup_62 : decode M_A_setGroup.2.1 62 = .ok (.aload_n 0, 1) := by decide +kernel
theorem d_A_setGroup_63 : decode M_A_setGroup.2.1 63 = .ok (.getfield 91, 3) := by decide +kernel
theorem d_A_setGroup_66 : decode M_A_setGroup.2.1 66 = .ok (.iconst 0, 1) := by decide +kernel
theorem d_A_setGroup_67 : decode M_A_setGroup.2.1 67 = .ok (.putfield 116, 3) := by decide +kernel
theorem d_A_setGroup_70 : decode M_A_setGroup.2.1 70 = .ok (.iload_n 3, 1) := by decide +kernel
theorem d_A_setGroup_71 : decode M_A_setGroup.2.1 71 = .ok (.ireturn, 1) := by decide +kernel
theorem d_G_subgroup_0 : decode M_G_subgroup.2.1 0 = .ok (.lconst 0, 1) := by decide +kernel
theorem d_G_subgroup_1 : decode M_G_subgroup.2.1 1 = .ok (.lstore_n 3, 1) := by decide +kernel
theorem d_G_subgroup_2 : decode M_G_subgroup.2.1 2 = .ok (.iconst 0, 1) := by decide +kernel
theorem d_G_subgroup_3 : decode M_G_subgroup.2.1 3 = .ok (.istore 5, 2) := by decide +kernel
theorem d_G_subgroup_5 : decode M_G_subgroup.2.1 5 = .ok (.iconst 0, 1) := by decide +kernel
theorem d_G_subgroup_6 : decode M_G_subgroup.2.1 6 = .ok (.istore 6, 2) := by decide +kernel
theorem d_G_subgroup_8 : decode M_G_subgroup.2.1 8 = .ok (.iload 6, 2) := by decide +kernel
theorem d_G_subgroup_10 : decode M_G_subgroup.2.1 10 = .ok (.aload_n 0, 1) := by decide +kernel
theorem d_G_subgroup_11 : decode M_G_subgroup.2.1 11 = .ok (.getfield 18, 3) := by decide +kernel
theorem d_G_subgroup_14 : decode M_G_subgroup.2.1 14 = .ok (.iload_n 1, 1) := by decide +kernel
theorem d_G_subgroup_15 : decode M_G_subgroup.2.1 15 = .ok (.iaload, 1) := by decide +kernel
theorem d_G_subgroup_16 : decode M_G_subgroup.2.1 16 = .ok (.if_icmp .ge 58, 3) := by decide +kernel
theorem d_G_subgroup_19 : decode M_G_subgroup.2.1 19 = .ok (.iload 5, 2) := by decide +kernel
theorem d_G_subgroup_21 : decode M_G_subgroup.2.1 21 = .ok (.istore 7, 2) := by decide +kernel
theorem d_G_subgroup_23 : decode M_G_subgroup.2.1 23 = .ok (.iconst 0, 1) := by decide +kernel
theorem d_G_subgroup_24 : decode M_G_subgroup.2.1 24 = .ok (.istore 8, 2) := by decide +kernel
theorem d_G_subgroup_26 : decode M_G_subgroup.2.1 26 = .ok (.iload 8, 2) := by decide +kernel
theorem d_G_subgroup_28 : decode M_G_subgroup.2.1 28 = .ok (.aload_n 0, 1) := by decide +kernel
theorem d_G_subgroup_29 : decode M_G_subgroup.2.1 29 = .ok (.getfield 18, 3) := by decide +kernel
theorem d_G_subgroup_32 : decode M_G_subgroup.2.1 32 = .ok (.iload_n 2, 1) := by decide +kernel
theorem d_G_subgroup_33 : decode M_G_subgroup.2.1 33 = .ok (.iaload, 1) := by decide +kernel
theorem d_G_subgroup_34 : decode M_G_subgroup.2.1 34 = .ok (.if_icmp .ge 25, 3) := by decide +kernel
theorem d_G_subgroup_37 : decode M_G_subgroup.2.1 37 = .ok (.lload_n 3, 1) := by decide +kernel
theorem d_G_subgroup_38 : decode M_G_subgroup.2.1 38 = .ok (.lconst 1, 1) := by decide +kernel
theorem d_G_subgroup_39 : decode M_G_subgroup.2.1 39 = .ok (.iload 7, 2) := by decide +kernel
theorem d_G_subgroup_41 : decode M_G_subgroup.2.1 41 = .ok (.lshl, 1) := by decide +kernel
theorem d_G_subgroup_42 : decode M_G_subgroup.2.1 42 = .ok (.lor, 1) := by decide +kernel
theorem d_G_subgroup_43 : decode M_G_subgroup.2.1 43 = .ok (.lstore_n 3, 1) := by decide +kernel
theorem d_G_subgroup_44 : decode M_G_subgroup.2.1 44 = .ok (.aload_n 0, 1) := by decide +kernel
theorem d_G_subgroup_45 : decode M_G_subgroup.2.1 45 = .ok (.iload 7, 2) := by decide +kernel
theorem d_G_subgroup_47 : decode M_G_subgroup.2.1 47 = .ok (.iload_n 2, 1) := by decide +kernel
theorem d_G_subgroup_48 : decode M_G_subgroup.2.1 48 = .ok (.invokevirtual 54, 3) := by decide +kernel
theorem d_G_subgroup_51 : decode M_G_subgroup.2.1 51 = .ok (.istore 7, 2) := by decide +kernel
theorem d_G_subgroup_53 : decode M_G_subgroup.2.1 53 = .ok (.iinc 8 1, 3) := by decide +kernel
theorem d_G_subgroup_56 : decode M_G_subgroup.2.1 56 = .ok (.goto (-30), 3) := by decide +kernel
theorem d_G_subgroup_59 : decode M_G_subgroup.2.1 59 = .ok (.aload_n 0, 1) := by decide +kernel
theorem d_G_subgroup_60 : decode M_G_subgroup.2.1 60 = .ok (.iload 5, 2) := by decide +kernel
theorem d_G_subgroup_62 : decode M_G_subgroup.2.1 62 = .ok (.iload_n 1, 1) := by decide +kernel
theorem d_G_subgroup_63 : decode M_G_subgroup.2.1 63 = .ok (.invokevirtual 54, 3) := by decide +kernel
theorem d_G_subgroup_66 : decode M_G_subgroup.2.1 66 = .ok (.istore 5, 2) := by decide +kernel
theorem d_G_subgroup_68 : decode M_G_subgroup.2.1 68 = .ok (.iinc 6 1, 3) := by decide +kernel
theorem d_G_subgroup_71 : decode M_G_subgroup.2.1 71 = .ok (.goto (-63), 3) := by decide +kernel
theorem d_G_subgroup_74 : decode M_G_subgroup.2.1 74 = .ok (.lload_n 3, 1) := by decide +kernel
theorem d_G_subgroup_75 : decode M_G_subgroup.2.1 75 = .ok (.lreturn, 1) := by decide +kernel
theorem d_A_setHole_0 : decode M_A_setHole.2.1 0 = .ok (.aload_n 0, 1) := by decide +kernel
theorem d_A_setHole_1 : decode M_A_setHole.2.1 1 = .ok (.iload_n 1, 1) := by decide +kernel
theorem d_A_setHole_2 : decode M_A_setHole.2.1 2 = .ok (.invokevirtual 120, 3) := by decide +kernel
theorem d_A_setHole_5 : decode M_A_setHole.2.1 5 = .ok (.ifCond .eq 11, 3) := by decide +kernel
theorem d_A_setHole_8 : decode M_A_setHole.2.1 8 = .ok (.aload_n 0, 1) := by decide +kernel
theorem d_A_setHole_9 : decode M_A_setHole.2.1 9 = .ok (.iload_n 2, 1) := by decide +kernel
theorem d_A_setHole_10 : decode M_A_setHole.2.1 10 = .ok (.invokevirtual 120, 3) := by decide +kernel
theorem d_A_setHole_13 : decode M_A_setHole.2.1 13 = .ok (.ifCond .ne 5, 3) := by decide +kernel
theorem d_A_setHole_16 : decode M_A_setHole.2.1 16 = .ok (.iconst (-1), 1) := by decide +kernel
theorem d_A_setHole_17 : decode M_A_setHole.2.1 17 = .ok (.ireturn, 1) := by decide +kernel
theorem d_A_setHole_18 : decode M_A_setHole.2.1 18 = .ok (.aload_n 0, 1) := by decide +kernel
theorem d_A_setHole_19 : decode M_A_setHole.2.1 19 = .ok (.aload_n 0, 1) := by decide +kernel
theorem d_A_setHole_20 : decode M_A_setHole.2.1 20 = .ok (.getfield 19, 3) := by decide +kernel
theorem d_A_setHole_23 : decode M_A_setHole.2.1 23 = .ok (.iload_n 1, 1) := by decide +kernel
theorem d_A_setHole_24 : decode M_A_setHole.2.1 24 = .ok (.iload_n 2, 1) := by decide +kernel
theorem d_A_setHole_25 : decode M_A_setHole.2.1 25 = .ok (.invokevirtual 148, 3) := by decide +kernel
theorem d_A_setHole_28 : decode M_A_setHole.2.1 28 = .ok (.putfield 94, 3) := by decide +kernel
theorem d_A_setHole_31 : decode M_A_setHole.2.1 31 = .ok (.aload_n 0, 1) := by decide +kernel
theorem d_A_setHole_32 : decode M_A_setHole.2.1 32 = .ok (.getfield 32, 3) := by decide +kernel
theorem d_A_setHole_35 : decode M_A_setHole.2.1 35 = .ok (.invokevirtual 112, 3) := by decide +kernel
theorem d_A_setHole_38 : decode M_A_setHole.2.1 38 = .ok (.aload_n 0, 1) := by decide +kernel
theorem d_A_setHole_39 : decode M_A_setHole.2.1 39 = .ok (.getfield 94, 3) := by decide +kernel
theorem d_A_setHole_42 : decode M_A_setHole.2.1 42 = .ok (.invokestatic 152, 3) := by decide +kernel
theorem d_A_setHole_45 : decode M_A_setHole.2.1 45 = .ok (.ireturn, 1) := by decide +kernel
theorem d_G_translate_0 : decode M_G_translate.2.1 0 = .ok (.lconst 0, 1) := by decide +kernel
theorem d_G_translate_1 : decode M_G_translate.2.1 1 = .ok (.lstore 4, 2) := by decide +kernel
theorem d_G_translate_3 : decode M_G_translate.2.1 3 = .ok (.iconst 0, 1) := by decide +kernel
theorem d_G_translate_4 : decode M_G_translate.2.1 4 = .ok (.istore 6, 2) := by decide +kernel
theorem d_G_translate_6 : decode M_G_translate.2.1 6 = .ok (.iload 6, 2) := by decide +kernel
theorem d_G_translate_8 : decode M_G_translate.2.1 8 = .ok (.aload_n 0, 1) := by decide +kernel
theorem d_G_translate_9 : decode M_G_translate.2.1 9 = .ok (.getfield 37, 3) := by decide +kernel
theorem d_G_translate_12 : decode M_G_translate.2.1 12 = .ok (.if_icmp .ge 32, 3) := by decide +kernel
theorem d_G_translate_15 : decode M_G_translate.2.1 15 = .ok (.lload_n 1, 1) := by decide +kernel
theorem d_G_translate_16 : decode M_G_translate.2.1 16 = .ok (.iload 6, 2) := by decide +kernel
theorem d_G_translate_18 : decode M_G_translate.2.1 18 = .ok (.invokestatic 76, 3) := by decide +kernel
theorem d_G_translate_21 : decode M_G_translate.2.1 21 = .ok (.ifCond .eq 17, 3) := by decide +kernel
theorem d_G_translate_24 : decode M_G_translate.2.1 24 = .ok (.lload 4, 2) := by decide +kernel
theorem d_G_translate_26 : decode M_G_translate.2.1 26 = .ok (.lconst 1, 1) := by decide +kernel
theorem d_G_translate_27 : decode M_G_translate.2.1 27 = .ok (.aload_n 0, 1) := by decide +kernel
theorem d_G_translate_28 : decode M_G_translate.2.1 28 = .ok (.iload 6, 2) := by decide +kernel
theorem d_G_translate_30 : decode M_G_translate.2.1 30 = .ok (.iload_n 3, 1) := by decide +kernel
theorem d_G_translate_31 : decode M_G_translate.2.1 31 = .ok (.invokevirtual 54, 3) := by decide +kernel
theorem d_G_translate_34 : decode M_G_translate.2.1 34 = .ok (.lshl, 1) := by decide +kernel
theorem d_G_translate_35 : decode M_G_translate.2.1 35 = .ok (.lor, 1) := by decide +kernel
theorem d_G_translate_36 : decode M_G_translate.2.1 36 = .ok (.lstore 4, 2) := by decide +kernel
theorem d_G_translate_38 : decode M_G_translate.2.1 38 = .ok (.iinc 6 1, 3) := by decide +kernel
theorem d_G_translate_41 : decode M_G_translate.2.1 41 = .ok (.goto (-35), 3) := by decide +kernel
theorem d_G_translate_44 : decode M_G_translate.2.1 44 = .ok (.lload 4, 2) := by decide +kernel
theorem d_G_translate_46 : decode M_G_translate.2.1 46 = .ok (.lreturn, 1) := by decide +kernel
theorem d_A_shift_0 : decode M_A_shift.2.1 0 = .ok (.iload_n 1, 1) := by decide +kernel
theorem d_A_shift_1 : decode M_A_shift.2.1 1 = .ok (.invokestatic 158, 3) := by decide +kernel
theorem d_A_shift_4 : decode M_A_shift.2.1 4 = .ok (.ifCond .eq 11, 3) := by decide +kernel
theorem d_A_shift_7 : decode M_A_shift.2.1 7 = .ok (.aload_n 0, 1) := by decide +kernel
theorem d_A_shift_8 : decode M_A_shift.2.1 8 = .ok (.iload_n 2, 1) := by decide +kernel
theorem d_A_shift_9 : decode M_A_shift.2.1 9 = .ok (.invokevirtual 120, 3) := by decide +kernel
theorem d_A_shift_12 : decode M_A_shift.2.1 12 = .ok (.ifCond .ne 5, 3) := by decide +kernel
theorem d_A_shift_15 : decode M_A_shift.2.1 15 = .ok (.iconst (-1), 1) := by decide +kernel
theorem d_A_shift_16 : decode M_A_shift.2.1 16 = .ok (.ireturn, 1) := by decide +kernel
theorem d_A_shift_17 : decode M_A_shift.2.1 17 = .ok (.aload_n 0, 1) := by decide +kernel
theorem d_A_shift_18 : decode M_A_shift.2.1 18 = .ok (.getfield 32, 3) := by decide +kernel
theorem d_A_shift_21 : decode M_A_shift.2.1 21 = .ok (.aload_n 0, 1) := by decide +kernel
theorem d_A_shift_22 : decode M_A_shift.2.1 22 = .ok (.getfield 25, 3) := by decide +kernel
theorem d_A_shift_25 : decode M_A_shift.2.1 25 = .ok (.invokevirtual 165, 3) := by decide +kernel
theorem d_A_shift_28 : decode M_A_shift.2.1 28 = .ok (.aload_n 0, 1) := by decide +kernel
theorem d_A_shift_29 : decode M_A_shift.2.1 29 = .ok (.getfield 25, 3) := by decide +kernel
theorem d_A_shift_32 : decode M_A_shift.2.1 32 = .ok (.iload_n 1, 1) := by decide +kernel
theorem d_A_shift_33 : decode M_A_shift.2.1 33 = .ok (.aload_n 0, 1) := by decide +kernel
theorem d_A_shift_34 : decode M_A_shift.2.1 34 = .ok (.getfield 19, 3) := by decide +kernel
theorem d_A_shift_37 : decode M_A_shift.2.1 37 = .ok (.aload_n 0, 1) := by decide +kernel
theorem d_A_shift_38 : decode M_A_shift.2.1 38 = .ok (.getfield 25, 3) := by decide +kernel
theorem d_A_shift_41 : decode M_A_shift.2.1 41 = .ok (.iload_n 1, 1) := by decide +kernel
theorem d_A_shift_42 : decode M_A_shift.2.1 42 = .ok (.laload, 1) := by decide +kernel
theorem d_A_shift_43 : decode M_A_shift.2.1 43 = .ok (.iload_n 2, 1) := by decide +kernel
theorem d_A_shift_44 : decode M_A_shift.2.1 44 = .ok (.invokevirtual 171, 3) := by decide +kernel
theorem d_A_shift_47 : decode M_A_shift.2.1 47 = .ok (.lastore, 1) := by decide +kernel
theorem d_A_shift_48 : decode M_A_shift.2.1 48 = .ok (.aload_n 0, 1) := by decide +kernel
theorem d_A_shift_49 : decode M_A_shift.2.1 49 = .ok (.getfield 25, 3) := by decide +kernel
theorem d_A_shift_52 : decode M_A_shift.2.1 52 = .ok (.iload_n 1, 1) := by decide +kernel
theorem d_A_shift_53 : decode M_A_shift.2.1 53 = .ok (.laload, 1) := by decide +kernel
theorem d_A_shift_54 : decode M_A_shift.2.1 54 = .ok (.invokestatic 152, 3) := by decide +kernel
theorem d_A_shift_57 : decode M_A_shift.2.1 57 = .ok (.ireturn, 1) := by decide +kernel
theorem d_G_fixingTranslates_0 : decode M_G_fixingTranslates.2.1 0 = .ok (.iconst 0, 1) := by decide +kernel
theorem d_G_fixingTranslates_1 : decode M_G_fixingTranslates.2.1 1 = .ok (.istore_n 3, 1) := by decide +kernel
theorem d_G_fixingTranslates_2 : decode M_G_fixingTranslates.2.1 2 = .ok (.lload_n 1, 1) := by decide +kernel
theorem d_G_fixingTranslates_3 : decode M_G_fixingTranslates.2.1 3 = .ok (.lstore 4, 2) := by decide +kernel
theorem d_G_fixingTranslates_5 : decode M_G_fixingTranslates.2.1 5 = .ok (.iconst 0, 1) := by decide +kernel
theorem d_G_fixingTranslates_6 : decode M_G_fixingTranslates.2.1 6 = .ok (.istore 6, 2) := by decide +kernel
theorem d_G_fixingTranslates_8 : decode M_G_fixingTranslates.2.1 8 = .ok (.iload 6, 2) := by decide +kernel
theorem d_G_fixingTranslates_10 : decode M_G_fixingTranslates.2.1 10 = .ok (.aload_n 0, 1) := by decide +kernel
theorem d_G_fixingTranslates_11 : decode M_G_fixingTranslates.2.1 11 = .ok (.getfield 37, 3) := by decide +kernel
theorem d_G_fixingTranslates_14 : decode M_G_fixingTranslates.2.1 14 = .ok (.if_icmp .ge 29, 3) := by decide +kernel
theorem d_G_fixingTranslates_17 : decode M_G_fixingTranslates.2.1 17 = .ok (.aload_n 0, 1) := by decide +kernel
theorem d_G_fixingTranslates_18 : decode M_G_fixingTranslates.2.1 18 = .ok (.lload 4, 2) := by decide +kernel
theorem d_G_fixingTranslates_20 : decode M_G_fixingTranslates.2.1 20 = .ok (.iload 6, 2) := by decide +kernel
theorem d_G_fixingTranslates_22 : decode M_G_fixingTranslates.2.1 22 = .ok (.invokevirtual 82, 3) := by decide +kernel
theorem d_G_fixingTranslates_25 : decode M_G_fixingTranslates.2.1 25 = .ok (.lstore 4, 2) := by decide +kernel
theorem d_G_fixingTranslates_27 : decode M_G_fixingTranslates.2.1 27 = .ok (.lload 4, 2) := by decide +kernel
theorem d_G_fixingTranslates_29 : decode M_G_fixingTranslates.2.1 29 = .ok (.lload_n 1, 1) := by decide +kernel
theorem d_G_fixingTranslates_30 : decode M_G_fixingTranslates.2.1 30 = .ok (.lcmp, 1) := by decide +kernel
theorem d_G_fixingTranslates_31 : decode M_G_fixingTranslates.2.1 31 = .ok (.ifCond .ne 6, 3) := by decide +kernel
theorem d_G_fixingTranslates_34 : decode M_G_fixingTranslates.2.1 34 = .ok (.iinc 3 1, 3) := by decide +kernel
theorem d_G_fixingTranslates_37 : decode M_G_fixingTranslates.2.1 37 = .ok (.iinc 6 1, 3) := by decide +kernel
theorem d_G_fixingTranslates_40 : decode M_G_fixingTranslates.2.1 40 = .ok (.goto (-32), 3) := by decide +kernel
theorem d_G_fixingTranslates_43 : decode M_G_fixingTranslates.2.1 43 = .ok (.iload_n 3, 1) := by decide +kernel
theorem d_G_fixingTranslates_44 : decode M_G_fixingTranslates.2.1 44 = .ok (.ireturn, 1) := by decide +kernel
theorem d_A_stabilizer_0 : decode M_A_stabilizer.2.1 0 = .ok (.iload_n 1, 1) := by decide +kernel
theorem d_A_stabilizer_1 : decode M_A_stabilizer.2.1 1 = .ok (.invokestatic 158, 3) := by decide +kernel
theorem d_A_stabilizer_4 : decode M_A_stabilizer.2.1 4 = .ok (.ifCond .ne 5, 3) := by decide +kernel
theorem d_A_stabilizer_7 : decode M_A_stabilizer.2.1 7 = .ok (.iconst (-1), 1) := by decide +kernel
theorem d_A_stabilizer_8 : decode M_A_stabilizer.2.1 8 = .ok (.ireturn, 1) := by decide +kernel
theorem d_A_stabilizer_9 : decode M_A_stabilizer.2.1 9 = .ok (.aload_n 0, 1) := by decide +kernel
theorem d_A_stabilizer_10 : decode M_A_stabilizer.2.1 10 = .ok (.getfield 25, 3) := by decide +kernel
theorem d_A_stabilizer_13 : decode M_A_stabilizer.2.1 13 = .ok (.iload_n 1, 1) := by decide +kernel
theorem d_A_stabilizer_14 : decode M_A_stabilizer.2.1 14 = .ok (.laload, 1) := by decide +kernel
theorem d_A_stabilizer_15 : decode M_A_stabilizer.2.1 15 = .ok (.lconst 0, 1) := by decide +kernel
theorem d_A_stabilizer_16 : decode M_A_stabilizer.2.1 16 = .ok (.lcmp, 1) := by decide +kernel
theorem d_A_stabilizer_17 : decode M_A_stabilizer.2.1 17 = .ok (.ifCond .ne 8, 3) := by decide +kernel
theorem d_A_stabilizer_20 : decode M_A_stabilizer.2.1 20 = .ok (.bipush (-4), 2) := by decide +kernel
theorem d_A_stabilizer_22 : decode M_A_stabilizer.2.1 22 = .ok (.goto 16, 3) := by decide +kernel
theorem d_A_stabilizer_25 : decode M_A_stabilizer.2.1 25 = .ok (.aload_n 0, 1) := by decide +kernel
theorem d_A_stabilizer_26 : decode M_A_stabilizer.2.1 26 = .ok (.getfield 19, 3) := by decide +kernel
theorem d_A_stabilizer_29 : decode M_A_stabilizer.2.1 29 = .ok (.aload_n 0, 1) := by decide +kernel
theorem d_A_stabilizer_30 : decode M_A_stabilizer.2.1 30 = .ok (.getfield 25, 3) := by decide +kernel
theorem d_A_stabilizer_33 : decode M_A_stabilizer.2.1 33 = .ok (.iload_n 1, 1) := by decide +kernel
theorem d_A_stabilizer_34 : decode M_A_stabilizer.2.1 34 = .ok (.laload, 1) := by decide +kernel
theorem d_A_stabilizer_35 : decode M_A_stabilizer.2.1 35 = .ok (.invokevirtual 217, 3) := by decide +kernel
theorem d_A_stabilizer_38 : decode M_A_stabilizer.2.1 38 = .ok (.ireturn, 1) := by decide +kernel
theorem d_A_sum_0 : decode M_A_sum.2.1 0 = .ok (.aload_n 0, 1) := by decide +kernel
theorem d_A_sum_1 : decode M_A_sum.2.1 1 = .ok (.iload_n 1, 1) := by decide +kernel
theorem d_A_sum_2 : decode M_A_sum.2.1 2 = .ok (.invokevirtual 120, 3) := by decide +kernel
theorem d_A_sum_5 : decode M_A_sum.2.1 5 = .ok (.ifCond .eq 11, 3) := by decide +kernel
theorem d_A_sum_8 : decode M_A_sum.2.1 8 = .ok (.aload_n 0, 1) := by decide +kernel
theorem d_A_sum_9 : decode M_A_sum.2.1 9 = .ok (.iload_n 2, 1) := by decide +kernel
theorem d_A_sum_10 : decode M_A_sum.2.1 10 = .ok (.invokevirtual 120, 3) := by decide +kernel
theorem d_A_sum_13 : decode M_A_sum.2.1 13 = .ok (.ifCond .ne 5, 3) := by decide +kernel
theorem d_A_sum_16 : decode M_A_sum.2.1 16 = .ok (.iconst (-1), 1) := by decide +kernel
theorem d_A_sum_17 : decode M_A_sum.2.1 17 = .ok (.ireturn, 1) := by decide +kernel
theorem d_A_sum_18 : decode M_A_sum.2.1 18 = .ok (.aload_n 0, 1) := by decide +kernel
theorem d_A_sum_19 : decode M_A_sum.2.1 19 = .ok (.getfield 19, 3) := by decide +kernel
theorem d_A_sum_22 : decode M_A_sum.2.1 22 = .ok (.iload_n 1, 1) := by decide +kernel
theorem d_A_sum_23 : decode M_A_sum.2.1 23 = .ok (.iload_n 2, 1) := by decide +kernel
theorem d_A_sum_24 : decode M_A_sum.2.1 24 = .ok (.invokevirtual 124, 3) := by decide +kernel
theorem d_A_sum_27 : decode M_A_sum.2.1 27 = .ok (.ireturn, 1) := by decide +kernel
theorem d_A_take_0 : decode M_A_take.2.1 0 = .ok (.iload_n 1, 1) := by decide +kernel
theorem d_A_take_1 : decode M_A_take.2.1 1 = .ok (.invokestatic 158, 3) := by decide +kernel
theorem d_A_take_4 : decode M_A_take.2.1 4 = .ok (.ifCond .eq 11, 3) := by decide +kernel
theorem d_A_take_7 : decode M_A_take.2.1 7 = .ok (.aload_n 0, 1) := by decide +kernel
theorem d_A_take_8 : decode M_A_take.2.1 8 = .ok (.iload_n 2, 1) := by decide +kernel
theorem d_A_take_9 : decode M_A_take.2.1 9 = .ok (.invokevirtual 120, 3) := by decide +kernel
theorem d_A_take_12 : decode M_A_take.2.1 12 = .ok (.ifCond .ne 5, 3) := by decide +kernel
theorem d_A_take_15 : decode M_A_take.2.1 15 = .ok (.iconst (-1), 1) := by decide +kernel
theorem d_A_take_16 : decode M_A_take.2.1 16 = .ok (.ireturn, 1) := by decide +kernel
theorem d_A_take_17 : decode M_A_take.2.1 17 = .ok (.aload_n 0, 1) := by decide +kernel
theorem d_A_take_18 : decode M_A_take.2.1 18 = .ok (.getfield 25, 3) := by decide +kernel
theorem d_A_take_21 : decode M_A_take.2.1 21 = .ok (.iload_n 1, 1) := by decide +kernel
theorem d_A_take_22 : decode M_A_take.2.1 22 = .ok (.laload, 1) := by decide +kernel
theorem d_A_take_23 : decode M_A_take.2.1 23 = .ok (.iload_n 2, 1) := by decide +kernel
theorem d_A_take_24 : decode M_A_take.2.1 24 = .ok (.invokestatic 161, 3) := by decide +kernel
theorem d_A_take_27 : decode M_A_take.2.1 27 = .ok (.ifCond .ne 6, 3) := by decide +kernel
theorem d_A_take_30 : decode M_A_take.2.1 30 = .ok (.bipush (-3), 2) := by decide +kernel
theorem d_A_take_32 : decode M_A_take.2.1 32 = .ok (.ireturn, 1) := by decide +kernel
theorem d_A_take_33 : decode M_A_take.2.1 33 = .ok (.aload_n 0, 1) := by decide +kernel
theorem d_A_take_34 : decode M_A_take.2.1 34 = .ok (.getfield 32, 3) := by decide +kernel
theorem d_A_take_37 : decode M_A_take.2.1 37 = .ok (.aload_n 0, 1) := by decide +kernel
theorem d_A_take_38 : decode M_A_take.2.1 38 = .ok (.getfield 25, 3) := by decide +kernel
theorem d_A_take_41 : decode M_A_take.2.1 41 = .ok (.invokevirtual 165, 3) := by decide +kernel
theorem d_A_take_44 : decode M_A_take.2.1 44 = .ok (.aload_n 0, 1) := by decide +kernel
theorem d_A_take_45 : decode M_A_take.2.1 45 = .ok (.getfield 25, 3) := by decide +kernel
theorem d_A_take_48 : decode M_A_take.2.1 48 = .ok (.iload_n 1, 1) := by decide +kernel
theorem d_A_take_49 : decode M_A_take.2.1 49 = .ok (.dup2, 1) := by decide +kernel
theorem d_A_take_50 : decode M_A_take.2.1 50 = .ok (.laload, 1) := by decide +kernel
theorem d_A_take_51 : decode M_A_take.2.1 51 = .ok (.lconst 1, 1) := by decide +kernel
theorem d_A_take_52 : decode M_A_take.2.1 52 = .ok (.iload_n 2, 1) := by decide +kernel
theorem d_A_take_53 : decode M_A_take.2.1 53 = .ok (.lshl, 1) := by decide +kernel
theorem d_A_take_54 : decode M_A_take.2.1 54 = .ok (.ldc2_w 169, 3) := by decide +kernel
theorem d_A_take_57 : decode M_A_take.2.1 57 = .ok (.lxor, 1) := by decide +kernel
theorem d_A_take_58 : decode M_A_take.2.1 58 = .ok (.land, 1) := by decide +kernel
theorem d_A_take_59 : decode M_A_take.2.1 59 = .ok (.lastore, 1) := by decide +kernel
theorem d_A_take_60 : decode M_A_take.2.1 60 = .ok (.aload_n 0, 1) := by decide +kernel
theorem d_A_take_61 : decode M_A_take.2.1 61 = .ok (.getfield 25, 3) := by decide +kernel
theorem d_A_take_64 : decode M_A_take.2.1 64 = .ok (.iload_n 1, 1) := by decide +kernel
theorem d_A_take_65 : decode M_A_take.2.1 65 = .ok (.laload, 1) := by decide +kernel
theorem d_A_take_66 : decode M_A_take.2.1 66 = .ok (.invokestatic 152, 3) := by decide +kernel
theorem d_A_take_69 : decode M_A_take.2.1 69 = .ok (.ireturn, 1) := by decide +kernel
theorem d_A_takeSolution_0 : decode M_A_takeSolution.2.1 0 = .ok (.aload_n 0, 1) := by decide +kernel
theorem d_A_takeSolution_1 : decode M_A_takeSolution.2.1 1 = .ok (.getfield 73, 3) := by decide +kernel
theorem d_A_takeSolution_4 : decode M_A_takeSolution.2.1 4 = .ok (.getfield 296, 3) := by decide +kernel
theorem d_A_takeSolution_7 : decode M_A_takeSolution.2.1 7 = .ok (.ifCond .ne 6, 3) := by decide +kernel
theorem d_A_takeSolution_10 : decode M_A_takeSolution.2.1 10 = .ok (.bipush (-3), 2) := by decide +kernel
theorem d_A_takeSolution_12 : decode M_A_takeSolution.2.1 12 = .ok (.ireturn, 1) := by decide +kernel
theorem d_A_takeSolution_13 : decode M_A_takeSolution.2.1 13 = .ok (.aload_n 0, 1) := by decide +kernel
theorem d_A_takeSolution_14 : decode M_A_takeSolution.2.1 14 = .ok (.getfield 32, 3) := by decide +kernel
theorem d_A_takeSolution_17 : decode M_A_takeSolution.2.1 17 = .ok (.aload_n 0, 1) := by decide +kernel
theorem d_A_takeSolution_18 : decode M_A_takeSolution.2.1 18 = .ok (.getfield 25, 3) := by decide +kernel
theorem d_A_takeSolution_21 : decode M_A_takeSolution.2.1 21 = .ok (.invokevirtual 165, 3) := by decide +kernel
theorem d_A_takeSolution_24 : decode M_A_takeSolution.2.1 24 = .ok (.aload_n 0, 1) := by decide +kernel
theorem d_A_takeSolution_25 : decode M_A_takeSolution.2.1 25 = .ok (.getfield 73, 3) := by decide +kernel
theorem d_A_takeSolution_28 : decode M_A_takeSolution.2.1 28 = .ok (.getfield 305, 3) := by decide +kernel
theorem d_A_takeSolution_31 : decode M_A_takeSolution.2.1 31 = .ok (.iconst 0, 1) := by decide +kernel
theorem d_A_takeSolution_32 : decode M_A_takeSolution.2.1 32 = .ok (.aload_n 0, 1) := by decide +kernel
theorem d_A_takeSolution_33 : decode M_A_takeSolution.2.1 33 = .ok (.getfield 25, 3) := by decide +kernel
theorem d_A_takeSolution_36 : decode M_A_takeSolution.2.1 36 = .ok (.iconst 0, 1) := by decide +kernel
theorem d_A_takeSolution_37 : decode M_A_takeSolution.2.1 37 = .ok (.bipush 6, 2) := by decide +kernel
theorem d_A_takeSolution_39 : decode M_A_takeSolution.2.1 39 = .ok (.invokestatic 308, 3) := by decide +kernel
theorem d_A_takeSolution_42 : decode M_A_takeSolution.2.1 42 = .ok (.aload_n 0, 1) := by decide +kernel
theorem d_A_takeSolution_43 : decode M_A_takeSolution.2.1 43 = .ok (.invokevirtual 314, 3) := by decide +kernel
theorem d_A_takeSolution_46 : decode M_A_takeSolution.2.1 46 = .ok (.ireturn, 1) := by decide +kernel
theorem d_H_bringBack_0 : decode M_H_bringBack.2.1 0 = .ok (.aload_n 0, 1) := by decide +kernel
theorem d_H_bringBack_1 : decode M_H_bringBack.2.1 1 = .ok (.getfield 15, 3) := by decide +kernel
theorem d_H_bringBack_4 : decode M_H_bringBack.2.1 4 = .ok (.ifCond .le 31, 3) := by decide +kernel
theorem d_H_bringBack_7 : decode M_H_bringBack.2.1 7 = .ok (.aload_n 0, 1) := by decide +kernel
theorem d_H_bringBack_8 : decode M_H_bringBack.2.1 8 = .ok (.dup, 1) := by decide +kernel
theorem d_H_bringBack_9 : decode M_H_bringBack.2.1 9 = .ok (.getfield 15, 3) := by decide +kernel
theorem d_H_bringBack_12 : decode M_H_bringBack.2.1 12 = .ok (.iconst 1, 1) := by decide +kernel
theorem d_H_bringBack_13 : decode M_H_bringBack.2.1 13 = .ok (.isub, 1) := by decide +kernel
theorem d_H_bringBack_14 : decode M_H_bringBack.2.1 14 = .ok (.putfield 15, 3) := by decide +kernel
theorem d_H_bringBack_17 : decode M_H_bringBack.2.1 17 = .ok (.aload_n 0, 1) := by decide +kernel
theorem d_H_bringBack_18 : decode M_H_bringBack.2.1 18 = .ok (.getfield 11, 3) := by decide +kernel
theorem d_H_bringBack_21 : decode M_H_bringBack.2.1 21 = .ok (.aload_n 0, 1) := by decide +kernel
theorem d_H_bringBack_22 : decode M_H_bringBack.2.1 22 = .ok (.getfield 15, 3) := by decide +kernel
theorem d_H_bringBack_25 : decode M_H_bringBack.2.1 25 = .ok (.bipush 6, 2) := by decide +kernel
theorem d_H_bringBack_27 : decode M_H_bringBack.2.1 27 = .ok (.imul, 1) := by decide +kernel
theorem d_H_bringBack_28 : decode M_H_bringBack.2.1 28 = .ok (.aload_n 1, 1) := by decide +kernel
theorem d_H_bringBack_29 : decode M_H_bringBack.2.1 29 = .ok (.iconst 0, 1) := by decide +kernel
theorem d_H_bringBack_30 : decode M_H_bringBack.2.1 30 = .ok (.bipush 6, 2) := by decide +kernel
theorem d_H_bringBack_32 : decode M_H_bringBack.2.1 32 = .ok (.invokestatic 19, 3) := by decide +kernel
theorem d_H_bringBack_35 : decode M_H_bringBack.2.1 35 = .ok (.return_, 1) := by decide +kernel
theorem d_A_undo_0 : decode M_A_undo.2.1 0 = .ok (.aload_n 0, 1) := by decide +kernel
theorem d_A_undo_1 : decode M_A_undo.2.1 1 = .ok (.getfield 32, 3) := by decide +kernel
theorem d_A_undo_4 : decode M_A_undo.2.1 4 = .ok (.getfield 205, 3) := by decide +kernel
theorem d_A_undo_7 : decode M_A_undo.2.1 7 = .ok (.ifCond .ne 6, 3) := by decide +kernel
theorem d_A_undo_10 : decode M_A_undo.2.1 10 = .ok (.bipush (-3), 2) := by decide +kernel
theorem d_A_undo_12 : decode M_A_undo.2.1 12 = .ok (.ireturn, 1) := by decide +kernel
theorem d_A_undo_13 : decode M_A_undo.2.1 13 = .ok (.aload_n 0, 1) := by decide +kernel
theorem d_A_undo_14 : decode M_A_undo.2.1 14 = .ok (.getfield 32, 3) := by decide +kernel
theorem d_A_undo_17 : decode M_A_undo.2.1 17 = .ok (.aload_n 0, 1) := by decide +kernel
theorem d_A_undo_18 : decode M_A_undo.2.1 18 = .ok (.getfield 25, 3) := by decide +kernel
theorem d_A_undo_21 : decode M_A_undo.2.1 21 = .ok (.invokevirtual 208, 3) := by decide +kernel
theorem d_A_undo_24 : decode M_A_undo.2.1 24 = .ok (.aload_n 0, 1) := by decide +kernel
theorem d_A_undo_25 : decode M_A_undo.2.1 25 = .ok (.getfield 32, 3) := by decide +kernel
theorem d_A_undo_28 : decode M_A_undo.2.1 28 = .ok (.getfield 205, 3) := by decide +kernel
theorem d_A_undo_31 : decode M_A_undo.2.1 31 = .ok (.ireturn, 1) := by decide +kernel
theorem d_B_in_0 : decode M_B_in.2.1 0 = .ok (.lload_n 0, 1) := by decide +kernel
theorem d_B_in_1 : decode M_B_in.2.1 1 = .ok (.lload_n 2, 1) := by decide +kernel
theorem d_B_in_2 : decode M_B_in.2.1 2 = .ok (.lcmp, 1) := by decide +kernel
theorem d_B_in_3 : decode M_B_in.2.1 3 = .ok (.ifCond .lt 14, 3) := by decide +kernel
theorem d_B_in_6 : decode M_B_in.2.1 6 = .ok (.lload_n 0, 1) := by decide +kernel
theorem d_B_in_7 : decode M_B_in.2.1 7 = .ok (.lload 4, 2) := by decide +kernel
theorem d_B_in_9 : decode M_B_in.2.1 9 = .ok (.lcmp, 1) := by decide +kernel
theorem d_B_in_10 : decode M_B_in.2.1 10 = .ok (.ifCond .gt 7, 3) := by decide +kernel
theorem d_B_in_13 : decode M_B_in.2.1 13 = .ok (.iconst 1, 1) := by decide +kernel
theorem d_B_in_14 : decode M_B_in.2.1 14 = .ok (.goto 4, 3) := by decide +kernel
theorem d_B_in_17 : decode M_B_in.2.1 17 = .ok (.iconst 0, 1) := by decide +kernel
theorem d_B_in_18 : decode M_B_in.2.1 18 = .ok (.ireturn, 1) := by decide +kernel
theorem d_B_append_0 : decode M_B_append.2.1 0 = .ok (.iload_n 1, 1) := by decide +kernel
theorem d_B_append_1 : decode M_B_append.2.1 1 = .ok (.i2l, 1) := by decide +kernel
theorem d_B_append_2 : decode M_B_append.2.1 2 = .ok (.ldc2_w 241, 3) := by decide +kernel
theorem d_B_append_5 : decode M_B_append.2.1 5 = .ok (.ldc2_w 243, 3) := by decide +kernel
theorem d_B_append_8 : decode M_B_append.2.1 8 = .ok (.invokestatic 83, 3) := by decide +kernel
theorem d_B_append_11 : decode M_B_append.2.1 11 = .ok (.ifCond .ne 5, 3) := by decide +kernel
theorem d_B_append_14 : decode M_B_append.2.1 14 = .ok (.iconst (-1), 1) := by decide +kernel
theorem d_B_append_15 : decode M_B_append.2.1 15 = .ok (.ireturn, 1) := by decide +kernel
theorem d_B_append_16 : decode M_B_append.2.1 16 = .ok (.aload_n 0, 1) := by decide +kernel
theorem d_B_append_17 : decode M_B_append.2.1 17 = .ok (.getfield 245, 3) := by decide +kernel
theorem d_B_append_20 : decode M_B_append.2.1 20 = .ok (.sipush 160, 3) := by decide +kernel
theorem d_B_append_23 : decode M_B_append.2.1 23 = .ok (.if_icmp .ne 6, 3) := by decide +kernel
theorem d_B_append_26 : decode M_B_append.2.1 26 = .ok (.bipush (-2), 2) := by decide +kernel
theorem d_B_append_28 : decode M_B_append.2.1 28 = .ok (.ireturn, 1) := by decide +kernel
theorem d_B_append_29 : decode M_B_append.2.1 29 = .ok (.aload_n 0, 1) := by decide +kernel
theorem d_B_append_30 : decode M_B_append.2.1 30 = .ok (.getfield 37, 3) := by decide +kernel
theorem d_B_append_33 : decode M_B_append.2.1 33 = .ok (.aload_n 0, 1) := by decide +kernel
theorem d_B_append_34 : decode M_B_append.2.1 34 = .ok (.getfield 245, 3) := by decide +kernel
theorem d_B_append_37 : decode M_B_append.2.1 37 = .ok (.iload_n 1, 1) := by decide +kernel
theorem d_B_append_38 : decode M_B_append.2.1 38 = .ok (.iastore, 1) := by decide +kernel
theorem d_B_append_39 : decode M_B_append.2.1 39 = .ok (.aload_n 0, 1) := by decide +kernel
theorem d_B_append_40 : decode M_B_append.2.1 40 = .ok (.dup, 1) := by decide +kernel
theorem d_B_append_41 : decode M_B_append.2.1 41 = .ok (.getfield 245, 3) := by decide +kernel
theorem d_B_append_44 : decode M_B_append.2.1 44 = .ok (.iconst 1, 1) := by decide +kernel
theorem d_B_append_45 : decode M_B_append.2.1 45 = .ok (.iadd, 1) := by decide +kernel
theorem d_B_append_46 : decode M_B_append.2.1 46 = .ok (.putfield 245, 3) := by decide +kernel
theorem d_B_append_49 : decode M_B_append.2.1 49 = .ok (.aload_n 0, 1) := by decide +kernel
theorem d_B_append_50 : decode M_B_append.2.1 50 = .ok (.getfield 245, 3) := by decide +kernel
theorem d_B_append_53 : decode M_B_append.2.1 53 = .ok (.ireturn, 1) := by decide +kernel
theorem d_B_isNumber_0 : decode M_B_isNumber.2.1 0 = .ok (.iload_n 1, 1) := by decide +kernel
theorem d_B_isNumber_1 : decode M_B_isNumber.2.1 1 = .ok (.i2l, 1) := by decide +kernel
theorem d_B_isNumber_2 : decode M_B_isNumber.2.1 2 = .ok (.lconst 0, 1) := by decide +kernel
theorem d_B_isNumber_3 : decode M_B_isNumber.2.1 3 = .ok (.aload_n 0, 1) := by decide +kernel
theorem d_B_isNumber_4 : decode M_B_isNumber.2.1 4 = .ok (.getfield 98, 3) := by decide +kernel
theorem d_B_isNumber_7 : decode M_B_isNumber.2.1 7 = .ok (.iconst 1, 1) := by decide +kernel
theorem d_B_isNumber_8 : decode M_B_isNumber.2.1 8 = .ok (.isub, 1) := by decide +kernel
theorem d_B_isNumber_9 : decode M_B_isNumber.2.1 9 = .ok (.i2l, 1) := by decide +kernel
theorem d_B_isNumber_10 : decode M_B_isNumber.2.1 10 = .ok (.invokestatic 83, 3) := by decide +kernel
theorem d_B_isNumber_13 : decode M_B_isNumber.2.1 13 = .ok (.ireturn, 1) := by decide +kernel
theorem d_B_notes_0 : decode M_B_notes.2.1 0 = .ok (.aload_n 0, 1) := by decide +kernel
theorem d_B_notes_1 : decode M_B_notes.2.1 1 = .ok (.getfield 109, 3) := by decide +kernel
theorem d_B_notes_4 : decode M_B_notes.2.1 4 = .ok (.iconst 5, 1) := by decide +kernel
theorem d_B_notes_5 : decode M_B_notes.2.1 5 = .ok (.if_icmp .ne 37, 3) := by decide +kernel
theorem d_B_notes_8 : decode M_B_notes.2.1 8 = .ok (.iconst 0, 1) := by decide +kernel
theorem d_B_notes_9 : decode M_B_notes.2.1 9 = .ok (.istore_n 1, 1) := by decide +kernel
theorem d_B_notes_10 : decode M_B_notes.2.1 10 = .ok (.iload_n 1, 1) := by decide +kernel
theorem d_B_notes_11 : decode M_B_notes.2.1 11 = .ok (.bipush 24, 2) := by decide +kernel
theorem d_B_notes_13 : decode M_B_notes.2.1 13 = .ok (.if_icmp .ge 24, 3) := by decide +kernel
theorem d_B_notes_16 : decode M_B_notes.2.1 16 = .ok (.aload_n 0, 1) := by decide +kernel
theorem d_B_notes_17 : decode M_B_notes.2.1 17 = .ok (.getfield 27, 3) := by decide +kernel
theorem d_B_notes_20 : decode M_B_notes.2.1 20 = .ok (.iload_n 1, 1) := by decide +kernel
theorem d_B_notes_21 : decode M_B_notes.2.1 21 = .ok (.aload_n 0, 1) := by decide +kernel
theorem d_B_notes_22 : decode M_B_notes.2.1 22 = .ok (.getfield 27, 3) := by decide +kernel
theorem d_B_notes_25 : decode M_B_notes.2.1 25 = .ok (.iload_n 1, 1) := by decide +kernel
theorem d_B_notes_26 : decode M_B_notes.2.1 26 = .ok (.bipush 6, 2) := by decide +kernel
theorem d_B_notes_28 : decode M_B_notes.2.1 28 = .ok (.iadd, 1) := by decide +kernel
theorem d_B_notes_29 : decode M_B_notes.2.1 29 = .ok (.laload, 1) := by decide +kernel
theorem d_B_notes_30 : decode M_B_notes.2.1 30 = .ok (.lastore, 1) := by decide +kernel
theorem d_B_notes_31 : decode M_B_notes.2.1 31 = .ok (.iinc 1 1, 3) := by decide +kernel
theorem d_B_notes_34 : decode M_B_notes.2.1 34 = .ok (.goto (-24), 3) := by decide +kernel
theorem d_B_notes_37 : decode M_B_notes.2.1 37 = .ok (.aload_n 0, 1) := by decide +kernel
theorem d_B_notes_38 : decode M_B_notes.2.1 38 = .ok (.iconst 4, 1) := by decide +kernel
theorem d_B_notes_39 : decode M_B_notes.2.1 39 = .ok (.putfield 109, 3) := by decide +kernel
theorem d_B_notes_42 : decode M_B_notes.2.1 42 = .ok (.iconst 0, 1) := by decide +kernel
theorem d_B_notes_43 : decode M_B_notes.2.1 43 = .ok (.istore_n 1, 1) := by decide +kernel
theorem d_B_notes_44 : decode M_B_notes.2.1 44 = .ok (.iload_n 1, 1) := by decide +kernel
theorem d_B_notes_45 : decode M_B_notes.2.1 45 = .ok (.bipush 6, 2) := by decide +kernel
theorem d_B_notes_47 : decode M_B_notes.2.1 47 = .ok (.if_icmp .ge 29, 3) := by decide +kernel
theorem d_B_notes_50 : decode M_B_notes.2.1 50 = .ok (.aload_n 0, 1) := by decide +kernel
theorem d_B_notes_51 : decode M_B_notes.2.1 51 = .ok (.getfield 27, 3) := by decide +kernel
theorem d_B_notes_54 : decode M_B_notes.2.1 54 = .ok (.bipush 6, 2) := by decide +kernel
theorem d_B_notes_56 : decode M_B_notes.2.1 56 = .ok (.aload_n 0, 1) := by decide +kernel
theorem d_B_notes_57 : decode M_B_notes.2.1 57 = .ok (.getfield 109, 3) := by decide +kernel
theorem d_B_notes_60 : decode M_B_notes.2.1 60 = .ok (.imul, 1) := by decide +kernel
theorem d_B_notes_61 : decode M_B_notes.2.1 61 = .ok (.iload_n 1, 1) := by decide +kernel
theorem d_B_notes_62 : decode M_B_notes.2.1 62 = .ok (.iadd, 1) := by decide +kernel
theorem d_B_notes_63 : decode M_B_notes.2.1 63 = .ok (.aload_n 0, 1) := by decide +kernel
theorem d_B_notes_64 : decode M_B_notes.2.1 64 = .ok (.getfield 23, 3) := by decide +kernel
theorem d_B_notes_67 : decode M_B_notes.2.1 67 = .ok (.iload_n 1, 1) := by decide +kernel
theorem d_B_notes_68 : decode M_B_notes.2.1 68 = .ok (.laload, 1) := by decide +kernel
theorem d_B_notes_69 : decode M_B_notes.2.1 69 = .ok (.lastore, 1) := by decide +kernel
theorem d_B_notes_70 : decode M_B_notes.2.1 70 = .ok (.iinc 1 1, 3) := by decide +kernel
theorem d_B_notes_73 : decode M_B_notes.2.1 73 = .ok (.goto (-29), 3) := by decide +kernel
theorem d_B_notes_76 : decode M_B_notes.2.1 76 = .ok (.aload_n 0, 1) := by decide +kernel
theorem d_B_notes_77 : decode M_B_notes.2.1 77 = .ok (.dup, 1) := by decide +kernel
theorem d_B_notes_78 : decode M_B_notes.2.1 78 = .ok (.getfield 109, 3) := by decide +kernel
theorem d_B_notes_81 : decode M_B_notes.2.1 81 = .ok (.iconst 1, 1) := by decide +kernel
theorem d_B_notes_82 : decode M_B_notes.2.1 82 = .ok (.iadd, 1) := by decide +kernel
theorem d_B_notes_83 : decode M_B_notes.2.1 83 = .ok (.putfield 109, 3) := by decide +kernel
theorem d_B_notes_86 : decode M_B_notes.2.1 86 = .ok (.return_, 1) := by decide +kernel
theorem d_B_has_0 : decode M_B_has.2.1 0 = .ok (.lload_n 0, 1) := by decide +kernel
theorem d_B_has_1 : decode M_B_has.2.1 1 = .ok (.iload_n 2, 1) := by decide +kernel
theorem d_B_has_2 : decode M_B_has.2.1 2 = .ok (.lshr, 1) := by decide +kernel
theorem d_B_has_3 : decode M_B_has.2.1 3 = .ok (.lconst 1, 1) := by decide +kernel
theorem d_B_has_4 : decode M_B_has.2.1 4 = .ok (.land, 1) := by decide +kernel
theorem d_B_has_5 : decode M_B_has.2.1 5 = .ok (.lconst 1, 1) := by decide +kernel
theorem d_B_has_6 : decode M_B_has.2.1 6 = .ok (.lcmp, 1) := by decide +kernel
theorem d_B_has_7 : decode M_B_has.2.1 7 = .ok (.ifCond .ne 7, 3) := by decide +kernel
theorem d_B_has_10 : decode M_B_has.2.1 10 = .ok (.iconst 1, 1) := by decide +kernel
theorem d_B_has_11 : decode M_B_has.2.1 11 = .ok (.goto 4, 3) := by decide +kernel
theorem d_B_has_14 : decode M_B_has.2.1 14 = .ok (.iconst 0, 1) := by decide +kernel
theorem d_B_has_15 : decode M_B_has.2.1 15 = .ok (.ireturn, 1) := by decide +kernel
theorem d_B_times_0 : decode M_B_times.2.1 0 = .ok (.aload_n 0, 1) := by decide +kernel
theorem d_B_times_1 : decode M_B_times.2.1 1 = .ok (.getfield 13, 3) := by decide +kernel
theorem d_B_times_4 : decode M_B_times.2.1 4 = .ok (.iload_n 1, 1) := by decide +kernel
theorem d_B_times_5 : decode M_B_times.2.1 5 = .ok (.iload_n 2, 1) := by decide +kernel
theorem d_B_times_6 : decode M_B_times.2.1 6 = .ok (.aload_n 0, 1) := by decide +kernel
theorem d_B_times_7 : decode M_B_times.2.1 7 = .ok (.getfield 13, 3) := by decide +kernel
theorem d_B_times_10 : decode M_B_times.2.1 10 = .ok (.idiv, 1) := by decide +kernel
theorem d_B_times_11 : decode M_B_times.2.1 11 = .ok (.imul, 1) := by decide +kernel
theorem d_B_times_12 : decode M_B_times.2.1 12 = .ok (.aload_n 0, 1) := by decide +kernel
theorem d_B_times_13 : decode M_B_times.2.1 13 = .ok (.getfield 7, 3) := by decide +kernel
theorem d_B_times_16 : decode M_B_times.2.1 16 = .ok (.irem, 1) := by decide +kernel
theorem d_B_times_17 : decode M_B_times.2.1 17 = .ok (.imul, 1) := by decide +kernel
theorem d_B_times_18 : decode M_B_times.2.1 18 = .ok (.iload_n 1, 1) := by decide +kernel
theorem d_B_times_19 : decode M_B_times.2.1 19 = .ok (.iload_n 2, 1) := by decide +kernel
theorem d_B_times_20 : decode M_B_times.2.1 20 = .ok (.aload_n 0, 1) := by decide +kernel
theorem d_B_times_21 : decode M_B_times.2.1 21 = .ok (.getfield 13, 3) := by decide +kernel
theorem d_B_times_24 : decode M_B_times.2.1 24 = .ok (.irem, 1) := by decide +kernel
theorem d_B_times_25 : decode M_B_times.2.1 25 = .ok (.imul, 1) := by decide +kernel
theorem d_B_times_26 : decode M_B_times.2.1 26 = .ok (.aload_n 0, 1) := by decide +kernel
theorem d_B_times_27 : decode M_B_times.2.1 27 = .ok (.getfield 13, 3) := by decide +kernel
theorem d_B_times_30 : decode M_B_times.2.1 30 = .ok (.irem, 1) := by decide +kernel
theorem d_B_times_31 : decode M_B_times.2.1 31 = .ok (.iadd, 1) := by decide +kernel
theorem d_B_times_32 : decode M_B_times.2.1 32 = .ok (.ireturn, 1) := by decide +kernel
theorem d_B_plus_0 : decode M_B_plus.2.1 0 = .ok (.aload_n 0, 1) := by decide +kernel
theorem d_B_plus_1 : decode M_B_plus.2.1 1 = .ok (.getfield 13, 3) := by decide +kernel
theorem d_B_plus_4 : decode M_B_plus.2.1 4 = .ok (.iload_n 1, 1) := by decide +kernel
theorem d_B_plus_5 : decode M_B_plus.2.1 5 = .ok (.aload_n 0, 1) := by decide +kernel
theorem d_B_plus_6 : decode M_B_plus.2.1 6 = .ok (.getfield 13, 3) := by decide +kernel
theorem d_B_plus_9 : decode M_B_plus.2.1 9 = .ok (.idiv, 1) := by decide +kernel
theorem d_B_plus_10 : decode M_B_plus.2.1 10 = .ok (.iload_n 2, 1) := by decide +kernel
theorem d_B_plus_11 : decode M_B_plus.2.1 11 = .ok (.aload_n 0, 1) := by decide +kernel
theorem d_B_plus_12 : decode M_B_plus.2.1 12 = .ok (.getfield 13, 3) := by decide +kernel
theorem d_B_plus_15 : decode M_B_plus.2.1 15 = .ok (.idiv, 1) := by decide +kernel
theorem d_B_plus_16 : decode M_B_plus.2.1 16 = .ok (.iadd, 1) := by decide +kernel
theorem d_B_plus_17 : decode M_B_plus.2.1 17 = .ok (.aload_n 0, 1) := by decide +kernel
theorem d_B_plus_18 : decode M_B_plus.2.1 18 = .ok (.getfield 7, 3) := by decide +kernel
theorem d_B_plus_21 : decode M_B_plus.2.1 21 = .ok (.irem, 1) := by decide +kernel
theorem d_B_plus_22 : decode M_B_plus.2.1 22 = .ok (.imul, 1) := by decide +kernel
theorem d_B_plus_23 : decode M_B_plus.2.1 23 = .ok (.iload_n 1, 1) := by decide +kernel
theorem d_B_plus_24 : decode M_B_plus.2.1 24 = .ok (.aload_n 0, 1) := by decide +kernel
theorem d_B_plus_25 : decode M_B_plus.2.1 25 = .ok (.getfield 13, 3) := by decide +kernel
theorem d_B_plus_28 : decode M_B_plus.2.1 28 = .ok (.irem, 1) := by decide +kernel
theorem d_B_plus_29 : decode M_B_plus.2.1 29 = .ok (.iload_n 2, 1) := by decide +kernel
theorem d_B_plus_30 : decode M_B_plus.2.1 30 = .ok (.aload_n 0, 1) := by decide +kernel
theorem d_B_plus_31 : decode M_B_plus.2.1 31 = .ok (.getfield 13, 3) := by decide +kernel
theorem d_B_plus_34 : decode M_B_plus.2.1 34 = .ok (.irem, 1) := by decide +kernel
theorem d_B_plus_35 : decode M_B_plus.2.1 35 = .ok (.iadd, 1) := by decide +kernel
theorem d_B_plus_36 : decode M_B_plus.2.1 36 = .ok (.aload_n 0, 1) := by decide +kernel
theorem d_B_plus_37 : decode M_B_plus.2.1 37 = .ok (.getfield 13, 3) := by decide +kernel
theorem d_B_plus_40 : decode M_B_plus.2.1 40 = .ok (.irem, 1) := by decide +kernel
theorem d_B_plus_41 : decode M_B_plus.2.1 41 = .ok (.iadd, 1) := by decide +kernel
theorem d_B_plus_42 : decode M_B_plus.2.1 42 = .ok (.ireturn, 1) := by decide +kernel
theorem d_B_maps_0 : decode M_B_maps.2.1 0 = .ok (.aload_n 0, 1) := by decide +kernel
theorem d_B_maps_1 : decode M_B_maps.2.1 1 = .ok (.aload_n 0, 1) := by decide +kernel
theorem d_B_maps_2 : decode M_B_maps.2.1 2 = .ok (.iload_n 3, 1) := by decide +kernel
theorem d_B_maps_3 : decode M_B_maps.2.1 3 = .ok (.aload_n 0, 1) := by decide +kernel
theorem d_B_maps_4 : decode M_B_maps.2.1 4 = .ok (.getfield 13, 3) := by decide +kernel
theorem d_B_maps_7 : decode M_B_maps.2.1 7 = .ok (.idiv, 1) := by decide +kernel
theorem d_B_maps_8 : decode M_B_maps.2.1 8 = .ok (.iload_n 1, 1) := by decide +kernel
theorem d_B_maps_9 : decode M_B_maps.2.1 9 = .ok (.invokevirtual 87, 3) := by decide +kernel
theorem d_B_maps_12 : decode M_B_maps.2.1 12 = .ok (.aload_n 0, 1) := by decide +kernel
theorem d_B_maps_13 : decode M_B_maps.2.1 13 = .ok (.iload_n 3, 1) := by decide +kernel
theorem d_B_maps_14 : decode M_B_maps.2.1 14 = .ok (.aload_n 0, 1) := by decide +kernel
theorem d_B_maps_15 : decode M_B_maps.2.1 15 = .ok (.getfield 13, 3) := by decide +kernel
theorem d_B_maps_18 : decode M_B_maps.2.1 18 = .ok (.irem, 1) := by decide +kernel
theorem d_B_maps_19 : decode M_B_maps.2.1 19 = .ok (.iload_n 2, 1) := by decide +kernel
theorem d_B_maps_20 : decode M_B_maps.2.1 20 = .ok (.invokevirtual 87, 3) := by decide +kernel
theorem d_B_maps_23 : decode M_B_maps.2.1 23 = .ok (.invokevirtual 91, 3) := by decide +kernel
theorem d_B_maps_26 : decode M_B_maps.2.1 26 = .ok (.ireturn, 1) := by decide +kernel
theorem d_B_imageOf_0 : decode M_B_imageOf.2.1 0 = .ok (.lconst 0, 1) := by decide +kernel
theorem d_B_imageOf_1 : decode M_B_imageOf.2.1 1 = .ok (.lstore 5, 2) := by decide +kernel
theorem d_B_imageOf_3 : decode M_B_imageOf.2.1 3 = .ok (.iconst 0, 1) := by decide +kernel
theorem d_B_imageOf_4 : decode M_B_imageOf.2.1 4 = .ok (.istore 7, 2) := by decide +kernel
theorem d_B_imageOf_6 : decode M_B_imageOf.2.1 6 = .ok (.iload 7, 2) := by decide +kernel
theorem d_B_imageOf_8 : decode M_B_imageOf.2.1 8 = .ok (.aload_n 0, 1) := by decide +kernel
theorem d_B_imageOf_9 : decode M_B_imageOf.2.1 9 = .ok (.getfield 16, 3) := by decide +kernel
theorem d_B_imageOf_12 : decode M_B_imageOf.2.1 12 = .ok (.if_icmp .ge 38, 3) := by decide +kernel
theorem d_B_imageOf_15 : decode M_B_imageOf.2.1 15 = .ok (.lload 5, 2) := by decide +kernel
theorem d_B_imageOf_17 : decode M_B_imageOf.2.1 17 = .ok (.lload_n 1, 1) := by decide +kernel
theorem d_B_imageOf_18 : decode M_B_imageOf.2.1 18 = .ok (.iload 7, 2) := by decide +kernel
theorem d_B_imageOf_20 : decode M_B_imageOf.2.1 20 = .ok (.invokestatic 134, 3) := by decide +kernel
theorem d_B_imageOf_23 : decode M_B_imageOf.2.1 23 = .ok (.ifCond .eq 17, 3) := by decide +kernel
theorem d_B_imageOf_26 : decode M_B_imageOf.2.1 26 = .ok (.lconst 1, 1) := by decide +kernel
theorem d_B_imageOf_27 : decode M_B_imageOf.2.1 27 = .ok (.aload_n 0, 1) := by decide +kernel
theorem d_B_imageOf_28 : decode M_B_imageOf.2.1 28 = .ok (.iload_n 3, 1) := by decide +kernel
theorem d_B_imageOf_29 : decode M_B_imageOf.2.1 29 = .ok (.iload 4, 2) := by decide +kernel
theorem d_B_imageOf_31 : decode M_B_imageOf.2.1 31 = .ok (.iload 7, 2) := by decide +kernel
theorem d_B_imageOf_33 : decode M_B_imageOf.2.1 33 = .ok (.invokevirtual 94, 3) := by decide +kernel
theorem d_B_imageOf_36 : decode M_B_imageOf.2.1 36 = .ok (.lshl, 1) := by decide +kernel
theorem d_B_imageOf_37 : decode M_B_imageOf.2.1 37 = .ok (.goto 4, 3) := by decide +kernel
theorem d_B_imageOf_40 : decode M_B_imageOf.2.1 40 = .ok (.lconst 0, 1) := by decide +kernel
theorem d_B_imageOf_41 : decode M_B_imageOf.2.1 41 = .ok (.lor, 1) := by decide +kernel
theorem d_B_imageOf_42 : decode M_B_imageOf.2.1 42 = .ok (.lstore 5, 2) := by decide +kernel
theorem d_B_imageOf_44 : decode M_B_imageOf.2.1 44 = .ok (.iinc 7 1, 3) := by decide +kernel
theorem d_B_imageOf_47 : decode M_B_imageOf.2.1 47 = .ok (.goto (-41), 3) := by decide +kernel
theorem d_B_imageOf_50 : decode M_B_imageOf.2.1 50 = .ok (.lload 5, 2) := by decide +kernel
theorem d_B_imageOf_52 : decode M_B_imageOf.2.1 52 = .ok (.lreturn, 1) := by decide +kernel
theorem d_B_apply_0 : decode M_B_apply.2.1 0 = .ok (.aload_n 0, 1) := by decide +kernel
theorem d_B_apply_1 : decode M_B_apply.2.1 1 = .ok (.iload_n 1, 1) := by decide +kernel
theorem d_B_apply_2 : decode M_B_apply.2.1 2 = .ok (.invokevirtual 127, 3) := by decide +kernel
theorem d_B_apply_5 : decode M_B_apply.2.1 5 = .ok (.ifCond .ne 5, 3) := by decide +kernel
theorem d_B_apply_8 : decode M_B_apply.2.1 8 = .ok (.iconst (-1), 1) := by decide +kernel
theorem d_B_apply_9 : decode M_B_apply.2.1 9 = .ok (.ireturn, 1) := by decide +kernel
theorem d_B_apply_10 : decode M_B_apply.2.1 10 = .ok (.aload_n 0, 1) := by decide +kernel
theorem d_B_apply_11 : decode M_B_apply.2.1 11 = .ok (.invokevirtual 144, 3) := by decide +kernel
theorem d_B_apply_14 : decode M_B_apply.2.1 14 = .ok (.iconst 0, 1) := by decide +kernel
theorem d_B_apply_15 : decode M_B_apply.2.1 15 = .ok (.istore_n 2, 1) := by decide +kernel
theorem d_B_apply_16 : decode M_B_apply.2.1 16 = .ok (.iconst 0, 1) := by decide +kernel
theorem d_B_apply_17 : decode M_B_apply.2.1 17 = .ok (.istore_n 3, 1) := by decide +kernel
theorem d_B_apply_18 : decode M_B_apply.2.1 18 = .ok (.iload_n 3, 1) := by decide +kernel
theorem d_B_apply_19 : decode M_B_apply.2.1 19 = .ok (.bipush 6, 2) := by decide +kernel
theorem d_B_apply_21 : decode M_B_apply.2.1 21 = .ok (.if_icmp .ge 61, 3) := by decide +kernel
theorem d_B_apply_24 : decode M_B_apply.2.1 24 = .ok (.aload_n 0, 1) := by decide +kernel
theorem d_B_apply_25 : decode M_B_apply.2.1 25 = .ok (.aload_n 0, 1) := by decide +kernel
theorem d_B_apply_26 : decode M_B_apply.2.1 26 = .ok (.getfield 23, 3) := by decide +kernel
theorem d_B_apply_29 : decode M_B_apply.2.1 29 = .ok (.iload_n 3, 1) := by decide +kernel
theorem d_B_apply_30 : decode M_B_apply.2.1 30 = .ok (.laload, 1) := by decide +kernel
theorem d_B_apply_31 : decode M_B_apply.2.1 31 = .ok (.aload_n 0, 1) := by decide +kernel
theorem d_B_apply_32 : decode M_B_apply.2.1 32 = .ok (.getfield 41, 3) := by decide +kernel
theorem d_B_apply_35 : decode M_B_apply.2.1 35 = .ok (.iload_n 1, 1) := by decide +kernel
theorem d_B_apply_36 : decode M_B_apply.2.1 36 = .ok (.iaload, 1) := by decide +kernel
theorem d_B_apply_37 : decode M_B_apply.2.1 37 = .ok (.aload_n 0, 1) := by decide +kernel
theorem d_B_apply_38 : decode M_B_apply.2.1 38 = .ok (.getfield 44, 3) := by decide +kernel
theorem d_B_apply_41 : decode M_B_apply.2.1 41 = .ok (.iload_n 1, 1) := by decide +kernel
theorem d_B_apply_42 : decode M_B_apply.2.1 42 = .ok (.iaload, 1) := by decide +kernel
theorem d_B_apply_43 : decode M_B_apply.2.1 43 = .ok (.invokevirtual 154, 3) := by decide +kernel
theorem d_B_apply_46 : decode M_B_apply.2.1 46 = .ok (.lstore 4, 2) := by decide +kernel
theorem d_B_apply_48 : decode M_B_apply.2.1 48 = .ok (.iload_n 2, 1) := by decide +kernel
theorem d_B_apply_49 : decode M_B_apply.2.1 49 = .ok (.lload 4, 2) := by decide +kernel
theorem d_B_apply_51 : decode M_B_apply.2.1 51 = .ok (.aload_n 0, 1) := by decide +kernel
theorem d_B_apply_52 : decode M_B_apply.2.1 52 = .ok (.getfield 23, 3) := by decide +kernel
theorem d_B_apply_55 : decode M_B_apply.2.1 55 = .ok (.iload_n 3, 1) := by decide +kernel
theorem d_B_apply_56 : decode M_B_apply.2.1 56 = .ok (.laload, 1) := by decide +kernel
theorem d_B_apply_57 : decode M_B_apply.2.1 57 = .ok (.lcmp, 1) := by decide +kernel
theorem d_B_apply_58 : decode M_B_apply.2.1 58 = .ok (.ifCond .ne 7, 3) := by decide +kernel
theorem d_B_apply_61 : decode M_B_apply.2.1 61 = .ok (.iconst 0, 1) := by decide +kernel
theorem d_B_apply_62 : decode M_B_apply.2.1 62 = .ok (.goto 4, 3) := by decide +kernel
theorem d_B_apply_65 : decode M_B_apply.2.1 65 = .ok (.iconst 1, 1) := by decide +kernel
theorem d_B_apply_66 : decode M_B_apply.2.1 66 = .ok (.iadd, 1) := by decide +kernel
theorem d_B_apply_67 : decode M_B_apply.2.1 67 = .ok (.istore_n 2, 1) := by decide +kernel
theorem d_B_apply_68 : decode M_B_apply.2.1 68 = .ok (.aload_n 0, 1) := by decide +kernel
theorem d_B_apply_69 : decode M_B_apply.2.1 69 = .ok (.getfield 23, 3) := by decide +kernel
theorem d_B_apply_72 : decode M_B_apply.2.1 72 = .ok (.iload_n 3, 1) := by decide +kernel
theorem d_B_apply_73 : decode M_B_apply.2.1 73 = .ok (.lload 4, 2) := by decide +kernel
theorem d_B_apply_75 : decode M_B_apply.2.1 75 = .ok (.lastore, 1) := by decide +kernel
theorem d_B_apply_76 : decode M_B_apply.2.1 76 = .ok (.iinc 3 1, 3) := by decide +kernel
theorem d_B_apply_79 : decode M_B_apply.2.1 79 = .ok (.goto (-61), 3) := by decide +kernel
theorem d_B_apply_82 : decode M_B_apply.2.1 82 = .ok (.iload_n 2, 1) := by decide +kernel
theorem d_B_apply_83 : decode M_B_apply.2.1 83 = .ok (.ireturn, 1) := by decide +kernel
theorem d_B_automorphisms_0 : decode M_B_automorphisms.2.1 0 = .ok (.aload_n 0, 1) := by decide +kernel
theorem d_B_automorphisms_1 : decode M_B_automorphisms.2.1 1 = .ok (.getfield 98, 3) := by decide +kernel
theorem d_B_automorphisms_4 : decode M_B_automorphisms.2.1 4 = .ok (.ireturn, 1) := by decide +kernel
theorem d_B_size_0 : decode M_B_size.2.1 0 = .ok (.iconst 0, 1) := by decide +kernel
theorem d_B_size_1 : decode M_B_size.2.1 1 = .ok (.istore_n 2, 1) := by decide +kernel
theorem d_B_size_2 : decode M_B_size.2.1 2 = .ok (.lload_n 0, 1) := by decide +kernel
theorem d_B_size_3 : decode M_B_size.2.1 3 = .ok (.lstore_n 3, 1) := by decide +kernel
theorem d_B_size_4 : decode M_B_size.2.1 4 = .ok (.lload_n 3, 1) := by decide +kernel
theorem d_B_size_5 : decode M_B_size.2.1 5 = .ok (.lconst 0, 1) := by decide +kernel
theorem d_B_size_6 : decode M_B_size.2.1 6 = .ok (.lcmp, 1) := by decide +kernel
theorem d_B_size_7 : decode M_B_size.2.1 7 = .ok (.ifCond .eq 15, 3) := by decide +kernel
theorem d_B_size_10 : decode M_B_size.2.1 10 = .ok (.iinc 2 1, 3) := by decide +kernel
theorem d_B_size_13 : decode M_B_size.2.1 13 = .ok (.lload_n 3, 1) := by decide +kernel
theorem d_B_size_14 : decode M_B_size.2.1 14 = .ok (.lload_n 3, 1) := by decide +kernel
theorem d_B_size_15 : decode M_B_size.2.1 15 = .ok (.lconst 1, 1) := by decide +kernel
theorem d_B_size_16 : decode M_B_size.2.1 16 = .ok (.lsub, 1) := by decide +kernel
theorem d_B_size_17 : decode M_B_size.2.1 17 = .ok (.land, 1) := by decide +kernel
theorem d_B_size_18 : decode M_B_size.2.1 18 = .ok (.lstore_n 3, 1) := by decide +kernel
theorem d_B_size_19 : decode M_B_size.2.1 19 = .ok (.goto (-15), 3) := by decide +kernel
theorem d_B_size_22 : decode M_B_size.2.1 22 = .ok (.iload_n 2, 1) := by decide +kernel
theorem d_B_size_23 : decode M_B_size.2.1 23 = .ok (.ireturn, 1) := by decide +kernel
theorem d_B_becomes_0 : decode M_B_becomes.2.1 0 = .ok (.aload_n 0, 1) := by decide +kernel
theorem d_B_becomes_1 : decode M_B_becomes.2.1 1 = .ok (.invokevirtual 144, 3) := by decide +kernel
theorem d_B_becomes_4 : decode M_B_becomes.2.1 4 = .ok (.aload_n 0, 1) := by decide +kernel
theorem d_B_becomes_5 : decode M_B_becomes.2.1 5 = .ok (.getfield 23, 3) := by decide +kernel
theorem d_B_becomes_8 : decode M_B_becomes.2.1 8 = .ok (.iload_n 1, 1) := by decide +kernel
theorem d_B_becomes_9 : decode M_B_becomes.2.1 9 = .ok (.lload_n 2, 1) := by decide +kernel
theorem d_B_becomes_10 : decode M_B_becomes.2.1 10 = .ok (.lastore, 1) := by decide +kernel
theorem d_B_becomes_11 : decode M_B_becomes.2.1 11 = .ok (.lload_n 2, 1) := by decide +kernel
theorem d_B_becomes_12 : decode M_B_becomes.2.1 12 = .ok (.invokestatic 130, 3) := by decide +kernel
theorem d_B_becomes_15 : decode M_B_becomes.2.1 15 = .ok (.ireturn, 1) := by decide +kernel
theorem d_B_isBlock_0 : decode M_B_isBlock.2.1 0 = .ok (.iload_n 0, 1) := by decide +kernel
theorem d_B_isBlock_1 : decode M_B_isBlock.2.1 1 = .ok (.i2l, 1) := by decide +kernel
theorem d_B_isBlock_2 : decode M_B_isBlock.2.1 2 = .ok (.lconst 0, 1) := by decide +kernel
theorem d_B_isBlock_3 : decode M_B_isBlock.2.1 3 = .ok (.ldc2_w 142, 3) := by decide +kernel
theorem d_B_isBlock_6 : decode M_B_isBlock.2.1 6 = .ok (.invokestatic 83, 3) := by decide +kernel
theorem d_B_isBlock_9 : decode M_B_isBlock.2.1 9 = .ok (.ireturn, 1) := by decide +kernel
theorem d_B_block_0 : decode M_B_block.2.1 0 = .ok (.iload_n 1, 1) := by decide +kernel
theorem d_B_block_1 : decode M_B_block.2.1 1 = .ok (.invokestatic 147, 3) := by decide +kernel
theorem d_B_block_4 : decode M_B_block.2.1 4 = .ok (.ifCond .eq 12, 3) := by decide +kernel
theorem d_B_block_7 : decode M_B_block.2.1 7 = .ok (.aload_n 0, 1) := by decide +kernel
theorem d_B_block_8 : decode M_B_block.2.1 8 = .ok (.getfield 23, 3) := by decide +kernel
theorem d_B_block_11 : decode M_B_block.2.1 11 = .ok (.iload_n 1, 1) := by decide +kernel
theorem d_B_block_12 : decode M_B_block.2.1 12 = .ok (.laload, 1) := by decide +kernel
theorem d_B_block_13 : decode M_B_block.2.1 13 = .ok (.goto 6, 3) := by decide +kernel
theorem d_B_block_16 : decode M_B_block.2.1 16 = .ok (.ldc2_w 170, 3) := by decide +kernel
theorem d_B_block_19 : decode M_B_block.2.1 19 = .ok (.lreturn, 1) := by decide +kernel
theorem d_B_blockSize_0 : decode M_B_blockSize.2.1 0 = .ok (.iconst 0, 1) := by decide +kernel
theorem d_B_blockSize_1 : decode M_B_blockSize.2.1 1 = .ok (.istore_n 1, 1) := by decide +kernel
theorem d_B_blockSize_2 : decode M_B_blockSize.2.1 2 = .ok (.iconst 0, 1) := by decide +kernel
theorem d_B_blockSize_3 : decode M_B_blockSize.2.1 3 = .ok (.istore_n 2, 1) := by decide +kernel
theorem d_B_blockSize_4 : decode M_B_blockSize.2.1 4 = .ok (.iload_n 2, 1) := by decide +kernel
theorem d_B_blockSize_5 : decode M_B_blockSize.2.1 5 = .ok (.bipush 6, 2) := by decide +kernel
theorem d_B_blockSize_7 : decode M_B_blockSize.2.1 7 = .ok (.if_icmp .ge 45, 3) := by decide +kernel
theorem d_B_blockSize_10 : decode M_B_blockSize.2.1 10 = .ok (.aload_n 0, 1) := by decide +kernel
theorem d_B_blockSize_11 : decode M_B_blockSize.2.1 11 = .ok (.getfield 23, 3) := by decide +kernel
theorem d_B_blockSize_14 : decode M_B_blockSize.2.1 14 = .ok (.iload_n 2, 1) := by decide +kernel
theorem d_B_blockSize_15 : decode M_B_blockSize.2.1 15 = .ok (.laload, 1) := by decide +kernel
theorem d_B_blockSize_16 : decode M_B_blockSize.2.1 16 = .ok (.invokestatic 130, 3) := by decide +kernel
theorem d_B_blockSize_19 : decode M_B_blockSize.2.1 19 = .ok (.istore_n 3, 1) := by decide +kernel
theorem d_B_blockSize_20 : decode M_B_blockSize.2.1 20 = .ok (.iload_n 3, 1) := by decide +kernel
theorem d_B_blockSize_21 : decode M_B_blockSize.2.1 21 = .ok (.ifCond .le 15, 3) := by decide +kernel
theorem d_B_blockSize_24 : decode M_B_blockSize.2.1 24 = .ok (.iload_n 1, 1) := by decide +kernel
theorem d_B_blockSize_25 : decode M_B_blockSize.2.1 25 = .ok (.ifCond .le 11, 3) := by decide +kernel
theorem d_B_blockSize_28 : decode M_B_blockSize.2.1 28 = .ok (.iload_n 3, 1) := by decide +kernel
theorem d_B_blockSize_29 : decode M_B_blockSize.2.1 29 = .ok (.iload_n 1, 1) := by decide +kernel
theorem d_B_blockSize_30 : decode M_B_blockSize.2.1 30 = .ok (.if_icmp .eq 6, 3) := by decide +kernel
theorem d_B_blockSize_33 : decode M_B_blockSize.2.1 33 = .ok (.bipush (-4), 2) := by decide +kernel
theorem d_B_blockSize_35 : decode M_B_blockSize.2.1 35 = .ok (.ireturn, 1) := by decide +kernel
theorem d_B_blockSize_36 : decode M_B_blockSize.2.1 36 = .ok (.iload_n 3, 1) := by decide +kernel
theorem d_B_blockSize_37 : decode M_B_blockSize.2.1 37 = .ok (.ifCond .le 7, 3) := by decide +kernel
theorem d_B_blockSize_40 : decode M_B_blockSize.2.1 40 = .ok (.iload_n 3, 1) := by decide +kernel
theorem d_B_blockSize_41 : decode M_B_blockSize.2.1 41 = .ok (.goto 4, 3) := by decide +kernel
theorem d_B_blockSize_44 : decode M_B_blockSize.2.1 44 = .ok (.iload_n 1, 1) := by decide +kernel
theorem d_B_blockSize_45 : decode M_B_blockSize.2.1 45 = .ok (.istore_n 1, 1) := by decide +kernel
theorem d_B_blockSize_46 : decode M_B_blockSize.2.1 46 = .ok (.iinc 2 1, 3) := by decide +kernel
theorem d_B_blockSize_49 : decode M_B_blockSize.2.1 49 = .ok (.goto (-45), 3) := by decide +kernel
theorem d_B_blockSize_52 : decode M_B_blockSize.2.1 52 = .ok (.iload_n 1, 1) := by decide +kernel
theorem d_B_blockSize_53 : decode M_B_blockSize.2.1 53 = .ok (.ifCond .ne 8, 3) := by decide +kernel
theorem d_B_blockSize_56 : decode M_B_blockSize.2.1 56 = .ok (.bipush (-4), 2) := by decide +kernel
theorem d_B_blockSize_58 : decode M_B_blockSize.2.1 58 = .ok (.goto 4, 3) := by decide +kernel
theorem d_B_blockSize_61 : decode M_B_blockSize.2.1 61 = .ok (.iload_n 1, 1) := by decide +kernel
theorem d_B_blockSize_62 : decode M_B_blockSize.2.1 62 = .ok (.ireturn, 1) := by decide +kernel
theorem d_B_candidates_0 : decode M_B_candidates.2.1 0 = .ok (.aload_n 0, 1) := by decide +kernel
theorem d_B_candidates_1 : decode M_B_candidates.2.1 1 = .ok (.getfield 115, 3) := by decide +kernel
theorem d_B_candidates_4 : decode M_B_candidates.2.1 4 = .ok (.ireturn, 1) := by decide +kernel
theorem d_B_translate_0 : decode M_B_translate.2.1 0 = .ok (.lconst 0, 1) := by decide +kernel
theorem d_B_translate_1 : decode M_B_translate.2.1 1 = .ok (.lstore 4, 2) := by decide +kernel
theorem d_B_translate_3 : decode M_B_translate.2.1 3 = .ok (.iconst 0, 1) := by decide +kernel
theorem d_B_translate_4 : decode M_B_translate.2.1 4 = .ok (.istore 6, 2) := by decide +kernel
theorem d_B_translate_6 : decode M_B_translate.2.1 6 = .ok (.iload 6, 2) := by decide +kernel
theorem d_B_translate_8 : decode M_B_translate.2.1 8 = .ok (.aload_n 0, 1) := by decide +kernel
theorem d_B_translate_9 : decode M_B_translate.2.1 9 = .ok (.getfield 16, 3) := by decide +kernel
theorem d_B_translate_12 : decode M_B_translate.2.1 12 = .ok (.if_icmp .ge 36, 3) := by decide +kernel
theorem d_B_translate_15 : decode M_B_translate.2.1 15 = .ok (.lload 4, 2) := by decide +kernel
theorem d_B_translate_17 : decode M_B_translate.2.1 17 = .ok (.lload_n 1, 1) := by decide +kernel
theorem d_B_translate_18 : decode M_B_translate.2.1 18 = .ok (.iload 6, 2) := by decide +kernel
theorem d_B_translate_20 : decode M_B_translate.2.1 20 = .ok (.invokestatic 134, 3) := by decide +kernel
theorem d_B_translate_23 : decode M_B_translate.2.1 23 = .ok (.ifCond .eq 15, 3) := by decide +kernel
theorem d_B_translate_26 : decode M_B_translate.2.1 26 = .ok (.lconst 1, 1) := by decide +kernel
theorem d_B_translate_27 : decode M_B_translate.2.1 27 = .ok (.aload_n 0, 1) := by decide +kernel
theorem d_B_translate_28 : decode M_B_translate.2.1 28 = .ok (.iload 6, 2) := by decide +kernel
theorem d_B_translate_30 : decode M_B_translate.2.1 30 = .ok (.iload_n 3, 1) := by decide +kernel
theorem d_B_translate_31 : decode M_B_translate.2.1 31 = .ok (.invokevirtual 91, 3) := by decide +kernel
theorem d_B_translate_34 : decode M_B_translate.2.1 34 = .ok (.lshl, 1) := by decide +kernel
theorem d_B_translate_35 : decode M_B_translate.2.1 35 = .ok (.goto 4, 3) := by decide +kernel
theorem d_B_translate_38 : decode M_B_translate.2.1 38 = .ok (.lconst 0, 1) := by decide +kernel
theorem d_B_translate_39 : decode M_B_translate.2.1 39 = .ok (.lor, 1) := by decide +kernel
theorem d_B_translate_40 : decode M_B_translate.2.1 40 = .ok (.lstore 4, 2) := by decide +kernel
theorem d_B_translate_42 : decode M_B_translate.2.1 42 = .ok (.iinc 6 1, 3) := by decide +kernel
theorem d_B_translate_45 : decode M_B_translate.2.1 45 = .ok (.goto (-39), 3) := by decide +kernel
theorem d_B_translate_48 : decode M_B_translate.2.1 48 = .ok (.lload 4, 2) := by decide +kernel
theorem d_B_translate_50 : decode M_B_translate.2.1 50 = .ok (.lreturn, 1) := by decide +kernel
theorem d_B_normalOf_0 : decode M_B_normalOf.2.1 0 = .ok (.lload_n 1, 1) := by decide +kernel
theorem d_B_normalOf_1 : decode M_B_normalOf.2.1 1 = .ok (.lstore_n 3, 1) := by decide +kernel
theorem d_B_normalOf_2 : decode M_B_normalOf.2.1 2 = .ok (.iconst 1, 1) := by decide +kernel
theorem d_B_normalOf_3 : decode M_B_normalOf.2.1 3 = .ok (.istore 5, 2) := by decide +kernel
theorem d_B_normalOf_5 : decode M_B_normalOf.2.1 5 = .ok (.iload 5, 2) := by decide +kernel
theorem d_B_normalOf_7 : decode M_B_normalOf.2.1 7 = .ok (.aload_n 0, 1) := by decide +kernel
theorem d_B_normalOf_8 : decode M_B_normalOf.2.1 8 = .ok (.getfield 16, 3) := by decide +kernel
theorem d_B_normalOf_11 : decode M_B_normalOf.2.1 11 = .ok (.if_icmp .ge 32, 3) := by decide +kernel
theorem d_B_normalOf_14 : decode M_B_normalOf.2.1 14 = .ok (.aload_n 0, 1) := by decide +kernel
theorem d_B_normalOf_15 : decode M_B_normalOf.2.1 15 = .ok (.lload_n 1, 1) := by decide +kernel
theorem d_B_normalOf_16 : decode M_B_normalOf.2.1 16 = .ok (.iload 5, 2) := by decide +kernel
theorem d_B_normalOf_18 : decode M_B_normalOf.2.1 18 = .ok (.invokevirtual 138, 3) := by decide +kernel
theorem d_B_normalOf_21 : decode M_B_normalOf.2.1 21 = .ok (.lstore 6, 2) := by decide +kernel
theorem d_B_normalOf_23 : decode M_B_normalOf.2.1 23 = .ok (.lload 6, 2) := by decide +kernel
theorem d_B_normalOf_25 : decode M_B_normalOf.2.1 25 = .ok (.lload_n 3, 1) := by decide +kernel
theorem d_B_normalOf_26 : decode M_B_normalOf.2.1 26 = .ok (.lcmp, 1) := by decide +kernel
theorem d_B_normalOf_27 : decode M_B_normalOf.2.1 27 = .ok (.ifCond .ge 8, 3) := by decide +kernel
theorem d_B_normalOf_30 : decode M_B_normalOf.2.1 30 = .ok (.lload 6, 2) := by decide +kernel
theorem d_B_normalOf_32 : decode M_B_normalOf.2.1 32 = .ok (.goto 4, 3) := by decide +kernel
theorem d_B_normalOf_35 : decode M_B_normalOf.2.1 35 = .ok (.lload_n 3, 1) := by decide +kernel
theorem d_B_normalOf_36 : decode M_B_normalOf.2.1 36 = .ok (.lstore_n 3, 1) := by decide +kernel
theorem d_B_normalOf_37 : decode M_B_normalOf.2.1 37 = .ok (.iinc 5 1, 3) := by decide +kernel
theorem d_B_normalOf_40 : decode M_B_normalOf.2.1 40 = .ok (.goto (-35), 3) := by decide +kernel
theorem d_B_normalOf_43 : decode M_B_normalOf.2.1 43 = .ok (.lload_n 3, 1) := by decide +kernel
theorem d_B_normalOf_44 : decode M_B_normalOf.2.1 44 = .ok (.lreturn, 1) := by decide +kernel
theorem d_B_lists_0 : decode M_B_lists.2.1 0 = .ok (.aload_n 0, 1) := by decide +kernel
theorem d_B_lists_1 : decode M_B_lists.2.1 1 = .ok (.iconst 0, 1) := by decide +kernel
theorem d_B_lists_2 : decode M_B_lists.2.1 2 = .ok (.putfield 188, 3) := by decide +kernel
theorem d_B_lists_5 : decode M_B_lists.2.1 5 = .ok (.iconst 0, 1) := by decide +kernel
theorem d_B_lists_6 : decode M_B_lists.2.1 6 = .ok (.istore 6, 2) := by decide +kernel
theorem d_B_lists_8 : decode M_B_lists.2.1 8 = .ok (.iload 6, 2) := by decide +kernel
theorem d_B_lists_10 : decode M_B_lists.2.1 10 = .ok (.bipush 6, 2) := by decide +kernel
theorem d_B_lists_12 : decode M_B_lists.2.1 12 = .ok (.if_icmp .ge 98, 3) := by decide +kernel
theorem d_B_lists_15 : decode M_B_lists.2.1 15 = .ok (.aload_n 1, 1) := by decide +kernel
theorem d_B_lists_16 : decode M_B_lists.2.1 16 = .ok (.iload_n 2, 1) := by decide +kernel
theorem d_B_lists_17 : decode M_B_lists.2.1 17 = .ok (.iload 6, 2) := by decide +kernel
theorem d_B_lists_19 : decode M_B_lists.2.1 19 = .ok (.iadd, 1) := by decide +kernel
theorem d_B_lists_20 : decode M_B_lists.2.1 20 = .ok (.laload, 1) := by decide +kernel
theorem d_B_lists_21 : decode M_B_lists.2.1 21 = .ok (.lconst 0, 1) := by decide +kernel
theorem d_B_lists_22 : decode M_B_lists.2.1 22 = .ok (.lcmp, 1) := by decide +kernel
theorem d_B_lists_23 : decode M_B_lists.2.1 23 = .ok (.ifCond .eq 81, 3) := by decide +kernel
theorem d_B_lists_26 : decode M_B_lists.2.1 26 = .ok (.aload_n 0, 1) := by decide +kernel
theorem d_B_lists_27 : decode M_B_lists.2.1 27 = .ok (.aload_n 0, 1) := by decide +kernel
theorem d_B_lists_28 : decode M_B_lists.2.1 28 = .ok (.aload_n 1, 1) := by decide +kernel
theorem d_B_lists_29 : decode M_B_lists.2.1 29 = .ok (.iload_n 2, 1) := by decide +kernel
theorem d_B_lists_30 : decode M_B_lists.2.1 30 = .ok (.iload 6, 2) := by decide +kernel
theorem d_B_lists_32 : decode M_B_lists.2.1 32 = .ok (.iadd, 1) := by decide +kernel
theorem d_B_lists_33 : decode M_B_lists.2.1 33 = .ok (.laload, 1) := by decide +kernel
theorem d_B_lists_34 : decode M_B_lists.2.1 34 = .ok (.iload_n 3, 1) := by decide +kernel
theorem d_B_lists_35 : decode M_B_lists.2.1 35 = .ok (.iload 4, 2) := by decide +kernel
theorem d_B_lists_37 : decode M_B_lists.2.1 37 = .ok (.invokevirtual 154, 3) := by decide +kernel
theorem d_B_lists_40 : decode M_B_lists.2.1 40 = .ok (.invokevirtual 174, 3) := by decide +kernel
theorem d_B_lists_43 : decode M_B_lists.2.1 43 = .ok (.lstore 7, 2) := by decide +kernel
theorem d_B_lists_45 : decode M_B_lists.2.1 45 = .ok (.aload_n 0, 1) := by decide +kernel
theorem d_B_lists_46 : decode M_B_lists.2.1 46 = .ok (.getfield 188, 3) := by decide +kernel
theorem d_B_lists_49 : decode M_B_lists.2.1 49 = .ok (.istore 9, 2) := by decide +kernel
theorem d_B_lists_51 : decode M_B_lists.2.1 51 = .ok (.iload 9, 2) := by decide +kernel
theorem d_B_lists_53 : decode M_B_lists.2.1 53 = .ok (.ifCond .le 34, 3) := by decide +kernel
theorem d_B_lists_56 : decode M_B_lists.2.1 56 = .ok (.aload 5, 2) := by decide +kernel
theorem d_B_lists_58 : decode M_B_lists.2.1 58 = .ok (.iload 9, 2) := by decide +kernel
theorem d_B_lists_60 : decode M_B_lists.2.1 60 = .ok (.iconst 1, 1) := by decide +kernel
theorem d_B_lists_61 : decode M_B_lists.2.1 61 = .ok (.isub, 1) := by decide +kernel
theorem d_B_lists_62 : decode M_B_lists.2.1 62 = .ok (.laload, 1) := by decide +kernel
theorem d_B_lists_63 : decode M_B_lists.2.1 63 = .ok (.lload 7, 2) := by decide +kernel
theorem d_B_lists_65 : decode M_B_lists.2.1 65 = .ok (.lcmp, 1) := by decide +kernel
theorem d_B_lists_66 : decode M_B_lists.2.1 66 = .ok (.ifCond .le 21, 3) := by decide +kernel
theorem d_B_lists_69 : decode M_B_lists.2.1 69 = .ok (.aload 5, 2) := by decide +kernel
theorem d_B_lists_71 : decode M_B_lists.2.1 71 = .ok (.iload 9, 2) := by decide +kernel
theorem d_B_lists_73 : decode M_B_lists.2.1 73 = .ok (.aload 5, 2) := by decide +kernel
theorem d_B_lists_75 : decode M_B_lists.2.1 75 = .ok (.iload 9, 2) := by decide +kernel
theorem d_B_lists_77 : decode M_B_lists.2.1 77 = .ok (.iconst 1, 1) := by decide +kernel
theorem d_B_lists_78 : decode M_B_lists.2.1 78 = .ok (.isub, 1) := by decide +kernel
theorem d_B_lists_79 : decode M_B_lists.2.1 79 = .ok (.laload, 1) := by decide +kernel
theorem d_B_lists_80 : decode M_B_lists.2.1 80 = .ok (.lastore, 1) := by decide +kernel
theorem d_B_lists_81 : decode M_B_lists.2.1 81 = .ok (.iinc 9 (-1), 3) := by decide +kernel
theorem d_B_lists_84 : decode M_B_lists.2.1 84 = .ok (.goto (-33), 3) := by decide +kernel
theorem d_B_lists_87 : decode M_B_lists.2.1 87 = .ok (.aload 5, 2) := by decide +kernel
theorem d_B_lists_89 : decode M_B_lists.2.1 89 = .ok (.iload 9, 2) := by decide +kernel
theorem d_B_lists_91 : decode M_B_lists.2.1 91 = .ok (.lload 7, 2) := by decide +kernel
theorem d_B_lists_93 : decode M_B_lists.2.1 93 = .ok (.lastore, 1) := by decide +kernel
theorem d_B_lists_94 : decode M_B_lists.2.1 94 = .ok (.aload_n 0, 1) := by decide +kernel
theorem d_B_lists_95 : decode M_B_lists.2.1 95 = .ok (.dup, 1) := by decide +kernel
theorem d_B_lists_96 : decode M_B_lists.2.1 96 = .ok (.getfield 188, 3) := by decide +kernel
theorem d_B_lists_99 : decode M_B_lists.2.1 99 = .ok (.iconst 1, 1) := by decide +kernel
theorem d_B_lists_100 : decode M_B_lists.2.1 100 = .ok (.iadd, 1) := by decide +kernel
theorem d_B_lists_101 : decode M_B_lists.2.1 101 = .ok (.putfield 188, 3) := by decide +kernel
theorem d_B_lists_104 : decode M_B_lists.2.1 104 = .ok (.iinc 6 1, 3) := by decide +kernel
theorem d_B_lists_107 : decode M_B_lists.2.1 107 = .ok (.goto (-99), 3) := by decide +kernel
theorem d_B_lists_110 : decode M_B_lists.2.1 110 = .ok (.return_, 1) := by decide +kernel
theorem d_B_compared_0 : decode M_B_compared.2.1 0 = .ok (.iconst 0, 1) := by decide +kernel
theorem d_B_compared_1 : decode M_B_compared.2.1 1 = .ok (.istore_n 3, 1) := by decide +kernel
theorem d_B_compared_2 : decode M_B_compared.2.1 2 = .ok (.iload_n 3, 1) := by decide +kernel
theorem d_B_compared_3 : decode M_B_compared.2.1 3 = .ok (.aload_n 0, 1) := by decide +kernel
theorem d_B_compared_4 : decode M_B_compared.2.1 4 = .ok (.getfield 188, 3) := by decide +kernel
theorem d_B_compared_7 : decode M_B_compared.2.1 7 = .ok (.if_icmp .ge 35, 3) := by decide +kernel
theorem d_B_compared_10 : decode M_B_compared.2.1 10 = .ok (.aload_n 1, 1) := by decide +kernel
theorem d_B_compared_11 : decode M_B_compared.2.1 11 = .ok (.iload_n 3, 1) := by decide +kernel
theorem d_B_compared_12 : decode M_B_compared.2.1 12 = .ok (.laload, 1) := by decide +kernel
theorem d_B_compared_13 : decode M_B_compared.2.1 13 = .ok (.aload_n 2, 1) := by decide +kernel
theorem d_B_compared_14 : decode M_B_compared.2.1 14 = .ok (.iload_n 3, 1) := by decide +kernel
theorem d_B_compared_15 : decode M_B_compared.2.1 15 = .ok (.laload, 1) := by decide +kernel
theorem d_B_compared_16 : decode M_B_compared.2.1 16 = .ok (.lcmp, 1) := by decide +kernel
theorem d_B_compared_17 : decode M_B_compared.2.1 17 = .ok (.ifCond .eq 19, 3) := by decide +kernel
theorem d_B_compared_20 : decode M_B_compared.2.1 20 = .ok (.aload_n 1, 1) := by decide +kernel
theorem d_B_compared_21 : decode M_B_compared.2.1 21 = .ok (.iload_n 3, 1) := by decide +kernel
theorem d_B_compared_22 : decode M_B_compared.2.1 22 = .ok (.laload, 1) := by decide +kernel
theorem d_B_compared_23 : decode M_B_compared.2.1 23 = .ok (.aload_n 2, 1) := by decide +kernel
theorem d_B_compared_24 : decode M_B_compared.2.1 24 = .ok (.iload_n 3, 1) := by decide +kernel
theorem d_B_compared_25 : decode M_B_compared.2.1 25 = .ok (.laload, 1) := by decide +kernel
theorem d_B_compared_26 : decode M_B_compared.2.1 26 = .ok (.lcmp, 1) := by decide +kernel
theorem d_B_compared_27 : decode M_B_compared.2.1 27 = .ok (.ifCond .ge 7, 3) := by decide +kernel
theorem d_B_compared_30 : decode M_B_compared.2.1 30 = .ok (.iconst (-1), 1) := by decide +kernel
theorem d_B_compared_31 : decode M_B_compared.2.1 31 = .ok (.goto 4, 3) := by decide +kernel
theorem d_B_compared_34 : decode M_B_compared.2.1 34 = .ok (.iconst 1, 1) := by decide +kernel
theorem d_B_compared_35 : decode M_B_compared.2.1 35 = .ok (.ireturn, 1) := by decide +kernel
theorem d_B_compared_36 : decode M_B_compared.2.1 36 = .ok (.iinc 3 1, 3) := by decide +kernel
theorem d_B_compared_39 : decode M_B_compared.2.1 39 = .ok (.goto (-37), 3) := by decide +kernel
theorem d_B_compared_42 : decode M_B_compared.2.1 42 = .ok (.iconst 0, 1) := by decide +kernel
theorem d_B_compared_43 : decode M_B_compared.2.1 43 = .ok (.ireturn, 1) := by decide +kernel
theorem d_B_canonicalOf_0 : decode M_B_canonicalOf.2.1 0 = .ok (.iconst 0, 1) := by decide +kernel
theorem d_B_canonicalOf_1 : decode M_B_canonicalOf.2.1 1 = .ok (.istore 4, 2) := by decide +kernel
theorem d_B_canonicalOf_3 : decode M_B_canonicalOf.2.1 3 = .ok (.iload 4, 2) := by decide +kernel
theorem d_B_canonicalOf_5 : decode M_B_canonicalOf.2.1 5 = .ok (.aload_n 0, 1) := by decide +kernel
theorem d_B_canonicalOf_6 : decode M_B_canonicalOf.2.1 6 = .ok (.getfield 98, 3) := by decide +kernel
theorem d_B_canonicalOf_9 : decode M_B_canonicalOf.2.1 9 = .ok (.if_icmp .ge 79, 3) := by decide +kernel
theorem d_B_canonicalOf_12 : decode M_B_canonicalOf.2.1 12 = .ok (.aload_n 0, 1) := by decide +kernel
theorem d_B_canonicalOf_13 : decode M_B_canonicalOf.2.1 13 = .ok (.aload_n 1, 1) := by decide +kernel
theorem d_B_canonicalOf_14 : decode M_B_canonicalOf.2.1 14 = .ok (.iload_n 2, 1) := by decide +kernel
theorem d_B_canonicalOf_15 : decode M_B_canonicalOf.2.1 15 = .ok (.aload_n 0, 1) := by decide +kernel
theorem d_B_canonicalOf_16 : decode M_B_canonicalOf.2.1 16 = .ok (.getfield 41, 3) := by decide +kernel
theorem d_B_canonicalOf_19 : decode M_B_canonicalOf.2.1 19 = .ok (.iload 4, 2) := by decide +kernel
theorem d_B_canonicalOf_21 : decode M_B_canonicalOf.2.1 21 = .ok (.iaload, 1) := by decide +kernel
theorem d_B_canonicalOf_22 : decode M_B_canonicalOf.2.1 22 = .ok (.aload_n 0, 1) := by decide +kernel
theorem d_B_canonicalOf_23 : decode M_B_canonicalOf.2.1 23 = .ok (.getfield 44, 3) := by decide +kernel
theorem d_B_canonicalOf_26 : decode M_B_canonicalOf.2.1 26 = .ok (.iload 4, 2) := by decide +kernel
theorem d_B_canonicalOf_28 : decode M_B_canonicalOf.2.1 28 = .ok (.iaload, 1) := by decide +kernel
theorem d_B_canonicalOf_29 : decode M_B_canonicalOf.2.1 29 = .ok (.aload_n 0, 1) := by decide +kernel
theorem d_B_canonicalOf_30 : decode M_B_canonicalOf.2.1 30 = .ok (.getfield 53, 3) := by decide +kernel
theorem d_B_canonicalOf_33 : decode M_B_canonicalOf.2.1 33 = .ok (.invokevirtual 191, 3) := by decide +kernel
theorem d_B_canonicalOf_36 : decode M_B_canonicalOf.2.1 36 = .ok (.iload 4, 2) := by decide +kernel
theorem d_B_canonicalOf_38 : decode M_B_canonicalOf.2.1 38 = .ok (.ifCond .eq 15, 3) := by decide +kernel
theorem d_B_canonicalOf_41 : decode M_B_canonicalOf.2.1 41 = .ok (.aload_n 0, 1) := by decide +kernel
theorem d_B_canonicalOf_42 : decode M_B_canonicalOf.2.1 42 = .ok (.aload_n 0, 1) := by decide +kernel
theorem d_B_canonicalOf_43 : decode M_B_canonicalOf.2.1 43 = .ok (.getfield 53, 3) := by decide +kernel
theorem d_B_canonicalOf_46 : decode M_B_canonicalOf.2.1 46 = .ok (.aload_n 3, 1) := by decide +kernel
theorem d_B_canonicalOf_47 : decode M_B_canonicalOf.2.1 47 = .ok (.invokevirtual 195, 3) := by decide +kernel
theorem d_B_canonicalOf_50 : decode M_B_canonicalOf.2.1 50 = .ok (.ifCond .ge 32, 3) := by decide +kernel
theorem d_B_canonicalOf_53 : decode M_B_canonicalOf.2.1 53 = .ok (.iconst 0, 1) := by decide +kernel
theorem d_B_canonicalOf_54 : decode M_B_canonicalOf.2.1 54 = .ok (.istore 5, 2) := by decide +kernel
theorem d_B_canonicalOf_56 : decode M_B_canonicalOf.2.1 56 = .ok (.iload 5, 2) := by decide +kernel
theorem d_B_canonicalOf_58 : decode M_B_canonicalOf.2.1 58 = .ok (.aload_n 0, 1) := by decide +kernel
theorem d_B_canonicalOf_59 : decode M_B_canonicalOf.2.1 59 = .ok (.getfield 188, 3) := by decide +kernel
theorem d_B_canonicalOf_62 : decode M_B_canonicalOf.2.1 62 = .ok (.if_icmp .ge 20, 3) := by decide +kernel
theorem d_B_canonicalOf_65 : decode M_B_canonicalOf.2.1 65 = .ok (.aload_n 3, 1) := by decide +kernel
theorem d_B_canonicalOf_66 : decode M_B_canonicalOf.2.1 66 = .ok (.iload 5, 2) := by decide +kernel
theorem d_B_canonicalOf_68 : decode M_B_canonicalOf.2.1 68 = .ok (.aload_n 0, 1) := by decide +kernel
theorem d_B_canonicalOf_69 : decode M_B_canonicalOf.2.1 69 = .ok (.getfield 53, 3) := by decide +kernel
theorem d_B_canonicalOf_72 : decode M_B_canonicalOf.2.1 72 = .ok (.iload 5, 2) := by decide +kernel
theorem d_B_canonicalOf_74 : decode M_B_canonicalOf.2.1 74 = .ok (.laload, 1) := by decide +kernel
theorem d_B_canonicalOf_75 : decode M_B_canonicalOf.2.1 75 = .ok (.lastore, 1) := by decide +kernel
theorem d_B_canonicalOf_76 : decode M_B_canonicalOf.2.1 76 = .ok (.iinc 5 1, 3) := by decide +kernel
theorem d_B_canonicalOf_79 : decode M_B_canonicalOf.2.1 79 = .ok (.goto (-23), 3) := by decide +kernel
theorem d_B_canonicalOf_82 : decode M_B_canonicalOf.2.1 82 = .ok (.iinc 4 1, 3) := by decide +kernel
theorem d_B_canonicalOf_85 : decode M_B_canonicalOf.2.1 85 = .ok (.goto (-82), 3) := by decide +kernel
theorem d_B_canonicalOf_88 : decode M_B_canonicalOf.2.1 88 = .ok (.return_, 1) := by decide +kernel
theorem d_B_canonical_0 : decode M_B_canonical.2.1 0 = .ok (.iload_n 1, 1) := by decide +kernel
theorem d_B_canonical_1 : decode M_B_canonical.2.1 1 = .ok (.ifCond .ge 7, 3) := by decide +kernel
theorem d_B_canonical_4 : decode M_B_canonical.2.1 4 = .ok (.ldc2_w 170, 3) := by decide +kernel
theorem d_B_canonical_7 : decode M_B_canonical.2.1 7 = .ok (.lreturn, 1) := by decide +kernel
theorem d_B_canonical_8 : decode M_B_canonical.2.1 8 = .ok (.aload_n 0, 1) := by decide +kernel
theorem d_B_canonical_9 : decode M_B_canonical.2.1 9 = .ok (.aload_n 0, 1) := by decide +kernel
theorem d_B_canonical_10 : decode M_B_canonical.2.1 10 = .ok (.getfield 23, 3) := by decide +kernel
theorem d_B_canonical_13 : decode M_B_canonical.2.1 13 = .ok (.iconst 0, 1) := by decide +kernel
theorem d_B_canonical_14 : decode M_B_canonical.2.1 14 = .ok (.aload_n 0, 1) := by decide +kernel
theorem d_B_canonical_15 : decode M_B_canonical.2.1 15 = .ok (.getfield 59, 3) := by decide +kernel
theorem d_B_canonical_18 : decode M_B_canonical.2.1 18 = .ok (.invokevirtual 205, 3) := by decide +kernel
theorem d_B_canonical_21 : decode M_B_canonical.2.1 21 = .ok (.iload_n 1, 1) := by decide +kernel
theorem d_B_canonical_22 : decode M_B_canonical.2.1 22 = .ok (.aload_n 0, 1) := by decide +kernel
theorem d_B_canonical_23 : decode M_B_canonical.2.1 23 = .ok (.getfield 188, 3) := by decide +kernel
theorem d_B_canonical_26 : decode M_B_canonical.2.1 26 = .ok (.if_icmp .ge 12, 3) := by decide +kernel
theorem d_B_canonical_29 : decode M_B_canonical.2.1 29 = .ok (.aload_n 0, 1) := by decide +kernel
theorem d_B_canonical_30 : decode M_B_canonical.2.1 30 = .ok (.getfield 59, 3) := by decide +kernel
theorem d_B_canonical_33 : decode M_B_canonical.2.1 33 = .ok (.iload_n 1, 1) := by decide +kernel
theorem d_B_canonical_34 : decode M_B_canonical.2.1 34 = .ok (.laload, 1) := by decide +kernel
theorem d_B_canonical_35 : decode M_B_canonical.2.1 35 = .ok (.goto 6, 3) := by decide +kernel
theorem d_B_canonical_38 : decode M_B_canonical.2.1 38 = .ok (.ldc2_w 172, 3) := by decide +kernel
theorem d_B_canonical_41 : decode M_B_canonical.2.1 41 = .ok (.lreturn, 1) := by decide +kernel
theorem d_B_more_0 : decode M_B_more.2.1 0 = .ok (.ldc2_w 280, 3) := by decide +kernel
theorem d_B_more_3 : decode M_B_more.2.1 3 = .ok (.lload_n 0, 1) := by decide +kernel
theorem d_B_more_4 : decode M_B_more.2.1 4 = .ok (.lmul, 1) := by decide +kernel
theorem d_B_more_5 : decode M_B_more.2.1 5 = .ok (.lload_n 2, 1) := by decide +kernel
theorem d_B_more_6 : decode M_B_more.2.1 6 = .ok (.ladd, 1) := by decide +kernel
theorem d_B_more_7 : decode M_B_more.2.1 7 = .ok (.lreturn, 1) := by decide +kernel
theorem d_B_minus_0 : decode M_B_minus.2.1 0 = .ok (.aload_n 0, 1) := by decide +kernel
theorem d_B_minus_1 : decode M_B_minus.2.1 1 = .ok (.getfield 13, 3) := by decide +kernel
theorem d_B_minus_4 : decode M_B_minus.2.1 4 = .ok (.iload_n 1, 1) := by decide +kernel
theorem d_B_minus_5 : decode M_B_minus.2.1 5 = .ok (.aload_n 0, 1) := by decide +kernel
theorem d_B_minus_6 : decode M_B_minus.2.1 6 = .ok (.getfield 13, 3) := by decide +kernel
theorem d_B_minus_9 : decode M_B_minus.2.1 9 = .ok (.idiv, 1) := by decide +kernel
theorem d_B_minus_10 : decode M_B_minus.2.1 10 = .ok (.iload_n 2, 1) := by decide +kernel
theorem d_B_minus_11 : decode M_B_minus.2.1 11 = .ok (.aload_n 0, 1) := by decide +kernel
theorem d_B_minus_12 : decode M_B_minus.2.1 12 = .ok (.getfield 13, 3) := by decide +kernel
theorem d_B_minus_15 : decode M_B_minus.2.1 15 = .ok (.idiv, 1) := by decide +kernel
theorem d_B_minus_16 : decode M_B_minus.2.1 16 = .ok (.isub, 1) := by decide +kernel
theorem d_B_minus_17 : decode M_B_minus.2.1 17 = .ok (.aload_n 0, 1) := by decide +kernel
theorem d_B_minus_18 : decode M_B_minus.2.1 18 = .ok (.getfield 7, 3) := by decide +kernel
theorem d_B_minus_21 : decode M_B_minus.2.1 21 = .ok (.iadd, 1) := by decide +kernel
theorem d_B_minus_22 : decode M_B_minus.2.1 22 = .ok (.aload_n 0, 1) := by decide +kernel
theorem d_B_minus_23 : decode M_B_minus.2.1 23 = .ok (.getfield 7, 3) := by decide +kernel
theorem d_B_minus_26 : decode M_B_minus.2.1 26 = .ok (.irem, 1) := by decide +kernel
theorem d_B_minus_27 : decode M_B_minus.2.1 27 = .ok (.imul, 1) := by decide +kernel
theorem d_B_minus_28 : decode M_B_minus.2.1 28 = .ok (.iload_n 1, 1) := by decide +kernel
theorem d_B_minus_29 : decode M_B_minus.2.1 29 = .ok (.aload_n 0, 1) := by decide +kernel
theorem d_B_minus_30 : decode M_B_minus.2.1 30 = .ok (.getfield 13, 3) := by decide +kernel
theorem d_B_minus_33 : decode M_B_minus.2.1 33 = .ok (.irem, 1) := by decide +kernel
theorem d_B_minus_34 : decode M_B_minus.2.1 34 = .ok (.iload_n 2, 1) := by decide +kernel
theorem d_B_minus_35 : decode M_B_minus.2.1 35 = .ok (.aload_n 0, 1) := by decide +kernel
theorem d_B_minus_36 : decode M_B_minus.2.1 36 = .ok (.getfield 13, 3) := by decide +kernel
theorem d_B_minus_39 : decode M_B_minus.2.1 39 = .ok (.irem, 1) := by decide +kernel
theorem d_B_minus_40 : decode M_B_minus.2.1 40 = .ok (.isub, 1) := by decide +kernel
theorem d_B_minus_41 : decode M_B_minus.2.1 41 = .ok (.aload_n 0, 1) := by decide +kernel
theorem d_B_minus_42 : decode M_B_minus.2.1 42 = .ok (.getfield 13, 3) := by decide +kernel
theorem d_B_minus_45 : decode M_B_minus.2.1 45 = .ok (.iadd, 1) := by decide +kernel
theorem d_B_minus_46 : decode M_B_minus.2.1 46 = .ok (.aload_n 0, 1) := by decide +kernel
theorem d_B_minus_47 : decode M_B_minus.2.1 47 = .ok (.getfield 13, 3) := by decide +kernel
theorem d_B_minus_50 : decode M_B_minus.2.1 50 = .ok (.irem, 1) := by decide +kernel
theorem d_B_minus_51 : decode M_B_minus.2.1 51 = .ok (.iadd, 1) := by decide +kernel
theorem d_B_minus_52 : decode M_B_minus.2.1 52 = .ok (.ireturn, 1) := by decide +kernel
theorem d_B_counts_0 : decode M_B_counts.2.1 0 = .ok (.iconst 0, 1) := by decide +kernel
theorem d_B_counts_1 : decode M_B_counts.2.1 1 = .ok (.istore_n 3, 1) := by decide +kernel
theorem d_B_counts_2 : decode M_B_counts.2.1 2 = .ok (.iload_n 3, 1) := by decide +kernel
theorem d_B_counts_3 : decode M_B_counts.2.1 3 = .ok (.bipush 40, 2) := by decide +kernel
theorem d_B_counts_5 : decode M_B_counts.2.1 5 = .ok (.if_icmp .ge 16, 3) := by decide +kernel
theorem d_B_counts_8 : decode M_B_counts.2.1 8 = .ok (.aload_n 0, 1) := by decide +kernel
theorem d_B_counts_9 : decode M_B_counts.2.1 9 = .ok (.getfield 50, 3) := by decide +kernel
theorem d_B_counts_12 : decode M_B_counts.2.1 12 = .ok (.iload_n 3, 1) := by decide +kernel
theorem d_B_counts_13 : decode M_B_counts.2.1 13 = .ok (.iconst 0, 1) := by decide +kernel
theorem d_B_counts_14 : decode M_B_counts.2.1 14 = .ok (.iastore, 1) := by decide +kernel
theorem d_B_counts_15 : decode M_B_counts.2.1 15 = .ok (.iinc 3 1, 3) := by decide +kernel
theorem d_B_counts_18 : decode M_B_counts.2.1 18 = .ok (.goto (-16), 3) := by decide +kernel
theorem d_B_counts_21 : decode M_B_counts.2.1 21 = .ok (.iconst 0, 1) := by decide +kernel
theorem d_B_counts_22 : decode M_B_counts.2.1 22 = .ok (.istore_n 3, 1) := by decide +kernel
theorem d_B_counts_23 : decode M_B_counts.2.1 23 = .ok (.iload_n 3, 1) := by decide +kernel
theorem d_B_counts_24 : decode M_B_counts.2.1 24 = .ok (.iload_n 2, 1) := by decide +kernel
theorem d_B_counts_25 : decode M_B_counts.2.1 25 = .ok (.if_icmp .ge 91, 3) := by decide +kernel
theorem d_B_counts_28 : decode M_B_counts.2.1 28 = .ok (.iconst 0, 1) := by decide +kernel
theorem d_B_counts_29 : decode M_B_counts.2.1 29 = .ok (.istore 4, 2) := by decide +kernel
theorem d_B_counts_31 : decode M_B_counts.2.1 31 = .ok (.iload 4, 2) := by decide +kernel
theorem d_B_counts_33 : decode M_B_counts.2.1 33 = .ok (.aload_n 0, 1) := by decide +kernel
theorem d_B_counts_34 : decode M_B_counts.2.1 34 = .ok (.getfield 16, 3) := by decide +kernel
theorem d_B_counts_37 : decode M_B_counts.2.1 37 = .ok (.if_icmp .ge 73, 3) := by decide +kernel
theorem d_B_counts_40 : decode M_B_counts.2.1 40 = .ok (.iconst 0, 1) := by decide +kernel
theorem d_B_counts_41 : decode M_B_counts.2.1 41 = .ok (.istore 5, 2) := by decide +kernel
theorem d_B_counts_43 : decode M_B_counts.2.1 43 = .ok (.iload 5, 2) := by decide +kernel
theorem d_B_counts_45 : decode M_B_counts.2.1 45 = .ok (.aload_n 0, 1) := by decide +kernel
theorem d_B_counts_46 : decode M_B_counts.2.1 46 = .ok (.getfield 16, 3) := by decide +kernel
theorem d_B_counts_49 : decode M_B_counts.2.1 49 = .ok (.if_icmp .ge 55, 3) := by decide +kernel
theorem d_B_counts_52 : decode M_B_counts.2.1 52 = .ok (.aload_n 1, 1) := by decide +kernel
theorem d_B_counts_53 : decode M_B_counts.2.1 53 = .ok (.iload_n 3, 1) := by decide +kernel
theorem d_B_counts_54 : decode M_B_counts.2.1 54 = .ok (.laload, 1) := by decide +kernel
theorem d_B_counts_55 : decode M_B_counts.2.1 55 = .ok (.iload 4, 2) := by decide +kernel
theorem d_B_counts_57 : decode M_B_counts.2.1 57 = .ok (.invokestatic 134, 3) := by decide +kernel
theorem d_B_counts_60 : decode M_B_counts.2.1 60 = .ok (.ifCond .eq 44, 3) := by decide +kernel
theorem d_B_counts_63 : decode M_B_counts.2.1 63 = .ok (.iload 5, 2) := by decide +kernel
theorem d_B_counts_65 : decode M_B_counts.2.1 65 = .ok (.iload 4, 2) := by decide +kernel
theorem d_B_counts_67 : decode M_B_counts.2.1 67 = .ok (.if_icmp .eq 31, 3) := by decide +kernel
theorem d_B_counts_70 : decode M_B_counts.2.1 70 = .ok (.aload_n 1, 1) := by decide +kernel
theorem d_B_counts_71 : decode M_B_counts.2.1 71 = .ok (.iload_n 3, 1) := by decide +kernel
theorem d_B_counts_72 : decode M_B_counts.2.1 72 = .ok (.laload, 1) := by decide +kernel
theorem d_B_counts_73 : decode M_B_counts.2.1 73 = .ok (.iload 5, 2) := by decide +kernel
theorem d_B_counts_75 : decode M_B_counts.2.1 75 = .ok (.invokestatic 134, 3) := by decide +kernel
theorem d_B_counts_78 : decode M_B_counts.2.1 78 = .ok (.ifCond .eq 20, 3) := by decide +kernel
theorem d_B_counts_81 : decode M_B_counts.2.1 81 = .ok (.aload_n 0, 1) := by decide +kernel
theorem d_B_counts_82 : decode M_B_counts.2.1 82 = .ok (.getfield 50, 3) := by decide +kernel
theorem d_B_counts_85 : decode M_B_counts.2.1 85 = .ok (.aload_n 0, 1) := by decide +kernel
theorem d_B_counts_86 : decode M_B_counts.2.1 86 = .ok (.iload 4, 2) := by decide +kernel
theorem d_B_counts_88 : decode M_B_counts.2.1 88 = .ok (.iload 5, 2) := by decide +kernel
theorem d_B_counts_90 : decode M_B_counts.2.1 90 = .ok (.invokevirtual 178, 3) := by decide +kernel
theorem d_B_counts_93 : decode M_B_counts.2.1 93 = .ok (.dup2, 1) := by decide +kernel
theorem d_B_counts_94 : decode M_B_counts.2.1 94 = .ok (.iaload, 1) := by decide +kernel
theorem d_B_counts_95 : decode M_B_counts.2.1 95 = .ok (.iconst 1, 1) := by decide +kernel
theorem d_B_counts_96 : decode M_B_counts.2.1 96 = .ok (.iadd, 1) := by decide +kernel
theorem d_B_counts_97 : decode M_B_counts.2.1 97 = .ok (.iastore, 1) := by decide +kernel
theorem d_B_counts_98 : decode M_B_counts.2.1 98 = .ok (.iinc 5 1, 3) := by decide +kernel
theorem d_B_counts_101 : decode M_B_counts.2.1 101 = .ok (.goto (-58), 3) := by decide +kernel
theorem d_B_counts_104 : decode M_B_counts.2.1 104 = .ok (.iinc 4 1, 3) := by decide +kernel
theorem d_B_counts_107 : decode M_B_counts.2.1 107 = .ok (.goto (-76), 3) := by decide +kernel
theorem d_B_counts_110 : decode M_B_counts.2.1 110 = .ok (.iinc 3 1, 3) := by decide +kernel
theorem d_B_counts_113 : decode M_B_counts.2.1 113 = .ok (.goto (-90), 3) := by decide +kernel
theorem d_B_counts_116 : decode M_B_counts.2.1 116 = .ok (.return_, 1) := by decide +kernel
