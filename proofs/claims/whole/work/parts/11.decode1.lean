theorem d_A_isWithin_0 : decode M_A_isWithin.2.1 0 = .ok (.iload_n 0, 1) := by decide +kernel
theorem d_A_isWithin_1 : decode M_A_isWithin.2.1 1 = .ok (.iload_n 1, 1) := by decide +kernel
theorem d_A_isWithin_2 : decode M_A_isWithin.2.1 2 = .ok (.if_icmp .lt 12, 3) := by decide +kernel
theorem d_A_isWithin_5 : decode M_A_isWithin.2.1 5 = .ok (.iload_n 0, 1) := by decide +kernel
theorem d_A_isWithin_6 : decode M_A_isWithin.2.1 6 = .ok (.iload_n 2, 1) := by decide +kernel
theorem d_A_isWithin_7 : decode M_A_isWithin.2.1 7 = .ok (.if_icmp .gt 7, 3) := by decide +kernel
theorem d_A_isWithin_10 : decode M_A_isWithin.2.1 10 = .ok (.iconst 1, 1) := by decide +kernel
theorem d_A_isWithin_11 : decode M_A_isWithin.2.1 11 = .ok (.goto 4, 3) := by decide +kernel
theorem d_A_isWithin_14 : decode M_A_isWithin.2.1 14 = .ok (.iconst 0, 1) := by decide +kernel
theorem d_A_isWithin_15 : decode M_A_isWithin.2.1 15 = .ok (.ireturn, 1) := by decide +kernel
theorem d_A_append_0 : decode M_A_append.2.1 0 = .ok (.iload_n 1, 1) := by decide +kernel
theorem d_A_append_1 : decode M_A_append.2.1 1 = .ok (.bipush 32, 2) := by decide +kernel
theorem d_A_append_3 : decode M_A_append.2.1 3 = .ok (.bipush 126, 2) := by decide +kernel
theorem d_A_append_5 : decode M_A_append.2.1 5 = .ok (.invokestatic 128, 3) := by decide +kernel
theorem d_A_append_8 : decode M_A_append.2.1 8 = .ok (.ifCond .ne 5, 3) := by decide +kernel
theorem d_A_append_11 : decode M_A_append.2.1 11 = .ok (.iconst (-1), 1) := by decide +kernel
theorem d_A_append_12 : decode M_A_append.2.1 12 = .ok (.ireturn, 1) := by decide +kernel
theorem d_A_append_13 : decode M_A_append.2.1 13 = .ok (.aload_n 0, 1) := by decide +kernel
theorem d_A_append_14 : decode M_A_append.2.1 14 = .ok (.getfield 80, 3) := by decide +kernel
theorem d_A_append_17 : decode M_A_append.2.1 17 = .ok (.getfield 317, 3) := by decide +kernel
theorem d_A_append_20 : decode M_A_append.2.1 20 = .ok (.sipush 160, 3) := by decide +kernel
theorem d_A_append_23 : decode M_A_append.2.1 23 = .ok (.if_icmp .lt 6, 3) := by decide +kernel
theorem d_A_append_26 : decode M_A_append.2.1 26 = .ok (.bipush (-2), 2) := by decide +kernel
theorem d_A_append_28 : decode M_A_append.2.1 28 = .ok (.ireturn, 1) := by decide +kernel
theorem d_A_append_29 : decode M_A_append.2.1 29 = .ok (.aload_n 0, 1) := by decide +kernel
theorem d_A_append_30 : decode M_A_append.2.1 30 = .ok (.getfield 80, 3) := by decide +kernel
theorem d_A_append_33 : decode M_A_append.2.1 33 = .ok (.getfield 320, 3) := by decide +kernel
theorem d_A_append_36 : decode M_A_append.2.1 36 = .ok (.aload_n 0, 1) := by decide +kernel
theorem d_A_append_37 : decode M_A_append.2.1 37 = .ok (.getfield 80, 3) := by decide +kernel
theorem d_A_append_40 : decode M_A_append.2.1 40 = .ok (.getfield 317, 3) := by decide +kernel
theorem d_A_append_43 : decode M_A_append.2.1 43 = .ok (.iload_n 1, 1) := by decide +kernel
theorem d_A_append_44 : decode M_A_append.2.1 44 = .ok (.i2c, 1) := by decide +kernel
theorem d_A_append_45 : decode M_A_append.2.1 45 = .ok (.castore, 1) := by decide +kernel
theorem d_A_append_46 : decode M_A_append.2.1 46 = .ok (.aload_n 0, 1) := by decide +kernel
theorem d_A_append_47 : decode M_A_append.2.1 47 = .ok (.getfield 80, 3) := by decide +kernel
theorem d_A_append_50 : decode M_A_append.2.1 50 = .ok (.dup, 1) := by decide +kernel
theorem d_A_append_51 : decode M_A_append.2.1 51 = .ok (.getfield 317, 3) := by decide +kernel
theorem d_A_append_54 : decode M_A_append.2.1 54 = .ok (.iconst 1, 1) := by decide +kernel
theorem d_A_append_55 : decode M_A_append.2.1 55 = .ok (.iadd, 1) := by decide +kernel
theorem d_A_append_56 : decode M_A_append.2.1 56 = .ok (.putfield 317, 3) := by decide +kernel
theorem d_A_append_59 : decode M_A_append.2.1 59 = .ok (.aload_n 0, 1) := by decide +kernel
theorem d_A_append_60 : decode M_A_append.2.1 60 = .ok (.getfield 80, 3) := by decide +kernel
theorem d_A_append_63 : decode M_A_append.2.1 63 = .ok (.getfield 317, 3) := by decide +kernel
theorem d_A_append_66 : decode M_A_append.2.1 66 = .ok (.ireturn, 1) := by decide +kernel
theorem d_A_isAutomorphism_0 : decode M_A_isAutomorphism.2.1 0 = .ok (.iload_n 1, 1) := by decide +kernel
theorem d_A_isAutomorphism_1 : decode M_A_isAutomorphism.2.1 1 = .ok (.ifCond .lt 18, 3) := by decide +kernel
theorem d_A_isAutomorphism_4 : decode M_A_isAutomorphism.2.1 4 = .ok (.iload_n 1, 1) := by decide +kernel
theorem d_A_isAutomorphism_5 : decode M_A_isAutomorphism.2.1 5 = .ok (.aload_n 0, 1) := by decide +kernel
theorem d_A_isAutomorphism_6 : decode M_A_isAutomorphism.2.1 6 = .ok (.getfield 19, 3) := by decide +kernel
theorem d_A_isAutomorphism_9 : decode M_A_isAutomorphism.2.1 9 = .ok (.getfield 139, 3) := by decide +kernel
theorem d_A_isAutomorphism_12 : decode M_A_isAutomorphism.2.1 12 = .ok (.if_icmp .ge 7, 3) := by decide +kernel
theorem d_A_isAutomorphism_15 : decode M_A_isAutomorphism.2.1 15 = .ok (.iconst 1, 1) := by decide +kernel
theorem d_A_isAutomorphism_16 : decode M_A_isAutomorphism.2.1 16 = .ok (.goto 4, 3) := by decide +kernel
theorem d_A_isAutomorphism_19 : decode M_A_isAutomorphism.2.1 19 = .ok (.iconst 0, 1) := by decide +kernel
theorem d_A_isAutomorphism_20 : decode M_A_isAutomorphism.2.1 20 = .ok (.ireturn, 1) := by decide +kernel
theorem d_H_note_0 : decode M_H_note.2.1 0 = .ok (.aload_n 0, 1) := by decide +kernel
theorem d_H_note_1 : decode M_H_note.2.1 1 = .ok (.getfield 15, 3) := by decide +kernel
theorem d_H_note_4 : decode M_H_note.2.1 4 = .ok (.iconst 5, 1) := by decide +kernel
theorem d_H_note_5 : decode M_H_note.2.1 5 = .ok (.if_icmp .ne 29, 3) := by decide +kernel
theorem d_H_note_8 : decode M_H_note.2.1 8 = .ok (.aload_n 0, 1) := by decide +kernel
theorem d_H_note_9 : decode M_H_note.2.1 9 = .ok (.getfield 11, 3) := by decide +kernel
theorem d_H_note_12 : decode M_H_note.2.1 12 = .ok (.bipush 6, 2) := by decide +kernel
theorem d_H_note_14 : decode M_H_note.2.1 14 = .ok (.aload_n 0, 1) := by decide +kernel
theorem d_H_note_15 : decode M_H_note.2.1 15 = .ok (.getfield 11, 3) := by decide +kernel
theorem d_H_note_18 : decode M_H_note.2.1 18 = .ok (.iconst 0, 1) := by decide +kernel
theorem d_H_note_19 : decode M_H_note.2.1 19 = .ok (.bipush 24, 2) := by decide +kernel
theorem d_H_note_21 : decode M_H_note.2.1 21 = .ok (.invokestatic 19, 3) := by decide +kernel
theorem d_H_note_24 : decode M_H_note.2.1 24 = .ok (.aload_n 0, 1) := by decide +kernel
theorem d_H_note_25 : decode M_H_note.2.1 25 = .ok (.dup, 1) := by decide +kernel
theorem d_H_note_26 : decode M_H_note.2.1 26 = .ok (.getfield 15, 3) := by decide +kernel
theorem d_H_note_29 : decode M_H_note.2.1 29 = .ok (.iconst 1, 1) := by decide +kernel
theorem d_H_note_30 : decode M_H_note.2.1 30 = .ok (.isub, 1) := by decide +kernel
theorem d_H_note_31 : decode M_H_note.2.1 31 = .ok (.putfield 15, 3) := by decide +kernel
theorem d_H_note_34 : decode M_H_note.2.1 34 = .ok (.aload_n 1, 1) := by decide +kernel
theorem d_H_note_35 : decode M_H_note.2.1 35 = .ok (.iconst 0, 1) := by decide +kernel
theorem d_H_note_36 : decode M_H_note.2.1 36 = .ok (.aload_n 0, 1) := by decide +kernel
theorem d_H_note_37 : decode M_H_note.2.1 37 = .ok (.getfield 11, 3) := by decide +kernel
theorem d_H_note_40 : decode M_H_note.2.1 40 = .ok (.aload_n 0, 1) := by decide +kernel
theorem d_H_note_41 : decode M_H_note.2.1 41 = .ok (.getfield 15, 3) := by decide +kernel
theorem d_H_note_44 : decode M_H_note.2.1 44 = .ok (.bipush 6, 2) := by decide +kernel
theorem d_H_note_46 : decode M_H_note.2.1 46 = .ok (.imul, 1) := by decide +kernel
theorem d_H_note_47 : decode M_H_note.2.1 47 = .ok (.bipush 6, 2) := by decide +kernel
theorem d_H_note_49 : decode M_H_note.2.1 49 = .ok (.invokestatic 19, 3) := by decide +kernel
theorem d_H_note_52 : decode M_H_note.2.1 52 = .ok (.aload_n 0, 1) := by decide +kernel
theorem d_H_note_53 : decode M_H_note.2.1 53 = .ok (.dup, 1) := by decide +kernel
theorem d_H_note_54 : decode M_H_note.2.1 54 = .ok (.getfield 15, 3) := by decide +kernel
theorem d_H_note_57 : decode M_H_note.2.1 57 = .ok (.iconst 1, 1) := by decide +kernel
theorem d_H_note_58 : decode M_H_note.2.1 58 = .ok (.iadd, 1) := by decide +kernel
theorem d_H_note_59 : decode M_H_note.2.1 59 = .ok (.putfield 15, 3) := by decide +kernel
theorem d_H_note_62 : decode M_H_note.2.1 62 = .ok (.return_, 1) := by decide +kernel
theorem d_G_plus_0 : decode M_G_plus.2.1 0 = .ok (.aload_n 0, 1) := by decide +kernel
theorem d_G_plus_1 : decode M_G_plus.2.1 1 = .ok (.getfield 9, 3) := by decide +kernel
theorem d_G_plus_4 : decode M_G_plus.2.1 4 = .ok (.iload_n 1, 1) := by decide +kernel
theorem d_G_plus_5 : decode M_G_plus.2.1 5 = .ok (.iaload, 1) := by decide +kernel
theorem d_G_plus_6 : decode M_G_plus.2.1 6 = .ok (.aload_n 0, 1) := by decide +kernel
theorem d_G_plus_7 : decode M_G_plus.2.1 7 = .ok (.getfield 9, 3) := by decide +kernel
theorem d_G_plus_10 : decode M_G_plus.2.1 10 = .ok (.iload_n 2, 1) := by decide +kernel
theorem d_G_plus_11 : decode M_G_plus.2.1 11 = .ok (.iaload, 1) := by decide +kernel
theorem d_G_plus_12 : decode M_G_plus.2.1 12 = .ok (.iadd, 1) := by decide +kernel
theorem d_G_plus_13 : decode M_G_plus.2.1 13 = .ok (.istore_n 3, 1) := by decide +kernel
theorem d_G_plus_14 : decode M_G_plus.2.1 14 = .ok (.aload_n 0, 1) := by decide +kernel
theorem d_G_plus_15 : decode M_G_plus.2.1 15 = .ok (.getfield 15, 3) := by decide +kernel
theorem d_G_plus_18 : decode M_G_plus.2.1 18 = .ok (.iload_n 1, 1) := by decide +kernel
theorem d_G_plus_19 : decode M_G_plus.2.1 19 = .ok (.iaload, 1) := by decide +kernel
theorem d_G_plus_20 : decode M_G_plus.2.1 20 = .ok (.aload_n 0, 1) := by decide +kernel
theorem d_G_plus_21 : decode M_G_plus.2.1 21 = .ok (.getfield 15, 3) := by decide +kernel
theorem d_G_plus_24 : decode M_G_plus.2.1 24 = .ok (.iload_n 2, 1) := by decide +kernel
theorem d_G_plus_25 : decode M_G_plus.2.1 25 = .ok (.iaload, 1) := by decide +kernel
theorem d_G_plus_26 : decode M_G_plus.2.1 26 = .ok (.iadd, 1) := by decide +kernel
theorem d_G_plus_27 : decode M_G_plus.2.1 27 = .ok (.istore 4, 2) := by decide +kernel
theorem d_G_plus_29 : decode M_G_plus.2.1 29 = .ok (.aload_n 0, 1) := by decide +kernel
theorem d_G_plus_30 : decode M_G_plus.2.1 30 = .ok (.getfield 34, 3) := by decide +kernel
theorem d_G_plus_33 : decode M_G_plus.2.1 33 = .ok (.iload_n 3, 1) := by decide +kernel
theorem d_G_plus_34 : decode M_G_plus.2.1 34 = .ok (.aload_n 0, 1) := by decide +kernel
theorem d_G_plus_35 : decode M_G_plus.2.1 35 = .ok (.getfield 30, 3) := by decide +kernel
theorem d_G_plus_38 : decode M_G_plus.2.1 38 = .ok (.if_icmp .ge 7, 3) := by decide +kernel
theorem d_G_plus_41 : decode M_G_plus.2.1 41 = .ok (.iload_n 3, 1) := by decide +kernel
theorem d_G_plus_42 : decode M_G_plus.2.1 42 = .ok (.goto 9, 3) := by decide +kernel
theorem d_G_plus_45 : decode M_G_plus.2.1 45 = .ok (.iload_n 3, 1) := by decide +kernel
theorem d_G_plus_46 : decode M_G_plus.2.1 46 = .ok (.aload_n 0, 1) := by decide +kernel
theorem d_G_plus_47 : decode M_G_plus.2.1 47 = .ok (.getfield 30, 3) := by decide +kernel
theorem d_G_plus_50 : decode M_G_plus.2.1 50 = .ok (.isub, 1) := by decide +kernel
theorem d_G_plus_51 : decode M_G_plus.2.1 51 = .ok (.imul, 1) := by decide +kernel
theorem d_G_plus_52 : decode M_G_plus.2.1 52 = .ok (.iload 4, 2) := by decide +kernel
theorem d_G_plus_54 : decode M_G_plus.2.1 54 = .ok (.aload_n 0, 1) := by decide +kernel
theorem d_G_plus_55 : decode M_G_plus.2.1 55 = .ok (.getfield 34, 3) := by decide +kernel
theorem d_G_plus_58 : decode M_G_plus.2.1 58 = .ok (.if_icmp .ge 8, 3) := by decide +kernel
theorem d_G_plus_61 : decode M_G_plus.2.1 61 = .ok (.iload 4, 2) := by decide +kernel
theorem d_G_plus_63 : decode M_G_plus.2.1 63 = .ok (.goto 10, 3) := by decide +kernel
theorem d_G_plus_66 : decode M_G_plus.2.1 66 = .ok (.iload 4, 2) := by decide +kernel
theorem d_G_plus_68 : decode M_G_plus.2.1 68 = .ok (.aload_n 0, 1) := by decide +kernel
theorem d_G_plus_69 : decode M_G_plus.2.1 69 = .ok (.getfield 34, 3) := by decide +kernel
theorem d_G_plus_72 : decode M_G_plus.2.1 72 = .ok (.isub, 1) := by decide +kernel
theorem d_G_plus_73 : decode M_G_plus.2.1 73 = .ok (.iadd, 1) := by decide +kernel
theorem d_G_plus_74 : decode M_G_plus.2.1 74 = .ok (.ireturn, 1) := by decide +kernel
theorem d_G_fillMap_0 : decode M_G_fillMap.2.1 0 = .ok (.aload_n 3, 1) := by decide +kernel
theorem d_G_fillMap_1 : decode M_G_fillMap.2.1 1 = .ok (.iconst 0, 1) := by decide +kernel
theorem d_G_fillMap_2 : decode M_G_fillMap.2.1 2 = .ok (.iconst 0, 1) := by decide +kernel
theorem d_G_fillMap_3 : decode M_G_fillMap.2.1 3 = .ok (.iastore, 1) := by decide +kernel
theorem d_G_fillMap_4 : decode M_G_fillMap.2.1 4 = .ok (.iconst 1, 1) := by decide +kernel
theorem d_G_fillMap_5 : decode M_G_fillMap.2.1 5 = .ok (.istore 4, 2) := by decide +kernel
theorem d_G_fillMap_7 : decode M_G_fillMap.2.1 7 = .ok (.iload 4, 2) := by decide +kernel
theorem d_G_fillMap_9 : decode M_G_fillMap.2.1 9 = .ok (.aload_n 0, 1) := by decide +kernel
theorem d_G_fillMap_10 : decode M_G_fillMap.2.1 10 = .ok (.getfield 37, 3) := by decide +kernel
theorem d_G_fillMap_13 : decode M_G_fillMap.2.1 13 = .ok (.if_icmp .ge 51, 3) := by decide +kernel
theorem d_G_fillMap_16 : decode M_G_fillMap.2.1 16 = .ok (.aload_n 3, 1) := by decide +kernel
theorem d_G_fillMap_17 : decode M_G_fillMap.2.1 17 = .ok (.iload 4, 2) := by decide +kernel
theorem d_G_fillMap_19 : decode M_G_fillMap.2.1 19 = .ok (.aload_n 0, 1) := by decide +kernel
theorem d_G_fillMap_20 : decode M_G_fillMap.2.1 20 = .ok (.getfield 15, 3) := by decide +kernel
theorem d_G_fillMap_23 : decode M_G_fillMap.2.1 23 = .ok (.iload 4, 2) := by decide +kernel
theorem d_G_fillMap_25 : decode M_G_fillMap.2.1 25 = .ok (.iaload, 1) := by decide +kernel
theorem d_G_fillMap_26 : decode M_G_fillMap.2.1 26 = .ok (.ifCond .le 17, 3) := by decide +kernel
theorem d_G_fillMap_29 : decode M_G_fillMap.2.1 29 = .ok (.aload_n 0, 1) := by decide +kernel
theorem d_G_fillMap_30 : decode M_G_fillMap.2.1 30 = .ok (.aload_n 3, 1) := by decide +kernel
theorem d_G_fillMap_31 : decode M_G_fillMap.2.1 31 = .ok (.iload 4, 2) := by decide +kernel
theorem d_G_fillMap_33 : decode M_G_fillMap.2.1 33 = .ok (.iconst 1, 1) := by decide +kernel
theorem d_G_fillMap_34 : decode M_G_fillMap.2.1 34 = .ok (.isub, 1) := by decide +kernel
theorem d_G_fillMap_35 : decode M_G_fillMap.2.1 35 = .ok (.iaload, 1) := by decide +kernel
theorem d_G_fillMap_36 : decode M_G_fillMap.2.1 36 = .ok (.iload_n 2, 1) := by decide +kernel
theorem d_G_fillMap_37 : decode M_G_fillMap.2.1 37 = .ok (.invokevirtual 54, 3) := by decide +kernel
theorem d_G_fillMap_40 : decode M_G_fillMap.2.1 40 = .ok (.goto 17, 3) := by decide +kernel
theorem d_G_fillMap_43 : decode M_G_fillMap.2.1 43 = .ok (.aload_n 0, 1) := by decide +kernel
theorem d_G_fillMap_44 : decode M_G_fillMap.2.1 44 = .ok (.aload_n 3, 1) := by decide +kernel
theorem d_G_fillMap_45 : decode M_G_fillMap.2.1 45 = .ok (.iload 4, 2) := by decide +kernel
theorem d_G_fillMap_47 : decode M_G_fillMap.2.1 47 = .ok (.aload_n 0, 1) := by decide +kernel
theorem d_G_fillMap_48 : decode M_G_fillMap.2.1 48 = .ok (.getfield 34, 3) := by decide +kernel
theorem d_G_fillMap_51 : decode M_G_fillMap.2.1 51 = .ok (.isub, 1) := by decide +kernel
theorem d_G_fillMap_52 : decode M_G_fillMap.2.1 52 = .ok (.iaload, 1) := by decide +kernel
theorem d_G_fillMap_53 : decode M_G_fillMap.2.1 53 = .ok (.iload_n 1, 1) := by decide +kernel
theorem d_G_fillMap_54 : decode M_G_fillMap.2.1 54 = .ok (.invokevirtual 54, 3) := by decide +kernel
theorem d_G_fillMap_57 : decode M_G_fillMap.2.1 57 = .ok (.iastore, 1) := by decide +kernel
theorem d_G_fillMap_58 : decode M_G_fillMap.2.1 58 = .ok (.iinc 4 1, 3) := by decide +kernel
theorem d_G_fillMap_61 : decode M_G_fillMap.2.1 61 = .ok (.goto (-54), 3) := by decide +kernel
theorem d_G_fillMap_64 : decode M_G_fillMap.2.1 64 = .ok (.return_, 1) := by decide +kernel
theorem d_G_fillAutomorphism_0 : decode M_G_fillAutomorphism.2.1 0 = .ok (.aload_n 0, 1) := by decide +kernel
theorem d_G_fillAutomorphism_1 : decode M_G_fillAutomorphism.2.1 1 = .ok (.aload_n 0, 1) := by decide +kernel
theorem d_G_fillAutomorphism_2 : decode M_G_fillAutomorphism.2.1 2 = .ok (.getfield 24, 3) := by decide +kernel
theorem d_G_fillAutomorphism_5 : decode M_G_fillAutomorphism.2.1 5 = .ok (.iload_n 1, 1) := by decide +kernel
theorem d_G_fillAutomorphism_6 : decode M_G_fillAutomorphism.2.1 6 = .ok (.iaload, 1) := by decide +kernel
theorem d_G_fillAutomorphism_7 : decode M_G_fillAutomorphism.2.1 7 = .ok (.aload_n 0, 1) := by decide +kernel
theorem d_G_fillAutomorphism_8 : decode M_G_fillAutomorphism.2.1 8 = .ok (.getfield 27, 3) := by decide +kernel
theorem d_G_fillAutomorphism_11 : decode M_G_fillAutomorphism.2.1 11 = .ok (.iload_n 1, 1) := by decide +kernel
theorem d_G_fillAutomorphism_12 : decode M_G_fillAutomorphism.2.1 12 = .ok (.iaload, 1) := by decide +kernel
theorem d_G_fillAutomorphism_13 : decode M_G_fillAutomorphism.2.1 13 = .ok (.aload_n 2, 1) := by decide +kernel
theorem d_G_fillAutomorphism_14 : decode M_G_fillAutomorphism.2.1 14 = .ok (.invokevirtual 65, 3) := by decide +kernel
theorem d_G_fillAutomorphism_17 : decode M_G_fillAutomorphism.2.1 17 = .ok (.return_, 1) := by decide +kernel
theorem d_A_holds_0 : decode M_A_holds.2.1 0 = .ok (.lload_n 0, 1) := by decide +kernel
theorem d_A_holds_1 : decode M_A_holds.2.1 1 = .ok (.iload_n 2, 1) := by decide +kernel
theorem d_A_holds_2 : decode M_A_holds.2.1 2 = .ok (.lushr, 1) := by decide +kernel
theorem d_A_holds_3 : decode M_A_holds.2.1 3 = .ok (.lconst 1, 1) := by decide +kernel
theorem d_A_holds_4 : decode M_A_holds.2.1 4 = .ok (.land, 1) := by decide +kernel
theorem d_A_holds_5 : decode M_A_holds.2.1 5 = .ok (.lconst 0, 1) := by decide +kernel
theorem d_A_holds_6 : decode M_A_holds.2.1 6 = .ok (.lcmp, 1) := by decide +kernel
theorem d_A_holds_7 : decode M_A_holds.2.1 7 = .ok (.ifCond .eq 7, 3) := by decide +kernel
theorem d_A_holds_10 : decode M_A_holds.2.1 10 = .ok (.iconst 1, 1) := by decide +kernel
theorem d_A_holds_11 : decode M_A_holds.2.1 11 = .ok (.goto 4, 3) := by decide +kernel
theorem d_A_holds_14 : decode M_A_holds.2.1 14 = .ok (.iconst 0, 1) := by decide +kernel
theorem d_A_holds_15 : decode M_A_holds.2.1 15 = .ok (.ireturn, 1) := by decide +kernel
theorem d_G_mapped_0 : decode M_G_mapped.2.1 0 = .ok (.lconst 0, 1) := by decide +kernel
theorem d_G_mapped_1 : decode M_G_mapped.2.1 1 = .ok (.lstore 4, 2) := by decide +kernel
theorem d_G_mapped_3 : decode M_G_mapped.2.1 3 = .ok (.iconst 0, 1) := by decide +kernel
theorem d_G_mapped_4 : decode M_G_mapped.2.1 4 = .ok (.istore 6, 2) := by decide +kernel
theorem d_G_mapped_6 : decode M_G_mapped.2.1 6 = .ok (.iload 6, 2) := by decide +kernel
theorem d_G_mapped_8 : decode M_G_mapped.2.1 8 = .ok (.aload_n 0, 1) := by decide +kernel
theorem d_G_mapped_9 : decode M_G_mapped.2.1 9 = .ok (.getfield 37, 3) := by decide +kernel
theorem d_G_mapped_12 : decode M_G_mapped.2.1 12 = .ok (.if_icmp .ge 29, 3) := by decide +kernel
theorem d_G_mapped_15 : decode M_G_mapped.2.1 15 = .ok (.lload_n 1, 1) := by decide +kernel
theorem d_G_mapped_16 : decode M_G_mapped.2.1 16 = .ok (.iload 6, 2) := by decide +kernel
theorem d_G_mapped_18 : decode M_G_mapped.2.1 18 = .ok (.invokestatic 76, 3) := by decide +kernel
theorem d_G_mapped_21 : decode M_G_mapped.2.1 21 = .ok (.ifCond .eq 14, 3) := by decide +kernel
theorem d_G_mapped_24 : decode M_G_mapped.2.1 24 = .ok (.lload 4, 2) := by decide +kernel
theorem d_G_mapped_26 : decode M_G_mapped.2.1 26 = .ok (.lconst 1, 1) := by decide +kernel
theorem d_G_mapped_27 : decode M_G_mapped.2.1 27 = .ok (.aload_n 3, 1) := by decide +kernel
theorem d_G_mapped_28 : decode M_G_mapped.2.1 28 = .ok (.iload 6, 2) := by decide +kernel
theorem d_G_mapped_30 : decode M_G_mapped.2.1 30 = .ok (.iaload, 1) := by decide +kernel
theorem d_G_mapped_31 : decode M_G_mapped.2.1 31 = .ok (.lshl, 1) := by decide +kernel
theorem d_G_mapped_32 : decode M_G_mapped.2.1 32 = .ok (.lor, 1) := by decide +kernel
theorem d_G_mapped_33 : decode M_G_mapped.2.1 33 = .ok (.lstore 4, 2) := by decide +kernel
theorem d_G_mapped_35 : decode M_G_mapped.2.1 35 = .ok (.iinc 6 1, 3) := by decide +kernel
theorem d_G_mapped_38 : decode M_G_mapped.2.1 38 = .ok (.goto (-32), 3) := by decide +kernel
theorem d_G_mapped_41 : decode M_G_mapped.2.1 41 = .ok (.lload 4, 2) := by decide +kernel
theorem d_G_mapped_43 : decode M_G_mapped.2.1 43 = .ok (.lreturn, 1) := by decide +kernel
theorem d_K_mapAll_0 : decode M_K_mapAll.2.1 0 = .ok (.iconst 0, 1) := by decide +kernel
theorem d_K_mapAll_1 : decode M_K_mapAll.2.1 1 = .ok (.istore_n 2, 1) := by decide +kernel
theorem d_K_mapAll_2 : decode M_K_mapAll.2.1 2 = .ok (.iconst 0, 1) := by decide +kernel
theorem d_K_mapAll_3 : decode M_K_mapAll.2.1 3 = .ok (.istore_n 3, 1) := by decide +kernel
theorem d_K_mapAll_4 : decode M_K_mapAll.2.1 4 = .ok (.iload_n 3, 1) := by decide +kernel
theorem d_K_mapAll_5 : decode M_K_mapAll.2.1 5 = .ok (.bipush 6, 2) := by decide +kernel
theorem d_K_mapAll_7 : decode M_K_mapAll.2.1 7 = .ok (.if_icmp .ge 42, 3) := by decide +kernel
theorem d_K_mapAll_10 : decode M_K_mapAll.2.1 10 = .ok (.aload_n 0, 1) := by decide +kernel
theorem d_K_mapAll_11 : decode M_K_mapAll.2.1 11 = .ok (.getfield 25, 3) := by decide +kernel
theorem d_K_mapAll_14 : decode M_K_mapAll.2.1 14 = .ok (.aload_n 1, 1) := by decide +kernel
theorem d_K_mapAll_15 : decode M_K_mapAll.2.1 15 = .ok (.iload_n 3, 1) := by decide +kernel
theorem d_K_mapAll_16 : decode M_K_mapAll.2.1 16 = .ok (.laload, 1) := by decide +kernel
theorem d_K_mapAll_17 : decode M_K_mapAll.2.1 17 = .ok (.aload_n 0, 1) := by decide +kernel
theorem d_K_mapAll_18 : decode M_K_mapAll.2.1 18 = .ok (.getfield 9, 3) := by decide +kernel
theorem d_K_mapAll_21 : decode M_K_mapAll.2.1 21 = .ok (.invokevirtual 42, 3) := by decide +kernel
theorem d_K_mapAll_24 : decode M_K_mapAll.2.1 24 = .ok (.lstore 4, 2) := by decide +kernel
theorem d_K_mapAll_26 : decode M_K_mapAll.2.1 26 = .ok (.lload 4, 2) := by decide +kernel
theorem d_K_mapAll_28 : decode M_K_mapAll.2.1 28 = .ok (.aload_n 1, 1) := by decide +kernel
theorem d_K_mapAll_29 : decode M_K_mapAll.2.1 29 = .ok (.iload_n 3, 1) := by decide +kernel
theorem d_K_mapAll_30 : decode M_K_mapAll.2.1 30 = .ok (.laload, 1) := by decide +kernel
theorem d_K_mapAll_31 : decode M_K_mapAll.2.1 31 = .ok (.lcmp, 1) := by decide +kernel
theorem d_K_mapAll_32 : decode M_K_mapAll.2.1 32 = .ok (.ifCond .eq 6, 3) := by decide +kernel
theorem d_K_mapAll_35 : decode M_K_mapAll.2.1 35 = .ok (.iinc 2 1, 3) := by decide +kernel
theorem d_K_mapAll_38 : decode M_K_mapAll.2.1 38 = .ok (.aload_n 1, 1) := by decide +kernel
theorem d_K_mapAll_39 : decode M_K_mapAll.2.1 39 = .ok (.iload_n 3, 1) := by decide +kernel
theorem d_K_mapAll_40 : decode M_K_mapAll.2.1 40 = .ok (.lload 4, 2) := by decide +kernel
theorem d_K_mapAll_42 : decode M_K_mapAll.2.1 42 = .ok (.lastore, 1) := by decide +kernel
theorem d_K_mapAll_43 : decode M_K_mapAll.2.1 43 = .ok (.iinc 3 1, 3) := by decide +kernel
theorem d_K_mapAll_46 : decode M_K_mapAll.2.1 46 = .ok (.goto (-42), 3) := by decide +kernel
theorem d_K_mapAll_49 : decode M_K_mapAll.2.1 49 = .ok (.iload_n 2, 1) := by decide +kernel
theorem d_K_mapAll_50 : decode M_K_mapAll.2.1 50 = .ok (.ireturn, 1) := by decide +kernel
theorem d_K_mapByAutomorphism_0 : decode M_K_mapByAutomorphism.2.1 0 = .ok (.aload_n 0, 1) := by decide +kernel
theorem d_K_mapByAutomorphism_1 : decode M_K_mapByAutomorphism.2.1 1 = .ok (.getfield 25, 3) := by decide +kernel
theorem d_K_mapByAutomorphism_4 : decode M_K_mapByAutomorphism.2.1 4 = .ok (.iload_n 2, 1) := by decide +kernel
theorem d_K_mapByAutomorphism_5 : decode M_K_mapByAutomorphism.2.1 5 = .ok (.aload_n 0, 1) := by decide +kernel
theorem d_K_mapByAutomorphism_6 : decode M_K_mapByAutomorphism.2.1 6 = .ok (.getfield 9, 3) := by decide +kernel
theorem d_K_mapByAutomorphism_9 : decode M_K_mapByAutomorphism.2.1 9 = .ok (.invokevirtual 29, 3) := by decide +kernel
theorem d_K_mapByAutomorphism_12 : decode M_K_mapByAutomorphism.2.1 12 = .ok (.aload_n 0, 1) := by decide +kernel
theorem d_K_mapByAutomorphism_13 : decode M_K_mapByAutomorphism.2.1 13 = .ok (.aload_n 1, 1) := by decide +kernel
theorem d_K_mapByAutomorphism_14 : decode M_K_mapByAutomorphism.2.1 14 = .ok (.invokevirtual 35, 3) := by decide +kernel
theorem d_K_mapByAutomorphism_17 : decode M_K_mapByAutomorphism.2.1 17 = .ok (.ireturn, 1) := by decide +kernel
theorem d_A_apply_0 : decode M_A_apply.2.1 0 = .ok (.aload_n 0, 1) := by decide +kernel
theorem d_A_apply_1 : decode M_A_apply.2.1 1 = .ok (.iload_n 1, 1) := by decide +kernel
theorem d_A_apply_2 : decode M_A_apply.2.1 2 = .ok (.invokevirtual 142, 3) := by decide +kernel
theorem d_A_apply_5 : decode M_A_apply.2.1 5 = .ok (.ifCond .ne 5, 3) := by decide +kernel
theorem d_A_apply_8 : decode M_A_apply.2.1 8 = .ok (.iconst (-1), 1) := by decide +kernel
theorem d_A_apply_9 : decode M_A_apply.2.1 9 = .ok (.ireturn, 1) := by decide +kernel
theorem d_A_apply_10 : decode M_A_apply.2.1 10 = .ok (.aload_n 0, 1) := by decide +kernel
theorem d_A_apply_11 : decode M_A_apply.2.1 11 = .ok (.getfield 32, 3) := by decide +kernel
theorem d_A_apply_14 : decode M_A_apply.2.1 14 = .ok (.aload_n 0, 1) := by decide +kernel
theorem d_A_apply_15 : decode M_A_apply.2.1 15 = .ok (.getfield 25, 3) := by decide +kernel
theorem d_A_apply_18 : decode M_A_apply.2.1 18 = .ok (.invokevirtual 165, 3) := by decide +kernel
theorem d_A_apply_21 : decode M_A_apply.2.1 21 = .ok (.aload_n 0, 1) := by decide +kernel
theorem d_A_apply_22 : decode M_A_apply.2.1 22 = .ok (.getfield 52, 3) := by decide +kernel
theorem d_A_apply_25 : decode M_A_apply.2.1 25 = .ok (.aload_n 0, 1) := by decide +kernel
theorem d_A_apply_26 : decode M_A_apply.2.1 26 = .ok (.getfield 25, 3) := by decide +kernel
theorem d_A_apply_29 : decode M_A_apply.2.1 29 = .ok (.iload_n 1, 1) := by decide +kernel
theorem d_A_apply_30 : decode M_A_apply.2.1 30 = .ok (.invokevirtual 175, 3) := by decide +kernel
theorem d_A_apply_33 : decode M_A_apply.2.1 33 = .ok (.ireturn, 1) := by decide +kernel
theorem d_A_automorphisms_0 : decode M_A_automorphisms.2.1 0 = .ok (.aload_n 0, 1) := by decide +kernel
theorem d_A_automorphisms_1 : decode M_A_automorphisms.2.1 1 = .ok (.getfield 19, 3) := by decide +kernel
theorem d_A_automorphisms_4 : decode M_A_automorphisms.2.1 4 = .ok (.getfield 139, 3) := by decide +kernel
theorem d_A_automorphisms_7 : decode M_A_automorphisms.2.1 7 = .ok (.ireturn, 1) := by decide +kernel
theorem d_A_isBlock_0 : decode M_A_isBlock.2.1 0 = .ok (.iload_n 0, 1) := by decide +kernel
theorem d_A_isBlock_1 : decode M_A_isBlock.2.1 1 = .ok (.ifCond .lt 13, 3) := by decide +kernel
theorem d_A_isBlock_4 : decode M_A_isBlock.2.1 4 = .ok (.iload_n 0, 1) := by decide +kernel
theorem d_A_isBlock_5 : decode M_A_isBlock.2.1 5 = .ok (.bipush 6, 2) := by decide +kernel
theorem d_A_isBlock_7 : decode M_A_isBlock.2.1 7 = .ok (.if_icmp .ge 7, 3) := by decide +kernel
theorem d_A_isBlock_10 : decode M_A_isBlock.2.1 10 = .ok (.iconst 1, 1) := by decide +kernel
theorem d_A_isBlock_11 : decode M_A_isBlock.2.1 11 = .ok (.goto 4, 3) := by decide +kernel
theorem d_A_isBlock_14 : decode M_A_isBlock.2.1 14 = .ok (.iconst 0, 1) := by decide +kernel
theorem d_A_isBlock_15 : decode M_A_isBlock.2.1 15 = .ok (.ireturn, 1) := by decide +kernel
theorem d_A_block_0 : decode M_A_block.2.1 0 = .ok (.iload_n 1, 1) := by decide +kernel
theorem d_A_block_1 : decode M_A_block.2.1 1 = .ok (.invokestatic 158, 3) := by decide +kernel
theorem d_A_block_4 : decode M_A_block.2.1 4 = .ok (.ifCond .ne 7, 3) := by decide +kernel
theorem d_A_block_7 : decode M_A_block.2.1 7 = .ok (.ldc2_w 169, 3) := by decide +kernel
theorem d_A_block_10 : decode M_A_block.2.1 10 = .ok (.lreturn, 1) := by decide +kernel
theorem d_A_block_11 : decode M_A_block.2.1 11 = .ok (.aload_n 0, 1) := by decide +kernel
theorem d_A_block_12 : decode M_A_block.2.1 12 = .ok (.getfield 25, 3) := by decide +kernel
theorem d_A_block_15 : decode M_A_block.2.1 15 = .ok (.iload_n 1, 1) := by decide +kernel
theorem d_A_block_16 : decode M_A_block.2.1 16 = .ok (.laload, 1) := by decide +kernel
theorem d_A_block_17 : decode M_A_block.2.1 17 = .ok (.lreturn, 1) := by decide +kernel
theorem d_J_bitCount_0 : decode M_J_bitCount.2.1 0 = .ok (.lload_n 0, 1) := by decide +kernel
theorem d_J_bitCount_1 : decode M_J_bitCount.2.1 1 = .ok (.lload_n 0, 1) := by decide +kernel
theorem d_J_bitCount_2 : decode M_J_bitCount.2.1 2 = .ok (.iconst 1, 1) := by decide +kernel
theorem d_J_bitCount_3 : decode M_J_bitCount.2.1 3 = .ok (.lushr, 1) := by decide +kernel
theorem d_J_bitCount_4 : decode M_J_bitCount.2.1 4 = .ok (.ldc2_w 314, 3) := by decide +kernel
theorem d_J_bitCount_7 : decode M_J_bitCount.2.1 7 = .ok (.land, 1) := by decide +kernel
theorem d_J_bitCount_8 : decode M_J_bitCount.2.1 8 = .ok (.lsub, 1) := by decide +kernel
theorem d_J_bitCount_9 : decode M_J_bitCount.2.1 9 = .ok (.lstore_n 0, 1) := by decide +kernel
theorem d_J_bitCount_10 : decode M_J_bitCount.2.1 10 = .ok (.lload_n 0, 1) := by decide +kernel
theorem d_J_bitCount_11 : decode M_J_bitCount.2.1 11 = .ok (.ldc2_w 316, 3) := by decide +kernel
theorem d_J_bitCount_14 : decode M_J_bitCount.2.1 14 = .ok (.land, 1) := by decide +kernel
theorem d_J_bitCount_15 : decode M_J_bitCount.2.1 15 = .ok (.lload_n 0, 1) := by decide +kernel
theorem d_J_bitCount_16 : decode M_J_bitCount.2.1 16 = .ok (.iconst 2, 1) := by decide +kernel
theorem d_J_bitCount_17 : decode M_J_bitCount.2.1 17 = .ok (.lushr, 1) := by decide +kernel
theorem d_J_bitCount_18 : decode M_J_bitCount.2.1 18 = .ok (.ldc2_w 316, 3) := by decide +kernel
theorem d_J_bitCount_21 : decode M_J_bitCount.2.1 21 = .ok (.land, 1) := by decide +kernel
theorem d_J_bitCount_22 : decode M_J_bitCount.2.1 22 = .ok (.ladd, 1) := by decide +kernel
theorem d_J_bitCount_23 : decode M_J_bitCount.2.1 23 = .ok (.lstore_n 0, 1) := by decide +kernel
theorem d_J_bitCount_24 : decode M_J_bitCount.2.1 24 = .ok (.lload_n 0, 1) := by decide +kernel
theorem d_J_bitCount_25 : decode M_J_bitCount.2.1 25 = .ok (.lload_n 0, 1) := by decide +kernel
theorem d_J_bitCount_26 : decode M_J_bitCount.2.1 26 = .ok (.iconst 4, 1) := by decide +kernel
theorem d_J_bitCount_27 : decode M_J_bitCount.2.1 27 = .ok (.lushr, 1) := by decide +kernel
theorem d_J_bitCount_28 : decode M_J_bitCount.2.1 28 = .ok (.ladd, 1) := by decide +kernel
theorem d_J_bitCount_29 : decode M_J_bitCount.2.1 29 = .ok (.ldc2_w 318, 3) := by decide +kernel
theorem d_J_bitCount_32 : decode M_J_bitCount.2.1 32 = .ok (.land, 1) := by decide +kernel
theorem d_J_bitCount_33 : decode M_J_bitCount.2.1 33 = .ok (.lstore_n 0, 1) := by decide +kernel
theorem d_J_bitCount_34 : decode M_J_bitCount.2.1 34 = .ok (.lload_n 0, 1) := by decide +kernel
theorem d_J_bitCount_35 : decode M_J_bitCount.2.1 35 = .ok (.lload_n 0, 1) := by decide +kernel
theorem d_J_bitCount_36 : decode M_J_bitCount.2.1 36 = .ok (.bipush 8, 2) := by decide +kernel
theorem d_J_bitCount_38 : decode M_J_bitCount.2.1 38 = .ok (.lushr, 1) := by decide +kernel
theorem d_J_bitCount_39 : decode M_J_bitCount.2.1 39 = .ok (.ladd, 1) := by decide +kernel
theorem d_J_bitCount_40 : decode M_J_bitCount.2.1 40 = .ok (.lstore_n 0, 1) := by decide +kernel
theorem d_J_bitCount_41 : decode M_J_bitCount.2.1 41 = .ok (.lload_n 0, 1) := by decide +kernel
theorem d_J_bitCount_42 : decode M_J_bitCount.2.1 42 = .ok (.lload_n 0, 1) := by decide +kernel
theorem d_J_bitCount_43 : decode M_J_bitCount.2.1 43 = .ok (.bipush 16, 2) := by decide +kernel
theorem d_J_bitCount_45 : decode M_J_bitCount.2.1 45 = .ok (.lushr, 1) := by decide +kernel
theorem d_J_bitCount_46 : decode M_J_bitCount.2.1 46 = .ok (.ladd, 1) := by decide +kernel
theorem d_J_bitCount_47 : decode M_J_bitCount.2.1 47 = .ok (.lstore_n 0, 1) := by decide +kernel
theorem d_J_bitCount_48 : decode M_J_bitCount.2.1 48 = .ok (.lload_n 0, 1) := by decide +kernel
theorem d_J_bitCount_49 : decode M_J_bitCount.2.1 49 = .ok (.lload_n 0, 1) := by decide +kernel
theorem d_J_bitCount_50 : decode M_J_bitCount.2.1 50 = .ok (.bipush 32, 2) := by decide +kernel
theorem d_J_bitCount_52 : decode M_J_bitCount.2.1 52 = .ok (.lushr, 1) := by decide +kernel
theorem d_J_bitCount_53 : decode M_J_bitCount.2.1 53 = .ok (.ladd, 1) := by decide +kernel
theorem d_J_bitCount_54 : decode M_J_bitCount.2.1 54 = .ok (.lstore_n 0, 1) := by decide +kernel
theorem d_J_bitCount_55 : decode M_J_bitCount.2.1 55 = .ok (.lload_n 0, 1) := by decide +kernel
theorem d_J_bitCount_56 : decode M_J_bitCount.2.1 56 = .ok (.l2i, 1) := by decide +kernel
theorem d_J_bitCount_57 : decode M_J_bitCount.2.1 57 = .ok (.bipush 127, 2) := by decide +kernel
theorem d_J_bitCount_59 : decode M_J_bitCount.2.1 59 = .ok (.iand, 1) := by decide +kernel
theorem d_J_bitCount_60 : decode M_J_bitCount.2.1 60 = .ok (.ireturn, 1) := by decide +kernel
theorem d_A_blockSize_0 : decode M_A_blockSize.2.1 0 = .ok (.bipush (-4), 2) := by decide +kernel
theorem d_A_blockSize_2 : decode M_A_blockSize.2.1 2 = .ok (.istore_n 1, 1) := by decide +kernel
theorem d_A_blockSize_3 : decode M_A_blockSize.2.1 3 = .ok (.iconst 0, 1) := by decide +kernel
theorem d_A_blockSize_4 : decode M_A_blockSize.2.1 4 = .ok (.istore_n 2, 1) := by decide +kernel
theorem d_A_blockSize_5 : decode M_A_blockSize.2.1 5 = .ok (.iload_n 2, 1) := by decide +kernel
theorem d_A_blockSize_6 : decode M_A_blockSize.2.1 6 = .ok (.bipush 6, 2) := by decide +kernel
theorem d_A_blockSize_8 : decode M_A_blockSize.2.1 8 = .ok (.if_icmp .ge 43, 3) := by decide +kernel
theorem d_A_blockSize_11 : decode M_A_blockSize.2.1 11 = .ok (.aload_n 0, 1) := by decide +kernel
theorem d_A_blockSize_12 : decode M_A_blockSize.2.1 12 = .ok (.getfield 25, 3) := by decide +kernel
theorem d_A_blockSize_15 : decode M_A_blockSize.2.1 15 = .ok (.iload_n 2, 1) := by decide +kernel
theorem d_A_blockSize_16 : decode M_A_blockSize.2.1 16 = .ok (.laload, 1) := by decide +kernel
theorem d_A_blockSize_17 : decode M_A_blockSize.2.1 17 = .ok (.invokestatic 152, 3) := by decide +kernel
theorem d_A_blockSize_20 : decode M_A_blockSize.2.1 20 = .ok (.istore_n 3, 1) := by decide +kernel
theorem d_A_blockSize_21 : decode M_A_blockSize.2.1 21 = .ok (.iload_n 3, 1) := by decide +kernel
theorem d_A_blockSize_22 : decode M_A_blockSize.2.1 22 = .ok (.ifCond .eq 17, 3) := by decide +kernel
theorem d_A_blockSize_25 : decode M_A_blockSize.2.1 25 = .ok (.iload_n 1, 1) := by decide +kernel
theorem d_A_blockSize_26 : decode M_A_blockSize.2.1 26 = .ok (.bipush (-4), 2) := by decide +kernel
theorem d_A_blockSize_28 : decode M_A_blockSize.2.1 28 = .ok (.if_icmp .eq 11, 3) := by decide +kernel
theorem d_A_blockSize_31 : decode M_A_blockSize.2.1 31 = .ok (.iload_n 3, 1) := by decide +kernel
theorem d_A_blockSize_32 : decode M_A_blockSize.2.1 32 = .ok (.iload_n 1, 1) := by decide +kernel
theorem d_A_blockSize_33 : decode M_A_blockSize.2.1 33 = .ok (.if_icmp .eq 6, 3) := by decide +kernel
theorem d_A_blockSize_36 : decode M_A_blockSize.2.1 36 = .ok (.bipush (-4), 2) := by decide +kernel
theorem d_A_blockSize_38 : decode M_A_blockSize.2.1 38 = .ok (.ireturn, 1) := by decide +kernel
theorem d_A_blockSize_39 : decode M_A_blockSize.2.1 39 = .ok (.iload_n 3, 1) := by decide +kernel
theorem d_A_blockSize_40 : decode M_A_blockSize.2.1 40 = .ok (.ifCond .eq 5, 3) := by decide +kernel
theorem d_A_blockSize_43 : decode M_A_blockSize.2.1 43 = .ok (.iload_n 3, 1) := by decide +kernel
theorem d_A_blockSize_44 : decode M_A_blockSize.2.1 44 = .ok (.istore_n 1, 1) := by decide +kernel
theorem d_A_blockSize_45 : decode M_A_blockSize.2.1 45 = .ok (.iinc 2 1, 3) := by decide +kernel
theorem d_A_blockSize_48 : decode M_A_blockSize.2.1 48 = .ok (.goto (-43), 3) := by decide +kernel
theorem d_A_blockSize_51 : decode M_A_blockSize.2.1 51 = .ok (.iload_n 1, 1) := by decide +kernel
theorem d_A_blockSize_52 : decode M_A_blockSize.2.1 52 = .ok (.ireturn, 1) := by decide +kernel
theorem d_A_candidates_0 : decode M_A_candidates.2.1 0 = .ok (.aload_n 0, 1) := by decide +kernel
theorem d_A_candidates_1 : decode M_A_candidates.2.1 1 = .ok (.getfield 73, 3) := by decide +kernel
theorem d_A_candidates_4 : decode M_A_candidates.2.1 4 = .ok (.getfield 302, 3) := by decide +kernel
theorem d_A_candidates_7 : decode M_A_candidates.2.1 7 = .ok (.ireturn, 1) := by decide +kernel
theorem d_G_times_0 : decode M_G_times.2.1 0 = .ok (.iconst 0, 1) := by decide +kernel
theorem d_G_times_1 : decode M_G_times.2.1 1 = .ok (.istore_n 3, 1) := by decide +kernel
theorem d_G_times_2 : decode M_G_times.2.1 2 = .ok (.iload_n 1, 1) := by decide +kernel
theorem d_G_times_3 : decode M_G_times.2.1 3 = .ok (.istore 4, 2) := by decide +kernel
theorem d_G_times_5 : decode M_G_times.2.1 5 = .ok (.iload_n 2, 1) := by decide +kernel
theorem d_G_times_6 : decode M_G_times.2.1 6 = .ok (.istore 5, 2) := by decide +kernel
theorem d_G_times_8 : decode M_G_times.2.1 8 = .ok (.iload 5, 2) := by decide +kernel
theorem d_G_times_10 : decode M_G_times.2.1 10 = .ok (.ifCond .le 37, 3) := by decide +kernel
theorem d_G_times_13 : decode M_G_times.2.1 13 = .ok (.iload 5, 2) := by decide +kernel
theorem d_G_times_15 : decode M_G_times.2.1 15 = .ok (.iconst 1, 1) := by decide +kernel
theorem d_G_times_16 : decode M_G_times.2.1 16 = .ok (.iand, 1) := by decide +kernel
theorem d_G_times_17 : decode M_G_times.2.1 17 = .ok (.ifCond .eq 11, 3) := by decide +kernel
theorem d_G_times_20 : decode M_G_times.2.1 20 = .ok (.aload_n 0, 1) := by decide +kernel
theorem d_G_times_21 : decode M_G_times.2.1 21 = .ok (.iload_n 3, 1) := by decide +kernel
theorem d_G_times_22 : decode M_G_times.2.1 22 = .ok (.iload 4, 2) := by decide +kernel
theorem d_G_times_24 : decode M_G_times.2.1 24 = .ok (.invokevirtual 54, 3) := by decide +kernel
theorem d_G_times_27 : decode M_G_times.2.1 27 = .ok (.istore_n 3, 1) := by decide +kernel
theorem d_G_times_28 : decode M_G_times.2.1 28 = .ok (.aload_n 0, 1) := by decide +kernel
theorem d_G_times_29 : decode M_G_times.2.1 29 = .ok (.iload 4, 2) := by decide +kernel
theorem d_G_times_31 : decode M_G_times.2.1 31 = .ok (.iload 4, 2) := by decide +kernel
theorem d_G_times_33 : decode M_G_times.2.1 33 = .ok (.invokevirtual 54, 3) := by decide +kernel
theorem d_G_times_36 : decode M_G_times.2.1 36 = .ok (.istore 4, 2) := by decide +kernel
theorem d_G_times_38 : decode M_G_times.2.1 38 = .ok (.iload 5, 2) := by decide +kernel
theorem d_G_times_40 : decode M_G_times.2.1 40 = .ok (.iconst 1, 1) := by decide +kernel
theorem d_G_times_41 : decode M_G_times.2.1 41 = .ok (.ishr, 1) := by decide +kernel
theorem d_G_times_42 : decode M_G_times.2.1 42 = .ok (.istore 5, 2) := by decide +kernel
theorem d_G_times_44 : decode M_G_times.2.1 44 = .ok (.goto (-36), 3) := by decide +kernel
theorem d_G_times_47 : decode M_G_times.2.1 47 = .ok (.iload_n 3, 1) := by decide +kernel
theorem d_G_times_48 : decode M_G_times.2.1 48 = .ok (.ireturn, 1) := by decide +kernel
theorem d_G_fillMultiples_0 : decode M_G_fillMultiples.2.1 0 = .ok (.iconst 0, 1) := by decide +kernel
theorem d_G_fillMultiples_1 : decode M_G_fillMultiples.2.1 1 = .ok (.istore_n 3, 1) := by decide +kernel
theorem d_G_fillMultiples_2 : decode M_G_fillMultiples.2.1 2 = .ok (.iload_n 3, 1) := by decide +kernel
theorem d_G_fillMultiples_3 : decode M_G_fillMultiples.2.1 3 = .ok (.aload_n 0, 1) := by decide +kernel
theorem d_G_fillMultiples_4 : decode M_G_fillMultiples.2.1 4 = .ok (.getfield 37, 3) := by decide +kernel
theorem d_G_fillMultiples_7 : decode M_G_fillMultiples.2.1 7 = .ok (.if_icmp .ge 18, 3) := by decide +kernel
theorem d_G_fillMultiples_10 : decode M_G_fillMultiples.2.1 10 = .ok (.aload_n 2, 1) := by decide +kernel
theorem d_G_fillMultiples_11 : decode M_G_fillMultiples.2.1 11 = .ok (.iload_n 3, 1) := by decide +kernel
theorem d_G_fillMultiples_12 : decode M_G_fillMultiples.2.1 12 = .ok (.aload_n 0, 1) := by decide +kernel
theorem d_G_fillMultiples_13 : decode M_G_fillMultiples.2.1 13 = .ok (.iload_n 3, 1) := by decide +kernel
theorem d_G_fillMultiples_14 : decode M_G_fillMultiples.2.1 14 = .ok (.iload_n 1, 1) := by decide +kernel
theorem d_G_fillMultiples_15 : decode M_G_fillMultiples.2.1 15 = .ok (.invokevirtual 73, 3) := by decide +kernel
theorem d_G_fillMultiples_18 : decode M_G_fillMultiples.2.1 18 = .ok (.iastore, 1) := by decide +kernel
theorem d_G_fillMultiples_19 : decode M_G_fillMultiples.2.1 19 = .ok (.iinc 3 1, 3) := by decide +kernel
theorem d_G_fillMultiples_22 : decode M_G_fillMultiples.2.1 22 = .ok (.goto (-20), 3) := by decide +kernel
theorem d_G_fillMultiples_25 : decode M_G_fillMultiples.2.1 25 = .ok (.return_, 1) := by decide +kernel
theorem d_G_onward_0 : decode M_G_onward.2.1 0 = .ok (.lload_n 1, 1) := by decide +kernel
theorem d_G_onward_1 : decode M_G_onward.2.1 1 = .ok (.aload_n 0, 1) := by decide +kernel
theorem d_G_onward_2 : decode M_G_onward.2.1 2 = .ok (.getfield 44, 3) := by decide +kernel
theorem d_G_onward_5 : decode M_G_onward.2.1 5 = .ok (.ldc2_w 80, 3) := by decide +kernel
theorem d_G_onward_8 : decode M_G_onward.2.1 8 = .ok (.lxor, 1) := by decide +kernel
theorem d_G_onward_9 : decode M_G_onward.2.1 9 = .ok (.land, 1) := by decide +kernel
theorem d_G_onward_10 : decode M_G_onward.2.1 10 = .ok (.iconst 1, 1) := by decide +kernel
theorem d_G_onward_11 : decode M_G_onward.2.1 11 = .ok (.lshl, 1) := by decide +kernel
theorem d_G_onward_12 : decode M_G_onward.2.1 12 = .ok (.lload_n 1, 1) := by decide +kernel
theorem d_G_onward_13 : decode M_G_onward.2.1 13 = .ok (.aload_n 0, 1) := by decide +kernel
theorem d_G_onward_14 : decode M_G_onward.2.1 14 = .ok (.getfield 44, 3) := by decide +kernel
theorem d_G_onward_17 : decode M_G_onward.2.1 17 = .ok (.land, 1) := by decide +kernel
theorem d_G_onward_18 : decode M_G_onward.2.1 18 = .ok (.aload_n 0, 1) := by decide +kernel
theorem d_G_onward_19 : decode M_G_onward.2.1 19 = .ok (.getfield 34, 3) := by decide +kernel
theorem d_G_onward_22 : decode M_G_onward.2.1 22 = .ok (.iconst 1, 1) := by decide +kernel
theorem d_G_onward_23 : decode M_G_onward.2.1 23 = .ok (.isub, 1) := by decide +kernel
theorem d_G_onward_24 : decode M_G_onward.2.1 24 = .ok (.lushr, 1) := by decide +kernel
theorem d_G_onward_25 : decode M_G_onward.2.1 25 = .ok (.lor, 1) := by decide +kernel
theorem d_G_onward_26 : decode M_G_onward.2.1 26 = .ok (.lstore 4, 2) := by decide +kernel
theorem d_G_onward_28 : decode M_G_onward.2.1 28 = .ok (.aload_n 0, 1) := by decide +kernel
theorem d_G_onward_29 : decode M_G_onward.2.1 29 = .ok (.getfield 15, 3) := by decide +kernel
theorem d_G_onward_32 : decode M_G_onward.2.1 32 = .ok (.iload_n 3, 1) := by decide +kernel
theorem d_G_onward_33 : decode M_G_onward.2.1 33 = .ok (.iaload, 1) := by decide +kernel
theorem d_G_onward_34 : decode M_G_onward.2.1 34 = .ok (.aload_n 0, 1) := by decide +kernel
theorem d_G_onward_35 : decode M_G_onward.2.1 35 = .ok (.getfield 34, 3) := by decide +kernel
theorem d_G_onward_38 : decode M_G_onward.2.1 38 = .ok (.iconst 1, 1) := by decide +kernel
theorem d_G_onward_39 : decode M_G_onward.2.1 39 = .ok (.isub, 1) := by decide +kernel
theorem d_G_onward_40 : decode M_G_onward.2.1 40 = .ok (.if_icmp .ge 6, 3) := by decide +kernel
theorem d_G_onward_43 : decode M_G_onward.2.1 43 = .ok (.lload 4, 2) := by decide +kernel
theorem d_G_onward_45 : decode M_G_onward.2.1 45 = .ok (.lreturn, 1) := by decide +kernel
theorem d_G_onward_46 : decode M_G_onward.2.1 46 = .ok (.lload 4, 2) := by decide +kernel
theorem d_G_onward_48 : decode M_G_onward.2.1 48 = .ok (.aload_n 0, 1) := by decide +kernel
theorem d_G_onward_49 : decode M_G_onward.2.1 49 = .ok (.getfield 34, 3) := by decide +kernel
theorem d_G_onward_52 : decode M_G_onward.2.1 52 = .ok (.lshl, 1) := by decide +kernel
theorem d_G_onward_53 : decode M_G_onward.2.1 53 = .ok (.lload 4, 2) := by decide +kernel
theorem d_G_onward_55 : decode M_G_onward.2.1 55 = .ok (.aload_n 0, 1) := by decide +kernel
theorem d_G_onward_56 : decode M_G_onward.2.1 56 = .ok (.getfield 37, 3) := by decide +kernel
theorem d_G_onward_59 : decode M_G_onward.2.1 59 = .ok (.aload_n 0, 1) := by decide +kernel
theorem d_G_onward_60 : decode M_G_onward.2.1 60 = .ok (.getfield 34, 3) := by decide +kernel
theorem d_G_onward_63 : decode M_G_onward.2.1 63 = .ok (.isub, 1) := by decide +kernel
theorem d_G_onward_64 : decode M_G_onward.2.1 64 = .ok (.lushr, 1) := by decide +kernel
theorem d_G_onward_65 : decode M_G_onward.2.1 65 = .ok (.lor, 1) := by decide +kernel
theorem d_G_onward_66 : decode M_G_onward.2.1 66 = .ok (.aload_n 0, 1) := by decide +kernel
theorem d_G_onward_67 : decode M_G_onward.2.1 67 = .ok (.getfield 40, 3) := by decide +kernel
theorem d_G_onward_70 : decode M_G_onward.2.1 70 = .ok (.land, 1) := by decide +kernel
theorem d_G_onward_71 : decode M_G_onward.2.1 71 = .ok (.lreturn, 1) := by decide +kernel
theorem d_J_minL_0 : decode M_J_minL.2.1 0 = .ok (.lload_n 0, 1) := by decide +kernel
theorem d_J_minL_1 : decode M_J_minL.2.1 1 = .ok (.lload_n 2, 1) := by decide +kernel
theorem d_J_minL_2 : decode M_J_minL.2.1 2 = .ok (.lcmp, 1) := by decide +kernel
theorem d_J_minL_3 : decode M_J_minL.2.1 3 = .ok (.ifCond .gt 7, 3) := by decide +kernel
theorem d_J_minL_6 : decode M_J_minL.2.1 6 = .ok (.lload_n 0, 1) := by decide +kernel
theorem d_J_minL_7 : decode M_J_minL.2.1 7 = .ok (.goto 4, 3) := by decide +kernel
theorem d_J_minL_10 : decode M_J_minL.2.1 10 = .ok (.lload_n 2, 1) := by decide +kernel
theorem d_J_minL_11 : decode M_J_minL.2.1 11 = .ok (.lreturn, 1) := by decide +kernel
theorem d_G_leastTranslate_0 : decode M_G_leastTranslate.2.1 0 = .ok (.lload_n 1, 1) := by decide +kernel
theorem d_G_leastTranslate_1 : decode M_G_leastTranslate.2.1 1 = .ok (.lstore_n 3, 1) := by decide +kernel
theorem d_G_leastTranslate_2 : decode M_G_leastTranslate.2.1 2 = .ok (.lload_n 1, 1) := by decide +kernel
theorem d_G_leastTranslate_3 : decode M_G_leastTranslate.2.1 3 = .ok (.lstore 5, 2) := by decide +kernel
theorem d_G_leastTranslate_5 : decode M_G_leastTranslate.2.1 5 = .ok (.iconst 0, 1) := by decide +kernel
theorem d_G_leastTranslate_6 : decode M_G_leastTranslate.2.1 6 = .ok (.istore 7, 2) := by decide +kernel
theorem d_G_leastTranslate_8 : decode M_G_leastTranslate.2.1 8 = .ok (.iload 7, 2) := by decide +kernel
theorem d_G_leastTranslate_10 : decode M_G_leastTranslate.2.1 10 = .ok (.aload_n 0, 1) := by decide +kernel
theorem d_G_leastTranslate_11 : decode M_G_leastTranslate.2.1 11 = .ok (.getfield 37, 3) := by decide +kernel
theorem d_G_leastTranslate_14 : decode M_G_leastTranslate.2.1 14 = .ok (.if_icmp .ge 26, 3) := by decide +kernel
theorem d_G_leastTranslate_17 : decode M_G_leastTranslate.2.1 17 = .ok (.aload_n 0, 1) := by decide +kernel
theorem d_G_leastTranslate_18 : decode M_G_leastTranslate.2.1 18 = .ok (.lload 5, 2) := by decide +kernel
theorem d_G_leastTranslate_20 : decode M_G_leastTranslate.2.1 20 = .ok (.iload 7, 2) := by decide +kernel
theorem d_G_leastTranslate_22 : decode M_G_leastTranslate.2.1 22 = .ok (.invokevirtual 82, 3) := by decide +kernel
theorem d_G_leastTranslate_25 : decode M_G_leastTranslate.2.1 25 = .ok (.lstore 5, 2) := by decide +kernel
theorem d_G_leastTranslate_27 : decode M_G_leastTranslate.2.1 27 = .ok (.lload_n 3, 1) := by decide +kernel
theorem d_G_leastTranslate_28 : decode M_G_leastTranslate.2.1 28 = .ok (.lload 5, 2) := by decide +kernel
theorem d_G_leastTranslate_30 : decode M_G_leastTranslate.2.1 30 = .ok (.invokestatic 86, 3) := by decide +kernel
theorem d_G_leastTranslate_33 : decode M_G_leastTranslate.2.1 33 = .ok (.lstore_n 3, 1) := by decide +kernel
theorem d_G_leastTranslate_34 : decode M_G_leastTranslate.2.1 34 = .ok (.iinc 7 1, 3) := by decide +kernel
theorem d_G_leastTranslate_37 : decode M_G_leastTranslate.2.1 37 = .ok (.goto (-29), 3) := by decide +kernel
theorem d_G_leastTranslate_40 : decode M_G_leastTranslate.2.1 40 = .ok (.lload_n 3, 1) := by decide +kernel
theorem d_G_leastTranslate_41 : decode M_G_leastTranslate.2.1 41 = .ok (.lreturn, 1) := by decide +kernel
theorem d_K_insertAscending_0 : decode M_K_insertAscending.2.1 0 = .ok (.iload_n 1, 1) := by decide +kernel
theorem d_K_insertAscending_1 : decode M_K_insertAscending.2.1 1 = .ok (.istore 4, 2) := by decide +kernel
theorem d_K_insertAscending_3 : decode M_K_insertAscending.2.1 3 = .ok (.iload 4, 2) := by decide +kernel
theorem d_K_insertAscending_5 : decode M_K_insertAscending.2.1 5 = .ok (.ifCond .le 30, 3) := by decide +kernel
theorem d_K_insertAscending_8 : decode M_K_insertAscending.2.1 8 = .ok (.aload_n 0, 1) := by decide +kernel
theorem d_K_insertAscending_9 : decode M_K_insertAscending.2.1 9 = .ok (.iload 4, 2) := by decide +kernel
theorem d_K_insertAscending_11 : decode M_K_insertAscending.2.1 11 = .ok (.iconst 1, 1) := by decide +kernel
theorem d_K_insertAscending_12 : decode M_K_insertAscending.2.1 12 = .ok (.isub, 1) := by decide +kernel
theorem d_K_insertAscending_13 : decode M_K_insertAscending.2.1 13 = .ok (.laload, 1) := by decide +kernel
theorem d_K_insertAscending_14 : decode M_K_insertAscending.2.1 14 = .ok (.lload_n 2, 1) := by decide +kernel
theorem d_K_insertAscending_15 : decode M_K_insertAscending.2.1 15 = .ok (.lcmp, 1) := by decide +kernel
theorem d_K_insertAscending_16 : decode M_K_insertAscending.2.1 16 = .ok (.ifCond .le 19, 3) := by decide +kernel
theorem d_K_insertAscending_19 : decode M_K_insertAscending.2.1 19 = .ok (.aload_n 0, 1) := by decide +kernel
theorem d_K_insertAscending_20 : decode M_K_insertAscending.2.1 20 = .ok (.iload 4, 2) := by decide +kernel
theorem d_K_insertAscending_22 : decode M_K_insertAscending.2.1 22 = .ok (.aload_n 0, 1) := by decide +kernel
theorem d_K_insertAscending_23 : decode M_K_insertAscending.2.1 23 = .ok (.iload 4, 2) := by decide +kernel
theorem d_K_insertAscending_25 : decode M_K_insertAscending.2.1 25 = .ok (.iconst 1, 1) := by decide +kernel
theorem d_K_insertAscending_26 : decode M_K_insertAscending.2.1 26 = .ok (.isub, 1) := by decide +kernel
theorem d_K_insertAscending_27 : decode M_K_insertAscending.2.1 27 = .ok (.laload, 1) := by decide +kernel
theorem d_K_insertAscending_28 : decode M_K_insertAscending.2.1 28 = .ok (.lastore, 1) := by decide +kernel
theorem d_K_insertAscending_29 : decode M_K_insertAscending.2.1 29 = .ok (.iinc 4 (-1), 3) := by decide +kernel
theorem d_K_insertAscending_32 : decode M_K_insertAscending.2.1 32 = .ok (.goto (-29), 3) := by decide +kernel
theorem d_K_insertAscending_35 : decode M_K_insertAscending.2.1 35 = .ok (.aload_n 0, 1) := by decide +kernel
theorem d_K_insertAscending_36 : decode M_K_insertAscending.2.1 36 = .ok (.iload 4, 2) := by decide +kernel
theorem d_K_insertAscending_38 : decode M_K_insertAscending.2.1 38 = .ok (.lload_n 2, 1) := by decide +kernel
theorem d_K_insertAscending_39 : decode M_K_insertAscending.2.1 39 = .ok (.lastore, 1) := by decide +kernel
theorem d_K_insertAscending_40 : decode M_K_insertAscending.2.1 40 = .ok (.return_, 1) := by decide +kernel
theorem d_K_listImage_0 : decode M_K_listImage.2.1 0 = .ok (.iconst 0, 1) := by decide +kernel
theorem d_K_listImage_1 : decode M_K_listImage.2.1 1 = .ok (.istore_n 3, 1) := by decide +kernel
theorem d_K_listImage_2 : decode M_K_listImage.2.1 2 = .ok (.iconst 0, 1) := by decide +kernel
theorem d_K_listImage_3 : decode M_K_listImage.2.1 3 = .ok (.istore 4, 2) := by decide +kernel
theorem d_K_listImage_5 : decode M_K_listImage.2.1 5 = .ok (.iload 4, 2) := by decide +kernel
theorem d_K_listImage_7 : decode M_K_listImage.2.1 7 = .ok (.bipush 6, 2) := by decide +kernel
theorem d_K_listImage_9 : decode M_K_listImage.2.1 9 = .ok (.if_icmp .ge 52, 3) := by decide +kernel
theorem d_K_listImage_12 : decode M_K_listImage.2.1 12 = .ok (.aload_n 1, 1) := by decide +kernel
theorem d_K_listImage_13 : decode M_K_listImage.2.1 13 = .ok (.iload 4, 2) := by decide +kernel
theorem d_K_listImage_15 : decode M_K_listImage.2.1 15 = .ok (.laload, 1) := by decide +kernel
theorem d_K_listImage_16 : decode M_K_listImage.2.1 16 = .ok (.lconst 0, 1) := by decide +kernel
theorem d_K_listImage_17 : decode M_K_listImage.2.1 17 = .ok (.lcmp, 1) := by decide +kernel
theorem d_K_listImage_18 : decode M_K_listImage.2.1 18 = .ok (.ifCond .eq 37, 3) := by decide +kernel
theorem d_K_listImage_21 : decode M_K_listImage.2.1 21 = .ok (.aload_n 0, 1) := by decide +kernel
theorem d_K_listImage_22 : decode M_K_listImage.2.1 22 = .ok (.getfield 25, 3) := by decide +kernel
theorem d_K_listImage_25 : decode M_K_listImage.2.1 25 = .ok (.aload_n 0, 1) := by decide +kernel
theorem d_K_listImage_26 : decode M_K_listImage.2.1 26 = .ok (.getfield 25, 3) := by decide +kernel
theorem d_K_listImage_29 : decode M_K_listImage.2.1 29 = .ok (.aload_n 1, 1) := by decide +kernel
theorem d_K_listImage_30 : decode M_K_listImage.2.1 30 = .ok (.iload 4, 2) := by decide +kernel
theorem d_K_listImage_32 : decode M_K_listImage.2.1 32 = .ok (.laload, 1) := by decide +kernel
theorem d_K_listImage_33 : decode M_K_listImage.2.1 33 = .ok (.aload_n 0, 1) := by decide +kernel
theorem d_K_listImage_34 : decode M_K_listImage.2.1 34 = .ok (.getfield 9, 3) := by decide +kernel
theorem d_K_listImage_37 : decode M_K_listImage.2.1 37 = .ok (.invokevirtual 42, 3) := by decide +kernel
theorem d_K_listImage_40 : decode M_K_listImage.2.1 40 = .ok (.invokevirtual 78, 3) := by decide +kernel
theorem d_K_listImage_43 : decode M_K_listImage.2.1 43 = .ok (.lstore 5, 2) := by decide +kernel
theorem d_K_listImage_45 : decode M_K_listImage.2.1 45 = .ok (.aload_n 2, 1) := by decide +kernel
theorem d_K_listImage_46 : decode M_K_listImage.2.1 46 = .ok (.iload_n 3, 1) := by decide +kernel
theorem d_K_listImage_47 : decode M_K_listImage.2.1 47 = .ok (.lload 5, 2) := by decide +kernel
theorem d_K_listImage_49 : decode M_K_listImage.2.1 49 = .ok (.invokestatic 82, 3) := by decide +kernel
theorem d_K_listImage_52 : decode M_K_listImage.2.1 52 = .ok (.iinc 3 1, 3) := by decide +kernel
theorem d_K_listImage_55 : decode M_K_listImage.2.1 55 = .ok (.iinc 4 1, 3) := by decide +kernel
theorem d_K_listImage_58 : decode M_K_listImage.2.1 58 = .ok (.goto (-53), 3) := by decide +kernel
theorem d_K_listImage_61 : decode M_K_listImage.2.1 61 = .ok (.iload_n 3, 1) := by decide +kernel
theorem d_K_listImage_62 : decode M_K_listImage.2.1 62 = .ok (.ireturn, 1) := by decide +kernel
theorem d_K_listSame_0 : decode M_K_listSame.2.1 0 = .ok (.aload_n 0, 1) := by decide +kernel
theorem d_K_listSame_1 : decode M_K_listSame.2.1 1 = .ok (.getfield 25, 3) := by decide +kernel
theorem d_K_listSame_4 : decode M_K_listSame.2.1 4 = .ok (.iconst 1, 1) := by decide +kernel
theorem d_K_listSame_5 : decode M_K_listSame.2.1 5 = .ok (.aload_n 0, 1) := by decide +kernel
theorem d_K_listSame_6 : decode M_K_listSame.2.1 6 = .ok (.getfield 9, 3) := by decide +kernel
theorem d_K_listSame_9 : decode M_K_listSame.2.1 9 = .ok (.invokevirtual 39, 3) := by decide +kernel
theorem d_K_listSame_12 : decode M_K_listSame.2.1 12 = .ok (.aload_n 0, 1) := by decide +kernel
theorem d_K_listSame_13 : decode M_K_listSame.2.1 13 = .ok (.aload_n 1, 1) := by decide +kernel
theorem d_K_listSame_14 : decode M_K_listSame.2.1 14 = .ok (.aload_n 2, 1) := by decide +kernel
theorem d_K_listSame_15 : decode M_K_listSame.2.1 15 = .ok (.invokevirtual 62, 3) := by decide +kernel
theorem d_K_listSame_18 : decode M_K_listSame.2.1 18 = .ok (.ireturn, 1) := by decide +kernel
theorem d_J_compare_0 : decode M_J_compare.2.1 0 = .ok (.lload_n 0, 1) := by decide +kernel
theorem d_J_compare_1 : decode M_J_compare.2.1 1 = .ok (.lload_n 2, 1) := by decide +kernel
theorem d_J_compare_2 : decode M_J_compare.2.1 2 = .ok (.lcmp, 1) := by decide +kernel
theorem d_J_compare_3 : decode M_J_compare.2.1 3 = .ok (.ifCond .ge 7, 3) := by decide +kernel
theorem d_J_compare_6 : decode M_J_compare.2.1 6 = .ok (.iconst (-1), 1) := by decide +kernel
theorem d_J_compare_7 : decode M_J_compare.2.1 7 = .ok (.goto 14, 3) := by decide +kernel
theorem d_J_compare_10 : decode M_J_compare.2.1 10 = .ok (.lload_n 0, 1) := by decide +kernel
theorem d_J_compare_11 : decode M_J_compare.2.1 11 = .ok (.lload_n 2, 1) := by decide +kernel
theorem d_J_compare_12 : decode M_J_compare.2.1 12 = .ok (.lcmp, 1) := by decide +kernel
theorem d_J_compare_13 : decode M_J_compare.2.1 13 = .ok (.ifCond .ne 7, 3) := by decide +kernel
theorem d_J_compare_16 : decode M_J_compare.2.1 16 = .ok (.iconst 0, 1) := by decide +kernel
theorem d_J_compare_17 : decode M_J_compare.2.1 17 = .ok (.goto 4, 3) := by decide +kernel
theorem d_J_compare_20 : decode M_J_compare.2.1 20 = .ok (.iconst 1, 1) := by decide +kernel
theorem d_J_compare_21 : decode M_J_compare.2.1 21 = .ok (.ireturn, 1) := by decide +kernel
theorem d_K_compareLists_0 : decode M_K_compareLists.2.1 0 = .ok (.iconst 0, 1) := by decide +kernel
theorem d_K_compareLists_1 : decode M_K_compareLists.2.1 1 = .ok (.istore_n 3, 1) := by decide +kernel
theorem d_K_compareLists_2 : decode M_K_compareLists.2.1 2 = .ok (.iload_n 3, 1) := by decide +kernel
theorem d_K_compareLists_3 : decode M_K_compareLists.2.1 3 = .ok (.iload_n 2, 1) := by decide +kernel
theorem d_K_compareLists_4 : decode M_K_compareLists.2.1 4 = .ok (.if_icmp .ge 29, 3) := by decide +kernel
theorem d_K_compareLists_7 : decode M_K_compareLists.2.1 7 = .ok (.aload_n 0, 1) := by decide +kernel
theorem d_K_compareLists_8 : decode M_K_compareLists.2.1 8 = .ok (.iload_n 3, 1) := by decide +kernel
theorem d_K_compareLists_9 : decode M_K_compareLists.2.1 9 = .ok (.laload, 1) := by decide +kernel
theorem d_K_compareLists_10 : decode M_K_compareLists.2.1 10 = .ok (.aload_n 1, 1) := by decide +kernel
theorem d_K_compareLists_11 : decode M_K_compareLists.2.1 11 = .ok (.iload_n 3, 1) := by decide +kernel
theorem d_K_compareLists_12 : decode M_K_compareLists.2.1 12 = .ok (.laload, 1) := by decide +kernel
theorem d_K_compareLists_13 : decode M_K_compareLists.2.1 13 = .ok (.lcmp, 1) := by decide +kernel
theorem d_K_compareLists_14 : decode M_K_compareLists.2.1 14 = .ok (.ifCond .eq 13, 3) := by decide +kernel
theorem d_K_compareLists_17 : decode M_K_compareLists.2.1 17 = .ok (.aload_n 0, 1) := by decide +kernel
theorem d_K_compareLists_18 : decode M_K_compareLists.2.1 18 = .ok (.iload_n 3, 1) := by decide +kernel
theorem d_K_compareLists_19 : decode M_K_compareLists.2.1 19 = .ok (.laload, 1) := by decide +kernel
theorem d_K_compareLists_20 : decode M_K_compareLists.2.1 20 = .ok (.aload_n 1, 1) := by decide +kernel
theorem d_K_compareLists_21 : decode M_K_compareLists.2.1 21 = .ok (.iload_n 3, 1) := by decide +kernel
theorem d_K_compareLists_22 : decode M_K_compareLists.2.1 22 = .ok (.laload, 1) := by decide +kernel
theorem d_K_compareLists_23 : decode M_K_compareLists.2.1 23 = .ok (.invokestatic 86, 3) := by decide +kernel
theorem d_K_compareLists_26 : decode M_K_compareLists.2.1 26 = .ok (.ireturn, 1) := by decide +kernel
theorem d_K_compareLists_27 : decode M_K_compareLists.2.1 27 = .ok (.iinc 3 1, 3) := by decide +kernel
theorem d_K_compareLists_30 : decode M_K_compareLists.2.1 30 = .ok (.goto (-28), 3) := by decide +kernel
theorem d_K_compareLists_33 : decode M_K_compareLists.2.1 33 = .ok (.iconst 0, 1) := by decide +kernel
theorem d_K_compareLists_34 : decode M_K_compareLists.2.1 34 = .ok (.ireturn, 1) := by decide +kernel
theorem d_K_findLeast_0 : decode M_K_findLeast.2.1 0 = .ok (.aload_n 0, 1) := by decide +kernel
theorem d_K_findLeast_1 : decode M_K_findLeast.2.1 1 = .ok (.aload_n 1, 1) := by decide +kernel
theorem d_K_findLeast_2 : decode M_K_findLeast.2.1 2 = .ok (.aload_n 0, 1) := by decide +kernel
theorem d_K_findLeast_3 : decode M_K_findLeast.2.1 3 = .ok (.getfield 22, 3) := by decide +kernel
theorem d_K_findLeast_6 : decode M_K_findLeast.2.1 6 = .ok (.invokevirtual 46, 3) := by decide +kernel
theorem d_K_findLeast_9 : decode M_K_findLeast.2.1 9 = .ok (.istore_n 2, 1) := by decide +kernel
theorem d_K_findLeast_10 : decode M_K_findLeast.2.1 10 = .ok (.iconst 0, 1) := by decide +kernel
theorem d_K_findLeast_11 : decode M_K_findLeast.2.1 11 = .ok (.istore_n 3, 1) := by decide +kernel
theorem d_K_findLeast_12 : decode M_K_findLeast.2.1 12 = .ok (.iload_n 3, 1) := by decide +kernel
theorem d_K_findLeast_13 : decode M_K_findLeast.2.1 13 = .ok (.aload_n 0, 1) := by decide +kernel
theorem d_K_findLeast_14 : decode M_K_findLeast.2.1 14 = .ok (.getfield 25, 3) := by decide +kernel
theorem d_K_findLeast_17 : decode M_K_findLeast.2.1 17 = .ok (.getfield 69, 3) := by decide +kernel
theorem d_K_findLeast_20 : decode M_K_findLeast.2.1 20 = .ok (.if_icmp .ge 61, 3) := by decide +kernel
theorem d_K_findLeast_23 : decode M_K_findLeast.2.1 23 = .ok (.aload_n 0, 1) := by decide +kernel
theorem d_K_findLeast_24 : decode M_K_findLeast.2.1 24 = .ok (.getfield 25, 3) := by decide +kernel
theorem d_K_findLeast_27 : decode M_K_findLeast.2.1 27 = .ok (.iload_n 3, 1) := by decide +kernel
theorem d_K_findLeast_28 : decode M_K_findLeast.2.1 28 = .ok (.aload_n 0, 1) := by decide +kernel
theorem d_K_findLeast_29 : decode M_K_findLeast.2.1 29 = .ok (.getfield 9, 3) := by decide +kernel
theorem d_K_findLeast_32 : decode M_K_findLeast.2.1 32 = .ok (.invokevirtual 29, 3) := by decide +kernel
theorem d_K_findLeast_35 : decode M_K_findLeast.2.1 35 = .ok (.aload_n 0, 1) := by decide +kernel
theorem d_K_findLeast_36 : decode M_K_findLeast.2.1 36 = .ok (.aload_n 1, 1) := by decide +kernel
theorem d_K_findLeast_37 : decode M_K_findLeast.2.1 37 = .ok (.aload_n 0, 1) := by decide +kernel
theorem d_K_findLeast_38 : decode M_K_findLeast.2.1 38 = .ok (.getfield 19, 3) := by decide +kernel
theorem d_K_findLeast_41 : decode M_K_findLeast.2.1 41 = .ok (.invokevirtual 62, 3) := by decide +kernel
theorem d_K_findLeast_44 : decode M_K_findLeast.2.1 44 = .ok (.pop, 1) := by decide +kernel
theorem d_K_findLeast_45 : decode M_K_findLeast.2.1 45 = .ok (.aload_n 0, 1) := by decide +kernel
theorem d_K_findLeast_46 : decode M_K_findLeast.2.1 46 = .ok (.getfield 19, 3) := by decide +kernel
theorem d_K_findLeast_49 : decode M_K_findLeast.2.1 49 = .ok (.aload_n 0, 1) := by decide +kernel
theorem d_K_findLeast_50 : decode M_K_findLeast.2.1 50 = .ok (.getfield 22, 3) := by decide +kernel
theorem d_K_findLeast_53 : decode M_K_findLeast.2.1 53 = .ok (.iload_n 2, 1) := by decide +kernel
theorem d_K_findLeast_54 : decode M_K_findLeast.2.1 54 = .ok (.invokestatic 65, 3) := by decide +kernel
theorem d_K_findLeast_57 : decode M_K_findLeast.2.1 57 = .ok (.ifCond .ge 18, 3) := by decide +kernel
theorem d_K_findLeast_60 : decode M_K_findLeast.2.1 60 = .ok (.aload_n 0, 1) := by decide +kernel
theorem d_K_findLeast_61 : decode M_K_findLeast.2.1 61 = .ok (.getfield 19, 3) := by decide +kernel
theorem d_K_findLeast_64 : decode M_K_findLeast.2.1 64 = .ok (.iconst 0, 1) := by decide +kernel
theorem d_K_findLeast_65 : decode M_K_findLeast.2.1 65 = .ok (.aload_n 0, 1) := by decide +kernel
theorem d_K_findLeast_66 : decode M_K_findLeast.2.1 66 = .ok (.getfield 22, 3) := by decide +kernel
theorem d_K_findLeast_69 : decode M_K_findLeast.2.1 69 = .ok (.iconst 0, 1) := by decide +kernel
theorem d_K_findLeast_70 : decode M_K_findLeast.2.1 70 = .ok (.bipush 6, 2) := by decide +kernel
theorem d_K_findLeast_72 : decode M_K_findLeast.2.1 72 = .ok (.invokestatic 72, 3) := by decide +kernel
theorem d_K_findLeast_75 : decode M_K_findLeast.2.1 75 = .ok (.iinc 3 1, 3) := by decide +kernel
theorem d_K_findLeast_78 : decode M_K_findLeast.2.1 78 = .ok (.goto (-66), 3) := by decide +kernel
theorem d_K_findLeast_81 : decode M_K_findLeast.2.1 81 = .ok (.iload_n 2, 1) := by decide +kernel
theorem d_K_findLeast_82 : decode M_K_findLeast.2.1 82 = .ok (.ireturn, 1) := by decide +kernel
theorem d_A_canonical_0 : decode M_A_canonical.2.1 0 = .ok (.iload_n 1, 1) := by decide +kernel
theorem d_A_canonical_1 : decode M_A_canonical.2.1 1 = .ok (.ifCond .ge 7, 3) := by decide +kernel
theorem d_A_canonical_4 : decode M_A_canonical.2.1 4 = .ok (.ldc2_w 169, 3) := by decide +kernel
theorem d_A_canonical_7 : decode M_A_canonical.2.1 7 = .ok (.lreturn, 1) := by decide +kernel
theorem d_A_canonical_8 : decode M_A_canonical.2.1 8 = .ok (.aload_n 0, 1) := by decide +kernel
theorem d_A_canonical_9 : decode M_A_canonical.2.1 9 = .ok (.getfield 52, 3) := by decide +kernel
theorem d_A_canonical_12 : decode M_A_canonical.2.1 12 = .ok (.aload_n 0, 1) := by decide +kernel
theorem d_A_canonical_13 : decode M_A_canonical.2.1 13 = .ok (.getfield 25, 3) := by decide +kernel
theorem d_A_canonical_16 : decode M_A_canonical.2.1 16 = .ok (.invokevirtual 245, 3) := by decide +kernel
theorem d_A_canonical_19 : decode M_A_canonical.2.1 19 = .ok (.istore_n 2, 1) := by decide +kernel
theorem d_A_canonical_20 : decode M_A_canonical.2.1 20 = .ok (.iload_n 1, 1) := by decide +kernel
theorem d_A_canonical_21 : decode M_A_canonical.2.1 21 = .ok (.iload_n 2, 1) := by decide +kernel
theorem d_A_canonical_22 : decode M_A_canonical.2.1 22 = .ok (.if_icmp .ge 15, 3) := by decide +kernel
theorem d_A_canonical_25 : decode M_A_canonical.2.1 25 = .ok (.aload_n 0, 1) := by decide +kernel
theorem d_A_canonical_26 : decode M_A_canonical.2.1 26 = .ok (.getfield 52, 3) := by decide +kernel
theorem d_A_canonical_29 : decode M_A_canonical.2.1 29 = .ok (.getfield 248, 3) := by decide +kernel
theorem d_A_canonical_32 : decode M_A_canonical.2.1 32 = .ok (.iload_n 1, 1) := by decide +kernel
theorem d_A_canonical_33 : decode M_A_canonical.2.1 33 = .ok (.laload, 1) := by decide +kernel
theorem d_A_canonical_34 : decode M_A_canonical.2.1 34 = .ok (.goto 6, 3) := by decide +kernel
theorem d_A_canonical_37 : decode M_A_canonical.2.1 37 = .ok (.ldc2_w 211, 3) := by decide +kernel
theorem d_A_canonical_40 : decode M_A_canonical.2.1 40 = .ok (.lreturn, 1) := by decide +kernel
theorem d_A_order_0 : decode M_A_order.2.1 0 = .ok (.aload_n 0, 1) := by decide +kernel
theorem d_A_order_1 : decode M_A_order.2.1 1 = .ok (.getfield 19, 3) := by decide +kernel
theorem d_A_order_4 : decode M_A_order.2.1 4 = .ok (.getfield 102, 3) := by decide +kernel
theorem d_A_order_7 : decode M_A_order.2.1 7 = .ok (.ireturn, 1) := by decide +kernel
theorem d_A_hole_0 : decode M_A_hole.2.1 0 = .ok (.aload_n 0, 1) := by decide +kernel
theorem d_A_hole_1 : decode M_A_hole.2.1 1 = .ok (.getfield 94, 3) := by decide +kernel
theorem d_A_hole_4 : decode M_A_hole.2.1 4 = .ok (.lreturn, 1) := by decide +kernel
theorem d_J_fillI_0 : decode M_J_fillI.2.1 0 = .ok (.iconst 0, 1) := by decide +kernel
theorem d_J_fillI_1 : decode M_J_fillI.2.1 1 = .ok (.istore_n 2, 1) := by decide +kernel
theorem d_J_fillI_2 : decode M_J_fillI.2.1 2 = .ok (.aload_n 0, 1) := by decide +kernel
theorem d_J_fillI_3 : decode M_J_fillI.2.1 3 = .ok (.arraylength, 1) := by decide +kernel
theorem d_J_fillI_4 : decode M_J_fillI.2.1 4 = .ok (.istore_n 3, 1) := by decide +kernel
theorem d_J_fillI_5 : decode M_J_fillI.2.1 5 = .ok (.iload_n 2, 1) := by decide +kernel
theorem d_J_fillI_6 : decode M_J_fillI.2.1 6 = .ok (.iload_n 3, 1) := by decide +kernel
theorem d_J_fillI_7 : decode M_J_fillI.2.1 7 = .ok (.if_icmp .ge 13, 3) := by decide +kernel
theorem d_J_fillI_10 : decode M_J_fillI.2.1 10 = .ok (.aload_n 0, 1) := by decide +kernel
theorem d_J_fillI_11 : decode M_J_fillI.2.1 11 = .ok (.iload_n 2, 1) := by decide +kernel
theorem d_J_fillI_12 : decode M_J_fillI.2.1 12 = .ok (.iload_n 1, 1) := by decide +kernel
theorem d_J_fillI_13 : decode M_J_fillI.2.1 13 = .ok (.iastore, 1) := by decide +kernel
theorem d_J_fillI_14 : decode M_J_fillI.2.1 14 = .ok (.iinc 2 1, 3) := by decide +kernel
theorem d_J_fillI_17 : decode M_J_fillI.2.1 17 = .ok (.goto (-12), 3) := by decide +kernel
theorem d_J_fillI_20 : decode M_J_fillI.2.1 20 = .ok (.return_, 1) := by decide +kernel
theorem d_F_addCounts_0 : decode M_F_addCounts.2.1 0 = .ok (.lload_n 1, 1) := by decide +kernel
theorem d_F_addCounts_1 : decode M_F_addCounts.2.1 1 = .ok (.lstore 4, 2) := by decide +kernel
theorem d_F_addCounts_3 : decode M_F_addCounts.2.1 3 = .ok (.iconst 1, 1) := by decide +kernel
theorem d_F_addCounts_4 : decode M_F_addCounts.2.1 4 = .ok (.istore 6, 2) := by decide +kernel
theorem d_F_addCounts_6 : decode M_F_addCounts.2.1 6 = .ok (.iload 6, 2) := by decide +kernel
theorem d_F_addCounts_8 : decode M_F_addCounts.2.1 8 = .ok (.aload_n 0, 1) := by decide +kernel
theorem d_F_addCounts_9 : decode M_F_addCounts.2.1 9 = .ok (.getfield 15, 3) := by decide +kernel
theorem d_F_addCounts_12 : decode M_F_addCounts.2.1 12 = .ok (.getfield 29, 3) := by decide +kernel
theorem d_F_addCounts_15 : decode M_F_addCounts.2.1 15 = .ok (.if_icmp .ge 43, 3) := by decide +kernel
theorem d_F_addCounts_18 : decode M_F_addCounts.2.1 18 = .ok (.aload_n 0, 1) := by decide +kernel
theorem d_F_addCounts_19 : decode M_F_addCounts.2.1 19 = .ok (.getfield 15, 3) := by decide +kernel
theorem d_F_addCounts_22 : decode M_F_addCounts.2.1 22 = .ok (.lload 4, 2) := by decide +kernel
theorem d_F_addCounts_24 : decode M_F_addCounts.2.1 24 = .ok (.iload 6, 2) := by decide +kernel
theorem d_F_addCounts_26 : decode M_F_addCounts.2.1 26 = .ok (.iconst 1, 1) := by decide +kernel
theorem d_F_addCounts_27 : decode M_F_addCounts.2.1 27 = .ok (.isub, 1) := by decide +kernel
theorem d_F_addCounts_28 : decode M_F_addCounts.2.1 28 = .ok (.invokevirtual 35, 3) := by decide +kernel
theorem d_F_addCounts_31 : decode M_F_addCounts.2.1 31 = .ok (.lstore 4, 2) := by decide +kernel
theorem d_F_addCounts_33 : decode M_F_addCounts.2.1 33 = .ok (.aload_n 0, 1) := by decide +kernel
theorem d_F_addCounts_34 : decode M_F_addCounts.2.1 34 = .ok (.getfield 9, 3) := by decide +kernel
theorem d_F_addCounts_37 : decode M_F_addCounts.2.1 37 = .ok (.iload 6, 2) := by decide +kernel
theorem d_F_addCounts_39 : decode M_F_addCounts.2.1 39 = .ok (.dup2, 1) := by decide +kernel
theorem d_F_addCounts_40 : decode M_F_addCounts.2.1 40 = .ok (.iaload, 1) := by decide +kernel
theorem d_F_addCounts_41 : decode M_F_addCounts.2.1 41 = .ok (.iload_n 3, 1) := by decide +kernel
theorem d_F_addCounts_42 : decode M_F_addCounts.2.1 42 = .ok (.lload_n 1, 1) := by decide +kernel
theorem d_F_addCounts_43 : decode M_F_addCounts.2.1 43 = .ok (.lload 4, 2) := by decide +kernel
theorem d_F_addCounts_45 : decode M_F_addCounts.2.1 45 = .ok (.land, 1) := by decide +kernel
theorem d_F_addCounts_46 : decode M_F_addCounts.2.1 46 = .ok (.invokestatic 39, 3) := by decide +kernel
theorem d_F_addCounts_49 : decode M_F_addCounts.2.1 49 = .ok (.imul, 1) := by decide +kernel
theorem d_F_addCounts_50 : decode M_F_addCounts.2.1 50 = .ok (.iadd, 1) := by decide +kernel
theorem d_F_addCounts_51 : decode M_F_addCounts.2.1 51 = .ok (.iastore, 1) := by decide +kernel
theorem d_F_addCounts_52 : decode M_F_addCounts.2.1 52 = .ok (.iinc 6 1, 3) := by decide +kernel
theorem d_F_addCounts_55 : decode M_F_addCounts.2.1 55 = .ok (.goto (-49), 3) := by decide +kernel
theorem d_F_addCounts_58 : decode M_F_addCounts.2.1 58 = .ok (.return_, 1) := by decide +kernel
theorem d_F_tally_0 : decode M_F_tally.2.1 0 = .ok (.aload_n 0, 1) := by decide +kernel
theorem d_F_tally_1 : decode M_F_tally.2.1 1 = .ok (.getfield 9, 3) := by decide +kernel
theorem d_F_tally_4 : decode M_F_tally.2.1 4 = .ok (.iconst 0, 1) := by decide +kernel
theorem d_F_tally_5 : decode M_F_tally.2.1 5 = .ok (.invokestatic 19, 3) := by decide +kernel
theorem d_F_tally_8 : decode M_F_tally.2.1 8 = .ok (.iconst 0, 1) := by decide +kernel
theorem d_F_tally_9 : decode M_F_tally.2.1 9 = .ok (.istore_n 2, 1) := by decide +kernel
theorem d_F_tally_10 : decode M_F_tally.2.1 10 = .ok (.iload_n 2, 1) := by decide +kernel
theorem d_F_tally_11 : decode M_F_tally.2.1 11 = .ok (.bipush 6, 2) := by decide +kernel
theorem d_F_tally_13 : decode M_F_tally.2.1 13 = .ok (.if_icmp .ge 17, 3) := by decide +kernel
theorem d_F_tally_16 : decode M_F_tally.2.1 16 = .ok (.aload_n 0, 1) := by decide +kernel
theorem d_F_tally_17 : decode M_F_tally.2.1 17 = .ok (.aload_n 1, 1) := by decide +kernel
theorem d_F_tally_18 : decode M_F_tally.2.1 18 = .ok (.iload_n 2, 1) := by decide +kernel
theorem d_F_tally_19 : decode M_F_tally.2.1 19 = .ok (.laload, 1) := by decide +kernel
theorem d_F_tally_20 : decode M_F_tally.2.1 20 = .ok (.iconst 1, 1) := by decide +kernel
theorem d_F_tally_21 : decode M_F_tally.2.1 21 = .ok (.invokevirtual 25, 3) := by decide +kernel
theorem d_F_tally_24 : decode M_F_tally.2.1 24 = .ok (.iinc 2 1, 3) := by decide +kernel
theorem d_F_tally_27 : decode M_F_tally.2.1 27 = .ok (.goto (-17), 3) := by decide +kernel
theorem d_F_tally_30 : decode M_F_tally.2.1 30 = .ok (.return_, 1) := by decide +kernel
theorem d_G_isCoprime_0 : decode M_G_isCoprime.2.1 0 = .ok (.iconst 2, 1) := by decide +kernel
theorem d_G_isCoprime_1 : decode M_G_isCoprime.2.1 1 = .ok (.istore_n 2, 1) := by decide +kernel
theorem d_G_isCoprime_2 : decode M_G_isCoprime.2.1 2 = .ok (.iload_n 2, 1) := by decide +kernel
theorem d_G_isCoprime_3 : decode M_G_isCoprime.2.1 3 = .ok (.aload_n 0, 1) := by decide +kernel
theorem d_G_isCoprime_4 : decode M_G_isCoprime.2.1 4 = .ok (.getfield 37, 3) := by decide +kernel
theorem d_G_isCoprime_7 : decode M_G_isCoprime.2.1 7 = .ok (.if_icmp .gt 26, 3) := by decide +kernel
theorem d_G_isCoprime_10 : decode M_G_isCoprime.2.1 10 = .ok (.iload_n 1, 1) := by decide +kernel
theorem d_G_isCoprime_11 : decode M_G_isCoprime.2.1 11 = .ok (.iload_n 2, 1) := by decide +kernel
theorem d_G_isCoprime_12 : decode M_G_isCoprime.2.1 12 = .ok (.irem, 1) := by decide +kernel
theorem d_G_isCoprime_13 : decode M_G_isCoprime.2.1 13 = .ok (.ifCond .ne 14, 3) := by decide +kernel
theorem d_G_isCoprime_16 : decode M_G_isCoprime.2.1 16 = .ok (.aload_n 0, 1) := by decide +kernel
theorem d_G_isCoprime_17 : decode M_G_isCoprime.2.1 17 = .ok (.getfield 37, 3) := by decide +kernel
theorem d_G_isCoprime_20 : decode M_G_isCoprime.2.1 20 = .ok (.iload_n 2, 1) := by decide +kernel
theorem d_G_isCoprime_21 : decode M_G_isCoprime.2.1 21 = .ok (.irem, 1) := by decide +kernel
theorem d_G_isCoprime_22 : decode M_G_isCoprime.2.1 22 = .ok (.ifCond .ne 5, 3) := by decide +kernel
theorem d_G_isCoprime_25 : decode M_G_isCoprime.2.1 25 = .ok (.iconst 0, 1) := by decide +kernel
theorem d_G_isCoprime_26 : decode M_G_isCoprime.2.1 26 = .ok (.ireturn, 1) := by decide +kernel
theorem d_G_isCoprime_27 : decode M_G_isCoprime.2.1 27 = .ok (.iinc 2 1, 3) := by decide +kernel
theorem d_G_isCoprime_30 : decode M_G_isCoprime.2.1 30 = .ok (.goto (-28), 3) := by decide +kernel
theorem d_G_isCoprime_33 : decode M_G_isCoprime.2.1 33 = .ok (.iconst 1, 1) := by decide +kernel
theorem d_G_isCoprime_34 : decode M_G_isCoprime.2.1 34 = .ok (.ireturn, 1) := by decide +kernel
theorem d_K_isOwnByFactor_0 : decode M_K_isOwnByFactor.2.1 0 = .ok (.aload_n 0, 1) := by decide +kernel
theorem d_K_isOwnByFactor_1 : decode M_K_isOwnByFactor.2.1 1 = .ok (.getfield 25, 3) := by decide +kernel
theorem d_K_isOwnByFactor_4 : decode M_K_isOwnByFactor.2.1 4 = .ok (.iload_n 2, 1) := by decide +kernel
theorem d_K_isOwnByFactor_5 : decode M_K_isOwnByFactor.2.1 5 = .ok (.aload_n 0, 1) := by decide +kernel
theorem d_K_isOwnByFactor_6 : decode M_K_isOwnByFactor.2.1 6 = .ok (.getfield 9, 3) := by decide +kernel
theorem d_K_isOwnByFactor_9 : decode M_K_isOwnByFactor.2.1 9 = .ok (.invokevirtual 39, 3) := by decide +kernel
theorem d_K_isOwnByFactor_12 : decode M_K_isOwnByFactor.2.1 12 = .ok (.aload_n 0, 1) := by decide +kernel
theorem d_K_isOwnByFactor_13 : decode M_K_isOwnByFactor.2.1 13 = .ok (.aload_n 1, 1) := by decide +kernel
theorem d_K_isOwnByFactor_14 : decode M_K_isOwnByFactor.2.1 14 = .ok (.aload_n 0, 1) := by decide +kernel
theorem d_K_isOwnByFactor_15 : decode M_K_isOwnByFactor.2.1 15 = .ok (.getfield 19, 3) := by decide +kernel
theorem d_K_isOwnByFactor_18 : decode M_K_isOwnByFactor.2.1 18 = .ok (.invokevirtual 62, 3) := by decide +kernel
theorem d_K_isOwnByFactor_21 : decode M_K_isOwnByFactor.2.1 21 = .ok (.pop, 1) := by decide +kernel
theorem d_K_isOwnByFactor_22 : decode M_K_isOwnByFactor.2.1 22 = .ok (.aload_n 0, 1) := by decide +kernel
theorem d_K_isOwnByFactor_23 : decode M_K_isOwnByFactor.2.1 23 = .ok (.getfield 19, 3) := by decide +kernel
theorem d_K_isOwnByFactor_26 : decode M_K_isOwnByFactor.2.1 26 = .ok (.aload_n 0, 1) := by decide +kernel
theorem d_K_isOwnByFactor_27 : decode M_K_isOwnByFactor.2.1 27 = .ok (.getfield 15, 3) := by decide +kernel
theorem d_K_isOwnByFactor_30 : decode M_K_isOwnByFactor.2.1 30 = .ok (.iload_n 3, 1) := by decide +kernel
theorem d_K_isOwnByFactor_31 : decode M_K_isOwnByFactor.2.1 31 = .ok (.invokestatic 65, 3) := by decide +kernel
theorem d_K_isOwnByFactor_34 : decode M_K_isOwnByFactor.2.1 34 = .ok (.ifCond .ne 7, 3) := by decide +kernel
theorem d_K_isOwnByFactor_37 : decode M_K_isOwnByFactor.2.1 37 = .ok (.iconst 1, 1) := by decide +kernel
theorem d_K_isOwnByFactor_38 : decode M_K_isOwnByFactor.2.1 38 = .ok (.goto 4, 3) := by decide +kernel
theorem d_K_isOwnByFactor_41 : decode M_K_isOwnByFactor.2.1 41 = .ok (.iconst 0, 1) := by decide +kernel
theorem d_K_isOwnByFactor_42 : decode M_K_isOwnByFactor.2.1 42 = .ok (.ireturn, 1) := by decide +kernel
theorem d_K_keepingFactors_0 : decode M_K_keepingFactors.2.1 0 = .ok (.aload_n 0, 1) := by decide +kernel
theorem d_K_keepingFactors_1 : decode M_K_keepingFactors.2.1 1 = .ok (.aload_n 1, 1) := by decide +kernel
theorem d_K_keepingFactors_2 : decode M_K_keepingFactors.2.1 2 = .ok (.aload_n 0, 1) := by decide +kernel
theorem d_K_keepingFactors_3 : decode M_K_keepingFactors.2.1 3 = .ok (.getfield 15, 3) := by decide +kernel
theorem d_K_keepingFactors_6 : decode M_K_keepingFactors.2.1 6 = .ok (.invokevirtual 46, 3) := by decide +kernel
theorem d_K_keepingFactors_9 : decode M_K_keepingFactors.2.1 9 = .ok (.istore_n 2, 1) := by decide +kernel
theorem d_K_keepingFactors_10 : decode M_K_keepingFactors.2.1 10 = .ok (.lconst 0, 1) := by decide +kernel
theorem d_K_keepingFactors_11 : decode M_K_keepingFactors.2.1 11 = .ok (.lstore_n 3, 1) := by decide +kernel
theorem d_K_keepingFactors_12 : decode M_K_keepingFactors.2.1 12 = .ok (.iconst 1, 1) := by decide +kernel
theorem d_K_keepingFactors_13 : decode M_K_keepingFactors.2.1 13 = .ok (.istore 5, 2) := by decide +kernel
theorem d_K_keepingFactors_15 : decode M_K_keepingFactors.2.1 15 = .ok (.iload 5, 2) := by decide +kernel
theorem d_K_keepingFactors_17 : decode M_K_keepingFactors.2.1 17 = .ok (.aload_n 0, 1) := by decide +kernel
theorem d_K_keepingFactors_18 : decode M_K_keepingFactors.2.1 18 = .ok (.getfield 25, 3) := by decide +kernel
theorem d_K_keepingFactors_21 : decode M_K_keepingFactors.2.1 21 = .ok (.getfield 58, 3) := by decide +kernel
theorem d_K_keepingFactors_24 : decode M_K_keepingFactors.2.1 24 = .ok (.if_icmp .ge 39, 3) := by decide +kernel
theorem d_K_keepingFactors_27 : decode M_K_keepingFactors.2.1 27 = .ok (.aload_n 0, 1) := by decide +kernel
theorem d_K_keepingFactors_28 : decode M_K_keepingFactors.2.1 28 = .ok (.getfield 25, 3) := by decide +kernel
theorem d_K_keepingFactors_31 : decode M_K_keepingFactors.2.1 31 = .ok (.iload 5, 2) := by decide +kernel
theorem d_K_keepingFactors_33 : decode M_K_keepingFactors.2.1 33 = .ok (.invokevirtual 50, 3) := by decide +kernel
theorem d_K_keepingFactors_36 : decode M_K_keepingFactors.2.1 36 = .ok (.ifCond .eq 21, 3) := by decide +kernel
theorem d_K_keepingFactors_39 : decode M_K_keepingFactors.2.1 39 = .ok (.aload_n 0, 1) := by decide +kernel
theorem d_K_keepingFactors_40 : decode M_K_keepingFactors.2.1 40 = .ok (.aload_n 1, 1) := by decide +kernel
theorem d_K_keepingFactors_41 : decode M_K_keepingFactors.2.1 41 = .ok (.iload 5, 2) := by decide +kernel
theorem d_K_keepingFactors_43 : decode M_K_keepingFactors.2.1 43 = .ok (.iload_n 2, 1) := by decide +kernel
theorem d_K_keepingFactors_44 : decode M_K_keepingFactors.2.1 44 = .ok (.invokevirtual 54, 3) := by decide +kernel
theorem d_K_keepingFactors_47 : decode M_K_keepingFactors.2.1 47 = .ok (.ifCond .eq 10, 3) := by decide +kernel
theorem d_K_keepingFactors_50 : decode M_K_keepingFactors.2.1 50 = .ok (.lload_n 3, 1) := by decide +kernel
theorem d_K_keepingFactors_51 : decode M_K_keepingFactors.2.1 51 = .ok (.lconst 1, 1) := by decide +kernel
theorem d_K_keepingFactors_52 : decode M_K_keepingFactors.2.1 52 = .ok (.iload 5, 2) := by decide +kernel
theorem d_K_keepingFactors_54 : decode M_K_keepingFactors.2.1 54 = .ok (.lshl, 1) := by decide +kernel
theorem d_K_keepingFactors_55 : decode M_K_keepingFactors.2.1 55 = .ok (.lor, 1) := by decide +kernel
theorem d_K_keepingFactors_56 : decode M_K_keepingFactors.2.1 56 = .ok (.lstore_n 3, 1) := by decide +kernel
theorem d_K_keepingFactors_57 : decode M_K_keepingFactors.2.1 57 = .ok (.iinc 5 1, 3) := by decide +kernel
theorem d_K_keepingFactors_60 : decode M_K_keepingFactors.2.1 60 = .ok (.goto (-45), 3) := by decide +kernel
theorem d_K_keepingFactors_63 : decode M_K_keepingFactors.2.1 63 = .ok (.lload_n 3, 1) := by decide +kernel
theorem d_K_keepingFactors_64 : decode M_K_keepingFactors.2.1 64 = .ok (.lreturn, 1) := by decide +kernel
theorem d_A_multipliers_0 : decode M_A_multipliers.2.1 0 = .ok (.aload_n 0, 1) := by decide +kernel
theorem d_A_multipliers_1 : decode M_A_multipliers.2.1 1 = .ok (.getfield 52, 3) := by decide +kernel
theorem d_A_multipliers_4 : decode M_A_multipliers.2.1 4 = .ok (.aload_n 0, 1) := by decide +kernel
theorem d_A_multipliers_5 : decode M_A_multipliers.2.1 5 = .ok (.getfield 25, 3) := by decide +kernel
theorem d_A_multipliers_8 : decode M_A_multipliers.2.1 8 = .ok (.invokevirtual 237, 3) := by decide +kernel
theorem d_A_multipliers_11 : decode M_A_multipliers.2.1 11 = .ok (.lreturn, 1) := by decide +kernel
theorem d_K_keepingAutomorphisms_0 : decode M_K_keepingAutomorphisms.2.1 0 = .ok (.aload_n 0, 1) := by decide +kernel
theorem d_K_keepingAutomorphisms_1 : decode M_K_keepingAutomorphisms.2.1 1 = .ok (.aload_n 1, 1) := by decide +kernel
theorem d_K_keepingAutomorphisms_2 : decode M_K_keepingAutomorphisms.2.1 2 = .ok (.aload_n 0, 1) := by decide +kernel
theorem d_K_keepingAutomorphisms_3 : decode M_K_keepingAutomorphisms.2.1 3 = .ok (.getfield 15, 3) := by decide +kernel
theorem d_K_keepingAutomorphisms_6 : decode M_K_keepingAutomorphisms.2.1 6 = .ok (.invokevirtual 46, 3) := by decide +kernel
theorem d_K_keepingAutomorphisms_9 : decode M_K_keepingAutomorphisms.2.1 9 = .ok (.istore_n 2, 1) := by decide +kernel
theorem d_K_keepingAutomorphisms_10 : decode M_K_keepingAutomorphisms.2.1 10 = .ok (.iconst 0, 1) := by decide +kernel
theorem d_K_keepingAutomorphisms_11 : decode M_K_keepingAutomorphisms.2.1 11 = .ok (.istore_n 3, 1) := by decide +kernel
theorem d_K_keepingAutomorphisms_12 : decode M_K_keepingAutomorphisms.2.1 12 = .ok (.iconst 0, 1) := by decide +kernel
theorem d_K_keepingAutomorphisms_13 : decode M_K_keepingAutomorphisms.2.1 13 = .ok (.istore 4, 2) := by decide +kernel
theorem d_K_keepingAutomorphisms_15 : decode M_K_keepingAutomorphisms.2.1 15 = .ok (.iload 4, 2) := by decide +kernel
theorem d_K_keepingAutomorphisms_17 : decode M_K_keepingAutomorphisms.2.1 17 = .ok (.aload_n 0, 1) := by decide +kernel
theorem d_K_keepingAutomorphisms_18 : decode M_K_keepingAutomorphisms.2.1 18 = .ok (.getfield 25, 3) := by decide +kernel
theorem d_K_keepingAutomorphisms_21 : decode M_K_keepingAutomorphisms.2.1 21 = .ok (.getfield 69, 3) := by decide +kernel
theorem d_K_keepingAutomorphisms_24 : decode M_K_keepingAutomorphisms.2.1 24 = .ok (.if_icmp .ge 50, 3) := by decide +kernel
theorem d_K_keepingAutomorphisms_27 : decode M_K_keepingAutomorphisms.2.1 27 = .ok (.aload_n 0, 1) := by decide +kernel
theorem d_K_keepingAutomorphisms_28 : decode M_K_keepingAutomorphisms.2.1 28 = .ok (.getfield 25, 3) := by decide +kernel
theorem d_K_keepingAutomorphisms_31 : decode M_K_keepingAutomorphisms.2.1 31 = .ok (.iload 4, 2) := by decide +kernel
theorem d_K_keepingAutomorphisms_33 : decode M_K_keepingAutomorphisms.2.1 33 = .ok (.aload_n 0, 1) := by decide +kernel
theorem d_K_keepingAutomorphisms_34 : decode M_K_keepingAutomorphisms.2.1 34 = .ok (.getfield 9, 3) := by decide +kernel
theorem d_K_keepingAutomorphisms_37 : decode M_K_keepingAutomorphisms.2.1 37 = .ok (.invokevirtual 29, 3) := by decide +kernel
theorem d_K_keepingAutomorphisms_40 : decode M_K_keepingAutomorphisms.2.1 40 = .ok (.aload_n 0, 1) := by decide +kernel
theorem d_K_keepingAutomorphisms_41 : decode M_K_keepingAutomorphisms.2.1 41 = .ok (.aload_n 1, 1) := by decide +kernel
theorem d_K_keepingAutomorphisms_42 : decode M_K_keepingAutomorphisms.2.1 42 = .ok (.aload_n 0, 1) := by decide +kernel
theorem d_K_keepingAutomorphisms_43 : decode M_K_keepingAutomorphisms.2.1 43 = .ok (.getfield 19, 3) := by decide +kernel
theorem d_K_keepingAutomorphisms_46 : decode M_K_keepingAutomorphisms.2.1 46 = .ok (.invokevirtual 62, 3) := by decide +kernel
theorem d_K_keepingAutomorphisms_49 : decode M_K_keepingAutomorphisms.2.1 49 = .ok (.pop, 1) := by decide +kernel
theorem d_K_keepingAutomorphisms_50 : decode M_K_keepingAutomorphisms.2.1 50 = .ok (.aload_n 0, 1) := by decide +kernel
theorem d_K_keepingAutomorphisms_51 : decode M_K_keepingAutomorphisms.2.1 51 = .ok (.getfield 19, 3) := by decide +kernel
theorem d_K_keepingAutomorphisms_54 : decode M_K_keepingAutomorphisms.2.1 54 = .ok (.aload_n 0, 1) := by decide +kernel
theorem d_K_keepingAutomorphisms_55 : decode M_K_keepingAutomorphisms.2.1 55 = .ok (.getfield 15, 3) := by decide +kernel
theorem d_K_keepingAutomorphisms_58 : decode M_K_keepingAutomorphisms.2.1 58 = .ok (.iload_n 2, 1) := by decide +kernel
theorem d_K_keepingAutomorphisms_59 : decode M_K_keepingAutomorphisms.2.1 59 = .ok (.invokestatic 65, 3) := by decide +kernel
theorem d_K_keepingAutomorphisms_62 : decode M_K_keepingAutomorphisms.2.1 62 = .ok (.ifCond .ne 6, 3) := by decide +kernel
theorem d_K_keepingAutomorphisms_65 : decode M_K_keepingAutomorphisms.2.1 65 = .ok (.iinc 3 1, 3) := by decide +kernel
theorem d_K_keepingAutomorphisms_68 : decode M_K_keepingAutomorphisms.2.1 68 = .ok (.iinc 4 1, 3) := by decide +kernel
theorem d_K_keepingAutomorphisms_71 : decode M_K_keepingAutomorphisms.2.1 71 = .ok (.goto (-56), 3) := by decide +kernel
theorem d_K_keepingAutomorphisms_74 : decode M_K_keepingAutomorphisms.2.1 74 = .ok (.iload_n 3, 1) := by decide +kernel
theorem d_K_keepingAutomorphisms_75 : decode M_K_keepingAutomorphisms.2.1 75 = .ok (.ireturn, 1) := by decide +kernel
theorem d_A_symmetries_0 : decode M_A_symmetries.2.1 0 = .ok (.aload_n 0, 1) := by decide +kernel
theorem d_A_symmetries_1 : decode M_A_symmetries.2.1 1 = .ok (.getfield 52, 3) := by decide +kernel
theorem d_A_symmetries_4 : decode M_A_symmetries.2.1 4 = .ok (.aload_n 0, 1) := by decide +kernel
theorem d_A_symmetries_5 : decode M_A_symmetries.2.1 5 = .ok (.getfield 25, 3) := by decide +kernel
theorem d_A_symmetries_8 : decode M_A_symmetries.2.1 8 = .ok (.invokevirtual 241, 3) := by decide +kernel
theorem d_A_symmetries_11 : decode M_A_symmetries.2.1 11 = .ok (.ireturn, 1) := by decide +kernel
theorem d_D_isListedFrom_0 : decode M_D_isListedFrom.2.1 0 = .ok (.iload_n 1, 1) := by decide +kernel
theorem d_D_isListedFrom_1 : decode M_D_isListedFrom.2.1 1 = .ok (.istore 4, 2) := by decide +kernel
theorem d_D_isListedFrom_3 : decode M_D_isListedFrom.2.1 3 = .ok (.iload 4, 2) := by decide +kernel
theorem d_D_isListedFrom_5 : decode M_D_isListedFrom.2.1 5 = .ok (.aload_n 0, 1) := by decide +kernel
theorem d_D_isListedFrom_6 : decode M_D_isListedFrom.2.1 6 = .ok (.getfield 19, 3) := by decide +kernel
theorem d_D_isListedFrom_9 : decode M_D_isListedFrom.2.1 9 = .ok (.if_icmp .ge 23, 3) := by decide +kernel
theorem d_D_isListedFrom_12 : decode M_D_isListedFrom.2.1 12 = .ok (.aload_n 0, 1) := by decide +kernel
theorem d_D_isListedFrom_13 : decode M_D_isListedFrom.2.1 13 = .ok (.getfield 9, 3) := by decide +kernel
theorem d_D_isListedFrom_16 : decode M_D_isListedFrom.2.1 16 = .ok (.iload 4, 2) := by decide +kernel
theorem d_D_isListedFrom_18 : decode M_D_isListedFrom.2.1 18 = .ok (.laload, 1) := by decide +kernel
theorem d_D_isListedFrom_19 : decode M_D_isListedFrom.2.1 19 = .ok (.lload_n 2, 1) := by decide +kernel
theorem d_D_isListedFrom_20 : decode M_D_isListedFrom.2.1 20 = .ok (.lcmp, 1) := by decide +kernel
theorem d_D_isListedFrom_21 : decode M_D_isListedFrom.2.1 21 = .ok (.ifCond .ne 5, 3) := by decide +kernel
theorem d_D_isListedFrom_24 : decode M_D_isListedFrom.2.1 24 = .ok (.iconst 1, 1) := by decide +kernel
theorem d_D_isListedFrom_25 : decode M_D_isListedFrom.2.1 25 = .ok (.ireturn, 1) := by decide +kernel
theorem d_D_isListedFrom_26 : decode M_D_isListedFrom.2.1 26 = .ok (.iinc 4 1, 3) := by decide +kernel
theorem d_D_isListedFrom_29 : decode M_D_isListedFrom.2.1 29 = .ok (.goto (-26), 3) := by decide +kernel
theorem d_D_isListedFrom_32 : decode M_D_isListedFrom.2.1 32 = .ok (.iconst 0, 1) := by decide +kernel
theorem d_D_isListedFrom_33 : decode M_D_isListedFrom.2.1 33 = .ok (.ireturn, 1) := by decide +kernel
theorem d_D_addTranslates_0 : decode M_D_addTranslates.2.1 0 = .ok (.aload_n 0, 1) := by decide +kernel
theorem d_D_addTranslates_1 : decode M_D_addTranslates.2.1 1 = .ok (.getfield 19, 3) := by decide +kernel
theorem d_D_addTranslates_4 : decode M_D_addTranslates.2.1 4 = .ok (.istore_n 3, 1) := by decide +kernel
theorem d_D_addTranslates_5 : decode M_D_addTranslates.2.1 5 = .ok (.lload_n 1, 1) := by decide +kernel
theorem d_D_addTranslates_6 : decode M_D_addTranslates.2.1 6 = .ok (.lstore 4, 2) := by decide +kernel
theorem d_D_addTranslates_8 : decode M_D_addTranslates.2.1 8 = .ok (.iconst 0, 1) := by decide +kernel
theorem d_D_addTranslates_9 : decode M_D_addTranslates.2.1 9 = .ok (.istore 6, 2) := by decide +kernel
theorem d_D_addTranslates_11 : decode M_D_addTranslates.2.1 11 = .ok (.iload 6, 2) := by decide +kernel
theorem d_D_addTranslates_13 : decode M_D_addTranslates.2.1 13 = .ok (.aload_n 0, 1) := by decide +kernel
theorem d_D_addTranslates_14 : decode M_D_addTranslates.2.1 14 = .ok (.getfield 15, 3) := by decide +kernel
theorem d_D_addTranslates_17 : decode M_D_addTranslates.2.1 17 = .ok (.getfield 27, 3) := by decide +kernel
theorem d_D_addTranslates_20 : decode M_D_addTranslates.2.1 20 = .ok (.if_icmp .ge 53, 3) := by decide +kernel
theorem d_D_addTranslates_23 : decode M_D_addTranslates.2.1 23 = .ok (.aload_n 0, 1) := by decide +kernel
theorem d_D_addTranslates_24 : decode M_D_addTranslates.2.1 24 = .ok (.iload_n 3, 1) := by decide +kernel
theorem d_D_addTranslates_25 : decode M_D_addTranslates.2.1 25 = .ok (.lload 4, 2) := by decide +kernel
theorem d_D_addTranslates_27 : decode M_D_addTranslates.2.1 27 = .ok (.invokevirtual 32, 3) := by decide +kernel
theorem d_D_addTranslates_30 : decode M_D_addTranslates.2.1 30 = .ok (.ifCond .ne 24, 3) := by decide +kernel
theorem d_D_addTranslates_33 : decode M_D_addTranslates.2.1 33 = .ok (.aload_n 0, 1) := by decide +kernel
theorem d_D_addTranslates_34 : decode M_D_addTranslates.2.1 34 = .ok (.getfield 9, 3) := by decide +kernel
theorem d_D_addTranslates_37 : decode M_D_addTranslates.2.1 37 = .ok (.aload_n 0, 1) := by decide +kernel
theorem d_D_addTranslates_38 : decode M_D_addTranslates.2.1 38 = .ok (.getfield 19, 3) := by decide +kernel
theorem d_D_addTranslates_41 : decode M_D_addTranslates.2.1 41 = .ok (.lload 4, 2) := by decide +kernel
theorem d_D_addTranslates_43 : decode M_D_addTranslates.2.1 43 = .ok (.lastore, 1) := by decide +kernel
theorem d_D_addTranslates_44 : decode M_D_addTranslates.2.1 44 = .ok (.aload_n 0, 1) := by decide +kernel
theorem d_D_addTranslates_45 : decode M_D_addTranslates.2.1 45 = .ok (.dup, 1) := by decide +kernel
theorem d_D_addTranslates_46 : decode M_D_addTranslates.2.1 46 = .ok (.getfield 19, 3) := by decide +kernel
theorem d_D_addTranslates_49 : decode M_D_addTranslates.2.1 49 = .ok (.iconst 1, 1) := by decide +kernel
theorem d_D_addTranslates_50 : decode M_D_addTranslates.2.1 50 = .ok (.iadd, 1) := by decide +kernel
theorem d_D_addTranslates_51 : decode M_D_addTranslates.2.1 51 = .ok (.putfield 19, 3) := by decide +kernel
theorem d_D_addTranslates_54 : decode M_D_addTranslates.2.1 54 = .ok (.aload_n 0, 1) := by decide +kernel
theorem d_D_addTranslates_55 : decode M_D_addTranslates.2.1 55 = .ok (.getfield 15, 3) := by decide +kernel
theorem d_D_addTranslates_58 : decode M_D_addTranslates.2.1 58 = .ok (.lload 4, 2) := by decide +kernel
theorem d_D_addTranslates_60 : decode M_D_addTranslates.2.1 60 = .ok (.iload 6, 2) := by decide +kernel
theorem d_D_addTranslates_62 : decode M_D_addTranslates.2.1 62 = .ok (.invokevirtual 36, 3) := by decide +kernel
theorem d_D_addTranslates_65 : decode M_D_addTranslates.2.1 65 = .ok (.lstore 4, 2) := by decide +kernel
theorem d_D_addTranslates_67 : decode M_D_addTranslates.2.1 67 = .ok (.iinc 6 1, 3) := by decide +kernel
theorem d_D_addTranslates_70 : decode M_D_addTranslates.2.1 70 = .ok (.goto (-59), 3) := by decide +kernel
theorem d_D_addTranslates_73 : decode M_D_addTranslates.2.1 73 = .ok (.return_, 1) := by decide +kernel
theorem d_D_develop_0 : decode M_D_develop.2.1 0 = .ok (.aload_n 0, 1) := by decide +kernel
theorem d_D_develop_1 : decode M_D_develop.2.1 1 = .ok (.iconst 0, 1) := by decide +kernel
theorem d_D_develop_2 : decode M_D_develop.2.1 2 = .ok (.putfield 19, 3) := by decide +kernel
theorem d_D_develop_5 : decode M_D_develop.2.1 5 = .ok (.iconst 0, 1) := by decide +kernel
theorem d_D_develop_6 : decode M_D_develop.2.1 6 = .ok (.istore_n 2, 1) := by decide +kernel
theorem d_D_develop_7 : decode M_D_develop.2.1 7 = .ok (.iload_n 2, 1) := by decide +kernel
theorem d_D_develop_8 : decode M_D_develop.2.1 8 = .ok (.bipush 6, 2) := by decide +kernel
theorem d_D_develop_10 : decode M_D_develop.2.1 10 = .ok (.if_icmp .ge 24, 3) := by decide +kernel
theorem d_D_develop_13 : decode M_D_develop.2.1 13 = .ok (.aload_n 1, 1) := by decide +kernel
theorem d_D_develop_14 : decode M_D_develop.2.1 14 = .ok (.iload_n 2, 1) := by decide +kernel
theorem d_D_develop_15 : decode M_D_develop.2.1 15 = .ok (.laload, 1) := by decide +kernel
theorem d_D_develop_16 : decode M_D_develop.2.1 16 = .ok (.lconst 0, 1) := by decide +kernel
theorem d_D_develop_17 : decode M_D_develop.2.1 17 = .ok (.lcmp, 1) := by decide +kernel
theorem d_D_develop_18 : decode M_D_develop.2.1 18 = .ok (.ifCond .eq 10, 3) := by decide +kernel
theorem d_D_develop_21 : decode M_D_develop.2.1 21 = .ok (.aload_n 0, 1) := by decide +kernel
theorem d_D_develop_22 : decode M_D_develop.2.1 22 = .ok (.aload_n 1, 1) := by decide +kernel
theorem d_D_develop_23 : decode M_D_develop.2.1 23 = .ok (.iload_n 2, 1) := by decide +kernel
theorem d_D_develop_24 : decode M_D_develop.2.1 24 = .ok (.laload, 1) := by decide +kernel
theorem d_D_develop_25 : decode M_D_develop.2.1 25 = .ok (.invokevirtual 23, 3) := by decide +kernel
theorem d_D_develop_28 : decode M_D_develop.2.1 28 = .ok (.iinc 2 1, 3) := by decide +kernel
theorem d_D_develop_31 : decode M_D_develop.2.1 31 = .ok (.goto (-24), 3) := by decide +kernel
theorem d_D_develop_34 : decode M_D_develop.2.1 34 = .ok (.return_, 1) := by decide +kernel
theorem d_A_designBlocks_0 : decode M_A_designBlocks.2.1 0 = .ok (.aload_n 0, 1) := by decide +kernel
theorem d_A_designBlocks_1 : decode M_A_designBlocks.2.1 1 = .ok (.getfield 59, 3) := by decide +kernel
theorem d_A_designBlocks_4 : decode M_A_designBlocks.2.1 4 = .ok (.aload_n 0, 1) := by decide +kernel
theorem d_A_designBlocks_5 : decode M_A_designBlocks.2.1 5 = .ok (.getfield 25, 3) := by decide +kernel
theorem d_A_designBlocks_8 : decode M_A_designBlocks.2.1 8 = .ok (.invokevirtual 265, 3) := by decide +kernel
theorem d_A_designBlocks_11 : decode M_A_designBlocks.2.1 11 = .ok (.aload_n 0, 1) := by decide +kernel
theorem d_A_designBlocks_12 : decode M_A_designBlocks.2.1 12 = .ok (.getfield 59, 3) := by decide +kernel
theorem d_A_designBlocks_15 : decode M_A_designBlocks.2.1 15 = .ok (.getfield 268, 3) := by decide +kernel
theorem d_A_designBlocks_18 : decode M_A_designBlocks.2.1 18 = .ok (.ireturn, 1) := by decide +kernel
theorem d_E_remainder_0 : decode M_E_remainder.2.1 0 = .ok (.iload_n 1, 1) := by decide +kernel
theorem d_E_remainder_1 : decode M_E_remainder.2.1 1 = .ok (.ifCond .le 9, 3) := by decide +kernel
theorem d_E_remainder_4 : decode M_E_remainder.2.1 4 = .ok (.iload_n 0, 1) := by decide +kernel
theorem d_E_remainder_5 : decode M_E_remainder.2.1 5 = .ok (.iload_n 1, 1) := by decide +kernel
theorem d_E_remainder_6 : decode M_E_remainder.2.1 6 = .ok (.irem, 1) := by decide +kernel
theorem d_E_remainder_7 : decode M_E_remainder.2.1 7 = .ok (.goto 4, 3) := by decide +kernel
theorem d_E_remainder_10 : decode M_E_remainder.2.1 10 = .ok (.iconst 0, 1) := by decide +kernel
theorem d_E_remainder_11 : decode M_E_remainder.2.1 11 = .ok (.ireturn, 1) := by decide +kernel
theorem d_E_inverse_0 : decode M_E_inverse.2.1 0 = .ok (.iconst 1, 1) := by decide +kernel
theorem d_E_inverse_1 : decode M_E_inverse.2.1 1 = .ok (.istore_n 2, 1) := by decide +kernel
theorem d_E_inverse_2 : decode M_E_inverse.2.1 2 = .ok (.iload_n 2, 1) := by decide +kernel
theorem d_E_inverse_3 : decode M_E_inverse.2.1 3 = .ok (.iload_n 1, 1) := by decide +kernel
theorem d_E_inverse_4 : decode M_E_inverse.2.1 4 = .ok (.if_icmp .ge 22, 3) := by decide +kernel
theorem d_E_inverse_7 : decode M_E_inverse.2.1 7 = .ok (.iload_n 0, 1) := by decide +kernel
theorem d_E_inverse_8 : decode M_E_inverse.2.1 8 = .ok (.iload_n 2, 1) := by decide +kernel
theorem d_E_inverse_9 : decode M_E_inverse.2.1 9 = .ok (.imul, 1) := by decide +kernel
theorem d_E_inverse_10 : decode M_E_inverse.2.1 10 = .ok (.iload_n 1, 1) := by decide +kernel
theorem d_E_inverse_11 : decode M_E_inverse.2.1 11 = .ok (.invokestatic 60, 3) := by decide +kernel
theorem d_E_inverse_14 : decode M_E_inverse.2.1 14 = .ok (.iconst 1, 1) := by decide +kernel
theorem d_E_inverse_15 : decode M_E_inverse.2.1 15 = .ok (.if_icmp .ne 5, 3) := by decide +kernel
theorem d_E_inverse_18 : decode M_E_inverse.2.1 18 = .ok (.iload_n 2, 1) := by decide +kernel
theorem d_E_inverse_19 : decode M_E_inverse.2.1 19 = .ok (.ireturn, 1) := by decide +kernel
theorem d_E_inverse_20 : decode M_E_inverse.2.1 20 = .ok (.iinc 2 1, 3) := by decide +kernel
theorem d_E_inverse_23 : decode M_E_inverse.2.1 23 = .ok (.goto (-21), 3) := by decide +kernel
theorem d_E_inverse_26 : decode M_E_inverse.2.1 26 = .ok (.iconst 1, 1) := by decide +kernel
theorem d_E_inverse_27 : decode M_E_inverse.2.1 27 = .ok (.ireturn, 1) := by decide +kernel
theorem d_E_addToBasis_0 : decode M_E_addToBasis.2.1 0 = .ok (.aload_n 0, 1) := by decide +kernel
theorem d_E_addToBasis_1 : decode M_E_addToBasis.2.1 1 = .ok (.getfield 9, 3) := by decide +kernel
theorem d_E_addToBasis_4 : decode M_E_addToBasis.2.1 4 = .ok (.iload_n 1, 1) := by decide +kernel
theorem d_E_addToBasis_5 : decode M_E_addToBasis.2.1 5 = .ok (.iaload, 1) := by decide +kernel
theorem d_E_addToBasis_6 : decode M_E_addToBasis.2.1 6 = .ok (.iload_n 2, 1) := by decide +kernel
theorem d_E_addToBasis_7 : decode M_E_addToBasis.2.1 7 = .ok (.invokestatic 56, 3) := by decide +kernel
theorem d_E_addToBasis_10 : decode M_E_addToBasis.2.1 10 = .ok (.istore_n 3, 1) := by decide +kernel
theorem d_E_addToBasis_11 : decode M_E_addToBasis.2.1 11 = .ok (.iconst 0, 1) := by decide +kernel
theorem d_E_addToBasis_12 : decode M_E_addToBasis.2.1 12 = .ok (.istore 4, 2) := by decide +kernel
theorem d_E_addToBasis_14 : decode M_E_addToBasis.2.1 14 = .ok (.iload 4, 2) := by decide +kernel
theorem d_E_addToBasis_16 : decode M_E_addToBasis.2.1 16 = .ok (.aload_n 0, 1) := by decide +kernel
theorem d_E_addToBasis_17 : decode M_E_addToBasis.2.1 17 = .ok (.getfield 18, 3) := by decide +kernel
theorem d_E_addToBasis_20 : decode M_E_addToBasis.2.1 20 = .ok (.getfield 32, 3) := by decide +kernel
theorem d_E_addToBasis_23 : decode M_E_addToBasis.2.1 23 = .ok (.if_icmp .ge 34, 3) := by decide +kernel
theorem d_E_addToBasis_26 : decode M_E_addToBasis.2.1 26 = .ok (.aload_n 0, 1) := by decide +kernel
theorem d_E_addToBasis_27 : decode M_E_addToBasis.2.1 27 = .ok (.getfield 15, 3) := by decide +kernel
theorem d_E_addToBasis_30 : decode M_E_addToBasis.2.1 30 = .ok (.iload_n 1, 1) := by decide +kernel
theorem d_E_addToBasis_31 : decode M_E_addToBasis.2.1 31 = .ok (.bipush 40, 2) := by decide +kernel
theorem d_E_addToBasis_33 : decode M_E_addToBasis.2.1 33 = .ok (.imul, 1) := by decide +kernel
theorem d_E_addToBasis_34 : decode M_E_addToBasis.2.1 34 = .ok (.iload 4, 2) := by decide +kernel
theorem d_E_addToBasis_36 : decode M_E_addToBasis.2.1 36 = .ok (.iadd, 1) := by decide +kernel
theorem d_E_addToBasis_37 : decode M_E_addToBasis.2.1 37 = .ok (.aload_n 0, 1) := by decide +kernel
theorem d_E_addToBasis_38 : decode M_E_addToBasis.2.1 38 = .ok (.getfield 9, 3) := by decide +kernel
theorem d_E_addToBasis_41 : decode M_E_addToBasis.2.1 41 = .ok (.iload 4, 2) := by decide +kernel
theorem d_E_addToBasis_43 : decode M_E_addToBasis.2.1 43 = .ok (.iaload, 1) := by decide +kernel
theorem d_E_addToBasis_44 : decode M_E_addToBasis.2.1 44 = .ok (.iload_n 3, 1) := by decide +kernel
theorem d_E_addToBasis_45 : decode M_E_addToBasis.2.1 45 = .ok (.imul, 1) := by decide +kernel
theorem d_E_addToBasis_46 : decode M_E_addToBasis.2.1 46 = .ok (.iload_n 2, 1) := by decide +kernel
theorem d_E_addToBasis_47 : decode M_E_addToBasis.2.1 47 = .ok (.invokestatic 60, 3) := by decide +kernel
theorem d_E_addToBasis_50 : decode M_E_addToBasis.2.1 50 = .ok (.iastore, 1) := by decide +kernel
theorem d_E_addToBasis_51 : decode M_E_addToBasis.2.1 51 = .ok (.iinc 4 1, 3) := by decide +kernel
theorem d_E_addToBasis_54 : decode M_E_addToBasis.2.1 54 = .ok (.goto (-40), 3) := by decide +kernel
theorem d_E_addToBasis_57 : decode M_E_addToBasis.2.1 57 = .ok (.aload_n 0, 1) := by decide +kernel
theorem d_E_addToBasis_58 : decode M_E_addToBasis.2.1 58 = .ok (.dup, 1) := by decide +kernel
theorem d_E_addToBasis_59 : decode M_E_addToBasis.2.1 59 = .ok (.getfield 22, 3) := by decide +kernel
theorem d_E_addToBasis_62 : decode M_E_addToBasis.2.1 62 = .ok (.lconst 1, 1) := by decide +kernel
theorem d_E_addToBasis_63 : decode M_E_addToBasis.2.1 63 = .ok (.iload_n 1, 1) := by decide +kernel
theorem d_E_addToBasis_64 : decode M_E_addToBasis.2.1 64 = .ok (.lshl, 1) := by decide +kernel
theorem d_E_addToBasis_65 : decode M_E_addToBasis.2.1 65 = .ok (.lor, 1) := by decide +kernel
theorem d_E_addToBasis_66 : decode M_E_addToBasis.2.1 66 = .ok (.putfield 22, 3) := by decide +kernel
theorem d_E_addToBasis_69 : decode M_E_addToBasis.2.1 69 = .ok (.return_, 1) := by decide +kernel
theorem d_E_clearColumn_0 : decode M_E_clearColumn.2.1 0 = .ok (.iload_n 2, 1) := by decide +kernel
theorem d_E_clearColumn_1 : decode M_E_clearColumn.2.1 1 = .ok (.aload_n 0, 1) := by decide +kernel
theorem d_E_clearColumn_2 : decode M_E_clearColumn.2.1 2 = .ok (.getfield 9, 3) := by decide +kernel
theorem d_E_clearColumn_5 : decode M_E_clearColumn.2.1 5 = .ok (.iload_n 1, 1) := by decide +kernel
theorem d_E_clearColumn_6 : decode M_E_clearColumn.2.1 6 = .ok (.iaload, 1) := by decide +kernel
theorem d_E_clearColumn_7 : decode M_E_clearColumn.2.1 7 = .ok (.isub, 1) := by decide +kernel
theorem d_E_clearColumn_8 : decode M_E_clearColumn.2.1 8 = .ok (.istore_n 3, 1) := by decide +kernel
theorem d_E_clearColumn_9 : decode M_E_clearColumn.2.1 9 = .ok (.iload_n 1, 1) := by decide +kernel
theorem d_E_clearColumn_10 : decode M_E_clearColumn.2.1 10 = .ok (.istore 4, 2) := by decide +kernel
theorem d_E_clearColumn_12 : decode M_E_clearColumn.2.1 12 = .ok (.iload 4, 2) := by decide +kernel
theorem d_E_clearColumn_14 : decode M_E_clearColumn.2.1 14 = .ok (.aload_n 0, 1) := by decide +kernel
theorem d_E_clearColumn_15 : decode M_E_clearColumn.2.1 15 = .ok (.getfield 18, 3) := by decide +kernel
theorem d_E_clearColumn_18 : decode M_E_clearColumn.2.1 18 = .ok (.getfield 32, 3) := by decide +kernel
theorem d_E_clearColumn_21 : decode M_E_clearColumn.2.1 21 = .ok (.if_icmp .ge 42, 3) := by decide +kernel
theorem d_E_clearColumn_24 : decode M_E_clearColumn.2.1 24 = .ok (.aload_n 0, 1) := by decide +kernel
theorem d_E_clearColumn_25 : decode M_E_clearColumn.2.1 25 = .ok (.getfield 9, 3) := by decide +kernel
theorem d_E_clearColumn_28 : decode M_E_clearColumn.2.1 28 = .ok (.iload 4, 2) := by decide +kernel
theorem d_E_clearColumn_30 : decode M_E_clearColumn.2.1 30 = .ok (.aload_n 0, 1) := by decide +kernel
theorem d_E_clearColumn_31 : decode M_E_clearColumn.2.1 31 = .ok (.getfield 9, 3) := by decide +kernel
theorem d_E_clearColumn_34 : decode M_E_clearColumn.2.1 34 = .ok (.iload 4, 2) := by decide +kernel
theorem d_E_clearColumn_36 : decode M_E_clearColumn.2.1 36 = .ok (.iaload, 1) := by decide +kernel
theorem d_E_clearColumn_37 : decode M_E_clearColumn.2.1 37 = .ok (.iload_n 3, 1) := by decide +kernel
theorem d_E_clearColumn_38 : decode M_E_clearColumn.2.1 38 = .ok (.aload_n 0, 1) := by decide +kernel
theorem d_E_clearColumn_39 : decode M_E_clearColumn.2.1 39 = .ok (.getfield 15, 3) := by decide +kernel
theorem d_E_clearColumn_42 : decode M_E_clearColumn.2.1 42 = .ok (.iload_n 1, 1) := by decide +kernel
theorem d_E_clearColumn_43 : decode M_E_clearColumn.2.1 43 = .ok (.bipush 40, 2) := by decide +kernel
theorem d_E_clearColumn_45 : decode M_E_clearColumn.2.1 45 = .ok (.imul, 1) := by decide +kernel
theorem d_E_clearColumn_46 : decode M_E_clearColumn.2.1 46 = .ok (.iload 4, 2) := by decide +kernel
theorem d_E_clearColumn_48 : decode M_E_clearColumn.2.1 48 = .ok (.iadd, 1) := by decide +kernel
theorem d_E_clearColumn_49 : decode M_E_clearColumn.2.1 49 = .ok (.iaload, 1) := by decide +kernel
theorem d_E_clearColumn_50 : decode M_E_clearColumn.2.1 50 = .ok (.imul, 1) := by decide +kernel
theorem d_E_clearColumn_51 : decode M_E_clearColumn.2.1 51 = .ok (.iadd, 1) := by decide +kernel
theorem d_E_clearColumn_52 : decode M_E_clearColumn.2.1 52 = .ok (.iload_n 2, 1) := by decide +kernel
theorem d_E_clearColumn_53 : decode M_E_clearColumn.2.1 53 = .ok (.invokestatic 60, 3) := by decide +kernel
theorem d_E_clearColumn_56 : decode M_E_clearColumn.2.1 56 = .ok (.iastore, 1) := by decide +kernel
theorem d_E_clearColumn_57 : decode M_E_clearColumn.2.1 57 = .ok (.iinc 4 1, 3) := by decide +kernel
theorem d_E_clearColumn_60 : decode M_E_clearColumn.2.1 60 = .ok (.goto (-48), 3) := by decide +kernel
theorem d_E_clearColumn_63 : decode M_E_clearColumn.2.1 63 = .ok (.return_, 1) := by decide +kernel
theorem d_E_joinsBasis_0 : decode M_E_joinsBasis.2.1 0 = .ok (.iconst 0, 1) := by decide +kernel
theorem d_E_joinsBasis_1 : decode M_E_joinsBasis.2.1 1 = .ok (.istore_n 2, 1) := by decide +kernel
theorem d_E_joinsBasis_2 : decode M_E_joinsBasis.2.1 2 = .ok (.iload_n 2, 1) := by decide +kernel
theorem d_E_joinsBasis_3 : decode M_E_joinsBasis.2.1 3 = .ok (.aload_n 0, 1) := by decide +kernel
theorem d_E_joinsBasis_4 : decode M_E_joinsBasis.2.1 4 = .ok (.getfield 18, 3) := by decide +kernel
theorem d_E_joinsBasis_7 : decode M_E_joinsBasis.2.1 7 = .ok (.getfield 32, 3) := by decide +kernel
theorem d_E_joinsBasis_10 : decode M_E_joinsBasis.2.1 10 = .ok (.if_icmp .ge 43, 3) := by decide +kernel
theorem d_E_joinsBasis_13 : decode M_E_joinsBasis.2.1 13 = .ok (.aload_n 0, 1) := by decide +kernel
theorem d_E_joinsBasis_14 : decode M_E_joinsBasis.2.1 14 = .ok (.getfield 9, 3) := by decide +kernel
theorem d_E_joinsBasis_17 : decode M_E_joinsBasis.2.1 17 = .ok (.iload_n 2, 1) := by decide +kernel
theorem d_E_joinsBasis_18 : decode M_E_joinsBasis.2.1 18 = .ok (.iaload, 1) := by decide +kernel
theorem d_E_joinsBasis_19 : decode M_E_joinsBasis.2.1 19 = .ok (.ifCond .eq 28, 3) := by decide +kernel
theorem d_E_joinsBasis_22 : decode M_E_joinsBasis.2.1 22 = .ok (.aload_n 0, 1) := by decide +kernel
theorem d_E_joinsBasis_23 : decode M_E_joinsBasis.2.1 23 = .ok (.getfield 22, 3) := by decide +kernel
theorem d_E_joinsBasis_26 : decode M_E_joinsBasis.2.1 26 = .ok (.iload_n 2, 1) := by decide +kernel
theorem d_E_joinsBasis_27 : decode M_E_joinsBasis.2.1 27 = .ok (.invokestatic 41, 3) := by decide +kernel
theorem d_E_joinsBasis_30 : decode M_E_joinsBasis.2.1 30 = .ok (.ifCond .ne 11, 3) := by decide +kernel
theorem d_E_joinsBasis_33 : decode M_E_joinsBasis.2.1 33 = .ok (.aload_n 0, 1) := by decide +kernel
theorem d_E_joinsBasis_34 : decode M_E_joinsBasis.2.1 34 = .ok (.iload_n 2, 1) := by decide +kernel
theorem d_E_joinsBasis_35 : decode M_E_joinsBasis.2.1 35 = .ok (.iload_n 1, 1) := by decide +kernel
theorem d_E_joinsBasis_36 : decode M_E_joinsBasis.2.1 36 = .ok (.invokevirtual 49, 3) := by decide +kernel
theorem d_E_joinsBasis_39 : decode M_E_joinsBasis.2.1 39 = .ok (.iconst 1, 1) := by decide +kernel
theorem d_E_joinsBasis_40 : decode M_E_joinsBasis.2.1 40 = .ok (.ireturn, 1) := by decide +kernel
theorem d_E_joinsBasis_41 : decode M_E_joinsBasis.2.1 41 = .ok (.aload_n 0, 1) := by decide +kernel
theorem d_E_joinsBasis_42 : decode M_E_joinsBasis.2.1 42 = .ok (.iload_n 2, 1) := by decide +kernel
theorem d_E_joinsBasis_43 : decode M_E_joinsBasis.2.1 43 = .ok (.iload_n 1, 1) := by decide +kernel
theorem d_E_joinsBasis_44 : decode M_E_joinsBasis.2.1 44 = .ok (.invokevirtual 53, 3) := by decide +kernel
theorem d_E_joinsBasis_47 : decode M_E_joinsBasis.2.1 47 = .ok (.iinc 2 1, 3) := by decide +kernel
theorem d_E_joinsBasis_50 : decode M_E_joinsBasis.2.1 50 = .ok (.goto (-48), 3) := by decide +kernel
theorem d_E_joinsBasis_53 : decode M_E_joinsBasis.2.1 53 = .ok (.iconst 0, 1) := by decide +kernel
theorem d_E_joinsBasis_54 : decode M_E_joinsBasis.2.1 54 = .ok (.ireturn, 1) := by decide +kernel
theorem d_E_independentRows_0 : decode M_E_independentRows.2.1 0 = .ok (.aload_n 0, 1) := by decide +kernel
theorem d_E_independentRows_1 : decode M_E_independentRows.2.1 1 = .ok (.lconst 0, 1) := by decide +kernel
theorem d_E_independentRows_2 : decode M_E_independentRows.2.1 2 = .ok (.putfield 22, 3) := by decide +kernel
theorem d_E_independentRows_5 : decode M_E_independentRows.2.1 5 = .ok (.iconst 0, 1) := by decide +kernel
theorem d_E_independentRows_6 : decode M_E_independentRows.2.1 6 = .ok (.istore_n 3, 1) := by decide +kernel
theorem d_E_independentRows_7 : decode M_E_independentRows.2.1 7 = .ok (.iconst 0, 1) := by decide +kernel
theorem d_E_independentRows_8 : decode M_E_independentRows.2.1 8 = .ok (.istore 4, 2) := by decide +kernel
theorem d_E_independentRows_10 : decode M_E_independentRows.2.1 10 = .ok (.iload 4, 2) := by decide +kernel
theorem d_E_independentRows_12 : decode M_E_independentRows.2.1 12 = .ok (.aload_n 1, 1) := by decide +kernel
theorem d_E_independentRows_13 : decode M_E_independentRows.2.1 13 = .ok (.getfield 26, 3) := by decide +kernel
theorem d_E_independentRows_16 : decode M_E_independentRows.2.1 16 = .ok (.if_icmp .ge 79, 3) := by decide +kernel
theorem d_E_independentRows_19 : decode M_E_independentRows.2.1 19 = .ok (.iload_n 3, 1) := by decide +kernel
theorem d_E_independentRows_20 : decode M_E_independentRows.2.1 20 = .ok (.aload_n 0, 1) := by decide +kernel
theorem d_E_independentRows_21 : decode M_E_independentRows.2.1 21 = .ok (.getfield 18, 3) := by decide +kernel
theorem d_E_independentRows_24 : decode M_E_independentRows.2.1 24 = .ok (.getfield 32, 3) := by decide +kernel
theorem d_E_independentRows_27 : decode M_E_independentRows.2.1 27 = .ok (.if_icmp .ge 68, 3) := by decide +kernel
theorem d_E_independentRows_30 : decode M_E_independentRows.2.1 30 = .ok (.iconst 0, 1) := by decide +kernel
theorem d_E_independentRows_31 : decode M_E_independentRows.2.1 31 = .ok (.istore 5, 2) := by decide +kernel
theorem d_E_independentRows_33 : decode M_E_independentRows.2.1 33 = .ok (.iload 5, 2) := by decide +kernel
theorem d_E_independentRows_35 : decode M_E_independentRows.2.1 35 = .ok (.aload_n 0, 1) := by decide +kernel
theorem d_E_independentRows_36 : decode M_E_independentRows.2.1 36 = .ok (.getfield 18, 3) := by decide +kernel
theorem d_E_independentRows_39 : decode M_E_independentRows.2.1 39 = .ok (.getfield 32, 3) := by decide +kernel
theorem d_E_independentRows_42 : decode M_E_independentRows.2.1 42 = .ok (.if_icmp .ge 36, 3) := by decide +kernel
theorem d_E_independentRows_45 : decode M_E_independentRows.2.1 45 = .ok (.aload_n 0, 1) := by decide +kernel
theorem d_E_independentRows_46 : decode M_E_independentRows.2.1 46 = .ok (.getfield 9, 3) := by decide +kernel
theorem d_E_independentRows_49 : decode M_E_independentRows.2.1 49 = .ok (.iload 5, 2) := by decide +kernel
theorem d_E_independentRows_51 : decode M_E_independentRows.2.1 51 = .ok (.aload_n 1, 1) := by decide +kernel
theorem d_E_independentRows_52 : decode M_E_independentRows.2.1 52 = .ok (.getfield 37, 3) := by decide +kernel
theorem d_E_independentRows_55 : decode M_E_independentRows.2.1 55 = .ok (.iload 4, 2) := by decide +kernel
theorem d_E_independentRows_57 : decode M_E_independentRows.2.1 57 = .ok (.laload, 1) := by decide +kernel
theorem d_E_independentRows_58 : decode M_E_independentRows.2.1 58 = .ok (.iload 5, 2) := by decide +kernel
theorem d_E_independentRows_60 : decode M_E_independentRows.2.1 60 = .ok (.invokestatic 41, 3) := by decide +kernel
theorem d_E_independentRows_63 : decode M_E_independentRows.2.1 63 = .ok (.ifCond .eq 7, 3) := by decide +kernel
theorem d_E_independentRows_66 : decode M_E_independentRows.2.1 66 = .ok (.iconst 1, 1) := by decide +kernel
theorem d_E_independentRows_67 : decode M_E_independentRows.2.1 67 = .ok (.goto 4, 3) := by decide +kernel
theorem d_E_independentRows_70 : decode M_E_independentRows.2.1 70 = .ok (.iconst 0, 1) := by decide +kernel
theorem d_E_independentRows_71 : decode M_E_independentRows.2.1 71 = .ok (.iastore, 1) := by decide +kernel
theorem d_E_independentRows_72 : decode M_E_independentRows.2.1 72 = .ok (.iinc 5 1, 3) := by decide +kernel
theorem d_E_independentRows_75 : decode M_E_independentRows.2.1 75 = .ok (.goto (-42), 3) := by decide +kernel
theorem d_E_independentRows_78 : decode M_E_independentRows.2.1 78 = .ok (.aload_n 0, 1) := by decide +kernel
theorem d_E_independentRows_79 : decode M_E_independentRows.2.1 79 = .ok (.iload_n 2, 1) := by decide +kernel
theorem d_E_independentRows_80 : decode M_E_independentRows.2.1 80 = .ok (.invokevirtual 45, 3) := by decide +kernel
theorem d_E_independentRows_83 : decode M_E_independentRows.2.1 83 = .ok (.ifCond .eq 6, 3) := by decide +kernel
theorem d_E_independentRows_86 : decode M_E_independentRows.2.1 86 = .ok (.iinc 3 1, 3) := by decide +kernel
theorem d_E_independentRows_89 : decode M_E_independentRows.2.1 89 = .ok (.iinc 4 1, 3) := by decide +kernel
theorem d_E_independentRows_92 : decode M_E_independentRows.2.1 92 = .ok (.goto (-82), 3) := by decide +kernel
theorem d_E_independentRows_95 : decode M_E_independentRows.2.1 95 = .ok (.iload_n 3, 1) := by decide +kernel
theorem d_E_independentRows_96 : decode M_E_independentRows.2.1 96 = .ok (.ireturn, 1) := by decide +kernel
theorem d_A_rank_0 : decode M_A_rank.2.1 0 = .ok (.iload_n 1, 1) := by decide +kernel
theorem d_A_rank_1 : decode M_A_rank.2.1 1 = .ok (.iconst 2, 1) := by decide +kernel
theorem d_A_rank_2 : decode M_A_rank.2.1 2 = .ok (.if_icmp .eq 21, 3) := by decide +kernel
theorem d_A_rank_5 : decode M_A_rank.2.1 5 = .ok (.iload_n 1, 1) := by decide +kernel
theorem d_A_rank_6 : decode M_A_rank.2.1 6 = .ok (.iconst 3, 1) := by decide +kernel
theorem d_A_rank_7 : decode M_A_rank.2.1 7 = .ok (.if_icmp .eq 16, 3) := by decide +kernel
theorem d_A_rank_10 : decode M_A_rank.2.1 10 = .ok (.iload_n 1, 1) := by decide +kernel
theorem d_A_rank_11 : decode M_A_rank.2.1 11 = .ok (.iconst 5, 1) := by decide +kernel
theorem d_A_rank_12 : decode M_A_rank.2.1 12 = .ok (.if_icmp .eq 11, 3) := by decide +kernel
theorem d_A_rank_15 : decode M_A_rank.2.1 15 = .ok (.iload_n 1, 1) := by decide +kernel
theorem d_A_rank_16 : decode M_A_rank.2.1 16 = .ok (.bipush 7, 2) := by decide +kernel
theorem d_A_rank_18 : decode M_A_rank.2.1 18 = .ok (.if_icmp .eq 5, 3) := by decide +kernel
theorem d_A_rank_21 : decode M_A_rank.2.1 21 = .ok (.iconst (-1), 1) := by decide +kernel
theorem d_A_rank_22 : decode M_A_rank.2.1 22 = .ok (.ireturn, 1) := by decide +kernel
theorem d_A_rank_23 : decode M_A_rank.2.1 23 = .ok (.aload_n 0, 1) := by decide +kernel
theorem d_A_rank_24 : decode M_A_rank.2.1 24 = .ok (.getfield 59, 3) := by decide +kernel
theorem d_A_rank_27 : decode M_A_rank.2.1 27 = .ok (.aload_n 0, 1) := by decide +kernel
theorem d_A_rank_28 : decode M_A_rank.2.1 28 = .ok (.getfield 25, 3) := by decide +kernel
theorem d_A_rank_31 : decode M_A_rank.2.1 31 = .ok (.invokevirtual 265, 3) := by decide +kernel
theorem d_A_rank_34 : decode M_A_rank.2.1 34 = .ok (.aload_n 0, 1) := by decide +kernel
theorem d_A_rank_35 : decode M_A_rank.2.1 35 = .ok (.getfield 66, 3) := by decide +kernel
theorem d_A_rank_38 : decode M_A_rank.2.1 38 = .ok (.aload_n 0, 1) := by decide +kernel
theorem d_A_rank_39 : decode M_A_rank.2.1 39 = .ok (.getfield 59, 3) := by decide +kernel
theorem d_A_rank_42 : decode M_A_rank.2.1 42 = .ok (.iload_n 1, 1) := by decide +kernel
theorem d_A_rank_43 : decode M_A_rank.2.1 43 = .ok (.invokevirtual 279, 3) := by decide +kernel
theorem d_A_rank_46 : decode M_A_rank.2.1 46 = .ok (.ireturn, 1) := by decide +kernel
theorem d_A_checksum_0 : decode M_A_checksum.2.1 0 = .ok (.ldc2_w 338, 3) := by decide +kernel
theorem d_A_checksum_3 : decode M_A_checksum.2.1 3 = .ok (.lstore_n 1, 1) := by decide +kernel
theorem d_A_checksum_4 : decode M_A_checksum.2.1 4 = .ok (.ldc2_w 340, 3) := by decide +kernel
theorem d_A_checksum_7 : decode M_A_checksum.2.1 7 = .ok (.lload_n 1, 1) := by decide +kernel
theorem d_A_checksum_8 : decode M_A_checksum.2.1 8 = .ok (.lmul, 1) := by decide +kernel
theorem d_A_checksum_9 : decode M_A_checksum.2.1 9 = .ok (.aload_n 0, 1) := by decide +kernel
theorem d_A_checksum_10 : decode M_A_checksum.2.1 10 = .ok (.invokevirtual 342, 3) := by decide +kernel
theorem d_A_checksum_13 : decode M_A_checksum.2.1 13 = .ok (.i2l, 1) := by decide +kernel
theorem d_A_checksum_14 : decode M_A_checksum.2.1 14 = .ok (.ladd, 1) := by decide +kernel
theorem d_A_checksum_15 : decode M_A_checksum.2.1 15 = .ok (.lstore_n 1, 1) := by decide +kernel
theorem d_A_checksum_16 : decode M_A_checksum.2.1 16 = .ok (.ldc2_w 340, 3) := by decide +kernel
theorem d_A_checksum_19 : decode M_A_checksum.2.1 19 = .ok (.lload_n 1, 1) := by decide +kernel
theorem d_A_checksum_20 : decode M_A_checksum.2.1 20 = .ok (.lmul, 1) := by decide +kernel
theorem d_A_checksum_21 : decode M_A_checksum.2.1 21 = .ok (.aload_n 0, 1) := by decide +kernel
theorem d_A_checksum_22 : decode M_A_checksum.2.1 22 = .ok (.invokevirtual 344, 3) := by decide +kernel
theorem d_A_checksum_25 : decode M_A_checksum.2.1 25 = .ok (.i2l, 1) := by decide +kernel
theorem d_A_checksum_26 : decode M_A_checksum.2.1 26 = .ok (.ladd, 1) := by decide +kernel
theorem d_A_checksum_27 : decode M_A_checksum.2.1 27 = .ok (.lstore_n 1, 1) := by decide +kernel
theorem d_A_checksum_28 : decode M_A_checksum.2.1 28 = .ok (.ldc2_w 340, 3) := by decide +kernel
theorem d_A_checksum_31 : decode M_A_checksum.2.1 31 = .ok (.lload_n 1, 1) := by decide +kernel
theorem d_A_checksum_32 : decode M_A_checksum.2.1 32 = .ok (.lmul, 1) := by decide +kernel
theorem d_A_checksum_33 : decode M_A_checksum.2.1 33 = .ok (.aload_n 0, 1) := by decide +kernel
theorem d_A_checksum_34 : decode M_A_checksum.2.1 34 = .ok (.invokevirtual 347, 3) := by decide +kernel
theorem d_A_checksum_37 : decode M_A_checksum.2.1 37 = .ok (.ladd, 1) := by decide +kernel
theorem d_A_checksum_38 : decode M_A_checksum.2.1 38 = .ok (.lstore_n 1, 1) := by decide +kernel
theorem d_A_checksum_39 : decode M_A_checksum.2.1 39 = .ok (.iconst 0, 1) := by decide +kernel
theorem d_A_checksum_40 : decode M_A_checksum.2.1 40 = .ok (.istore_n 3, 1) := by decide +kernel
theorem d_A_checksum_41 : decode M_A_checksum.2.1 41 = .ok (.iload_n 3, 1) := by decide +kernel
theorem d_A_checksum_42 : decode M_A_checksum.2.1 42 = .ok (.bipush 6, 2) := by decide +kernel
theorem d_A_checksum_44 : decode M_A_checksum.2.1 44 = .ok (.if_icmp .ge 22, 3) := by decide +kernel
theorem d_A_checksum_47 : decode M_A_checksum.2.1 47 = .ok (.ldc2_w 340, 3) := by decide +kernel
theorem d_A_checksum_50 : decode M_A_checksum.2.1 50 = .ok (.lload_n 1, 1) := by decide +kernel
theorem d_A_checksum_51 : decode M_A_checksum.2.1 51 = .ok (.lmul, 1) := by decide +kernel
theorem d_A_checksum_52 : decode M_A_checksum.2.1 52 = .ok (.aload_n 0, 1) := by decide +kernel
theorem d_A_checksum_53 : decode M_A_checksum.2.1 53 = .ok (.getfield 25, 3) := by decide +kernel
theorem d_A_checksum_56 : decode M_A_checksum.2.1 56 = .ok (.iload_n 3, 1) := by decide +kernel
theorem d_A_checksum_57 : decode M_A_checksum.2.1 57 = .ok (.laload, 1) := by decide +kernel
theorem d_A_checksum_58 : decode M_A_checksum.2.1 58 = .ok (.ladd, 1) := by decide +kernel
theorem d_A_checksum_59 : decode M_A_checksum.2.1 59 = .ok (.lstore_n 1, 1) := by decide +kernel
theorem d_A_checksum_60 : decode M_A_checksum.2.1 60 = .ok (.iinc 3 1, 3) := by decide +kernel
theorem d_A_checksum_63 : decode M_A_checksum.2.1 63 = .ok (.goto (-22), 3) := by decide +kernel
theorem d_A_checksum_66 : decode M_A_checksum.2.1 66 = .ok (.aload_n 0, 1) := by decide +kernel
theorem d_A_checksum_67 : decode M_A_checksum.2.1 67 = .ok (.getfield 36, 3) := by decide +kernel
theorem d_A_checksum_70 : decode M_A_checksum.2.1 70 = .ok (.aload_n 0, 1) := by decide +kernel
theorem d_A_checksum_71 : decode M_A_checksum.2.1 71 = .ok (.getfield 25, 3) := by decide +kernel
theorem d_A_checksum_74 : decode M_A_checksum.2.1 74 = .ok (.invokevirtual 185, 3) := by decide +kernel
theorem d_A_checksum_77 : decode M_A_checksum.2.1 77 = .ok (.iconst 1, 1) := by decide +kernel
theorem d_A_checksum_78 : decode M_A_checksum.2.1 78 = .ok (.istore_n 3, 1) := by decide +kernel
theorem d_A_checksum_79 : decode M_A_checksum.2.1 79 = .ok (.iload_n 3, 1) := by decide +kernel
theorem d_A_checksum_80 : decode M_A_checksum.2.1 80 = .ok (.aload_n 0, 1) := by decide +kernel
theorem d_A_checksum_81 : decode M_A_checksum.2.1 81 = .ok (.getfield 19, 3) := by decide +kernel
theorem d_A_checksum_84 : decode M_A_checksum.2.1 84 = .ok (.getfield 102, 3) := by decide +kernel
theorem d_A_checksum_87 : decode M_A_checksum.2.1 87 = .ok (.if_icmp .ge 26, 3) := by decide +kernel
theorem d_A_checksum_90 : decode M_A_checksum.2.1 90 = .ok (.ldc2_w 340, 3) := by decide +kernel
theorem d_A_checksum_93 : decode M_A_checksum.2.1 93 = .ok (.lload_n 1, 1) := by decide +kernel
theorem d_A_checksum_94 : decode M_A_checksum.2.1 94 = .ok (.lmul, 1) := by decide +kernel
theorem d_A_checksum_95 : decode M_A_checksum.2.1 95 = .ok (.aload_n 0, 1) := by decide +kernel
theorem d_A_checksum_96 : decode M_A_checksum.2.1 96 = .ok (.getfield 36, 3) := by decide +kernel
theorem d_A_checksum_99 : decode M_A_checksum.2.1 99 = .ok (.getfield 220, 3) := by decide +kernel
theorem d_A_checksum_102 : decode M_A_checksum.2.1 102 = .ok (.iload_n 3, 1) := by decide +kernel
theorem d_A_checksum_103 : decode M_A_checksum.2.1 103 = .ok (.iaload, 1) := by decide +kernel
theorem d_A_checksum_104 : decode M_A_checksum.2.1 104 = .ok (.i2l, 1) := by decide +kernel
theorem d_A_checksum_105 : decode M_A_checksum.2.1 105 = .ok (.ladd, 1) := by decide +kernel
theorem d_A_checksum_106 : decode M_A_checksum.2.1 106 = .ok (.lstore_n 1, 1) := by decide +kernel
theorem d_A_checksum_107 : decode M_A_checksum.2.1 107 = .ok (.iinc 3 1, 3) := by decide +kernel
theorem d_A_checksum_110 : decode M_A_checksum.2.1 110 = .ok (.goto (-31), 3) := by decide +kernel
theorem d_A_checksum_113 : decode M_A_checksum.2.1 113 = .ok (.ldc2_w 340, 3) := by decide +kernel
theorem d_A_checksum_116 : decode M_A_checksum.2.1 116 = .ok (.lload_n 1, 1) := by decide +kernel
theorem d_A_checksum_117 : decode M_A_checksum.2.1 117 = .ok (.lmul, 1) := by decide +kernel
theorem d_A_checksum_118 : decode M_A_checksum.2.1 118 = .ok (.aload_n 0, 1) := by decide +kernel
theorem d_A_checksum_119 : decode M_A_checksum.2.1 119 = .ok (.invokevirtual 350, 3) := by decide +kernel
theorem d_A_checksum_122 : decode M_A_checksum.2.1 122 = .ok (.ladd, 1) := by decide +kernel
theorem d_A_checksum_123 : decode M_A_checksum.2.1 123 = .ok (.lstore_n 1, 1) := by decide +kernel
theorem d_A_checksum_124 : decode M_A_checksum.2.1 124 = .ok (.ldc2_w 340, 3) := by decide +kernel
theorem d_A_checksum_127 : decode M_A_checksum.2.1 127 = .ok (.lload_n 1, 1) := by decide +kernel
theorem d_A_checksum_128 : decode M_A_checksum.2.1 128 = .ok (.lmul, 1) := by decide +kernel
theorem d_A_checksum_129 : decode M_A_checksum.2.1 129 = .ok (.aload_n 0, 1) := by decide +kernel
theorem d_A_checksum_130 : decode M_A_checksum.2.1 130 = .ok (.invokevirtual 353, 3) := by decide +kernel
theorem d_A_checksum_133 : decode M_A_checksum.2.1 133 = .ok (.i2l, 1) := by decide +kernel
theorem d_A_checksum_134 : decode M_A_checksum.2.1 134 = .ok (.ladd, 1) := by decide +kernel
theorem d_A_checksum_135 : decode M_A_checksum.2.1 135 = .ok (.lstore_n 1, 1) := by decide +kernel
theorem d_A_checksum_136 : decode M_A_checksum.2.1 136 = .ok (.aload_n 0, 1) := by decide +kernel
theorem d_A_checksum_137 : decode M_A_checksum.2.1 137 = .ok (.getfield 52, 3) := by decide +kernel
theorem d_A_checksum_140 : decode M_A_checksum.2.1 140 = .ok (.aload_n 0, 1) := by decide +kernel
theorem d_A_checksum_141 : decode M_A_checksum.2.1 141 = .ok (.getfield 25, 3) := by decide +kernel
theorem d_A_checksum_144 : decode M_A_checksum.2.1 144 = .ok (.invokevirtual 245, 3) := by decide +kernel
theorem d_A_checksum_147 : decode M_A_checksum.2.1 147 = .ok (.istore_n 3, 1) := by decide +kernel
theorem d_A_checksum_148 : decode M_A_checksum.2.1 148 = .ok (.iconst 0, 1) := by decide +kernel
theorem d_A_checksum_149 : decode M_A_checksum.2.1 149 = .ok (.istore 4, 2) := by decide +kernel
theorem d_A_checksum_151 : decode M_A_checksum.2.1 151 = .ok (.iload 4, 2) := by decide +kernel
theorem d_A_checksum_153 : decode M_A_checksum.2.1 153 = .ok (.iload_n 3, 1) := by decide +kernel
theorem d_A_checksum_154 : decode M_A_checksum.2.1 154 = .ok (.if_icmp .ge 26, 3) := by decide +kernel
theorem d_A_checksum_157 : decode M_A_checksum.2.1 157 = .ok (.ldc2_w 340, 3) := by decide +kernel
theorem d_A_checksum_160 : decode M_A_checksum.2.1 160 = .ok (.lload_n 1, 1) := by decide +kernel
theorem d_A_checksum_161 : decode M_A_checksum.2.1 161 = .ok (.lmul, 1) := by decide +kernel
theorem d_A_checksum_162 : decode M_A_checksum.2.1 162 = .ok (.aload_n 0, 1) := by decide +kernel
theorem d_A_checksum_163 : decode M_A_checksum.2.1 163 = .ok (.getfield 52, 3) := by decide +kernel
theorem d_A_checksum_166 : decode M_A_checksum.2.1 166 = .ok (.getfield 248, 3) := by decide +kernel
theorem d_A_checksum_169 : decode M_A_checksum.2.1 169 = .ok (.iload 4, 2) := by decide +kernel
theorem d_A_checksum_171 : decode M_A_checksum.2.1 171 = .ok (.laload, 1) := by decide +kernel
theorem d_A_checksum_172 : decode M_A_checksum.2.1 172 = .ok (.ladd, 1) := by decide +kernel
theorem d_A_checksum_173 : decode M_A_checksum.2.1 173 = .ok (.lstore_n 1, 1) := by decide +kernel
theorem d_A_checksum_174 : decode M_A_checksum.2.1 174 = .ok (.iinc 4 1, 3) := by decide +kernel
theorem d_A_checksum_177 : decode M_A_checksum.2.1 177 = .ok (.goto (-26), 3) := by decide +kernel
theorem d_A_checksum_180 : decode M_A_checksum.2.1 180 = .ok (.ldc2_w 340, 3) := by decide +kernel
theorem d_A_checksum_183 : decode M_A_checksum.2.1 183 = .ok (.lload_n 1, 1) := by decide +kernel
theorem d_A_checksum_184 : decode M_A_checksum.2.1 184 = .ok (.lmul, 1) := by decide +kernel
theorem d_A_checksum_185 : decode M_A_checksum.2.1 185 = .ok (.aload_n 0, 1) := by decide +kernel
theorem d_A_checksum_186 : decode M_A_checksum.2.1 186 = .ok (.invokevirtual 356, 3) := by decide +kernel
theorem d_A_checksum_189 : decode M_A_checksum.2.1 189 = .ok (.i2l, 1) := by decide +kernel
theorem d_A_checksum_190 : decode M_A_checksum.2.1 190 = .ok (.ladd, 1) := by decide +kernel
theorem d_A_checksum_191 : decode M_A_checksum.2.1 191 = .ok (.lstore_n 1, 1) := by decide +kernel
theorem d_A_checksum_192 : decode M_A_checksum.2.1 192 = .ok (.ldc2_w 340, 3) := by decide +kernel
theorem d_A_checksum_195 : decode M_A_checksum.2.1 195 = .ok (.lload_n 1, 1) := by decide +kernel
theorem d_A_checksum_196 : decode M_A_checksum.2.1 196 = .ok (.lmul, 1) := by decide +kernel
theorem d_A_checksum_197 : decode M_A_checksum.2.1 197 = .ok (.aload_n 0, 1) := by decide +kernel
theorem d_A_checksum_198 : decode M_A_checksum.2.1 198 = .ok (.iconst 2, 1) := by decide +kernel
theorem d_A_checksum_199 : decode M_A_checksum.2.1 199 = .ok (.invokevirtual 359, 3) := by decide +kernel
theorem d_A_checksum_202 : decode M_A_checksum.2.1 202 = .ok (.i2l, 1) := by decide +kernel
theorem d_A_checksum_203 : decode M_A_checksum.2.1 203 = .ok (.ladd, 1) := by decide +kernel
theorem d_A_checksum_204 : decode M_A_checksum.2.1 204 = .ok (.lreturn, 1) := by decide +kernel
theorem d_A_clearText_0 : decode M_A_clearText.2.1 0 = .ok (.aload_n 0, 1) := by decide +kernel
theorem d_A_clearText_1 : decode M_A_clearText.2.1 1 = .ok (.getfield 80, 3) := by decide +kernel
theorem d_A_clearText_4 : decode M_A_clearText.2.1 4 = .ok (.getfield 317, 3) := by decide +kernel
theorem d_A_clearText_7 : decode M_A_clearText.2.1 7 = .ok (.istore_n 1, 1) := by decide +kernel
theorem d_A_clearText_8 : decode M_A_clearText.2.1 8 = .ok (.aload_n 0, 1) := by decide +kernel
theorem d_A_clearText_9 : decode M_A_clearText.2.1 9 = .ok (.getfield 80, 3) := by decide +kernel
theorem d_A_clearText_12 : decode M_A_clearText.2.1 12 = .ok (.iconst 0, 1) := by decide +kernel
theorem d_A_clearText_13 : decode M_A_clearText.2.1 13 = .ok (.putfield 317, 3) := by decide +kernel
theorem d_A_clearText_16 : decode M_A_clearText.2.1 16 = .ok (.iload_n 1, 1) := by decide +kernel
theorem d_A_clearText_17 : decode M_A_clearText.2.1 17 = .ok (.ireturn, 1) := by decide +kernel
theorem d_A_isElement_0 : decode M_A_isElement.2.1 0 = .ok (.iload_n 1, 1) := by decide +kernel
theorem d_A_isElement_1 : decode M_A_isElement.2.1 1 = .ok (.ifCond .lt 18, 3) := by decide +kernel
theorem d_A_isElement_4 : decode M_A_isElement.2.1 4 = .ok (.iload_n 1, 1) := by decide +kernel
theorem d_A_isElement_5 : decode M_A_isElement.2.1 5 = .ok (.aload_n 0, 1) := by decide +kernel
theorem d_A_isElement_6 : decode M_A_isElement.2.1 6 = .ok (.getfield 19, 3) := by decide +kernel
theorem d_A_isElement_9 : decode M_A_isElement.2.1 9 = .ok (.getfield 102, 3) := by decide +kernel
theorem d_A_isElement_12 : decode M_A_isElement.2.1 12 = .ok (.if_icmp .ge 7, 3) := by decide +kernel
theorem d_A_isElement_15 : decode M_A_isElement.2.1 15 = .ok (.iconst 1, 1) := by decide +kernel
theorem d_A_isElement_16 : decode M_A_isElement.2.1 16 = .ok (.goto 4, 3) := by decide +kernel
theorem d_A_isElement_19 : decode M_A_isElement.2.1 19 = .ok (.iconst 0, 1) := by decide +kernel
theorem d_A_isElement_20 : decode M_A_isElement.2.1 20 = .ok (.ireturn, 1) := by decide +kernel
theorem d_A_count_0 : decode M_A_count.2.1 0 = .ok (.aload_n 0, 1) := by decide +kernel
theorem d_A_count_1 : decode M_A_count.2.1 1 = .ok (.iload_n 1, 1) := by decide +kernel
theorem d_A_count_2 : decode M_A_count.2.1 2 = .ok (.invokevirtual 120, 3) := by decide +kernel
theorem d_A_count_5 : decode M_A_count.2.1 5 = .ok (.ifCond .eq 7, 3) := by decide +kernel
theorem d_A_count_8 : decode M_A_count.2.1 8 = .ok (.iload_n 1, 1) := by decide +kernel
theorem d_A_count_9 : decode M_A_count.2.1 9 = .ok (.ifCond .ne 5, 3) := by decide +kernel
theorem d_A_count_12 : decode M_A_count.2.1 12 = .ok (.iconst (-1), 1) := by decide +kernel
theorem d_A_count_13 : decode M_A_count.2.1 13 = .ok (.ireturn, 1) := by decide +kernel
theorem d_A_count_14 : decode M_A_count.2.1 14 = .ok (.aload_n 0, 1) := by decide +kernel
theorem d_A_count_15 : decode M_A_count.2.1 15 = .ok (.getfield 36, 3) := by decide +kernel
theorem d_A_count_18 : decode M_A_count.2.1 18 = .ok (.aload_n 0, 1) := by decide +kernel
theorem d_A_count_19 : decode M_A_count.2.1 19 = .ok (.getfield 25, 3) := by decide +kernel
theorem d_A_count_22 : decode M_A_count.2.1 22 = .ok (.invokevirtual 185, 3) := by decide +kernel
theorem d_A_count_25 : decode M_A_count.2.1 25 = .ok (.aload_n 0, 1) := by decide +kernel
theorem d_A_count_26 : decode M_A_count.2.1 26 = .ok (.getfield 36, 3) := by decide +kernel
theorem d_A_count_29 : decode M_A_count.2.1 29 = .ok (.getfield 220, 3) := by decide +kernel
theorem d_A_count_32 : decode M_A_count.2.1 32 = .ok (.iload_n 1, 1) := by decide +kernel
theorem d_A_count_33 : decode M_A_count.2.1 33 = .ok (.iaload, 1) := by decide +kernel
theorem d_A_count_34 : decode M_A_count.2.1 34 = .ok (.ireturn, 1) := by decide +kernel
theorem d_F_positiveCounts_0 : decode M_F_positiveCounts.2.1 0 = .ok (.iconst 0, 1) := by decide +kernel
theorem d_F_positiveCounts_1 : decode M_F_positiveCounts.2.1 1 = .ok (.istore_n 1, 1) := by decide +kernel
theorem d_F_positiveCounts_2 : decode M_F_positiveCounts.2.1 2 = .ok (.iconst 1, 1) := by decide +kernel
theorem d_F_positiveCounts_3 : decode M_F_positiveCounts.2.1 3 = .ok (.istore_n 2, 1) := by decide +kernel
theorem d_F_positiveCounts_4 : decode M_F_positiveCounts.2.1 4 = .ok (.iload_n 2, 1) := by decide +kernel
theorem d_F_positiveCounts_5 : decode M_F_positiveCounts.2.1 5 = .ok (.aload_n 0, 1) := by decide +kernel
theorem d_F_positiveCounts_6 : decode M_F_positiveCounts.2.1 6 = .ok (.getfield 15, 3) := by decide +kernel
theorem d_F_positiveCounts_9 : decode M_F_positiveCounts.2.1 9 = .ok (.getfield 29, 3) := by decide +kernel
theorem d_F_positiveCounts_12 : decode M_F_positiveCounts.2.1 12 = .ok (.if_icmp .ge 21, 3) := by decide +kernel
theorem d_F_positiveCounts_15 : decode M_F_positiveCounts.2.1 15 = .ok (.aload_n 0, 1) := by decide +kernel
theorem d_F_positiveCounts_16 : decode M_F_positiveCounts.2.1 16 = .ok (.getfield 9, 3) := by decide +kernel
theorem d_F_positiveCounts_19 : decode M_F_positiveCounts.2.1 19 = .ok (.iload_n 2, 1) := by decide +kernel
theorem d_F_positiveCounts_20 : decode M_F_positiveCounts.2.1 20 = .ok (.iaload, 1) := by decide +kernel
theorem d_F_positiveCounts_21 : decode M_F_positiveCounts.2.1 21 = .ok (.ifCond .le 6, 3) := by decide +kernel
theorem d_F_positiveCounts_24 : decode M_F_positiveCounts.2.1 24 = .ok (.iinc 1 1, 3) := by decide +kernel
theorem d_F_positiveCounts_27 : decode M_F_positiveCounts.2.1 27 = .ok (.iinc 2 1, 3) := by decide +kernel
theorem d_F_positiveCounts_30 : decode M_F_positiveCounts.2.1 30 = .ok (.goto (-26), 3) := by decide +kernel
theorem d_F_positiveCounts_33 : decode M_F_positiveCounts.2.1 33 = .ok (.iload_n 1, 1) := by decide +kernel
theorem d_F_positiveCounts_34 : decode M_F_positiveCounts.2.1 34 = .ok (.ireturn, 1) := by decide +kernel
theorem d_A_covered_0 : decode M_A_covered.2.1 0 = .ok (.aload_n 0, 1) := by decide +kernel
theorem d_A_covered_1 : decode M_A_covered.2.1 1 = .ok (.getfield 36, 3) := by decide +kernel
theorem d_A_covered_4 : decode M_A_covered.2.1 4 = .ok (.aload_n 0, 1) := by decide +kernel
theorem d_A_covered_5 : decode M_A_covered.2.1 5 = .ok (.getfield 25, 3) := by decide +kernel
theorem d_A_covered_8 : decode M_A_covered.2.1 8 = .ok (.invokevirtual 185, 3) := by decide +kernel
theorem d_A_covered_11 : decode M_A_covered.2.1 11 = .ok (.aload_n 0, 1) := by decide +kernel
theorem d_A_covered_12 : decode M_A_covered.2.1 12 = .ok (.getfield 36, 3) := by decide +kernel
theorem d_A_covered_15 : decode M_A_covered.2.1 15 = .ok (.invokevirtual 223, 3) := by decide +kernel
theorem d_A_covered_18 : decode M_A_covered.2.1 18 = .ok (.ireturn, 1) := by decide +kernel
theorem d_J_abs_0 : decode M_J_abs.2.1 0 = .ok (.iload_n 0, 1) := by decide +kernel
theorem d_J_abs_1 : decode M_J_abs.2.1 1 = .ok (.ifCond .ge 8, 3) := by decide +kernel
theorem d_J_abs_4 : decode M_J_abs.2.1 4 = .ok (.iload_n 0, 1) := by decide +kernel
theorem d_J_abs_5 : decode M_J_abs.2.1 5 = .ok (.ineg, 1) := by decide +kernel
theorem d_J_abs_6 : decode M_J_abs.2.1 6 = .ok (.goto 4, 3) := by decide +kernel
theorem d_J_abs_9 : decode M_J_abs.2.1 9 = .ok (.iload_n 0, 1) := by decide +kernel
theorem d_J_abs_10 : decode M_J_abs.2.1 10 = .ok (.ireturn, 1) := by decide +kernel
theorem d_F_lackWith_0 : decode M_F_lackWith.2.1 0 = .ok (.iconst 0, 1) := by decide +kernel
theorem d_F_lackWith_1 : decode M_F_lackWith.2.1 1 = .ok (.istore 6, 2) := by decide +kernel
theorem d_F_lackWith_3 : decode M_F_lackWith.2.1 3 = .ok (.lload_n 1, 1) := by decide +kernel
theorem d_F_lackWith_4 : decode M_F_lackWith.2.1 4 = .ok (.lstore 7, 2) := by decide +kernel
theorem d_F_lackWith_6 : decode M_F_lackWith.2.1 6 = .ok (.iconst 1, 1) := by decide +kernel
theorem d_F_lackWith_7 : decode M_F_lackWith.2.1 7 = .ok (.istore 9, 2) := by decide +kernel
theorem d_F_lackWith_9 : decode M_F_lackWith.2.1 9 = .ok (.iload 9, 2) := by decide +kernel
theorem d_F_lackWith_11 : decode M_F_lackWith.2.1 11 = .ok (.aload_n 0, 1) := by decide +kernel
theorem d_F_lackWith_12 : decode M_F_lackWith.2.1 12 = .ok (.getfield 15, 3) := by decide +kernel
theorem d_F_lackWith_15 : decode M_F_lackWith.2.1 15 = .ok (.getfield 29, 3) := by decide +kernel
theorem d_F_lackWith_18 : decode M_F_lackWith.2.1 18 = .ok (.if_icmp .ge 68, 3) := by decide +kernel
theorem d_F_lackWith_21 : decode M_F_lackWith.2.1 21 = .ok (.aload_n 0, 1) := by decide +kernel
theorem d_F_lackWith_22 : decode M_F_lackWith.2.1 22 = .ok (.getfield 15, 3) := by decide +kernel
theorem d_F_lackWith_25 : decode M_F_lackWith.2.1 25 = .ok (.lload 7, 2) := by decide +kernel
theorem d_F_lackWith_27 : decode M_F_lackWith.2.1 27 = .ok (.iload 9, 2) := by decide +kernel
theorem d_F_lackWith_29 : decode M_F_lackWith.2.1 29 = .ok (.iconst 1, 1) := by decide +kernel
theorem d_F_lackWith_30 : decode M_F_lackWith.2.1 30 = .ok (.isub, 1) := by decide +kernel
theorem d_F_lackWith_31 : decode M_F_lackWith.2.1 31 = .ok (.invokevirtual 35, 3) := by decide +kernel
theorem d_F_lackWith_34 : decode M_F_lackWith.2.1 34 = .ok (.lstore 7, 2) := by decide +kernel
theorem d_F_lackWith_36 : decode M_F_lackWith.2.1 36 = .ok (.aload_n 0, 1) := by decide +kernel
theorem d_F_lackWith_37 : decode M_F_lackWith.2.1 37 = .ok (.getfield 9, 3) := by decide +kernel
theorem d_F_lackWith_40 : decode M_F_lackWith.2.1 40 = .ok (.iload 9, 2) := by decide +kernel
theorem d_F_lackWith_42 : decode M_F_lackWith.2.1 42 = .ok (.iaload, 1) := by decide +kernel
theorem d_F_lackWith_43 : decode M_F_lackWith.2.1 43 = .ok (.lload_n 1, 1) := by decide +kernel
theorem d_F_lackWith_44 : decode M_F_lackWith.2.1 44 = .ok (.lload 7, 2) := by decide +kernel
theorem d_F_lackWith_46 : decode M_F_lackWith.2.1 46 = .ok (.land, 1) := by decide +kernel
theorem d_F_lackWith_47 : decode M_F_lackWith.2.1 47 = .ok (.invokestatic 39, 3) := by decide +kernel
theorem d_F_lackWith_50 : decode M_F_lackWith.2.1 50 = .ok (.iadd, 1) := by decide +kernel
theorem d_F_lackWith_51 : decode M_F_lackWith.2.1 51 = .ok (.istore 10, 2) := by decide +kernel
theorem d_F_lackWith_53 : decode M_F_lackWith.2.1 53 = .ok (.iload 6, 2) := by decide +kernel
theorem d_F_lackWith_55 : decode M_F_lackWith.2.1 55 = .ok (.lload_n 3, 1) := by decide +kernel
theorem d_F_lackWith_56 : decode M_F_lackWith.2.1 56 = .ok (.iload 9, 2) := by decide +kernel
theorem d_F_lackWith_58 : decode M_F_lackWith.2.1 58 = .ok (.invokestatic 49, 3) := by decide +kernel
theorem d_F_lackWith_61 : decode M_F_lackWith.2.1 61 = .ok (.ifCond .eq 8, 3) := by decide +kernel
theorem d_F_lackWith_64 : decode M_F_lackWith.2.1 64 = .ok (.iload 10, 2) := by decide +kernel
theorem d_F_lackWith_66 : decode M_F_lackWith.2.1 66 = .ok (.goto 11, 3) := by decide +kernel
theorem d_F_lackWith_69 : decode M_F_lackWith.2.1 69 = .ok (.iload 10, 2) := by decide +kernel
theorem d_F_lackWith_71 : decode M_F_lackWith.2.1 71 = .ok (.iload 5, 2) := by decide +kernel
theorem d_F_lackWith_73 : decode M_F_lackWith.2.1 73 = .ok (.isub, 1) := by decide +kernel
theorem d_F_lackWith_74 : decode M_F_lackWith.2.1 74 = .ok (.invokestatic 53, 3) := by decide +kernel
theorem d_F_lackWith_77 : decode M_F_lackWith.2.1 77 = .ok (.iadd, 1) := by decide +kernel
theorem d_F_lackWith_78 : decode M_F_lackWith.2.1 78 = .ok (.istore 6, 2) := by decide +kernel
theorem d_F_lackWith_80 : decode M_F_lackWith.2.1 80 = .ok (.iinc 9 1, 3) := by decide +kernel
theorem d_F_lackWith_83 : decode M_F_lackWith.2.1 83 = .ok (.goto (-74), 3) := by decide +kernel
theorem d_F_lackWith_86 : decode M_F_lackWith.2.1 86 = .ok (.iload 6, 2) := by decide +kernel
theorem d_F_lackWith_88 : decode M_F_lackWith.2.1 88 = .ok (.ireturn, 1) := by decide +kernel
theorem d_F_lack_0 : decode M_F_lack.2.1 0 = .ok (.aload_n 0, 1) := by decide +kernel
theorem d_F_lack_1 : decode M_F_lack.2.1 1 = .ok (.lconst 0, 1) := by decide +kernel
theorem d_F_lack_2 : decode M_F_lack.2.1 2 = .ok (.lload_n 1, 1) := by decide +kernel
theorem d_F_lack_3 : decode M_F_lack.2.1 3 = .ok (.iload_n 3, 1) := by decide +kernel
theorem d_F_lack_4 : decode M_F_lack.2.1 4 = .ok (.invokevirtual 45, 3) := by decide +kernel
theorem d_F_lack_7 : decode M_F_lack.2.1 7 = .ok (.ireturn, 1) := by decide +kernel
theorem d_A_deficiency_0 : decode M_A_deficiency.2.1 0 = .ok (.iload_n 1, 1) := by decide +kernel
theorem d_A_deficiency_1 : decode M_A_deficiency.2.1 1 = .ok (.iconst 1, 1) := by decide +kernel
theorem d_A_deficiency_2 : decode M_A_deficiency.2.1 2 = .ok (.bipush 20, 2) := by decide +kernel
theorem d_A_deficiency_4 : decode M_A_deficiency.2.1 4 = .ok (.invokestatic 128, 3) := by decide +kernel
theorem d_A_deficiency_7 : decode M_A_deficiency.2.1 7 = .ok (.ifCond .ne 5, 3) := by decide +kernel
theorem d_A_deficiency_10 : decode M_A_deficiency.2.1 10 = .ok (.iconst (-1), 1) := by decide +kernel
theorem d_A_deficiency_11 : decode M_A_deficiency.2.1 11 = .ok (.ireturn, 1) := by decide +kernel
theorem d_A_deficiency_12 : decode M_A_deficiency.2.1 12 = .ok (.aload_n 0, 1) := by decide +kernel
theorem d_A_deficiency_13 : decode M_A_deficiency.2.1 13 = .ok (.getfield 36, 3) := by decide +kernel
theorem d_A_deficiency_16 : decode M_A_deficiency.2.1 16 = .ok (.aload_n 0, 1) := by decide +kernel
theorem d_A_deficiency_17 : decode M_A_deficiency.2.1 17 = .ok (.getfield 25, 3) := by decide +kernel
theorem d_A_deficiency_20 : decode M_A_deficiency.2.1 20 = .ok (.invokevirtual 185, 3) := by decide +kernel
theorem d_A_deficiency_23 : decode M_A_deficiency.2.1 23 = .ok (.aload_n 0, 1) := by decide +kernel
theorem d_A_deficiency_24 : decode M_A_deficiency.2.1 24 = .ok (.getfield 36, 3) := by decide +kernel
theorem d_A_deficiency_27 : decode M_A_deficiency.2.1 27 = .ok (.aload_n 0, 1) := by decide +kernel
theorem d_A_deficiency_28 : decode M_A_deficiency.2.1 28 = .ok (.getfield 94, 3) := by decide +kernel
theorem d_A_deficiency_31 : decode M_A_deficiency.2.1 31 = .ok (.iload_n 1, 1) := by decide +kernel
theorem d_A_deficiency_32 : decode M_A_deficiency.2.1 32 = .ok (.invokevirtual 188, 3) := by decide +kernel
theorem d_A_deficiency_35 : decode M_A_deficiency.2.1 35 = .ok (.ireturn, 1) := by decide +kernel
theorem d_A_designBlock_0 : decode M_A_designBlock.2.1 0 = .ok (.aload_n 0, 1) := by decide +kernel
theorem d_A_designBlock_1 : decode M_A_designBlock.2.1 1 = .ok (.getfield 59, 3) := by decide +kernel
theorem d_A_designBlock_4 : decode M_A_designBlock.2.1 4 = .ok (.aload_n 0, 1) := by decide +kernel
theorem d_A_designBlock_5 : decode M_A_designBlock.2.1 5 = .ok (.getfield 25, 3) := by decide +kernel
theorem d_A_designBlock_8 : decode M_A_designBlock.2.1 8 = .ok (.invokevirtual 265, 3) := by decide +kernel
theorem d_A_designBlock_11 : decode M_A_designBlock.2.1 11 = .ok (.iload_n 1, 1) := by decide +kernel
theorem d_A_designBlock_12 : decode M_A_designBlock.2.1 12 = .ok (.iconst 0, 1) := by decide +kernel
theorem d_A_designBlock_13 : decode M_A_designBlock.2.1 13 = .ok (.aload_n 0, 1) := by decide +kernel
theorem d_A_designBlock_14 : decode M_A_designBlock.2.1 14 = .ok (.getfield 59, 3) := by decide +kernel
theorem d_A_designBlock_17 : decode M_A_designBlock.2.1 17 = .ok (.getfield 268, 3) := by decide +kernel
theorem d_A_designBlock_20 : decode M_A_designBlock.2.1 20 = .ok (.iconst 1, 1) := by decide +kernel
theorem d_A_designBlock_21 : decode M_A_designBlock.2.1 21 = .ok (.isub, 1) := by decide +kernel
theorem d_A_designBlock_22 : decode M_A_designBlock.2.1 22 = .ok (.invokestatic 128, 3) := by decide +kernel
theorem d_A_designBlock_25 : decode M_A_designBlock.2.1 25 = .ok (.ifCond .ne 7, 3) := by decide +kernel
theorem d_A_designBlock_28 : decode M_A_designBlock.2.1 28 = .ok (.ldc2_w 169, 3) := by decide +kernel
theorem d_A_designBlock_31 : decode M_A_designBlock.2.1 31 = .ok (.lreturn, 1) := by decide +kernel
theorem d_A_designBlock_32 : decode M_A_designBlock.2.1 32 = .ok (.aload_n 0, 1) := by decide +kernel
theorem d_A_designBlock_33 : decode M_A_designBlock.2.1 33 = .ok (.getfield 59, 3) := by decide +kernel
theorem d_A_designBlock_36 : decode M_A_designBlock.2.1 36 = .ok (.getfield 269, 3) := by decide +kernel
theorem d_A_designBlock_39 : decode M_A_designBlock.2.1 39 = .ok (.iload_n 1, 1) := by decide +kernel
theorem d_A_designBlock_40 : decode M_A_designBlock.2.1 40 = .ok (.laload, 1) := by decide +kernel
theorem d_A_designBlock_41 : decode M_A_designBlock.2.1 41 = .ok (.lreturn, 1) := by decide +kernel
theorem d_D_disjointFromFirst_0 : decode M_D_disjointFromFirst.2.1 0 = .ok (.iconst 0, 1) := by decide +kernel
theorem d_D_disjointFromFirst_1 : decode M_D_disjointFromFirst.2.1 1 = .ok (.istore_n 1, 1) := by decide +kernel
theorem d_D_disjointFromFirst_2 : decode M_D_disjointFromFirst.2.1 2 = .ok (.lconst 0, 1) := by decide +kernel
theorem d_D_disjointFromFirst_3 : decode M_D_disjointFromFirst.2.1 3 = .ok (.lstore_n 2, 1) := by decide +kernel
theorem d_D_disjointFromFirst_4 : decode M_D_disjointFromFirst.2.1 4 = .ok (.iconst 0, 1) := by decide +kernel
theorem d_D_disjointFromFirst_5 : decode M_D_disjointFromFirst.2.1 5 = .ok (.istore 4, 2) := by decide +kernel
theorem d_D_disjointFromFirst_7 : decode M_D_disjointFromFirst.2.1 7 = .ok (.iload 4, 2) := by decide +kernel
theorem d_D_disjointFromFirst_9 : decode M_D_disjointFromFirst.2.1 9 = .ok (.aload_n 0, 1) := by decide +kernel
theorem d_D_disjointFromFirst_10 : decode M_D_disjointFromFirst.2.1 10 = .ok (.getfield 19, 3) := by decide +kernel
theorem d_D_disjointFromFirst_13 : decode M_D_disjointFromFirst.2.1 13 = .ok (.if_icmp .ge 36, 3) := by decide +kernel
theorem d_D_disjointFromFirst_16 : decode M_D_disjointFromFirst.2.1 16 = .ok (.aload_n 0, 1) := by decide +kernel
theorem d_D_disjointFromFirst_17 : decode M_D_disjointFromFirst.2.1 17 = .ok (.getfield 9, 3) := by decide +kernel
theorem d_D_disjointFromFirst_20 : decode M_D_disjointFromFirst.2.1 20 = .ok (.iload 4, 2) := by decide +kernel
theorem d_D_disjointFromFirst_22 : decode M_D_disjointFromFirst.2.1 22 = .ok (.laload, 1) := by decide +kernel
theorem d_D_disjointFromFirst_23 : decode M_D_disjointFromFirst.2.1 23 = .ok (.lload_n 2, 1) := by decide +kernel
theorem d_D_disjointFromFirst_24 : decode M_D_disjointFromFirst.2.1 24 = .ok (.land, 1) := by decide +kernel
theorem d_D_disjointFromFirst_25 : decode M_D_disjointFromFirst.2.1 25 = .ok (.lconst 0, 1) := by decide +kernel
theorem d_D_disjointFromFirst_26 : decode M_D_disjointFromFirst.2.1 26 = .ok (.lcmp, 1) := by decide +kernel
theorem d_D_disjointFromFirst_27 : decode M_D_disjointFromFirst.2.1 27 = .ok (.ifCond .ne 16, 3) := by decide +kernel
theorem d_D_disjointFromFirst_30 : decode M_D_disjointFromFirst.2.1 30 = .ok (.lload_n 2, 1) := by decide +kernel
theorem d_D_disjointFromFirst_31 : decode M_D_disjointFromFirst.2.1 31 = .ok (.aload_n 0, 1) := by decide +kernel
theorem d_D_disjointFromFirst_32 : decode M_D_disjointFromFirst.2.1 32 = .ok (.getfield 9, 3) := by decide +kernel
theorem d_D_disjointFromFirst_35 : decode M_D_disjointFromFirst.2.1 35 = .ok (.iload 4, 2) := by decide +kernel
theorem d_D_disjointFromFirst_37 : decode M_D_disjointFromFirst.2.1 37 = .ok (.laload, 1) := by decide +kernel
theorem d_D_disjointFromFirst_38 : decode M_D_disjointFromFirst.2.1 38 = .ok (.lor, 1) := by decide +kernel
theorem d_D_disjointFromFirst_39 : decode M_D_disjointFromFirst.2.1 39 = .ok (.lstore_n 2, 1) := by decide +kernel
theorem d_D_disjointFromFirst_40 : decode M_D_disjointFromFirst.2.1 40 = .ok (.iinc 1 1, 3) := by decide +kernel
theorem d_D_disjointFromFirst_43 : decode M_D_disjointFromFirst.2.1 43 = .ok (.iinc 4 1, 3) := by decide +kernel
theorem d_D_disjointFromFirst_46 : decode M_D_disjointFromFirst.2.1 46 = .ok (.goto (-39), 3) := by decide +kernel
theorem d_D_disjointFromFirst_49 : decode M_D_disjointFromFirst.2.1 49 = .ok (.iload_n 1, 1) := by decide +kernel
theorem d_D_disjointFromFirst_50 : decode M_D_disjointFromFirst.2.1 50 = .ok (.ireturn, 1) := by decide +kernel
