theorem dX12_isOwn_165 : decode cX12_isOwn 165 = .ok (.iconst 1, 1) := by decide +kernel
theorem dX12_isOwn_166 : decode cX12_isOwn 166 = .ok (.goto 4, 3) := by decide +kernel
theorem dX12_isOwn_169 : decode cX12_isOwn 169 = .ok (.iconst 0, 1) := by decide +kernel
theorem dX12_isOwn_170 : decode cX12_isOwn 170 = .ok (.ireturn, 1) := by decide +kernel
theorem dX12_isName_0 : decode cX12_isName 0 = .ok (.aload_n 0, 1) := by decide +kernel
theorem dX12_isName_1 : decode cX12_isName 1 = .ok (.getfield 145, 3) := by decide +kernel
theorem dX12_isName_4 : decode cX12_isName 4 = .ok (.iconst 1, 1) := by decide +kernel
theorem dX12_isName_5 : decode cX12_isName 5 = .ok (.if_icmp .ne 14, 3) := by decide +kernel
theorem dX12_isName_8 : decode cX12_isName 8 = .ok (.aload_n 0, 1) := by decide +kernel
theorem dX12_isName_9 : decode cX12_isName 9 = .ok (.invokevirtual 191, 3) := by decide +kernel
theorem dX12_isName_12 : decode cX12_isName 12 = .ok (.ifCond .ne 7, 3) := by decide +kernel
theorem dX12_isName_15 : decode cX12_isName 15 = .ok (.iconst 1, 1) := by decide +kernel
theorem dX12_isName_16 : decode cX12_isName 16 = .ok (.goto 4, 3) := by decide +kernel
theorem dX12_isName_19 : decode cX12_isName 19 = .ok (.iconst 0, 1) := by decide +kernel
theorem dX12_isName_20 : decode cX12_isName 20 = .ok (.ireturn, 1) := by decide +kernel
theorem dX12_want_0 : decode cX12_want 0 = .ok (.aload_n 0, 1) := by decide +kernel
theorem dX12_want_1 : decode cX12_want 1 = .ok (.getfield 158, 3) := by decide +kernel
theorem dX12_want_4 : decode cX12_want 4 = .ok (.ifCond .le 4, 3) := by decide +kernel
theorem dX12_want_7 : decode cX12_want 7 = .ok (.return_, 1) := by decide +kernel
theorem dX12_want_8 : decode cX12_want 8 = .ok (.aload_n 0, 1) := by decide +kernel
theorem dX12_want_9 : decode cX12_want 9 = .ok (.lload_n 1, 1) := by decide +kernel
theorem dX12_want_10 : decode cX12_want 10 = .ok (.invokevirtual 195, 3) := by decide +kernel
theorem dX12_want_13 : decode cX12_want 13 = .ok (.ifCond .ne 11, 3) := by decide +kernel
theorem dX12_want_16 : decode cX12_want 16 = .ok (.aload_n 0, 1) := by decide +kernel
theorem dX12_want_17 : decode cX12_want 17 = .ok (.iconst 2, 1) := by decide +kernel
theorem dX12_want_18 : decode cX12_want 18 = .ok (.invokevirtual 199, 3) := by decide +kernel
theorem dX12_want_21 : decode cX12_want 21 = .ok (.goto 7, 3) := by decide +kernel
theorem dX12_want_24 : decode cX12_want 24 = .ok (.aload_n 0, 1) := by decide +kernel
theorem dX12_want_25 : decode cX12_want 25 = .ok (.invokevirtual 202, 3) := by decide +kernel
theorem dX12_want_28 : decode cX12_want 28 = .ok (.return_, 1) := by decide +kernel
theorem dX12_toldNumber_0 : decode cX12_toldNumber 0 = .ok (.aload_n 0, 1) := by decide +kernel
theorem dX12_toldNumber_1 : decode cX12_toldNumber 1 = .ok (.getfield 158, 3) := by decide +kernel
theorem dX12_toldNumber_4 : decode cX12_toldNumber 4 = .ok (.ifCond .le 5, 3) := by decide +kernel
theorem dX12_toldNumber_7 : decode cX12_toldNumber 7 = .ok (.iconst 0, 1) := by decide +kernel
theorem dX12_toldNumber_8 : decode cX12_toldNumber 8 = .ok (.ireturn, 1) := by decide +kernel
theorem dX12_toldNumber_9 : decode cX12_toldNumber 9 = .ok (.aload_n 0, 1) := by decide +kernel
theorem dX12_toldNumber_10 : decode cX12_toldNumber 10 = .ok (.getfield 145, 3) := by decide +kernel
theorem dX12_toldNumber_13 : decode cX12_toldNumber 13 = .ok (.iconst 2, 1) := by decide +kernel
theorem dX12_toldNumber_14 : decode cX12_toldNumber 14 = .ok (.if_icmp .eq 11, 3) := by decide +kernel
theorem dX12_toldNumber_17 : decode cX12_toldNumber 17 = .ok (.aload_n 0, 1) := by decide +kernel
theorem dX12_toldNumber_18 : decode cX12_toldNumber 18 = .ok (.iconst 2, 1) := by decide +kernel
theorem dX12_toldNumber_19 : decode cX12_toldNumber 19 = .ok (.invokevirtual 199, 3) := by decide +kernel
theorem dX12_toldNumber_22 : decode cX12_toldNumber 22 = .ok (.goto 24, 3) := by decide +kernel
theorem dX12_toldNumber_25 : decode cX12_toldNumber 25 = .ok (.aload_n 0, 1) := by decide +kernel
theorem dX12_toldNumber_26 : decode cX12_toldNumber 26 = .ok (.getfield 142, 3) := by decide +kernel
theorem dX12_toldNumber_29 : decode cX12_toldNumber 29 = .ok (.iload_n 1, 1) := by decide +kernel
theorem dX12_toldNumber_30 : decode cX12_toldNumber 30 = .ok (.if_icmp .lt 11, 3) := by decide +kernel
theorem dX12_toldNumber_33 : decode cX12_toldNumber 33 = .ok (.aload_n 0, 1) := by decide +kernel
theorem dX12_toldNumber_34 : decode cX12_toldNumber 34 = .ok (.getfield 142, 3) := by decide +kernel
theorem dX12_toldNumber_37 : decode cX12_toldNumber 37 = .ok (.iload_n 2, 1) := by decide +kernel
theorem dX12_toldNumber_38 : decode cX12_toldNumber 38 = .ok (.if_icmp .le 8, 3) := by decide +kernel
theorem dX12_toldNumber_41 : decode cX12_toldNumber 41 = .ok (.aload_n 0, 1) := by decide +kernel
theorem dX12_toldNumber_42 : decode cX12_toldNumber 42 = .ok (.iconst 4, 1) := by decide +kernel
theorem dX12_toldNumber_43 : decode cX12_toldNumber 43 = .ok (.invokevirtual 199, 3) := by decide +kernel
theorem dX12_toldNumber_46 : decode cX12_toldNumber 46 = .ok (.aload_n 0, 1) := by decide +kernel
theorem dX12_toldNumber_47 : decode cX12_toldNumber 47 = .ok (.getfield 142, 3) := by decide +kernel
theorem dX12_toldNumber_50 : decode cX12_toldNumber 50 = .ok (.istore_n 3, 1) := by decide +kernel
theorem dX12_toldNumber_51 : decode cX12_toldNumber 51 = .ok (.aload_n 0, 1) := by decide +kernel
theorem dX12_toldNumber_52 : decode cX12_toldNumber 52 = .ok (.getfield 158, 3) := by decide +kernel
theorem dX12_toldNumber_55 : decode cX12_toldNumber 55 = .ok (.ifCond .ne 7, 3) := by decide +kernel
theorem dX12_toldNumber_58 : decode cX12_toldNumber 58 = .ok (.aload_n 0, 1) := by decide +kernel
theorem dX12_toldNumber_59 : decode cX12_toldNumber 59 = .ok (.invokevirtual 202, 3) := by decide +kernel
theorem dX12_toldNumber_62 : decode cX12_toldNumber 62 = .ok (.iload_n 3, 1) := by decide +kernel
theorem dX12_toldNumber_63 : decode cX12_toldNumber 63 = .ok (.ireturn, 1) := by decide +kernel
theorem dX12_told_0 : decode cX12_told 0 = .ok (.aload_n 0, 1) := by decide +kernel
theorem dX12_told_1 : decode cX12_told 1 = .ok (.lload_n 1, 1) := by decide +kernel
theorem dX12_told_2 : decode cX12_told 2 = .ok (.invokevirtual 205, 3) := by decide +kernel
theorem dX12_told_5 : decode cX12_told 5 = .ok (.aload_n 0, 1) := by decide +kernel
theorem dX12_told_6 : decode cX12_told 6 = .ok (.iload_n 3, 1) := by decide +kernel
theorem dX12_told_7 : decode cX12_told 7 = .ok (.iload 4, 2) := by decide +kernel
theorem dX12_told_9 : decode cX12_told 9 = .ok (.invokevirtual 209, 3) := by decide +kernel
theorem dX12_told_12 : decode cX12_told 12 = .ok (.ireturn, 1) := by decide +kernel
theorem dX12_find_0 : decode cX12_find 0 = .ok (.iconst (-1), 1) := by decide +kernel
theorem dX12_find_1 : decode cX12_find 1 = .ok (.istore_n 3, 1) := by decide +kernel
theorem dX12_find_2 : decode cX12_find 2 = .ok (.iconst 0, 1) := by decide +kernel
theorem dX12_find_3 : decode cX12_find 3 = .ok (.istore 4, 2) := by decide +kernel
theorem dX12_find_5 : decode cX12_find 5 = .ok (.iload 4, 2) := by decide +kernel
theorem dX12_find_7 : decode cX12_find 7 = .ok (.iload_n 2, 1) := by decide +kernel
theorem dX12_find_8 : decode cX12_find 8 = .ok (.if_icmp .ge 33, 3) := by decide +kernel
theorem dX12_find_11 : decode cX12_find 11 = .ok (.aload_n 0, 1) := by decide +kernel
theorem dX12_find_12 : decode cX12_find 12 = .ok (.getfield 17, 3) := by decide +kernel
theorem dX12_find_15 : decode cX12_find 15 = .ok (.iload_n 1, 1) := by decide +kernel
theorem dX12_find_16 : decode cX12_find 16 = .ok (.iload 4, 2) := by decide +kernel
theorem dX12_find_18 : decode cX12_find 18 = .ok (.iadd, 1) := by decide +kernel
theorem dX12_find_19 : decode cX12_find 19 = .ok (.laload, 1) := by decide +kernel
theorem dX12_find_20 : decode cX12_find 20 = .ok (.aload_n 0, 1) := by decide +kernel
theorem dX12_find_21 : decode cX12_find 21 = .ok (.getfield 138, 3) := by decide +kernel
theorem dX12_find_24 : decode cX12_find 24 = .ok (.lcmp, 1) := by decide +kernel
theorem dX12_find_25 : decode cX12_find 25 = .ok (.ifCond .ne 8, 3) := by decide +kernel
theorem dX12_find_28 : decode cX12_find 28 = .ok (.iload 4, 2) := by decide +kernel
theorem dX12_find_30 : decode cX12_find 30 = .ok (.goto 4, 3) := by decide +kernel
theorem dX12_find_33 : decode cX12_find 33 = .ok (.iload_n 3, 1) := by decide +kernel
theorem dX12_find_34 : decode cX12_find 34 = .ok (.istore_n 3, 1) := by decide +kernel
theorem dX12_find_35 : decode cX12_find 35 = .ok (.iinc 4 1, 3) := by decide +kernel
theorem dX12_find_38 : decode cX12_find 38 = .ok (.goto (-33), 3) := by decide +kernel
theorem dX12_find_41 : decode cX12_find 41 = .ok (.iload_n 3, 1) := by decide +kernel
theorem dX12_find_42 : decode cX12_find 42 = .ok (.ireturn, 1) := by decide +kernel
theorem dX12_newName_0 : decode cX12_newName 0 = .ok (.aload_n 0, 1) := by decide +kernel
theorem dX12_newName_1 : decode cX12_newName 1 = .ok (.invokevirtual 202, 3) := by decide +kernel
theorem dX12_newName_4 : decode cX12_newName 4 = .ok (.aload_n 0, 1) := by decide +kernel
theorem dX12_newName_5 : decode cX12_newName 5 = .ok (.invokevirtual 213, 3) := by decide +kernel
theorem dX12_newName_8 : decode cX12_newName 8 = .ok (.ifCond .ne 11, 3) := by decide +kernel
theorem dX12_newName_11 : decode cX12_newName 11 = .ok (.aload_n 0, 1) := by decide +kernel
theorem dX12_newName_12 : decode cX12_newName 12 = .ok (.iconst 2, 1) := by decide +kernel
theorem dX12_newName_13 : decode cX12_newName 13 = .ok (.invokevirtual 199, 3) := by decide +kernel
theorem dX12_newName_16 : decode cX12_newName 16 = .ok (.goto 17, 3) := by decide +kernel
theorem dX12_newName_19 : decode cX12_newName 19 = .ok (.aload_n 0, 1) := by decide +kernel
theorem dX12_newName_20 : decode cX12_newName 20 = .ok (.iload_n 1, 1) := by decide +kernel
theorem dX12_newName_21 : decode cX12_newName 21 = .ok (.iload_n 2, 1) := by decide +kernel
theorem dX12_newName_22 : decode cX12_newName 22 = .ok (.invokevirtual 216, 3) := by decide +kernel
theorem dX12_newName_25 : decode cX12_newName 25 = .ok (.ifCond .lt 8, 3) := by decide +kernel
theorem dX12_newName_28 : decode cX12_newName 28 = .ok (.aload_n 0, 1) := by decide +kernel
theorem dX12_newName_29 : decode cX12_newName 29 = .ok (.iconst 3, 1) := by decide +kernel
theorem dX12_newName_30 : decode cX12_newName 30 = .ok (.invokevirtual 199, 3) := by decide +kernel
theorem dX12_newName_33 : decode cX12_newName 33 = .ok (.aload_n 0, 1) := by decide +kernel
theorem dX12_newName_34 : decode cX12_newName 34 = .ok (.getfield 158, 3) := by decide +kernel
theorem dX12_newName_37 : decode cX12_newName 37 = .ok (.ifCond .le 4, 3) := by decide +kernel
theorem dX12_newName_40 : decode cX12_newName 40 = .ok (.return_, 1) := by decide +kernel
theorem dX12_newName_41 : decode cX12_newName 41 = .ok (.aload_n 0, 1) := by decide +kernel
theorem dX12_newName_42 : decode cX12_newName 42 = .ok (.getfield 17, 3) := by decide +kernel
theorem dX12_newName_45 : decode cX12_newName 45 = .ok (.iload_n 1, 1) := by decide +kernel
theorem dX12_newName_46 : decode cX12_newName 46 = .ok (.iload_n 2, 1) := by decide +kernel
theorem dX12_newName_47 : decode cX12_newName 47 = .ok (.iadd, 1) := by decide +kernel
theorem dX12_newName_48 : decode cX12_newName 48 = .ok (.aload_n 0, 1) := by decide +kernel
theorem dX12_newName_49 : decode cX12_newName 49 = .ok (.getfield 138, 3) := by decide +kernel
theorem dX12_newName_52 : decode cX12_newName 52 = .ok (.lastore, 1) := by decide +kernel
theorem dX12_newName_53 : decode cX12_newName 53 = .ok (.aload_n 0, 1) := by decide +kernel
theorem dX12_newName_54 : decode cX12_newName 54 = .ok (.invokevirtual 202, 3) := by decide +kernel
theorem dX12_newName_57 : decode cX12_newName 57 = .ok (.return_, 1) := by decide +kernel
theorem dX12_oldSoul_0 : decode cX12_oldSoul 0 = .ok (.aload_n 0, 1) := by decide +kernel
theorem dX12_oldSoul_1 : decode cX12_oldSoul 1 = .ok (.getfield 158, 3) := by decide +kernel
theorem dX12_oldSoul_4 : decode cX12_oldSoul 4 = .ok (.ifCond .le 5, 3) := by decide +kernel
theorem dX12_oldSoul_7 : decode cX12_oldSoul 7 = .ok (.iconst 0, 1) := by decide +kernel
theorem dX12_oldSoul_8 : decode cX12_oldSoul 8 = .ok (.ireturn, 1) := by decide +kernel
theorem dX12_oldSoul_9 : decode cX12_oldSoul 9 = .ok (.aload_n 0, 1) := by decide +kernel
theorem dX12_oldSoul_10 : decode cX12_oldSoul 10 = .ok (.invokevirtual 213, 3) := by decide +kernel
theorem dX12_oldSoul_13 : decode cX12_oldSoul 13 = .ok (.ifCond .ne 11, 3) := by decide +kernel
theorem dX12_oldSoul_16 : decode cX12_oldSoul 16 = .ok (.aload_n 0, 1) := by decide +kernel
theorem dX12_oldSoul_17 : decode cX12_oldSoul 17 = .ok (.iconst 2, 1) := by decide +kernel
theorem dX12_oldSoul_18 : decode cX12_oldSoul 18 = .ok (.invokevirtual 199, 3) := by decide +kernel
theorem dX12_oldSoul_21 : decode cX12_oldSoul 21 = .ok (.goto 20, 3) := by decide +kernel
theorem dX12_oldSoul_24 : decode cX12_oldSoul 24 = .ok (.aload_n 0, 1) := by decide +kernel
theorem dX12_oldSoul_25 : decode cX12_oldSoul 25 = .ok (.iconst 5, 1) := by decide +kernel
theorem dX12_oldSoul_26 : decode cX12_oldSoul 26 = .ok (.aload_n 0, 1) := by decide +kernel
theorem dX12_oldSoul_27 : decode cX12_oldSoul 27 = .ok (.getfield 219, 3) := by decide +kernel
theorem dX12_oldSoul_30 : decode cX12_oldSoul 30 = .ok (.invokevirtual 216, 3) := by decide +kernel
theorem dX12_oldSoul_33 : decode cX12_oldSoul 33 = .ok (.ifCond .ge 8, 3) := by decide +kernel
theorem dX12_oldSoul_36 : decode cX12_oldSoul 36 = .ok (.aload_n 0, 1) := by decide +kernel
theorem dX12_oldSoul_37 : decode cX12_oldSoul 37 = .ok (.iconst 5, 1) := by decide +kernel
theorem dX12_oldSoul_38 : decode cX12_oldSoul 38 = .ok (.invokevirtual 199, 3) := by decide +kernel
theorem dX12_oldSoul_41 : decode cX12_oldSoul 41 = .ok (.aload_n 0, 1) := by decide +kernel
theorem dX12_oldSoul_42 : decode cX12_oldSoul 42 = .ok (.getfield 158, 3) := by decide +kernel
theorem dX12_oldSoul_45 : decode cX12_oldSoul 45 = .ok (.ifCond .le 7, 3) := by decide +kernel
theorem dX12_oldSoul_48 : decode cX12_oldSoul 48 = .ok (.iconst 0, 1) := by decide +kernel
theorem dX12_oldSoul_49 : decode cX12_oldSoul 49 = .ok (.goto 12, 3) := by decide +kernel
theorem dX12_oldSoul_52 : decode cX12_oldSoul 52 = .ok (.aload_n 0, 1) := by decide +kernel
theorem dX12_oldSoul_53 : decode cX12_oldSoul 53 = .ok (.iconst 5, 1) := by decide +kernel
theorem dX12_oldSoul_54 : decode cX12_oldSoul 54 = .ok (.aload_n 0, 1) := by decide +kernel
theorem dX12_oldSoul_55 : decode cX12_oldSoul 55 = .ok (.getfield 219, 3) := by decide +kernel
theorem dX12_oldSoul_58 : decode cX12_oldSoul 58 = .ok (.invokevirtual 216, 3) := by decide +kernel
theorem dX12_oldSoul_61 : decode cX12_oldSoul 61 = .ok (.ireturn, 1) := by decide +kernel
theorem dX12_add_0 : decode cX12_add 0 = .ok (.aload_n 0, 1) := by decide +kernel
theorem dX12_add_1 : decode cX12_add 1 = .ok (.getfield 21, 3) := by decide +kernel
theorem dX12_add_4 : decode cX12_add 4 = .ok (.aload_n 0, 1) := by decide +kernel
theorem dX12_add_5 : decode cX12_add 5 = .ok (.getfield 222, 3) := by decide +kernel
theorem dX12_add_8 : decode cX12_add 8 = .ok (.iload_n 1, 1) := by decide +kernel
theorem dX12_add_9 : decode cX12_add 9 = .ok (.iastore, 1) := by decide +kernel
theorem dX12_add_10 : decode cX12_add 10 = .ok (.aload_n 0, 1) := by decide +kernel
theorem dX12_add_11 : decode cX12_add 11 = .ok (.getfield 24, 3) := by decide +kernel
theorem dX12_add_14 : decode cX12_add 14 = .ok (.aload_n 0, 1) := by decide +kernel
theorem dX12_add_15 : decode cX12_add 15 = .ok (.getfield 222, 3) := by decide +kernel
theorem dX12_add_18 : decode cX12_add 18 = .ok (.iload_n 2, 1) := by decide +kernel
theorem dX12_add_19 : decode cX12_add 19 = .ok (.iastore, 1) := by decide +kernel
theorem dX12_add_20 : decode cX12_add 20 = .ok (.aload_n 0, 1) := by decide +kernel
theorem dX12_add_21 : decode cX12_add 21 = .ok (.dup, 1) := by decide +kernel
theorem dX12_add_22 : decode cX12_add 22 = .ok (.getfield 222, 3) := by decide +kernel
theorem dX12_add_25 : decode cX12_add 25 = .ok (.iconst 1, 1) := by decide +kernel
theorem dX12_add_26 : decode cX12_add 26 = .ok (.iadd, 1) := by decide +kernel
theorem dX12_add_27 : decode cX12_add 27 = .ok (.putfield 222, 3) := by decide +kernel
theorem dX12_add_30 : decode cX12_add 30 = .ok (.return_, 1) := by decide +kernel
theorem dX12_tight_0 : decode cX12_tight 0 = .ok (.iload_n 0, 1) := by decide +kernel
theorem dX12_tight_1 : decode cX12_tight 1 = .ok (.lookupswitch 85 #[(21, 79), (38, 77), (43, 83), (45, 83), (60, 81), (61, 81), (62, 81), (124, 75)], 75) := by decide +kernel
theorem dX12_tight_76 : decode cX12_tight 76 = .ok (.iconst 1, 1) := by decide +kernel
theorem dX12_tight_77 : decode cX12_tight 77 = .ok (.ireturn, 1) := by decide +kernel
theorem dX12_tight_78 : decode cX12_tight 78 = .ok (.iconst 2, 1) := by decide +kernel
theorem dX12_tight_79 : decode cX12_tight 79 = .ok (.ireturn, 1) := by decide +kernel
theorem dX12_tight_80 : decode cX12_tight 80 = .ok (.iconst 3, 1) := by decide +kernel
theorem dX12_tight_81 : decode cX12_tight 81 = .ok (.ireturn, 1) := by decide +kernel
theorem dX12_tight_82 : decode cX12_tight 82 = .ok (.iconst 4, 1) := by decide +kernel
theorem dX12_tight_83 : decode cX12_tight 83 = .ok (.ireturn, 1) := by decide +kernel
theorem dX12_tight_84 : decode cX12_tight 84 = .ok (.iconst 5, 1) := by decide +kernel
theorem dX12_tight_85 : decode cX12_tight 85 = .ok (.ireturn, 1) := by decide +kernel
theorem dX12_tight_86 : decode cX12_tight 86 = .ok (.bipush 6, 2) := by decide +kernel
theorem dX12_tight_88 : decode cX12_tight 88 = .ok (.ireturn, 1) := by decide +kernel
theorem dX12_close_0 : decode cX12_close 0 = .ok (.aload_n 0, 1) := by decide +kernel
theorem dX12_close_1 : decode cX12_close 1 = .ok (.getfield 225, 3) := by decide +kernel
theorem dX12_close_4 : decode cX12_close 4 = .ok (.ifCond .le 97, 3) := by decide +kernel
theorem dX12_close_7 : decode cX12_close 7 = .ok (.aload_n 0, 1) := by decide +kernel
theorem dX12_close_8 : decode cX12_close 8 = .ok (.getfield 33, 3) := by decide +kernel
theorem dX12_close_11 : decode cX12_close 11 = .ok (.aload_n 0, 1) := by decide +kernel
theorem dX12_close_12 : decode cX12_close 12 = .ok (.getfield 225, 3) := by decide +kernel
theorem dX12_close_15 : decode cX12_close 15 = .ok (.iconst 1, 1) := by decide +kernel
theorem dX12_close_16 : decode cX12_close 16 = .ok (.isub, 1) := by decide +kernel
theorem dX12_close_17 : decode cX12_close 17 = .ok (.iaload, 1) := by decide +kernel
theorem dX12_close_18 : decode cX12_close 18 = .ok (.bipush 20, 2) := by decide +kernel
theorem dX12_close_20 : decode cX12_close 20 = .ok (.if_icmp .eq 81, 3) := by decide +kernel
theorem dX12_close_23 : decode cX12_close 23 = .ok (.aload_n 0, 1) := by decide +kernel
theorem dX12_close_24 : decode cX12_close 24 = .ok (.getfield 33, 3) := by decide +kernel
theorem dX12_close_27 : decode cX12_close 27 = .ok (.aload_n 0, 1) := by decide +kernel
theorem dX12_close_28 : decode cX12_close 28 = .ok (.getfield 225, 3) := by decide +kernel
theorem dX12_close_31 : decode cX12_close 31 = .ok (.iconst 1, 1) := by decide +kernel
theorem dX12_close_32 : decode cX12_close 32 = .ok (.isub, 1) := by decide +kernel
theorem dX12_close_33 : decode cX12_close 33 = .ok (.iaload, 1) := by decide +kernel
theorem dX12_close_34 : decode cX12_close 34 = .ok (.invokestatic 228, 3) := by decide +kernel
theorem dX12_close_37 : decode cX12_close 37 = .ok (.iload_n 1, 1) := by decide +kernel
theorem dX12_close_38 : decode cX12_close 38 = .ok (.if_icmp .lt 63, 3) := by decide +kernel
theorem dX12_close_41 : decode cX12_close 41 = .ok (.aload_n 0, 1) := by decide +kernel
theorem dX12_close_42 : decode cX12_close 42 = .ok (.dup, 1) := by decide +kernel
theorem dX12_close_43 : decode cX12_close 43 = .ok (.getfield 225, 3) := by decide +kernel
theorem dX12_close_46 : decode cX12_close 46 = .ok (.iconst 1, 1) := by decide +kernel
theorem dX12_close_47 : decode cX12_close 47 = .ok (.isub, 1) := by decide +kernel
theorem dX12_close_48 : decode cX12_close 48 = .ok (.putfield 225, 3) := by decide +kernel
theorem dX12_close_51 : decode cX12_close 51 = .ok (.aload_n 0, 1) := by decide +kernel
theorem dX12_close_52 : decode cX12_close 52 = .ok (.getfield 33, 3) := by decide +kernel
theorem dX12_close_55 : decode cX12_close 55 = .ok (.aload_n 0, 1) := by decide +kernel
theorem dX12_close_56 : decode cX12_close 56 = .ok (.getfield 225, 3) := by decide +kernel
theorem dX12_close_59 : decode cX12_close 59 = .ok (.iaload, 1) := by decide +kernel
theorem dX12_close_60 : decode cX12_close 60 = .ok (.bipush 21, 2) := by decide +kernel
theorem dX12_close_62 : decode cX12_close 62 = .ok (.if_icmp .ne 22, 3) := by decide +kernel
theorem dX12_close_65 : decode cX12_close 65 = .ok (.aload_n 0, 1) := by decide +kernel
theorem dX12_close_66 : decode cX12_close 66 = .ok (.iconst 2, 1) := by decide +kernel
theorem dX12_close_67 : decode cX12_close 67 = .ok (.iconst 0, 1) := by decide +kernel
theorem dX12_close_68 : decode cX12_close 68 = .ok (.invokevirtual 231, 3) := by decide +kernel
theorem dX12_close_71 : decode cX12_close 71 = .ok (.aload_n 0, 1) := by decide +kernel
theorem dX12_close_72 : decode cX12_close 72 = .ok (.dup, 1) := by decide +kernel
theorem dX12_close_73 : decode cX12_close 73 = .ok (.getfield 235, 3) := by decide +kernel
theorem dX12_close_76 : decode cX12_close 76 = .ok (.iconst 1, 1) := by decide +kernel
theorem dX12_close_77 : decode cX12_close 77 = .ok (.isub, 1) := by decide +kernel
theorem dX12_close_78 : decode cX12_close 78 = .ok (.putfield 235, 3) := by decide +kernel
theorem dX12_close_81 : decode cX12_close 81 = .ok (.goto (-81), 3) := by decide +kernel
theorem dX12_close_84 : decode cX12_close 84 = .ok (.aload_n 0, 1) := by decide +kernel
theorem dX12_close_85 : decode cX12_close 85 = .ok (.iconst 3, 1) := by decide +kernel
theorem dX12_close_86 : decode cX12_close 86 = .ok (.aload_n 0, 1) := by decide +kernel
theorem dX12_close_87 : decode cX12_close 87 = .ok (.getfield 33, 3) := by decide +kernel
theorem dX12_close_90 : decode cX12_close 90 = .ok (.aload_n 0, 1) := by decide +kernel
theorem dX12_close_91 : decode cX12_close 91 = .ok (.getfield 225, 3) := by decide +kernel
theorem dX12_close_94 : decode cX12_close 94 = .ok (.iaload, 1) := by decide +kernel
theorem dX12_close_95 : decode cX12_close 95 = .ok (.invokevirtual 231, 3) := by decide +kernel
theorem dX12_close_98 : decode cX12_close 98 = .ok (.goto (-98), 3) := by decide +kernel
theorem dX12_close_101 : decode cX12_close 101 = .ok (.return_, 1) := by decide +kernel
theorem dX12_hasRelation_0 : decode cX12_hasRelation 0 = .ok (.aload_n 0, 1) := by decide +kernel
theorem dX12_hasRelation_1 : decode cX12_hasRelation 1 = .ok (.getfield 225, 3) := by decide +kernel
theorem dX12_hasRelation_4 : decode cX12_hasRelation 4 = .ok (.iconst 1, 1) := by decide +kernel
theorem dX12_hasRelation_5 : decode cX12_hasRelation 5 = .ok (.isub, 1) := by decide +kernel
theorem dX12_hasRelation_6 : decode cX12_hasRelation 6 = .ok (.istore_n 1, 1) := by decide +kernel
theorem dX12_hasRelation_7 : decode cX12_hasRelation 7 = .ok (.iload_n 1, 1) := by decide +kernel
theorem dX12_hasRelation_8 : decode cX12_hasRelation 8 = .ok (.ifCond .lt 33, 3) := by decide +kernel
theorem dX12_hasRelation_11 : decode cX12_hasRelation 11 = .ok (.aload_n 0, 1) := by decide +kernel
theorem dX12_hasRelation_12 : decode cX12_hasRelation 12 = .ok (.getfield 33, 3) := by decide +kernel
theorem dX12_hasRelation_15 : decode cX12_hasRelation 15 = .ok (.iload_n 1, 1) := by decide +kernel
theorem dX12_hasRelation_16 : decode cX12_hasRelation 16 = .ok (.iaload, 1) := by decide +kernel
theorem dX12_hasRelation_17 : decode cX12_hasRelation 17 = .ok (.bipush 20, 2) := by decide +kernel
theorem dX12_hasRelation_19 : decode cX12_hasRelation 19 = .ok (.if_icmp .eq 22, 3) := by decide +kernel
theorem dX12_hasRelation_22 : decode cX12_hasRelation 22 = .ok (.aload_n 0, 1) := by decide +kernel
theorem dX12_hasRelation_23 : decode cX12_hasRelation 23 = .ok (.getfield 33, 3) := by decide +kernel
theorem dX12_hasRelation_26 : decode cX12_hasRelation 26 = .ok (.iload_n 1, 1) := by decide +kernel
theorem dX12_hasRelation_27 : decode cX12_hasRelation 27 = .ok (.iaload, 1) := by decide +kernel
theorem dX12_hasRelation_28 : decode cX12_hasRelation 28 = .ok (.invokestatic 228, 3) := by decide +kernel
theorem dX12_hasRelation_31 : decode cX12_hasRelation 31 = .ok (.iconst 4, 1) := by decide +kernel
theorem dX12_hasRelation_32 : decode cX12_hasRelation 32 = .ok (.if_icmp .le 9, 3) := by decide +kernel
theorem dX12_hasRelation_35 : decode cX12_hasRelation 35 = .ok (.iinc 1 (-1), 3) := by decide +kernel
theorem dX12_hasRelation_38 : decode cX12_hasRelation 38 = .ok (.goto (-31), 3) := by decide +kernel
theorem dX12_hasRelation_41 : decode cX12_hasRelation 41 = .ok (.iload_n 1, 1) := by decide +kernel
theorem dX12_hasRelation_42 : decode cX12_hasRelation 42 = .ok (.ifCond .lt 31, 3) := by decide +kernel
theorem dX12_hasRelation_45 : decode cX12_hasRelation 45 = .ok (.aload_n 0, 1) := by decide +kernel
theorem dX12_hasRelation_46 : decode cX12_hasRelation 46 = .ok (.getfield 33, 3) := by decide +kernel
theorem dX12_hasRelation_49 : decode cX12_hasRelation 49 = .ok (.iload_n 1, 1) := by decide +kernel
theorem dX12_hasRelation_50 : decode cX12_hasRelation 50 = .ok (.iaload, 1) := by decide +kernel
theorem dX12_hasRelation_51 : decode cX12_hasRelation 51 = .ok (.bipush 20, 2) := by decide +kernel
theorem dX12_hasRelation_53 : decode cX12_hasRelation 53 = .ok (.if_icmp .eq 20, 3) := by decide +kernel
theorem dX12_hasRelation_56 : decode cX12_hasRelation 56 = .ok (.aload_n 0, 1) := by decide +kernel
theorem dX12_hasRelation_57 : decode cX12_hasRelation 57 = .ok (.getfield 33, 3) := by decide +kernel
theorem dX12_hasRelation_60 : decode cX12_hasRelation 60 = .ok (.iload_n 1, 1) := by decide +kernel
theorem dX12_hasRelation_61 : decode cX12_hasRelation 61 = .ok (.iaload, 1) := by decide +kernel
theorem dX12_hasRelation_62 : decode cX12_hasRelation 62 = .ok (.invokestatic 228, 3) := by decide +kernel
theorem dX12_hasRelation_65 : decode cX12_hasRelation 65 = .ok (.iconst 4, 1) := by decide +kernel
theorem dX12_hasRelation_66 : decode cX12_hasRelation 66 = .ok (.if_icmp .ne 7, 3) := by decide +kernel
theorem dX12_hasRelation_69 : decode cX12_hasRelation 69 = .ok (.iconst 1, 1) := by decide +kernel
theorem dX12_hasRelation_70 : decode cX12_hasRelation 70 = .ok (.goto 4, 3) := by decide +kernel
theorem dX12_hasRelation_73 : decode cX12_hasRelation 73 = .ok (.iconst 0, 1) := by decide +kernel
theorem dX12_hasRelation_74 : decode cX12_hasRelation 74 = .ok (.ireturn, 1) := by decide +kernel
theorem dX12_mayNot_0 : decode cX12_mayNot 0 = .ok (.aload_n 0, 1) := by decide +kernel
theorem dX12_mayNot_1 : decode cX12_mayNot 1 = .ok (.getfield 225, 3) := by decide +kernel
theorem dX12_mayNot_4 : decode cX12_mayNot 4 = .ok (.ifCond .eq 37, 3) := by decide +kernel
theorem dX12_mayNot_7 : decode cX12_mayNot 7 = .ok (.aload_n 0, 1) := by decide +kernel
theorem dX12_mayNot_8 : decode cX12_mayNot 8 = .ok (.getfield 33, 3) := by decide +kernel
theorem dX12_mayNot_11 : decode cX12_mayNot 11 = .ok (.aload_n 0, 1) := by decide +kernel
theorem dX12_mayNot_12 : decode cX12_mayNot 12 = .ok (.getfield 225, 3) := by decide +kernel
theorem dX12_mayNot_15 : decode cX12_mayNot 15 = .ok (.iconst 1, 1) := by decide +kernel
theorem dX12_mayNot_16 : decode cX12_mayNot 16 = .ok (.isub, 1) := by decide +kernel
theorem dX12_mayNot_17 : decode cX12_mayNot 17 = .ok (.iaload, 1) := by decide +kernel
theorem dX12_mayNot_18 : decode cX12_mayNot 18 = .ok (.bipush 20, 2) := by decide +kernel
theorem dX12_mayNot_20 : decode cX12_mayNot 20 = .ok (.if_icmp .eq 21, 3) := by decide +kernel
theorem dX12_mayNot_23 : decode cX12_mayNot 23 = .ok (.aload_n 0, 1) := by decide +kernel
theorem dX12_mayNot_24 : decode cX12_mayNot 24 = .ok (.getfield 33, 3) := by decide +kernel
theorem dX12_mayNot_27 : decode cX12_mayNot 27 = .ok (.aload_n 0, 1) := by decide +kernel
theorem dX12_mayNot_28 : decode cX12_mayNot 28 = .ok (.getfield 225, 3) := by decide +kernel
theorem dX12_mayNot_31 : decode cX12_mayNot 31 = .ok (.iconst 1, 1) := by decide +kernel
theorem dX12_mayNot_32 : decode cX12_mayNot 32 = .ok (.isub, 1) := by decide +kernel
theorem dX12_mayNot_33 : decode cX12_mayNot 33 = .ok (.iaload, 1) := by decide +kernel
theorem dX12_mayNot_34 : decode cX12_mayNot 34 = .ok (.invokestatic 228, 3) := by decide +kernel
theorem dX12_mayNot_37 : decode cX12_mayNot 37 = .ok (.iconst 4, 1) := by decide +kernel
theorem dX12_mayNot_38 : decode cX12_mayNot 38 = .ok (.if_icmp .ge 7, 3) := by decide +kernel
theorem dX12_mayNot_41 : decode cX12_mayNot 41 = .ok (.iconst 1, 1) := by decide +kernel
theorem dX12_mayNot_42 : decode cX12_mayNot 42 = .ok (.goto 4, 3) := by decide +kernel
theorem dX12_mayNot_45 : decode cX12_mayNot 45 = .ok (.iconst 0, 1) := by decide +kernel
theorem dX12_mayNot_46 : decode cX12_mayNot 46 = .ok (.ireturn, 1) := by decide +kernel
theorem dX12_asked_0 : decode cX12_asked 0 = .ok (.aload_n 0, 1) := by decide +kernel
theorem dX12_asked_1 : decode cX12_asked 1 = .ok (.getfield 145, 3) := by decide +kernel
theorem dX12_asked_4 : decode cX12_asked 4 = .ok (.iconst 1, 1) := by decide +kernel
theorem dX12_asked_5 : decode cX12_asked 5 = .ok (.if_icmp .eq 5, 3) := by decide +kernel
theorem dX12_asked_8 : decode cX12_asked 8 = .ok (.iconst (-1), 1) := by decide +kernel
theorem dX12_asked_9 : decode cX12_asked 9 = .ok (.ireturn, 1) := by decide +kernel
theorem dX12_asked_10 : decode cX12_asked 10 = .ok (.aload_n 0, 1) := by decide +kernel
theorem dX12_asked_11 : decode cX12_asked 11 = .ok (.getfield 138, 3) := by decide +kernel
theorem dX12_asked_14 : decode cX12_asked 14 = .ok (.ldc2_w 179, 3) := by decide +kernel
theorem dX12_asked_17 : decode cX12_asked 17 = .ok (.lcmp, 1) := by decide +kernel
theorem dX12_asked_18 : decode cX12_asked 18 = .ok (.ifCond .ne 5, 3) := by decide +kernel
theorem dX12_asked_21 : decode cX12_asked 21 = .ok (.iconst 5, 1) := by decide +kernel
theorem dX12_asked_22 : decode cX12_asked 22 = .ok (.ireturn, 1) := by decide +kernel
theorem dX12_asked_23 : decode cX12_asked 23 = .ok (.aload_n 0, 1) := by decide +kernel
theorem dX12_asked_24 : decode cX12_asked 24 = .ok (.getfield 138, 3) := by decide +kernel
theorem dX12_asked_27 : decode cX12_asked 27 = .ok (.ldc2_w 181, 3) := by decide +kernel
theorem dX12_asked_30 : decode cX12_asked 30 = .ok (.lcmp, 1) := by decide +kernel
theorem dX12_asked_31 : decode cX12_asked 31 = .ok (.ifCond .ne 6, 3) := by decide +kernel
theorem dX12_asked_34 : decode cX12_asked 34 = .ok (.bipush 6, 2) := by decide +kernel
theorem dX12_asked_36 : decode cX12_asked 36 = .ok (.ireturn, 1) := by decide +kernel
theorem dX12_asked_37 : decode cX12_asked 37 = .ok (.aload_n 0, 1) := by decide +kernel
theorem dX12_asked_38 : decode cX12_asked 38 = .ok (.getfield 138, 3) := by decide +kernel
theorem dX12_asked_41 : decode cX12_asked 41 = .ok (.ldc2_w 175, 3) := by decide +kernel
theorem dX12_asked_44 : decode cX12_asked 44 = .ok (.lcmp, 1) := by decide +kernel
theorem dX12_asked_45 : decode cX12_asked 45 = .ok (.ifCond .ne 6, 3) := by decide +kernel
theorem dX12_asked_48 : decode cX12_asked 48 = .ok (.bipush 7, 2) := by decide +kernel
theorem dX12_asked_50 : decode cX12_asked 50 = .ok (.ireturn, 1) := by decide +kernel
theorem dX12_asked_51 : decode cX12_asked 51 = .ok (.aload_n 0, 1) := by decide +kernel
theorem dX12_asked_52 : decode cX12_asked 52 = .ok (.getfield 138, 3) := by decide +kernel
theorem dX12_asked_55 : decode cX12_asked 55 = .ok (.ldc2_w 183, 3) := by decide +kernel
theorem dX12_asked_58 : decode cX12_asked 58 = .ok (.lcmp, 1) := by decide +kernel
theorem dX12_asked_59 : decode cX12_asked 59 = .ok (.ifCond .ne 6, 3) := by decide +kernel
theorem dX12_asked_62 : decode cX12_asked 62 = .ok (.bipush 8, 2) := by decide +kernel
theorem dX12_asked_64 : decode cX12_asked 64 = .ok (.ireturn, 1) := by decide +kernel
theorem dX12_asked_65 : decode cX12_asked 65 = .ok (.aload_n 0, 1) := by decide +kernel
theorem dX12_asked_66 : decode cX12_asked 66 = .ok (.invokevirtual 191, 3) := by decide +kernel
theorem dX12_asked_69 : decode cX12_asked 69 = .ok (.ifCond .eq 5, 3) := by decide +kernel
theorem dX12_asked_72 : decode cX12_asked 72 = .ok (.iconst (-1), 1) := by decide +kernel
theorem dX12_asked_73 : decode cX12_asked 73 = .ok (.ireturn, 1) := by decide +kernel
theorem dX12_asked_74 : decode cX12_asked 74 = .ok (.aload_n 0, 1) := by decide +kernel
theorem dX12_asked_75 : decode cX12_asked 75 = .ok (.iconst 0, 1) := by decide +kernel
theorem dX12_asked_76 : decode cX12_asked 76 = .ok (.aload_n 0, 1) := by decide +kernel
theorem dX12_asked_77 : decode cX12_asked 77 = .ok (.getfield 238, 3) := by decide +kernel
theorem dX12_asked_80 : decode cX12_asked 80 = .ok (.invokevirtual 216, 3) := by decide +kernel
theorem dX12_asked_83 : decode cX12_asked 83 = .ok (.ifCond .ge 8, 3) := by decide +kernel
theorem dX12_asked_86 : decode cX12_asked 86 = .ok (.bipush 9, 2) := by decide +kernel
theorem dX12_asked_88 : decode cX12_asked 88 = .ok (.goto 12, 3) := by decide +kernel
theorem dX12_asked_91 : decode cX12_asked 91 = .ok (.aload_n 0, 1) := by decide +kernel
theorem dX12_asked_92 : decode cX12_asked 92 = .ok (.iconst 0, 1) := by decide +kernel
theorem dX12_asked_93 : decode cX12_asked 93 = .ok (.aload_n 0, 1) := by decide +kernel
theorem dX12_asked_94 : decode cX12_asked 94 = .ok (.getfield 238, 3) := by decide +kernel
theorem dX12_asked_97 : decode cX12_asked 97 = .ok (.invokevirtual 216, 3) := by decide +kernel
theorem dX12_asked_100 : decode cX12_asked 100 = .ok (.ireturn, 1) := by decide +kernel
theorem dX12_isFull_0 : decode cX12_isFull 0 = .ok (.aload_n 0, 1) := by decide +kernel
theorem dX12_isFull_1 : decode cX12_isFull 1 = .ok (.getfield 241, 3) := by decide +kernel
theorem dX12_isFull_4 : decode cX12_isFull 4 = .ok (.bipush 60, 2) := by decide +kernel
theorem dX12_isFull_6 : decode cX12_isFull 6 = .ok (.if_icmp .eq 12, 3) := by decide +kernel
theorem dX12_isFull_9 : decode cX12_isFull 9 = .ok (.aload_n 0, 1) := by decide +kernel
theorem dX12_isFull_10 : decode cX12_isFull 10 = .ok (.getfield 244, 3) := by decide +kernel
theorem dX12_isFull_13 : decode cX12_isFull 13 = .ok (.bipush 30, 2) := by decide +kernel
theorem dX12_isFull_15 : decode cX12_isFull 15 = .ok (.if_icmp .ne 7, 3) := by decide +kernel
theorem dX12_isFull_18 : decode cX12_isFull 18 = .ok (.iconst 1, 1) := by decide +kernel
theorem dX12_isFull_19 : decode cX12_isFull 19 = .ok (.goto 4, 3) := by decide +kernel
theorem dX12_isFull_22 : decode cX12_isFull 22 = .ok (.iconst 0, 1) := by decide +kernel
theorem dX12_isFull_23 : decode cX12_isFull 23 = .ok (.ireturn, 1) := by decide +kernel
theorem dX12_countUnit_0 : decode cX12_countUnit 0 = .ok (.aload_n 0, 1) := by decide +kernel
theorem dX12_countUnit_1 : decode cX12_countUnit 1 = .ok (.dup, 1) := by decide +kernel
theorem dX12_countUnit_2 : decode cX12_countUnit 2 = .ok (.getfield 241, 3) := by decide +kernel
theorem dX12_countUnit_5 : decode cX12_countUnit 5 = .ok (.iconst 1, 1) := by decide +kernel
theorem dX12_countUnit_6 : decode cX12_countUnit 6 = .ok (.iadd, 1) := by decide +kernel
theorem dX12_countUnit_7 : decode cX12_countUnit 7 = .ok (.putfield 241, 3) := by decide +kernel
theorem dX12_countUnit_10 : decode cX12_countUnit 10 = .ok (.aload_n 0, 1) := by decide +kernel
theorem dX12_countUnit_11 : decode cX12_countUnit 11 = .ok (.dup, 1) := by decide +kernel
theorem dX12_countUnit_12 : decode cX12_countUnit 12 = .ok (.getfield 244, 3) := by decide +kernel
theorem dX12_countUnit_15 : decode cX12_countUnit 15 = .ok (.iconst 1, 1) := by decide +kernel
theorem dX12_countUnit_16 : decode cX12_countUnit 16 = .ok (.iadd, 1) := by decide +kernel
theorem dX12_countUnit_17 : decode cX12_countUnit 17 = .ok (.putfield 244, 3) := by decide +kernel
theorem dX12_countUnit_20 : decode cX12_countUnit 20 = .ok (.return_, 1) := by decide +kernel
theorem dX12_openUp_0 : decode cX12_openUp 0 = .ok (.aload_n 0, 1) := by decide +kernel
theorem dX12_openUp_1 : decode cX12_openUp 1 = .ok (.getfield 33, 3) := by decide +kernel
theorem dX12_openUp_4 : decode cX12_openUp 4 = .ok (.aload_n 0, 1) := by decide +kernel
theorem dX12_openUp_5 : decode cX12_openUp 5 = .ok (.getfield 225, 3) := by decide +kernel
theorem dX12_openUp_8 : decode cX12_openUp 8 = .ok (.iload_n 1, 1) := by decide +kernel
theorem dX12_openUp_9 : decode cX12_openUp 9 = .ok (.iastore, 1) := by decide +kernel
theorem dX12_openUp_10 : decode cX12_openUp 10 = .ok (.aload_n 0, 1) := by decide +kernel
theorem dX12_openUp_11 : decode cX12_openUp 11 = .ok (.dup, 1) := by decide +kernel
theorem dX12_openUp_12 : decode cX12_openUp 12 = .ok (.getfield 225, 3) := by decide +kernel
theorem dX12_openUp_15 : decode cX12_openUp 15 = .ok (.iconst 1, 1) := by decide +kernel
theorem dX12_openUp_16 : decode cX12_openUp 16 = .ok (.iadd, 1) := by decide +kernel
theorem dX12_openUp_17 : decode cX12_openUp 17 = .ok (.putfield 225, 3) := by decide +kernel
theorem dX12_openUp_20 : decode cX12_openUp 20 = .ok (.aload_n 0, 1) := by decide +kernel
theorem dX12_openUp_21 : decode cX12_openUp 21 = .ok (.dup, 1) := by decide +kernel
theorem dX12_openUp_22 : decode cX12_openUp 22 = .ok (.getfield 235, 3) := by decide +kernel
theorem dX12_openUp_25 : decode cX12_openUp 25 = .ok (.iconst 1, 1) := by decide +kernel
theorem dX12_openUp_26 : decode cX12_openUp 26 = .ok (.iadd, 1) := by decide +kernel
theorem dX12_openUp_27 : decode cX12_openUp 27 = .ok (.putfield 235, 3) := by decide +kernel
theorem dX12_openUp_30 : decode cX12_openUp 30 = .ok (.aload_n 0, 1) := by decide +kernel
theorem dX12_openUp_31 : decode cX12_openUp 31 = .ok (.getfield 158, 3) := by decide +kernel
theorem dX12_openUp_34 : decode cX12_openUp 34 = .ok (.ifCond .ne 7, 3) := by decide +kernel
theorem dX12_openUp_37 : decode cX12_openUp 37 = .ok (.aload_n 0, 1) := by decide +kernel
theorem dX12_openUp_38 : decode cX12_openUp 38 = .ok (.invokevirtual 202, 3) := by decide +kernel
theorem dX12_openUp_41 : decode cX12_openUp 41 = .ok (.return_, 1) := by decide +kernel
theorem dX12_unit_0 : decode cX12_unit 0 = .ok (.iconst 1, 1) := by decide +kernel
theorem dX12_unit_1 : decode cX12_unit 1 = .ok (.istore_n 1, 1) := by decide +kernel
theorem dX12_unit_2 : decode cX12_unit 2 = .ok (.iload_n 1, 1) := by decide +kernel
theorem dX12_unit_3 : decode cX12_unit 3 = .ok (.ifCond .eq 98, 3) := by decide +kernel
theorem dX12_unit_6 : decode cX12_unit 6 = .ok (.aload_n 0, 1) := by decide +kernel
theorem dX12_unit_7 : decode cX12_unit 7 = .ok (.getfield 158, 3) := by decide +kernel
theorem dX12_unit_10 : decode cX12_unit 10 = .ok (.ifCond .ne 91, 3) := by decide +kernel
theorem dX12_unit_13 : decode cX12_unit 13 = .ok (.aload_n 0, 1) := by decide +kernel
theorem dX12_unit_14 : decode cX12_unit 14 = .ok (.ldc2_w 189, 3) := by decide +kernel
theorem dX12_unit_17 : decode cX12_unit 17 = .ok (.invokevirtual 195, 3) := by decide +kernel
theorem dX12_unit_20 : decode cX12_unit 20 = .ok (.ifCond .eq 33, 3) := by decide +kernel
theorem dX12_unit_23 : decode cX12_unit 23 = .ok (.aload_n 0, 1) := by decide +kernel
theorem dX12_unit_24 : decode cX12_unit 24 = .ok (.invokevirtual 247, 3) := by decide +kernel
theorem dX12_unit_27 : decode cX12_unit 27 = .ok (.ifCond .eq 26, 3) := by decide +kernel
theorem dX12_unit_30 : decode cX12_unit 30 = .ok (.aload_n 0, 1) := by decide +kernel
theorem dX12_unit_31 : decode cX12_unit 31 = .ok (.getfield 235, 3) := by decide +kernel
theorem dX12_unit_34 : decode cX12_unit 34 = .ok (.bipush 6, 2) := by decide +kernel
theorem dX12_unit_36 : decode cX12_unit 36 = .ok (.if_icmp .le 8, 3) := by decide +kernel
theorem dX12_unit_39 : decode cX12_unit 39 = .ok (.aload_n 0, 1) := by decide +kernel
theorem dX12_unit_40 : decode cX12_unit 40 = .ok (.iconst 2, 1) := by decide +kernel
theorem dX12_unit_41 : decode cX12_unit 41 = .ok (.invokevirtual 199, 3) := by decide +kernel
theorem dX12_unit_44 : decode cX12_unit 44 = .ok (.aload_n 0, 1) := by decide +kernel
theorem dX12_unit_45 : decode cX12_unit 45 = .ok (.bipush 21, 2) := by decide +kernel
theorem dX12_unit_47 : decode cX12_unit 47 = .ok (.invokevirtual 250, 3) := by decide +kernel
theorem dX12_unit_50 : decode cX12_unit 50 = .ok (.goto (-48), 3) := by decide +kernel
theorem dX12_unit_53 : decode cX12_unit 53 = .ok (.aload_n 0, 1) := by decide +kernel
theorem dX12_unit_54 : decode cX12_unit 54 = .ok (.getfield 145, 3) := by decide +kernel
theorem dX12_unit_57 : decode cX12_unit 57 = .ok (.bipush 40, 2) := by decide +kernel
theorem dX12_unit_59 : decode cX12_unit 59 = .ok (.if_icmp .ne 37, 3) := by decide +kernel
theorem dX12_unit_62 : decode cX12_unit 62 = .ok (.aload_n 0, 1) := by decide +kernel
theorem dX12_unit_63 : decode cX12_unit 63 = .ok (.invokevirtual 253, 3) := by decide +kernel
theorem dX12_unit_66 : decode cX12_unit 66 = .ok (.ifCond .ne 12, 3) := by decide +kernel
theorem dX12_unit_69 : decode cX12_unit 69 = .ok (.aload_n 0, 1) := by decide +kernel
theorem dX12_unit_70 : decode cX12_unit 70 = .ok (.getfield 235, 3) := by decide +kernel
theorem dX12_unit_73 : decode cX12_unit 73 = .ok (.bipush 6, 2) := by decide +kernel
theorem dX12_unit_75 : decode cX12_unit 75 = .ok (.if_icmp .le 8, 3) := by decide +kernel
theorem dX12_unit_78 : decode cX12_unit 78 = .ok (.aload_n 0, 1) := by decide +kernel
theorem dX12_unit_79 : decode cX12_unit 79 = .ok (.iconst 2, 1) := by decide +kernel
theorem dX12_unit_80 : decode cX12_unit 80 = .ok (.invokevirtual 199, 3) := by decide +kernel
theorem dX12_unit_83 : decode cX12_unit 83 = .ok (.aload_n 0, 1) := by decide +kernel
theorem dX12_unit_84 : decode cX12_unit 84 = .ok (.invokevirtual 256, 3) := by decide +kernel
theorem dX12_unit_87 : decode cX12_unit 87 = .ok (.aload_n 0, 1) := by decide +kernel
theorem dX12_unit_88 : decode cX12_unit 88 = .ok (.bipush 20, 2) := by decide +kernel
theorem dX12_unit_90 : decode cX12_unit 90 = .ok (.invokevirtual 250, 3) := by decide +kernel
theorem dX12_unit_93 : decode cX12_unit 93 = .ok (.goto (-91), 3) := by decide +kernel
theorem dX12_unit_96 : decode cX12_unit 96 = .ok (.iconst 0, 1) := by decide +kernel
theorem dX12_unit_97 : decode cX12_unit 97 = .ok (.istore_n 1, 1) := by decide +kernel
theorem dX12_unit_98 : decode cX12_unit 98 = .ok (.goto (-96), 3) := by decide +kernel
theorem dX12_unit_101 : decode cX12_unit 101 = .ok (.aload_n 0, 1) := by decide +kernel
theorem dX12_unit_102 : decode cX12_unit 102 = .ok (.getfield 158, 3) := by decide +kernel
theorem dX12_unit_105 : decode cX12_unit 105 = .ok (.ifCond .le 4, 3) := by decide +kernel
theorem dX12_unit_108 : decode cX12_unit 108 = .ok (.return_, 1) := by decide +kernel
theorem dX12_unit_109 : decode cX12_unit 109 = .ok (.aload_n 0, 1) := by decide +kernel
theorem dX12_unit_110 : decode cX12_unit 110 = .ok (.invokevirtual 259, 3) := by decide +kernel
theorem dX12_unit_113 : decode cX12_unit 113 = .ok (.istore_n 2, 1) := by decide +kernel
theorem dX12_unit_114 : decode cX12_unit 114 = .ok (.aload_n 0, 1) := by decide +kernel
theorem dX12_unit_115 : decode cX12_unit 115 = .ok (.getfield 145, 3) := by decide +kernel
theorem dX12_unit_118 : decode cX12_unit 118 = .ok (.iconst 2, 1) := by decide +kernel
theorem dX12_unit_119 : decode cX12_unit 119 = .ok (.if_icmp .eq 7, 3) := by decide +kernel
theorem dX12_unit_122 : decode cX12_unit 122 = .ok (.iload_n 2, 1) := by decide +kernel
theorem dX12_unit_123 : decode cX12_unit 123 = .ok (.ifCond .lt 10, 3) := by decide +kernel
theorem dX12_unit_126 : decode cX12_unit 126 = .ok (.aload_n 0, 1) := by decide +kernel
theorem dX12_unit_127 : decode cX12_unit 127 = .ok (.invokevirtual 253, 3) := by decide +kernel
theorem dX12_unit_130 : decode cX12_unit 130 = .ok (.ifCond .eq 11, 3) := by decide +kernel
theorem dX12_unit_133 : decode cX12_unit 133 = .ok (.aload_n 0, 1) := by decide +kernel
theorem dX12_unit_134 : decode cX12_unit 134 = .ok (.iconst 2, 1) := by decide +kernel
theorem dX12_unit_135 : decode cX12_unit 135 = .ok (.invokevirtual 199, 3) := by decide +kernel
theorem dX12_unit_138 : decode cX12_unit 138 = .ok (.goto 14, 3) := by decide +kernel
theorem dX12_unit_141 : decode cX12_unit 141 = .ok (.iload_n 2, 1) := by decide +kernel
theorem dX12_unit_142 : decode cX12_unit 142 = .ok (.bipush 9, 2) := by decide +kernel
theorem dX12_unit_144 : decode cX12_unit 144 = .ok (.if_icmp .ne 8, 3) := by decide +kernel
theorem dX12_unit_147 : decode cX12_unit 147 = .ok (.aload_n 0, 1) := by decide +kernel
theorem dX12_unit_148 : decode cX12_unit 148 = .ok (.iconst 5, 1) := by decide +kernel
theorem dX12_unit_149 : decode cX12_unit 149 = .ok (.invokevirtual 199, 3) := by decide +kernel
theorem dX12_unit_152 : decode cX12_unit 152 = .ok (.aload_n 0, 1) := by decide +kernel
theorem dX12_unit_153 : decode cX12_unit 153 = .ok (.getfield 158, 3) := by decide +kernel
theorem dX12_unit_156 : decode cX12_unit 156 = .ok (.ifCond .le 4, 3) := by decide +kernel
theorem dX12_unit_159 : decode cX12_unit 159 = .ok (.return_, 1) := by decide +kernel
theorem dX12_unit_160 : decode cX12_unit 160 = .ok (.aload_n 0, 1) := by decide +kernel
theorem dX12_unit_161 : decode cX12_unit 161 = .ok (.invokevirtual 256, 3) := by decide +kernel
theorem dX12_unit_164 : decode cX12_unit 164 = .ok (.aload_n 0, 1) := by decide +kernel
theorem dX12_unit_165 : decode cX12_unit 165 = .ok (.iload_n 2, 1) := by decide +kernel
theorem dX12_unit_166 : decode cX12_unit 166 = .ok (.ifCond .ge 7, 3) := by decide +kernel
theorem dX12_unit_169 : decode cX12_unit 169 = .ok (.iconst 0, 1) := by decide +kernel
theorem dX12_unit_170 : decode cX12_unit 170 = .ok (.goto 4, 3) := by decide +kernel
theorem dX12_unit_173 : decode cX12_unit 173 = .ok (.iconst 1, 1) := by decide +kernel
theorem dX12_unit_174 : decode cX12_unit 174 = .ok (.iload_n 2, 1) := by decide +kernel
theorem dX12_unit_175 : decode cX12_unit 175 = .ok (.ifCond .ge 10, 3) := by decide +kernel
theorem dX12_unit_178 : decode cX12_unit 178 = .ok (.aload_n 0, 1) := by decide +kernel
theorem dX12_unit_179 : decode cX12_unit 179 = .ok (.getfield 142, 3) := by decide +kernel
theorem dX12_unit_182 : decode cX12_unit 182 = .ok (.goto 4, 3) := by decide +kernel
theorem dX12_unit_185 : decode cX12_unit 185 = .ok (.iload_n 2, 1) := by decide +kernel
theorem dX12_unit_186 : decode cX12_unit 186 = .ok (.invokevirtual 231, 3) := by decide +kernel
theorem dX12_unit_189 : decode cX12_unit 189 = .ok (.aload_n 0, 1) := by decide +kernel
theorem dX12_unit_190 : decode cX12_unit 190 = .ok (.invokevirtual 202, 3) := by decide +kernel
theorem dX12_unit_193 : decode cX12_unit 193 = .ok (.return_, 1) := by decide +kernel
theorem dX12_sign_0 : decode cX12_sign 0 = .ok (.aload_n 0, 1) := by decide +kernel
theorem dX12_sign_1 : decode cX12_sign 1 = .ok (.ldc2_w 185, 3) := by decide +kernel
theorem dX12_sign_4 : decode cX12_sign 4 = .ok (.invokevirtual 195, 3) := by decide +kernel
theorem dX12_sign_7 : decode cX12_sign 7 = .ok (.ifCond .eq 6, 3) := by decide +kernel
theorem dX12_sign_10 : decode cX12_sign 10 = .ok (.bipush 38, 2) := by decide +kernel
theorem dX12_sign_12 : decode cX12_sign 12 = .ok (.ireturn, 1) := by decide +kernel
theorem dX12_sign_13 : decode cX12_sign 13 = .ok (.aload_n 0, 1) := by decide +kernel
theorem dX12_sign_14 : decode cX12_sign 14 = .ok (.ldc2_w 187, 3) := by decide +kernel
theorem dX12_sign_17 : decode cX12_sign 17 = .ok (.invokevirtual 195, 3) := by decide +kernel
theorem dX12_sign_20 : decode cX12_sign 20 = .ok (.ifCond .eq 6, 3) := by decide +kernel
theorem dX12_sign_23 : decode cX12_sign 23 = .ok (.bipush 124, 2) := by decide +kernel
theorem dX12_sign_25 : decode cX12_sign 25 = .ok (.ireturn, 1) := by decide +kernel
theorem dX12_sign_26 : decode cX12_sign 26 = .ok (.aload_n 0, 1) := by decide +kernel
theorem dX12_sign_27 : decode cX12_sign 27 = .ok (.getfield 145, 3) := by decide +kernel
theorem dX12_sign_30 : decode cX12_sign 30 = .ok (.bipush 60, 2) := by decide +kernel
theorem dX12_sign_32 : decode cX12_sign 32 = .ok (.if_icmp .eq 66, 3) := by decide +kernel
theorem dX12_sign_35 : decode cX12_sign 35 = .ok (.aload_n 0, 1) := by decide +kernel
theorem dX12_sign_36 : decode cX12_sign 36 = .ok (.getfield 145, 3) := by decide +kernel
theorem dX12_sign_39 : decode cX12_sign 39 = .ok (.bipush 62, 2) := by decide +kernel
theorem dX12_sign_41 : decode cX12_sign 41 = .ok (.if_icmp .eq 57, 3) := by decide +kernel
theorem dX12_sign_44 : decode cX12_sign 44 = .ok (.aload_n 0, 1) := by decide +kernel
theorem dX12_sign_45 : decode cX12_sign 45 = .ok (.getfield 145, 3) := by decide +kernel
theorem dX12_sign_48 : decode cX12_sign 48 = .ok (.bipush 61, 2) := by decide +kernel
theorem dX12_sign_50 : decode cX12_sign 50 = .ok (.if_icmp .eq 48, 3) := by decide +kernel
theorem dX12_sign_53 : decode cX12_sign 53 = .ok (.aload_n 0, 1) := by decide +kernel
theorem dX12_sign_54 : decode cX12_sign 54 = .ok (.getfield 145, 3) := by decide +kernel
theorem dX12_sign_57 : decode cX12_sign 57 = .ok (.bipush 43, 2) := by decide +kernel
theorem dX12_sign_59 : decode cX12_sign 59 = .ok (.if_icmp .eq 39, 3) := by decide +kernel
theorem dX12_sign_62 : decode cX12_sign 62 = .ok (.aload_n 0, 1) := by decide +kernel
theorem dX12_sign_63 : decode cX12_sign 63 = .ok (.getfield 145, 3) := by decide +kernel
theorem dX12_sign_66 : decode cX12_sign 66 = .ok (.bipush 45, 2) := by decide +kernel
theorem dX12_sign_68 : decode cX12_sign 68 = .ok (.if_icmp .eq 30, 3) := by decide +kernel
theorem dX12_sign_71 : decode cX12_sign 71 = .ok (.aload_n 0, 1) := by decide +kernel
theorem dX12_sign_72 : decode cX12_sign 72 = .ok (.getfield 145, 3) := by decide +kernel
theorem dX12_sign_75 : decode cX12_sign 75 = .ok (.bipush 42, 2) := by decide +kernel
theorem dX12_sign_77 : decode cX12_sign 77 = .ok (.if_icmp .eq 21, 3) := by decide +kernel
theorem dX12_sign_80 : decode cX12_sign 80 = .ok (.aload_n 0, 1) := by decide +kernel
theorem dX12_sign_81 : decode cX12_sign 81 = .ok (.getfield 145, 3) := by decide +kernel
theorem dX12_sign_84 : decode cX12_sign 84 = .ok (.bipush 47, 2) := by decide +kernel
theorem dX12_sign_86 : decode cX12_sign 86 = .ok (.if_icmp .eq 12, 3) := by decide +kernel
theorem dX12_sign_89 : decode cX12_sign 89 = .ok (.aload_n 0, 1) := by decide +kernel
theorem dX12_sign_90 : decode cX12_sign 90 = .ok (.getfield 145, 3) := by decide +kernel
theorem dX12_sign_93 : decode cX12_sign 93 = .ok (.bipush 37, 2) := by decide +kernel
theorem dX12_sign_95 : decode cX12_sign 95 = .ok (.if_icmp .ne 10, 3) := by decide +kernel
theorem dX12_sign_98 : decode cX12_sign 98 = .ok (.aload_n 0, 1) := by decide +kernel
theorem dX12_sign_99 : decode cX12_sign 99 = .ok (.getfield 145, 3) := by decide +kernel
theorem dX12_sign_102 : decode cX12_sign 102 = .ok (.goto 4, 3) := by decide +kernel
theorem dX12_sign_105 : decode cX12_sign 105 = .ok (.iconst 0, 1) := by decide +kernel
theorem dX12_sign_106 : decode cX12_sign 106 = .ok (.ireturn, 1) := by decide +kernel
theorem dX12_hasBracket_0 : decode cX12_hasBracket 0 = .ok (.iconst 0, 1) := by decide +kernel
theorem dX12_hasBracket_1 : decode cX12_hasBracket 1 = .ok (.istore_n 1, 1) := by decide +kernel
theorem dX12_hasBracket_2 : decode cX12_hasBracket 2 = .ok (.iconst 0, 1) := by decide +kernel
theorem dX12_hasBracket_3 : decode cX12_hasBracket 3 = .ok (.istore_n 2, 1) := by decide +kernel
theorem dX12_hasBracket_4 : decode cX12_hasBracket 4 = .ok (.iload_n 2, 1) := by decide +kernel
theorem dX12_hasBracket_5 : decode cX12_hasBracket 5 = .ok (.aload_n 0, 1) := by decide +kernel
theorem dX12_hasBracket_6 : decode cX12_hasBracket 6 = .ok (.getfield 225, 3) := by decide +kernel
theorem dX12_hasBracket_9 : decode cX12_hasBracket 9 = .ok (.if_icmp .ge 30, 3) := by decide +kernel
theorem dX12_hasBracket_12 : decode cX12_hasBracket 12 = .ok (.iload_n 1, 1) := by decide +kernel
theorem dX12_hasBracket_13 : decode cX12_hasBracket 13 = .ok (.ifCond .ne 14, 3) := by decide +kernel
theorem dX12_hasBracket_16 : decode cX12_hasBracket 16 = .ok (.aload_n 0, 1) := by decide +kernel
theorem dX12_hasBracket_17 : decode cX12_hasBracket 17 = .ok (.getfield 33, 3) := by decide +kernel
theorem dX12_hasBracket_20 : decode cX12_hasBracket 20 = .ok (.iload_n 2, 1) := by decide +kernel
theorem dX12_hasBracket_21 : decode cX12_hasBracket 21 = .ok (.iaload, 1) := by decide +kernel
theorem dX12_hasBracket_22 : decode cX12_hasBracket 22 = .ok (.bipush 20, 2) := by decide +kernel
theorem dX12_hasBracket_24 : decode cX12_hasBracket 24 = .ok (.if_icmp .ne 7, 3) := by decide +kernel
theorem dX12_hasBracket_27 : decode cX12_hasBracket 27 = .ok (.iconst 1, 1) := by decide +kernel
theorem dX12_hasBracket_28 : decode cX12_hasBracket 28 = .ok (.goto 4, 3) := by decide +kernel
theorem dX12_hasBracket_31 : decode cX12_hasBracket 31 = .ok (.iconst 0, 1) := by decide +kernel
theorem dX12_hasBracket_32 : decode cX12_hasBracket 32 = .ok (.istore_n 1, 1) := by decide +kernel
theorem dX12_hasBracket_33 : decode cX12_hasBracket 33 = .ok (.iinc 2 1, 3) := by decide +kernel
theorem dX12_hasBracket_36 : decode cX12_hasBracket 36 = .ok (.goto (-32), 3) := by decide +kernel
theorem dX12_hasBracket_39 : decode cX12_hasBracket 39 = .ok (.iload_n 1, 1) := by decide +kernel
theorem dX12_hasBracket_40 : decode cX12_hasBracket 40 = .ok (.ireturn, 1) := by decide +kernel
theorem dX12_readLoaf_0 : decode cX12_readLoaf 0 = .ok (.aload_n 0, 1) := by decide +kernel
theorem dX12_readLoaf_1 : decode cX12_readLoaf 1 = .ok (.invokevirtual 202, 3) := by decide +kernel
theorem dX12_readLoaf_4 : decode cX12_readLoaf 4 = .ok (.aload_n 0, 1) := by decide +kernel
theorem dX12_readLoaf_5 : decode cX12_readLoaf 5 = .ok (.iconst 0, 1) := by decide +kernel
theorem dX12_readLoaf_6 : decode cX12_readLoaf 6 = .ok (.putfield 222, 3) := by decide +kernel
theorem dX12_readLoaf_9 : decode cX12_readLoaf 9 = .ok (.aload_n 0, 1) := by decide +kernel
theorem dX12_readLoaf_10 : decode cX12_readLoaf 10 = .ok (.iconst 0, 1) := by decide +kernel
theorem dX12_readLoaf_11 : decode cX12_readLoaf 11 = .ok (.putfield 225, 3) := by decide +kernel
theorem dX12_readLoaf_14 : decode cX12_readLoaf 14 = .ok (.aload_n 0, 1) := by decide +kernel
theorem dX12_readLoaf_15 : decode cX12_readLoaf 15 = .ok (.iconst 0, 1) := by decide +kernel
theorem dX12_readLoaf_16 : decode cX12_readLoaf 16 = .ok (.putfield 235, 3) := by decide +kernel
theorem dX12_readLoaf_19 : decode cX12_readLoaf 19 = .ok (.aload_n 0, 1) := by decide +kernel
theorem dX12_readLoaf_20 : decode cX12_readLoaf 20 = .ok (.iconst 0, 1) := by decide +kernel
theorem dX12_readLoaf_21 : decode cX12_readLoaf 21 = .ok (.putfield 244, 3) := by decide +kernel
theorem dX12_readLoaf_24 : decode cX12_readLoaf 24 = .ok (.aload_n 0, 1) := by decide +kernel
theorem dX12_readLoaf_25 : decode cX12_readLoaf 25 = .ok (.invokevirtual 263, 3) := by decide +kernel
theorem dX12_readLoaf_28 : decode cX12_readLoaf 28 = .ok (.iconst 1, 1) := by decide +kernel
theorem dX12_readLoaf_29 : decode cX12_readLoaf 29 = .ok (.istore_n 1, 1) := by decide +kernel
theorem dX12_readLoaf_30 : decode cX12_readLoaf 30 = .ok (.iload_n 1, 1) := by decide +kernel
theorem dX12_readLoaf_31 : decode cX12_readLoaf 31 = .ok (.ifCond .eq 126, 3) := by decide +kernel
theorem dX12_readLoaf_34 : decode cX12_readLoaf 34 = .ok (.aload_n 0, 1) := by decide +kernel
theorem dX12_readLoaf_35 : decode cX12_readLoaf 35 = .ok (.getfield 158, 3) := by decide +kernel
theorem dX12_readLoaf_38 : decode cX12_readLoaf 38 = .ok (.ifCond .ne 119, 3) := by decide +kernel
theorem dX12_readLoaf_41 : decode cX12_readLoaf 41 = .ok (.aload_n 0, 1) := by decide +kernel
theorem dX12_readLoaf_42 : decode cX12_readLoaf 42 = .ok (.invokevirtual 266, 3) := by decide +kernel
theorem dX12_readLoaf_45 : decode cX12_readLoaf 45 = .ok (.istore_n 2, 1) := by decide +kernel
theorem dX12_readLoaf_46 : decode cX12_readLoaf 46 = .ok (.aload_n 0, 1) := by decide +kernel
theorem dX12_readLoaf_47 : decode cX12_readLoaf 47 = .ok (.getfield 145, 3) := by decide +kernel
theorem dX12_readLoaf_50 : decode cX12_readLoaf 50 = .ok (.bipush 41, 2) := by decide +kernel
theorem dX12_readLoaf_52 : decode cX12_readLoaf 52 = .ok (.if_icmp .ne 42, 3) := by decide +kernel
theorem dX12_readLoaf_55 : decode cX12_readLoaf 55 = .ok (.aload_n 0, 1) := by decide +kernel
theorem dX12_readLoaf_56 : decode cX12_readLoaf 56 = .ok (.invokevirtual 269, 3) := by decide +kernel
theorem dX12_readLoaf_59 : decode cX12_readLoaf 59 = .ok (.ifCond .eq 35, 3) := by decide +kernel
theorem dX12_readLoaf_62 : decode cX12_readLoaf 62 = .ok (.aload_n 0, 1) := by decide +kernel
theorem dX12_readLoaf_63 : decode cX12_readLoaf 63 = .ok (.iconst 0, 1) := by decide +kernel
theorem dX12_readLoaf_64 : decode cX12_readLoaf 64 = .ok (.invokevirtual 272, 3) := by decide +kernel
theorem dX12_readLoaf_67 : decode cX12_readLoaf 67 = .ok (.aload_n 0, 1) := by decide +kernel
theorem dX12_readLoaf_68 : decode cX12_readLoaf 68 = .ok (.dup, 1) := by decide +kernel
theorem dX12_readLoaf_69 : decode cX12_readLoaf 69 = .ok (.getfield 225, 3) := by decide +kernel
theorem dX12_readLoaf_72 : decode cX12_readLoaf 72 = .ok (.iconst 1, 1) := by decide +kernel
theorem dX12_readLoaf_73 : decode cX12_readLoaf 73 = .ok (.isub, 1) := by decide +kernel
theorem dX12_readLoaf_74 : decode cX12_readLoaf 74 = .ok (.putfield 225, 3) := by decide +kernel
theorem dX12_readLoaf_77 : decode cX12_readLoaf 77 = .ok (.aload_n 0, 1) := by decide +kernel
theorem dX12_readLoaf_78 : decode cX12_readLoaf 78 = .ok (.dup, 1) := by decide +kernel
theorem dX12_readLoaf_79 : decode cX12_readLoaf 79 = .ok (.getfield 235, 3) := by decide +kernel
theorem dX12_readLoaf_82 : decode cX12_readLoaf 82 = .ok (.iconst 1, 1) := by decide +kernel
theorem dX12_readLoaf_83 : decode cX12_readLoaf 83 = .ok (.isub, 1) := by decide +kernel
theorem dX12_readLoaf_84 : decode cX12_readLoaf 84 = .ok (.putfield 235, 3) := by decide +kernel
theorem dX12_readLoaf_87 : decode cX12_readLoaf 87 = .ok (.aload_n 0, 1) := by decide +kernel
theorem dX12_readLoaf_88 : decode cX12_readLoaf 88 = .ok (.invokevirtual 202, 3) := by decide +kernel
theorem dX12_readLoaf_91 : decode cX12_readLoaf 91 = .ok (.goto 63, 3) := by decide +kernel
theorem dX12_readLoaf_94 : decode cX12_readLoaf 94 = .ok (.iload_n 2, 1) := by decide +kernel
theorem dX12_readLoaf_95 : decode cX12_readLoaf 95 = .ok (.ifCond .eq 57, 3) := by decide +kernel
theorem dX12_readLoaf_98 : decode cX12_readLoaf 98 = .ok (.iload_n 2, 1) := by decide +kernel
theorem dX12_readLoaf_99 : decode cX12_readLoaf 99 = .ok (.invokestatic 228, 3) := by decide +kernel
theorem dX12_readLoaf_102 : decode cX12_readLoaf 102 = .ok (.iconst 4, 1) := by decide +kernel
theorem dX12_readLoaf_103 : decode cX12_readLoaf 103 = .ok (.if_icmp .ne 10, 3) := by decide +kernel
theorem dX12_readLoaf_106 : decode cX12_readLoaf 106 = .ok (.aload_n 0, 1) := by decide +kernel
theorem dX12_readLoaf_107 : decode cX12_readLoaf 107 = .ok (.invokevirtual 275, 3) := by decide +kernel
theorem dX12_readLoaf_110 : decode cX12_readLoaf 110 = .ok (.ifCond .ne 42, 3) := by decide +kernel
theorem dX12_readLoaf_113 : decode cX12_readLoaf 113 = .ok (.aload_n 0, 1) := by decide +kernel
theorem dX12_readLoaf_114 : decode cX12_readLoaf 114 = .ok (.iload_n 2, 1) := by decide +kernel
theorem dX12_readLoaf_115 : decode cX12_readLoaf 115 = .ok (.invokestatic 228, 3) := by decide +kernel
theorem dX12_readLoaf_118 : decode cX12_readLoaf 118 = .ok (.invokevirtual 272, 3) := by decide +kernel
theorem dX12_readLoaf_121 : decode cX12_readLoaf 121 = .ok (.aload_n 0, 1) := by decide +kernel
theorem dX12_readLoaf_122 : decode cX12_readLoaf 122 = .ok (.getfield 33, 3) := by decide +kernel
theorem dX12_readLoaf_125 : decode cX12_readLoaf 125 = .ok (.aload_n 0, 1) := by decide +kernel
theorem dX12_readLoaf_126 : decode cX12_readLoaf 126 = .ok (.getfield 225, 3) := by decide +kernel
theorem dX12_readLoaf_129 : decode cX12_readLoaf 129 = .ok (.iload_n 2, 1) := by decide +kernel
theorem dX12_readLoaf_130 : decode cX12_readLoaf 130 = .ok (.iastore, 1) := by decide +kernel
theorem dX12_readLoaf_131 : decode cX12_readLoaf 131 = .ok (.aload_n 0, 1) := by decide +kernel
theorem dX12_readLoaf_132 : decode cX12_readLoaf 132 = .ok (.dup, 1) := by decide +kernel
theorem dX12_readLoaf_133 : decode cX12_readLoaf 133 = .ok (.getfield 225, 3) := by decide +kernel
theorem dX12_readLoaf_136 : decode cX12_readLoaf 136 = .ok (.iconst 1, 1) := by decide +kernel
theorem dX12_readLoaf_137 : decode cX12_readLoaf 137 = .ok (.iadd, 1) := by decide +kernel
theorem dX12_readLoaf_138 : decode cX12_readLoaf 138 = .ok (.putfield 225, 3) := by decide +kernel
theorem dX12_readLoaf_141 : decode cX12_readLoaf 141 = .ok (.aload_n 0, 1) := by decide +kernel
theorem dX12_readLoaf_142 : decode cX12_readLoaf 142 = .ok (.invokevirtual 202, 3) := by decide +kernel
theorem dX12_readLoaf_145 : decode cX12_readLoaf 145 = .ok (.aload_n 0, 1) := by decide +kernel
theorem dX12_readLoaf_146 : decode cX12_readLoaf 146 = .ok (.invokevirtual 263, 3) := by decide +kernel
theorem dX12_readLoaf_149 : decode cX12_readLoaf 149 = .ok (.goto 5, 3) := by decide +kernel
theorem dX12_readLoaf_152 : decode cX12_readLoaf 152 = .ok (.iconst 0, 1) := by decide +kernel
theorem dX12_readLoaf_153 : decode cX12_readLoaf 153 = .ok (.istore_n 1, 1) := by decide +kernel
theorem dX12_readLoaf_154 : decode cX12_readLoaf 154 = .ok (.goto (-124), 3) := by decide +kernel
theorem dX12_readLoaf_157 : decode cX12_readLoaf 157 = .ok (.aload_n 0, 1) := by decide +kernel
theorem dX12_readLoaf_158 : decode cX12_readLoaf 158 = .ok (.getfield 158, 3) := by decide +kernel
theorem dX12_readLoaf_161 : decode cX12_readLoaf 161 = .ok (.ifCond .ne 15, 3) := by decide +kernel
theorem dX12_readLoaf_164 : decode cX12_readLoaf 164 = .ok (.aload_n 0, 1) := by decide +kernel
theorem dX12_readLoaf_165 : decode cX12_readLoaf 165 = .ok (.invokevirtual 269, 3) := by decide +kernel
theorem dX12_readLoaf_168 : decode cX12_readLoaf 168 = .ok (.ifCond .eq 8, 3) := by decide +kernel
theorem dX12_readLoaf_171 : decode cX12_readLoaf 171 = .ok (.aload_n 0, 1) := by decide +kernel
theorem dX12_readLoaf_172 : decode cX12_readLoaf 172 = .ok (.iconst 2, 1) := by decide +kernel
theorem dX12_readLoaf_173 : decode cX12_readLoaf 173 = .ok (.invokevirtual 199, 3) := by decide +kernel
theorem dX12_readLoaf_176 : decode cX12_readLoaf 176 = .ok (.aload_n 0, 1) := by decide +kernel
theorem dX12_readLoaf_177 : decode cX12_readLoaf 177 = .ok (.getfield 158, 3) := by decide +kernel
theorem dX12_readLoaf_180 : decode cX12_readLoaf 180 = .ok (.ifCond .ne 8, 3) := by decide +kernel
theorem dX12_readLoaf_183 : decode cX12_readLoaf 183 = .ok (.aload_n 0, 1) := by decide +kernel
theorem dX12_readLoaf_184 : decode cX12_readLoaf 184 = .ok (.iconst 0, 1) := by decide +kernel
theorem dX12_readLoaf_185 : decode cX12_readLoaf 185 = .ok (.invokevirtual 272, 3) := by decide +kernel
theorem dX12_readLoaf_188 : decode cX12_readLoaf 188 = .ok (.return_, 1) := by decide +kernel
theorem dX12_truth_0 : decode cX12_truth 0 = .ok (.iload_n 0, 1) := by decide +kernel
theorem dX12_truth_1 : decode cX12_truth 1 = .ok (.ifCond .eq 7, 3) := by decide +kernel
theorem dX12_truth_4 : decode cX12_truth 4 = .ok (.iconst 1, 1) := by decide +kernel
theorem dX12_truth_5 : decode cX12_truth 5 = .ok (.goto 4, 3) := by decide +kernel
theorem dX12_truth_8 : decode cX12_truth 8 = .ok (.iconst 0, 1) := by decide +kernel
theorem dX12_truth_9 : decode cX12_truth 9 = .ok (.ireturn, 1) := by decide +kernel
theorem dX12_done_0 : decode cX12_done 0 = .ok (.iload_n 0, 1) := by decide +kernel
theorem dX12_done_1 : decode cX12_done 1 = .ok (.tableswitch 214 37 62 #[143, 197, 214, 214, 214, 127, 119, 214, 123, 214, 131, 214, 214, 214, 214, 214, 214, 214, 214, 214, 214, 214, 214, 155, 183, 169], 119) := by decide +kernel
theorem dX12_done_120 : decode cX12_done 120 = .ok (.iload_n 1, 1) := by decide +kernel
theorem dX12_done_121 : decode cX12_done 121 = .ok (.iload_n 2, 1) := by decide +kernel
theorem dX12_done_122 : decode cX12_done 122 = .ok (.iadd, 1) := by decide +kernel
theorem dX12_done_123 : decode cX12_done 123 = .ok (.ireturn, 1) := by decide +kernel
theorem dX12_done_124 : decode cX12_done 124 = .ok (.iload_n 1, 1) := by decide +kernel
theorem dX12_done_125 : decode cX12_done 125 = .ok (.iload_n 2, 1) := by decide +kernel
theorem dX12_done_126 : decode cX12_done 126 = .ok (.isub, 1) := by decide +kernel
theorem dX12_done_127 : decode cX12_done 127 = .ok (.ireturn, 1) := by decide +kernel
theorem dX12_done_128 : decode cX12_done 128 = .ok (.iload_n 1, 1) := by decide +kernel
theorem dX12_done_129 : decode cX12_done 129 = .ok (.iload_n 2, 1) := by decide +kernel
theorem dX12_done_130 : decode cX12_done 130 = .ok (.imul, 1) := by decide +kernel
theorem dX12_done_131 : decode cX12_done 131 = .ok (.ireturn, 1) := by decide +kernel
theorem dX12_done_132 : decode cX12_done 132 = .ok (.iload_n 2, 1) := by decide +kernel
theorem dX12_done_133 : decode cX12_done 133 = .ok (.ifCond .ne 7, 3) := by decide +kernel
theorem dX12_done_136 : decode cX12_done 136 = .ok (.iconst 0, 1) := by decide +kernel
theorem dX12_done_137 : decode cX12_done 137 = .ok (.goto 6, 3) := by decide +kernel
theorem dX12_done_140 : decode cX12_done 140 = .ok (.iload_n 1, 1) := by decide +kernel
theorem dX12_done_141 : decode cX12_done 141 = .ok (.iload_n 2, 1) := by decide +kernel
theorem dX12_done_142 : decode cX12_done 142 = .ok (.idiv, 1) := by decide +kernel
theorem dX12_done_143 : decode cX12_done 143 = .ok (.ireturn, 1) := by decide +kernel
theorem dX12_done_144 : decode cX12_done 144 = .ok (.iload_n 2, 1) := by decide +kernel
theorem dX12_done_145 : decode cX12_done 145 = .ok (.ifCond .ne 7, 3) := by decide +kernel
theorem dX12_done_148 : decode cX12_done 148 = .ok (.iconst 0, 1) := by decide +kernel
theorem dX12_done_149 : decode cX12_done 149 = .ok (.goto 6, 3) := by decide +kernel
theorem dX12_done_152 : decode cX12_done 152 = .ok (.iload_n 1, 1) := by decide +kernel
theorem dX12_done_153 : decode cX12_done 153 = .ok (.iload_n 2, 1) := by decide +kernel
theorem dX12_done_154 : decode cX12_done 154 = .ok (.irem, 1) := by decide +kernel
theorem dX12_done_155 : decode cX12_done 155 = .ok (.ireturn, 1) := by decide +kernel
theorem dX12_done_156 : decode cX12_done 156 = .ok (.iload_n 1, 1) := by decide +kernel
theorem dX12_done_157 : decode cX12_done 157 = .ok (.iload_n 2, 1) := by decide +kernel
theorem dX12_done_158 : decode cX12_done 158 = .ok (.if_icmp .ge 7, 3) := by decide +kernel
theorem dX12_done_161 : decode cX12_done 161 = .ok (.iconst 1, 1) := by decide +kernel
theorem dX12_done_162 : decode cX12_done 162 = .ok (.goto 4, 3) := by decide +kernel
theorem dX12_done_165 : decode cX12_done 165 = .ok (.iconst 0, 1) := by decide +kernel
theorem dX12_done_166 : decode cX12_done 166 = .ok (.invokestatic 278, 3) := by decide +kernel
theorem dX12_done_169 : decode cX12_done 169 = .ok (.ireturn, 1) := by decide +kernel
theorem dX12_done_170 : decode cX12_done 170 = .ok (.iload_n 1, 1) := by decide +kernel
theorem dX12_done_171 : decode cX12_done 171 = .ok (.iload_n 2, 1) := by decide +kernel
theorem dX12_done_172 : decode cX12_done 172 = .ok (.if_icmp .le 7, 3) := by decide +kernel
theorem dX12_done_175 : decode cX12_done 175 = .ok (.iconst 1, 1) := by decide +kernel
theorem dX12_done_176 : decode cX12_done 176 = .ok (.goto 4, 3) := by decide +kernel
theorem dX12_done_179 : decode cX12_done 179 = .ok (.iconst 0, 1) := by decide +kernel
theorem dX12_done_180 : decode cX12_done 180 = .ok (.invokestatic 278, 3) := by decide +kernel
theorem dX12_done_183 : decode cX12_done 183 = .ok (.ireturn, 1) := by decide +kernel
theorem dX12_done_184 : decode cX12_done 184 = .ok (.iload_n 1, 1) := by decide +kernel
theorem dX12_done_185 : decode cX12_done 185 = .ok (.iload_n 2, 1) := by decide +kernel
theorem dX12_done_186 : decode cX12_done 186 = .ok (.if_icmp .ne 7, 3) := by decide +kernel
theorem dX12_done_189 : decode cX12_done 189 = .ok (.iconst 1, 1) := by decide +kernel
theorem dX12_done_190 : decode cX12_done 190 = .ok (.goto 4, 3) := by decide +kernel
theorem dX12_done_193 : decode cX12_done 193 = .ok (.iconst 0, 1) := by decide +kernel
theorem dX12_done_194 : decode cX12_done 194 = .ok (.invokestatic 278, 3) := by decide +kernel
theorem dX12_done_197 : decode cX12_done 197 = .ok (.ireturn, 1) := by decide +kernel
theorem dX12_done_198 : decode cX12_done 198 = .ok (.iload_n 1, 1) := by decide +kernel
theorem dX12_done_199 : decode cX12_done 199 = .ok (.ifCond .eq 11, 3) := by decide +kernel
theorem dX12_done_202 : decode cX12_done 202 = .ok (.iload_n 2, 1) := by decide +kernel
theorem dX12_done_203 : decode cX12_done 203 = .ok (.ifCond .eq 7, 3) := by decide +kernel
theorem dX12_done_206 : decode cX12_done 206 = .ok (.iconst 1, 1) := by decide +kernel
theorem dX12_done_207 : decode cX12_done 207 = .ok (.goto 4, 3) := by decide +kernel
theorem dX12_done_210 : decode cX12_done 210 = .ok (.iconst 0, 1) := by decide +kernel
theorem dX12_done_211 : decode cX12_done 211 = .ok (.invokestatic 278, 3) := by decide +kernel
theorem dX12_done_214 : decode cX12_done 214 = .ok (.ireturn, 1) := by decide +kernel
theorem dX12_done_215 : decode cX12_done 215 = .ok (.iload_n 1, 1) := by decide +kernel
theorem dX12_done_216 : decode cX12_done 216 = .ok (.ifCond .ne 7, 3) := by decide +kernel
theorem dX12_done_219 : decode cX12_done 219 = .ok (.iload_n 2, 1) := by decide +kernel
theorem dX12_done_220 : decode cX12_done 220 = .ok (.ifCond .eq 7, 3) := by decide +kernel
theorem dX12_done_223 : decode cX12_done 223 = .ok (.iconst 1, 1) := by decide +kernel
theorem dX12_done_224 : decode cX12_done 224 = .ok (.goto 4, 3) := by decide +kernel
theorem dX12_done_227 : decode cX12_done 227 = .ok (.iconst 0, 1) := by decide +kernel
theorem dX12_done_228 : decode cX12_done 228 = .ok (.invokestatic 278, 3) := by decide +kernel
theorem dX12_done_231 : decode cX12_done 231 = .ok (.ireturn, 1) := by decide +kernel
theorem dX12_loafBy_0 : decode cX12_loafBy 0 = .ok (.aload_n 0, 1) := by decide +kernel
theorem dX12_loafBy_1 : decode cX12_loafBy 1 = .ok (.getfield 282, 3) := by decide +kernel
theorem dX12_loafBy_4 : decode cX12_loafBy 4 = .ok (.ifCond .ne 6, 3) := by decide +kernel
theorem dX12_loafBy_7 : decode cX12_loafBy 7 = .ok (.bipush 10, 2) := by decide +kernel
theorem dX12_loafBy_9 : decode cX12_loafBy 9 = .ok (.ireturn, 1) := by decide +kernel
theorem dX12_loafBy_10 : decode cX12_loafBy 10 = .ok (.iconst 0, 1) := by decide +kernel
theorem dX12_loafBy_11 : decode cX12_loafBy 11 = .ok (.istore 6, 2) := by decide +kernel
theorem dX12_loafBy_13 : decode cX12_loafBy 13 = .ok (.iload 6, 2) := by decide +kernel
theorem dX12_loafBy_15 : decode cX12_loafBy 15 = .ok (.iconst 5, 1) := by decide +kernel
theorem dX12_loafBy_16 : decode cX12_loafBy 16 = .ok (.if_icmp .ge 22, 3) := by decide +kernel
theorem dX12_loafBy_19 : decode cX12_loafBy 19 = .ok (.aload_n 0, 1) := by decide +kernel
theorem dX12_loafBy_20 : decode cX12_loafBy 20 = .ok (.getfield 39, 3) := by decide +kernel
theorem dX12_loafBy_23 : decode cX12_loafBy 23 = .ok (.iload 6, 2) := by decide +kernel
theorem dX12_loafBy_25 : decode cX12_loafBy 25 = .ok (.iload_n 1, 1) := by decide +kernel
theorem dX12_loafBy_26 : decode cX12_loafBy 26 = .ok (.iload 6, 2) := by decide +kernel
theorem dX12_loafBy_28 : decode cX12_loafBy 28 = .ok (.ishr, 1) := by decide +kernel
theorem dX12_loafBy_29 : decode cX12_loafBy 29 = .ok (.iconst 1, 1) := by decide +kernel
theorem dX12_loafBy_30 : decode cX12_loafBy 30 = .ok (.iand, 1) := by decide +kernel
theorem dX12_loafBy_31 : decode cX12_loafBy 31 = .ok (.iastore, 1) := by decide +kernel
theorem dX12_loafBy_32 : decode cX12_loafBy 32 = .ok (.iinc 6 1, 3) := by decide +kernel
theorem dX12_loafBy_35 : decode cX12_loafBy 35 = .ok (.goto (-22), 3) := by decide +kernel
theorem dX12_loafBy_38 : decode cX12_loafBy 38 = .ok (.aload_n 0, 1) := by decide +kernel
theorem dX12_loafBy_39 : decode cX12_loafBy 39 = .ok (.getfield 39, 3) := by decide +kernel
theorem dX12_loafBy_42 : decode cX12_loafBy 42 = .ok (.iconst 5, 1) := by decide +kernel
theorem dX12_loafBy_43 : decode cX12_loafBy 43 = .ok (.iload_n 2, 1) := by decide +kernel
theorem dX12_loafBy_44 : decode cX12_loafBy 44 = .ok (.iastore, 1) := by decide +kernel
theorem dX12_loafBy_45 : decode cX12_loafBy 45 = .ok (.aload_n 0, 1) := by decide +kernel
theorem dX12_loafBy_46 : decode cX12_loafBy 46 = .ok (.getfield 39, 3) := by decide +kernel
theorem dX12_loafBy_49 : decode cX12_loafBy 49 = .ok (.bipush 6, 2) := by decide +kernel
theorem dX12_loafBy_51 : decode cX12_loafBy 51 = .ok (.iload_n 3, 1) := by decide +kernel
theorem dX12_loafBy_52 : decode cX12_loafBy 52 = .ok (.iastore, 1) := by decide +kernel
theorem dX12_loafBy_53 : decode cX12_loafBy 53 = .ok (.aload_n 0, 1) := by decide +kernel
theorem dX12_loafBy_54 : decode cX12_loafBy 54 = .ok (.getfield 39, 3) := by decide +kernel
theorem dX12_loafBy_57 : decode cX12_loafBy 57 = .ok (.bipush 7, 2) := by decide +kernel
theorem dX12_loafBy_59 : decode cX12_loafBy 59 = .ok (.iload 4, 2) := by decide +kernel
theorem dX12_loafBy_61 : decode cX12_loafBy 61 = .ok (.iastore, 1) := by decide +kernel
theorem dX12_loafBy_62 : decode cX12_loafBy 62 = .ok (.aload_n 0, 1) := by decide +kernel
theorem dX12_loafBy_63 : decode cX12_loafBy 63 = .ok (.getfield 39, 3) := by decide +kernel
theorem dX12_loafBy_66 : decode cX12_loafBy 66 = .ok (.bipush 8, 2) := by decide +kernel
theorem dX12_loafBy_68 : decode cX12_loafBy 68 = .ok (.iload 5, 2) := by decide +kernel
theorem dX12_loafBy_70 : decode cX12_loafBy 70 = .ok (.iastore, 1) := by decide +kernel
theorem dX12_loafBy_71 : decode cX12_loafBy 71 = .ok (.iconst 0, 1) := by decide +kernel
theorem dX12_loafBy_72 : decode cX12_loafBy 72 = .ok (.istore 6, 2) := by decide +kernel
theorem dX12_loafBy_74 : decode cX12_loafBy 74 = .ok (.iconst 0, 1) := by decide +kernel
theorem dX12_loafBy_75 : decode cX12_loafBy 75 = .ok (.istore 7, 2) := by decide +kernel
theorem dX12_loafBy_77 : decode cX12_loafBy 77 = .ok (.iload 7, 2) := by decide +kernel
theorem dX12_loafBy_79 : decode cX12_loafBy 79 = .ok (.aload_n 0, 1) := by decide +kernel
theorem dX12_loafBy_80 : decode cX12_loafBy 80 = .ok (.getfield 286, 3) := by decide +kernel
theorem dX12_loafBy_83 : decode cX12_loafBy 83 = .ok (.if_icmp .ge 156, 3) := by decide +kernel
theorem dX12_loafBy_86 : decode cX12_loafBy 86 = .ok (.aload_n 0, 1) := by decide +kernel
theorem dX12_loafBy_87 : decode cX12_loafBy 87 = .ok (.getfield 27, 3) := by decide +kernel
theorem dX12_loafBy_90 : decode cX12_loafBy 90 = .ok (.iload 7, 2) := by decide +kernel
theorem dX12_loafBy_92 : decode cX12_loafBy 92 = .ok (.iaload, 1) := by decide +kernel
theorem dX12_loafBy_93 : decode cX12_loafBy 93 = .ok (.ifCond .eq 14, 3) := by decide +kernel
theorem dX12_loafBy_96 : decode cX12_loafBy 96 = .ok (.aload_n 0, 1) := by decide +kernel
theorem dX12_loafBy_97 : decode cX12_loafBy 97 = .ok (.getfield 27, 3) := by decide +kernel
theorem dX12_loafBy_100 : decode cX12_loafBy 100 = .ok (.iload 7, 2) := by decide +kernel
theorem dX12_loafBy_102 : decode cX12_loafBy 102 = .ok (.iaload, 1) := by decide +kernel
theorem dX12_loafBy_103 : decode cX12_loafBy 103 = .ok (.iconst 1, 1) := by decide +kernel
theorem dX12_loafBy_104 : decode cX12_loafBy 104 = .ok (.if_icmp .ne 48, 3) := by decide +kernel
theorem dX12_loafBy_107 : decode cX12_loafBy 107 = .ok (.aload_n 0, 1) := by decide +kernel
theorem dX12_loafBy_108 : decode cX12_loafBy 108 = .ok (.getfield 36, 3) := by decide +kernel
theorem dX12_loafBy_111 : decode cX12_loafBy 111 = .ok (.iload 6, 2) := by decide +kernel
theorem dX12_loafBy_113 : decode cX12_loafBy 113 = .ok (.aload_n 0, 1) := by decide +kernel
theorem dX12_loafBy_114 : decode cX12_loafBy 114 = .ok (.getfield 27, 3) := by decide +kernel
theorem dX12_loafBy_117 : decode cX12_loafBy 117 = .ok (.iload 7, 2) := by decide +kernel
theorem dX12_loafBy_119 : decode cX12_loafBy 119 = .ok (.iaload, 1) := by decide +kernel
theorem dX12_loafBy_120 : decode cX12_loafBy 120 = .ok (.ifCond .ne 13, 3) := by decide +kernel
theorem dX12_loafBy_123 : decode cX12_loafBy 123 = .ok (.aload_n 0, 1) := by decide +kernel
theorem dX12_loafBy_124 : decode cX12_loafBy 124 = .ok (.getfield 30, 3) := by decide +kernel
theorem dX12_loafBy_127 : decode cX12_loafBy 127 = .ok (.iload 7, 2) := by decide +kernel
theorem dX12_loafBy_129 : decode cX12_loafBy 129 = .ok (.iaload, 1) := by decide +kernel
theorem dX12_loafBy_130 : decode cX12_loafBy 130 = .ok (.goto 15, 3) := by decide +kernel
theorem dX12_loafBy_133 : decode cX12_loafBy 133 = .ok (.aload_n 0, 1) := by decide +kernel
theorem dX12_loafBy_134 : decode cX12_loafBy 134 = .ok (.getfield 39, 3) := by decide +kernel
theorem dX12_loafBy_137 : decode cX12_loafBy 137 = .ok (.aload_n 0, 1) := by decide +kernel
theorem dX12_loafBy_138 : decode cX12_loafBy 138 = .ok (.getfield 30, 3) := by decide +kernel
theorem dX12_loafBy_141 : decode cX12_loafBy 141 = .ok (.iload 7, 2) := by decide +kernel
theorem dX12_loafBy_143 : decode cX12_loafBy 143 = .ok (.iaload, 1) := by decide +kernel
theorem dX12_loafBy_144 : decode cX12_loafBy 144 = .ok (.iaload, 1) := by decide +kernel
theorem dX12_loafBy_145 : decode cX12_loafBy 145 = .ok (.iastore, 1) := by decide +kernel
theorem dX12_loafBy_146 : decode cX12_loafBy 146 = .ok (.iinc 6 1, 3) := by decide +kernel
theorem dX12_loafBy_149 : decode cX12_loafBy 149 = .ok (.goto 84, 3) := by decide +kernel
theorem dX12_loafBy_152 : decode cX12_loafBy 152 = .ok (.aload_n 0, 1) := by decide +kernel
theorem dX12_loafBy_153 : decode cX12_loafBy 153 = .ok (.getfield 27, 3) := by decide +kernel
theorem dX12_loafBy_156 : decode cX12_loafBy 156 = .ok (.iload 7, 2) := by decide +kernel
theorem dX12_loafBy_158 : decode cX12_loafBy 158 = .ok (.iaload, 1) := by decide +kernel
theorem dX12_loafBy_159 : decode cX12_loafBy 159 = .ok (.iconst 2, 1) := by decide +kernel
theorem dX12_loafBy_160 : decode cX12_loafBy 160 = .ok (.if_icmp .ne 35, 3) := by decide +kernel
theorem dX12_loafBy_163 : decode cX12_loafBy 163 = .ok (.aload_n 0, 1) := by decide +kernel
theorem dX12_loafBy_164 : decode cX12_loafBy 164 = .ok (.getfield 36, 3) := by decide +kernel
theorem dX12_loafBy_167 : decode cX12_loafBy 167 = .ok (.iload 6, 2) := by decide +kernel
theorem dX12_loafBy_169 : decode cX12_loafBy 169 = .ok (.iconst 1, 1) := by decide +kernel
theorem dX12_loafBy_170 : decode cX12_loafBy 170 = .ok (.isub, 1) := by decide +kernel
theorem dX12_loafBy_171 : decode cX12_loafBy 171 = .ok (.aload_n 0, 1) := by decide +kernel
theorem dX12_loafBy_172 : decode cX12_loafBy 172 = .ok (.getfield 36, 3) := by decide +kernel
theorem dX12_loafBy_175 : decode cX12_loafBy 175 = .ok (.iload 6, 2) := by decide +kernel
theorem dX12_loafBy_177 : decode cX12_loafBy 177 = .ok (.iconst 1, 1) := by decide +kernel
theorem dX12_loafBy_178 : decode cX12_loafBy 178 = .ok (.isub, 1) := by decide +kernel
theorem dX12_loafBy_179 : decode cX12_loafBy 179 = .ok (.iaload, 1) := by decide +kernel
theorem dX12_loafBy_180 : decode cX12_loafBy 180 = .ok (.ifCond .ne 7, 3) := by decide +kernel
theorem dX12_loafBy_183 : decode cX12_loafBy 183 = .ok (.iconst 1, 1) := by decide +kernel
theorem dX12_loafBy_184 : decode cX12_loafBy 184 = .ok (.goto 4, 3) := by decide +kernel
theorem dX12_loafBy_187 : decode cX12_loafBy 187 = .ok (.iconst 0, 1) := by decide +kernel
theorem dX12_loafBy_188 : decode cX12_loafBy 188 = .ok (.invokestatic 278, 3) := by decide +kernel
theorem dX12_loafBy_191 : decode cX12_loafBy 191 = .ok (.iastore, 1) := by decide +kernel
theorem dX12_loafBy_192 : decode cX12_loafBy 192 = .ok (.goto 41, 3) := by decide +kernel
theorem dX12_loafBy_195 : decode cX12_loafBy 195 = .ok (.iinc 6 (-1), 3) := by decide +kernel
theorem dX12_loafBy_198 : decode cX12_loafBy 198 = .ok (.aload_n 0, 1) := by decide +kernel
theorem dX12_loafBy_199 : decode cX12_loafBy 199 = .ok (.getfield 36, 3) := by decide +kernel
theorem dX12_loafBy_202 : decode cX12_loafBy 202 = .ok (.iload 6, 2) := by decide +kernel
theorem dX12_loafBy_204 : decode cX12_loafBy 204 = .ok (.iconst 1, 1) := by decide +kernel
theorem dX12_loafBy_205 : decode cX12_loafBy 205 = .ok (.isub, 1) := by decide +kernel
theorem dX12_loafBy_206 : decode cX12_loafBy 206 = .ok (.aload_n 0, 1) := by decide +kernel
theorem dX12_loafBy_207 : decode cX12_loafBy 207 = .ok (.getfield 30, 3) := by decide +kernel
theorem dX12_loafBy_210 : decode cX12_loafBy 210 = .ok (.iload 7, 2) := by decide +kernel
theorem dX12_loafBy_212 : decode cX12_loafBy 212 = .ok (.iaload, 1) := by decide +kernel
theorem dX12_loafBy_213 : decode cX12_loafBy 213 = .ok (.aload_n 0, 1) := by decide +kernel
theorem dX12_loafBy_214 : decode cX12_loafBy 214 = .ok (.getfield 36, 3) := by decide +kernel
theorem dX12_loafBy_217 : decode cX12_loafBy 217 = .ok (.iload 6, 2) := by decide +kernel
theorem dX12_loafBy_219 : decode cX12_loafBy 219 = .ok (.iconst 1, 1) := by decide +kernel
theorem dX12_loafBy_220 : decode cX12_loafBy 220 = .ok (.isub, 1) := by decide +kernel
theorem dX12_loafBy_221 : decode cX12_loafBy 221 = .ok (.iaload, 1) := by decide +kernel
theorem dX12_loafBy_222 : decode cX12_loafBy 222 = .ok (.aload_n 0, 1) := by decide +kernel
theorem dX12_loafBy_223 : decode cX12_loafBy 223 = .ok (.getfield 36, 3) := by decide +kernel
theorem dX12_loafBy_226 : decode cX12_loafBy 226 = .ok (.iload 6, 2) := by decide +kernel
theorem dX12_loafBy_228 : decode cX12_loafBy 228 = .ok (.iaload, 1) := by decide +kernel
theorem dX12_loafBy_229 : decode cX12_loafBy 229 = .ok (.invokestatic 289, 3) := by decide +kernel
theorem dX12_loafBy_232 : decode cX12_loafBy 232 = .ok (.iastore, 1) := by decide +kernel
theorem dX12_loafBy_233 : decode cX12_loafBy 233 = .ok (.iinc 7 1, 3) := by decide +kernel
theorem dX12_loafBy_236 : decode cX12_loafBy 236 = .ok (.goto (-159), 3) := by decide +kernel
theorem dX12_loafBy_239 : decode cX12_loafBy 239 = .ok (.aload_n 0, 1) := by decide +kernel
theorem dX12_loafBy_240 : decode cX12_loafBy 240 = .ok (.getfield 36, 3) := by decide +kernel
theorem dX12_loafBy_243 : decode cX12_loafBy 243 = .ok (.iconst 0, 1) := by decide +kernel
theorem dX12_loafBy_244 : decode cX12_loafBy 244 = .ok (.iaload, 1) := by decide +kernel
theorem dX12_loafBy_245 : decode cX12_loafBy 245 = .ok (.ifCond .ge 7, 3) := by decide +kernel
theorem dX12_loafBy_248 : decode cX12_loafBy 248 = .ok (.iconst 0, 1) := by decide +kernel
theorem dX12_loafBy_249 : decode cX12_loafBy 249 = .ok (.goto 25, 3) := by decide +kernel
theorem dX12_loafBy_252 : decode cX12_loafBy 252 = .ok (.aload_n 0, 1) := by decide +kernel
theorem dX12_loafBy_253 : decode cX12_loafBy 253 = .ok (.getfield 36, 3) := by decide +kernel
theorem dX12_loafBy_256 : decode cX12_loafBy 256 = .ok (.iconst 0, 1) := by decide +kernel
theorem dX12_loafBy_257 : decode cX12_loafBy 257 = .ok (.iaload, 1) := by decide +kernel
theorem dX12_loafBy_258 : decode cX12_loafBy 258 = .ok (.bipush 99, 2) := by decide +kernel
theorem dX12_loafBy_260 : decode cX12_loafBy 260 = .ok (.if_icmp .le 8, 3) := by decide +kernel
theorem dX12_loafBy_263 : decode cX12_loafBy 263 = .ok (.bipush 99, 2) := by decide +kernel
theorem dX12_loafBy_265 : decode cX12_loafBy 265 = .ok (.goto 9, 3) := by decide +kernel
theorem dX12_loafBy_268 : decode cX12_loafBy 268 = .ok (.aload_n 0, 1) := by decide +kernel
theorem dX12_loafBy_269 : decode cX12_loafBy 269 = .ok (.getfield 36, 3) := by decide +kernel
theorem dX12_loafBy_272 : decode cX12_loafBy 272 = .ok (.iconst 0, 1) := by decide +kernel
theorem dX12_loafBy_273 : decode cX12_loafBy 273 = .ok (.iaload, 1) := by decide +kernel
theorem dX12_loafBy_274 : decode cX12_loafBy 274 = .ok (.ireturn, 1) := by decide +kernel
theorem dX12_readDeed_0 : decode cX12_readDeed 0 = .ok (.aload_n 0, 1) := by decide +kernel
theorem dX12_readDeed_1 : decode cX12_readDeed 1 = .ok (.iconst 0, 1) := by decide +kernel
theorem dX12_readDeed_2 : decode cX12_readDeed 2 = .ok (.aload_n 0, 1) := by decide +kernel
theorem dX12_readDeed_3 : decode cX12_readDeed 3 = .ok (.getfield 238, 3) := by decide +kernel
theorem dX12_readDeed_6 : decode cX12_readDeed 6 = .ok (.invokevirtual 293, 3) := by decide +kernel
theorem dX12_readDeed_9 : decode cX12_readDeed 9 = .ok (.aload_n 0, 1) := by decide +kernel
theorem dX12_readDeed_10 : decode cX12_readDeed 10 = .ok (.getfield 158, 3) := by decide +kernel
theorem dX12_readDeed_13 : decode cX12_readDeed 13 = .ok (.ifCond .ne 13, 3) := by decide +kernel
theorem dX12_readDeed_16 : decode cX12_readDeed 16 = .ok (.aload_n 0, 1) := by decide +kernel
theorem dX12_readDeed_17 : decode cX12_readDeed 17 = .ok (.dup, 1) := by decide +kernel
theorem dX12_readDeed_18 : decode cX12_readDeed 18 = .ok (.getfield 238, 3) := by decide +kernel
theorem dX12_readDeed_21 : decode cX12_readDeed 21 = .ok (.iconst 1, 1) := by decide +kernel
theorem dX12_readDeed_22 : decode cX12_readDeed 22 = .ok (.iadd, 1) := by decide +kernel
theorem dX12_readDeed_23 : decode cX12_readDeed 23 = .ok (.putfield 238, 3) := by decide +kernel
theorem dX12_readDeed_26 : decode cX12_readDeed 26 = .ok (.return_, 1) := by decide +kernel
theorem dX12_readSoul_0 : decode cX12_readSoul 0 = .ok (.aload_n 0, 1) := by decide +kernel
theorem dX12_readSoul_1 : decode cX12_readSoul 1 = .ok (.iconst 5, 1) := by decide +kernel
theorem dX12_readSoul_2 : decode cX12_readSoul 2 = .ok (.aload_n 0, 1) := by decide +kernel
theorem dX12_readSoul_3 : decode cX12_readSoul 3 = .ok (.getfield 219, 3) := by decide +kernel
theorem dX12_readSoul_6 : decode cX12_readSoul 6 = .ok (.invokevirtual 293, 3) := by decide +kernel
theorem dX12_readSoul_9 : decode cX12_readSoul 9 = .ok (.aload_n 0, 1) := by decide +kernel
theorem dX12_readSoul_10 : decode cX12_readSoul 10 = .ok (.getfield 219, 3) := by decide +kernel
theorem dX12_readSoul_13 : decode cX12_readSoul 13 = .ok (.istore_n 1, 1) := by decide +kernel
theorem dX12_readSoul_14 : decode cX12_readSoul 14 = .ok (.aload_n 0, 1) := by decide +kernel
theorem dX12_readSoul_15 : decode cX12_readSoul 15 = .ok (.getfield 42, 3) := by decide +kernel
theorem dX12_readSoul_18 : decode cX12_readSoul 18 = .ok (.iload_n 1, 1) := by decide +kernel
theorem dX12_readSoul_19 : decode cX12_readSoul 19 = .ok (.aload_n 0, 1) := by decide +kernel
theorem dX12_readSoul_20 : decode cX12_readSoul 20 = .ok (.ldc2_w 165, 3) := by decide +kernel
theorem dX12_readSoul_23 : decode cX12_readSoul 23 = .ok (.iconst 0, 1) := by decide +kernel
theorem dX12_readSoul_24 : decode cX12_readSoul 24 = .ok (.bipush 99, 2) := by decide +kernel
theorem dX12_readSoul_26 : decode cX12_readSoul 26 = .ok (.invokevirtual 296, 3) := by decide +kernel
theorem dX12_readSoul_29 : decode cX12_readSoul 29 = .ok (.iastore, 1) := by decide +kernel
theorem dX12_readSoul_30 : decode cX12_readSoul 30 = .ok (.aload_n 0, 1) := by decide +kernel
theorem dX12_readSoul_31 : decode cX12_readSoul 31 = .ok (.getfield 45, 3) := by decide +kernel
theorem dX12_readSoul_34 : decode cX12_readSoul 34 = .ok (.iload_n 1, 1) := by decide +kernel
theorem dX12_readSoul_35 : decode cX12_readSoul 35 = .ok (.iconst 0, 1) := by decide +kernel
theorem dX12_readSoul_36 : decode cX12_readSoul 36 = .ok (.iastore, 1) := by decide +kernel
theorem dX12_readSoul_37 : decode cX12_readSoul 37 = .ok (.aload_n 0, 1) := by decide +kernel
theorem dX12_readSoul_38 : decode cX12_readSoul 38 = .ok (.getfield 158, 3) := by decide +kernel
theorem dX12_readSoul_41 : decode cX12_readSoul 41 = .ok (.ifCond .ne 29, 3) := by decide +kernel
theorem dX12_readSoul_44 : decode cX12_readSoul 44 = .ok (.aload_n 0, 1) := by decide +kernel
theorem dX12_readSoul_45 : decode cX12_readSoul 45 = .ok (.ldc2_w 167, 3) := by decide +kernel
theorem dX12_readSoul_48 : decode cX12_readSoul 48 = .ok (.invokevirtual 195, 3) := by decide +kernel
theorem dX12_readSoul_51 : decode cX12_readSoul 51 = .ok (.ifCond .eq 19, 3) := by decide +kernel
theorem dX12_readSoul_54 : decode cX12_readSoul 54 = .ok (.aload_n 0, 1) := by decide +kernel
theorem dX12_readSoul_55 : decode cX12_readSoul 55 = .ok (.getfield 45, 3) := by decide +kernel
theorem dX12_readSoul_58 : decode cX12_readSoul 58 = .ok (.iload_n 1, 1) := by decide +kernel
theorem dX12_readSoul_59 : decode cX12_readSoul 59 = .ok (.aload_n 0, 1) := by decide +kernel
theorem dX12_readSoul_60 : decode cX12_readSoul 60 = .ok (.ldc2_w 167, 3) := by decide +kernel
theorem dX12_readSoul_63 : decode cX12_readSoul 63 = .ok (.iconst 0, 1) := by decide +kernel
theorem dX12_readSoul_64 : decode cX12_readSoul 64 = .ok (.bipush 99, 2) := by decide +kernel
theorem dX12_readSoul_66 : decode cX12_readSoul 66 = .ok (.invokevirtual 296, 3) := by decide +kernel
theorem dX12_readSoul_69 : decode cX12_readSoul 69 = .ok (.iastore, 1) := by decide +kernel
theorem dX12_readSoul_70 : decode cX12_readSoul 70 = .ok (.aload_n 0, 1) := by decide +kernel
theorem dX12_readSoul_71 : decode cX12_readSoul 71 = .ok (.getfield 48, 3) := by decide +kernel
theorem dX12_readSoul_74 : decode cX12_readSoul 74 = .ok (.iload_n 1, 1) := by decide +kernel
theorem dX12_readSoul_75 : decode cX12_readSoul 75 = .ok (.iconst 0, 1) := by decide +kernel
theorem dX12_readSoul_76 : decode cX12_readSoul 76 = .ok (.iastore, 1) := by decide +kernel
theorem dX12_readSoul_77 : decode cX12_readSoul 77 = .ok (.aload_n 0, 1) := by decide +kernel
theorem dX12_readSoul_78 : decode cX12_readSoul 78 = .ok (.getfield 158, 3) := by decide +kernel
theorem dX12_readSoul_81 : decode cX12_readSoul 81 = .ok (.ifCond .ne 13, 3) := by decide +kernel
theorem dX12_readSoul_84 : decode cX12_readSoul 84 = .ok (.aload_n 0, 1) := by decide +kernel
theorem dX12_readSoul_85 : decode cX12_readSoul 85 = .ok (.dup, 1) := by decide +kernel
theorem dX12_readSoul_86 : decode cX12_readSoul 86 = .ok (.getfield 219, 3) := by decide +kernel
theorem dX12_readSoul_89 : decode cX12_readSoul 89 = .ok (.iconst 1, 1) := by decide +kernel
theorem dX12_readSoul_90 : decode cX12_readSoul 90 = .ok (.iadd, 1) := by decide +kernel
theorem dX12_readSoul_91 : decode cX12_readSoul 91 = .ok (.putfield 219, 3) := by decide +kernel
theorem dX12_readSoul_94 : decode cX12_readSoul 94 = .ok (.return_, 1) := by decide +kernel
theorem dX12_readFeud_0 : decode cX12_readFeud 0 = .ok (.aload_n 0, 1) := by decide +kernel
theorem dX12_readFeud_1 : decode cX12_readFeud 1 = .ok (.invokevirtual 202, 3) := by decide +kernel
theorem dX12_readFeud_4 : decode cX12_readFeud 4 = .ok (.aload_n 0, 1) := by decide +kernel
theorem dX12_readFeud_5 : decode cX12_readFeud 5 = .ok (.invokevirtual 300, 3) := by decide +kernel
theorem dX12_readFeud_8 : decode cX12_readFeud 8 = .ok (.istore_n 1, 1) := by decide +kernel
theorem dX12_readFeud_9 : decode cX12_readFeud 9 = .ok (.aload_n 0, 1) := by decide +kernel
theorem dX12_readFeud_10 : decode cX12_readFeud 10 = .ok (.getfield 158, 3) := by decide +kernel
theorem dX12_readFeud_13 : decode cX12_readFeud 13 = .ok (.ifCond .ne 7, 3) := by decide +kernel
theorem dX12_readFeud_16 : decode cX12_readFeud 16 = .ok (.aload_n 0, 1) := by decide +kernel
theorem dX12_readFeud_17 : decode cX12_readFeud 17 = .ok (.invokevirtual 202, 3) := by decide +kernel
theorem dX12_readFeud_20 : decode cX12_readFeud 20 = .ok (.aload_n 0, 1) := by decide +kernel
theorem dX12_readFeud_21 : decode cX12_readFeud 21 = .ok (.ldc2_w 171, 3) := by decide +kernel
theorem dX12_readFeud_24 : decode cX12_readFeud 24 = .ok (.invokevirtual 205, 3) := by decide +kernel
theorem dX12_readFeud_27 : decode cX12_readFeud 27 = .ok (.aload_n 0, 1) := by decide +kernel
theorem dX12_readFeud_28 : decode cX12_readFeud 28 = .ok (.invokevirtual 300, 3) := by decide +kernel
theorem dX12_readFeud_31 : decode cX12_readFeud 31 = .ok (.istore_n 2, 1) := by decide +kernel
theorem dX12_readFeud_32 : decode cX12_readFeud 32 = .ok (.aload_n 0, 1) := by decide +kernel
theorem dX12_readFeud_33 : decode cX12_readFeud 33 = .ok (.getfield 158, 3) := by decide +kernel
theorem dX12_readFeud_36 : decode cX12_readFeud 36 = .ok (.ifCond .ne 27, 3) := by decide +kernel
theorem dX12_readFeud_39 : decode cX12_readFeud 39 = .ok (.iload_n 1, 1) := by decide +kernel
theorem dX12_readFeud_40 : decode cX12_readFeud 40 = .ok (.iload_n 2, 1) := by decide +kernel
theorem dX12_readFeud_41 : decode cX12_readFeud 41 = .ok (.if_icmp .eq 17, 3) := by decide +kernel
theorem dX12_readFeud_44 : decode cX12_readFeud 44 = .ok (.aload_n 0, 1) := by decide +kernel
theorem dX12_readFeud_45 : decode cX12_readFeud 45 = .ok (.getfield 48, 3) := by decide +kernel
theorem dX12_readFeud_48 : decode cX12_readFeud 48 = .ok (.iload_n 1, 1) := by decide +kernel
theorem dX12_readFeud_49 : decode cX12_readFeud 49 = .ok (.iaload, 1) := by decide +kernel
theorem dX12_readFeud_50 : decode cX12_readFeud 50 = .ok (.iload_n 2, 1) := by decide +kernel
theorem dX12_readFeud_51 : decode cX12_readFeud 51 = .ok (.ishr, 1) := by decide +kernel
theorem dX12_readFeud_52 : decode cX12_readFeud 52 = .ok (.iconst 1, 1) := by decide +kernel
theorem dX12_readFeud_53 : decode cX12_readFeud 53 = .ok (.iand, 1) := by decide +kernel
theorem dX12_readFeud_54 : decode cX12_readFeud 54 = .ok (.iconst 1, 1) := by decide +kernel
theorem dX12_readFeud_55 : decode cX12_readFeud 55 = .ok (.if_icmp .ne 8, 3) := by decide +kernel
theorem dX12_readFeud_58 : decode cX12_readFeud 58 = .ok (.aload_n 0, 1) := by decide +kernel
theorem dX12_readFeud_59 : decode cX12_readFeud 59 = .ok (.iconst 3, 1) := by decide +kernel
theorem dX12_readFeud_60 : decode cX12_readFeud 60 = .ok (.invokevirtual 199, 3) := by decide +kernel
theorem dX12_readFeud_63 : decode cX12_readFeud 63 = .ok (.aload_n 0, 1) := by decide +kernel
theorem dX12_readFeud_64 : decode cX12_readFeud 64 = .ok (.getfield 158, 3) := by decide +kernel
theorem dX12_readFeud_67 : decode cX12_readFeud 67 = .ok (.ifCond .le 4, 3) := by decide +kernel
theorem dX12_readFeud_70 : decode cX12_readFeud 70 = .ok (.return_, 1) := by decide +kernel
theorem dX12_readFeud_71 : decode cX12_readFeud 71 = .ok (.aload_n 0, 1) := by decide +kernel
theorem dX12_readFeud_72 : decode cX12_readFeud 72 = .ok (.getfield 48, 3) := by decide +kernel
theorem dX12_readFeud_75 : decode cX12_readFeud 75 = .ok (.iload_n 1, 1) := by decide +kernel
theorem dX12_readFeud_76 : decode cX12_readFeud 76 = .ok (.dup2, 1) := by decide +kernel
theorem dX12_readFeud_77 : decode cX12_readFeud 77 = .ok (.iaload, 1) := by decide +kernel
theorem dX12_readFeud_78 : decode cX12_readFeud 78 = .ok (.iconst 1, 1) := by decide +kernel
theorem dX12_readFeud_79 : decode cX12_readFeud 79 = .ok (.iload_n 2, 1) := by decide +kernel
theorem dX12_readFeud_80 : decode cX12_readFeud 80 = .ok (.ishl, 1) := by decide +kernel
theorem dX12_readFeud_81 : decode cX12_readFeud 81 = .ok (.ior, 1) := by decide +kernel
theorem dX12_readFeud_82 : decode cX12_readFeud 82 = .ok (.iastore, 1) := by decide +kernel
theorem dX12_readFeud_83 : decode cX12_readFeud 83 = .ok (.aload_n 0, 1) := by decide +kernel
theorem dX12_readFeud_84 : decode cX12_readFeud 84 = .ok (.getfield 48, 3) := by decide +kernel
theorem dX12_readFeud_87 : decode cX12_readFeud 87 = .ok (.iload_n 2, 1) := by decide +kernel
theorem dX12_readFeud_88 : decode cX12_readFeud 88 = .ok (.dup2, 1) := by decide +kernel
theorem dX12_readFeud_89 : decode cX12_readFeud 89 = .ok (.iaload, 1) := by decide +kernel
theorem dX12_readFeud_90 : decode cX12_readFeud 90 = .ok (.iconst 1, 1) := by decide +kernel
theorem dX12_readFeud_91 : decode cX12_readFeud 91 = .ok (.iload_n 1, 1) := by decide +kernel
theorem dX12_readFeud_92 : decode cX12_readFeud 92 = .ok (.ishl, 1) := by decide +kernel
theorem dX12_readFeud_93 : decode cX12_readFeud 93 = .ok (.ior, 1) := by decide +kernel
theorem dX12_readFeud_94 : decode cX12_readFeud 94 = .ok (.iastore, 1) := by decide +kernel
theorem dX12_readFeud_95 : decode cX12_readFeud 95 = .ok (.aload_n 0, 1) := by decide +kernel
theorem dX12_readFeud_96 : decode cX12_readFeud 96 = .ok (.dup, 1) := by decide +kernel
theorem dX12_readFeud_97 : decode cX12_readFeud 97 = .ok (.getfield 303, 3) := by decide +kernel
theorem dX12_readFeud_100 : decode cX12_readFeud 100 = .ok (.iconst 1, 1) := by decide +kernel
theorem dX12_readFeud_101 : decode cX12_readFeud 101 = .ok (.iadd, 1) := by decide +kernel
theorem dX12_readFeud_102 : decode cX12_readFeud 102 = .ok (.putfield 303, 3) := by decide +kernel
theorem dX12_readFeud_105 : decode cX12_readFeud 105 = .ok (.aload_n 0, 1) := by decide +kernel
theorem dX12_readFeud_106 : decode cX12_readFeud 106 = .ok (.invokevirtual 202, 3) := by decide +kernel
theorem dX12_readFeud_109 : decode cX12_readFeud 109 = .ok (.return_, 1) := by decide +kernel
theorem dX12_readLine_0 : decode cX12_readLine 0 = .ok (.aload_n 0, 1) := by decide +kernel
theorem dX12_readLine_1 : decode cX12_readLine 1 = .ok (.ldc2_w 161, 3) := by decide +kernel
theorem dX12_readLine_4 : decode cX12_readLine 4 = .ok (.invokevirtual 195, 3) := by decide +kernel
theorem dX12_readLine_7 : decode cX12_readLine 7 = .ok (.ifCond .eq 18, 3) := by decide +kernel
theorem dX12_readLine_10 : decode cX12_readLine 10 = .ok (.aload_n 0, 1) := by decide +kernel
theorem dX12_readLine_11 : decode cX12_readLine 11 = .ok (.getfield 238, 3) := by decide +kernel
theorem dX12_readLine_14 : decode cX12_readLine 14 = .ok (.iconst 5, 1) := by decide +kernel
theorem dX12_readLine_15 : decode cX12_readLine 15 = .ok (.if_icmp .ge 10, 3) := by decide +kernel
theorem dX12_readLine_18 : decode cX12_readLine 18 = .ok (.aload_n 0, 1) := by decide +kernel
theorem dX12_readLine_19 : decode cX12_readLine 19 = .ok (.invokevirtual 306, 3) := by decide +kernel
theorem dX12_readLine_22 : decode cX12_readLine 22 = .ok (.goto 167, 3) := by decide +kernel
theorem dX12_readLine_25 : decode cX12_readLine 25 = .ok (.aload_n 0, 1) := by decide +kernel
theorem dX12_readLine_26 : decode cX12_readLine 26 = .ok (.ldc2_w 163, 3) := by decide +kernel
theorem dX12_readLine_29 : decode cX12_readLine 29 = .ok (.invokevirtual 195, 3) := by decide +kernel
theorem dX12_readLine_32 : decode cX12_readLine 32 = .ok (.ifCond .eq 18, 3) := by decide +kernel
theorem dX12_readLine_35 : decode cX12_readLine 35 = .ok (.aload_n 0, 1) := by decide +kernel
theorem dX12_readLine_36 : decode cX12_readLine 36 = .ok (.getfield 219, 3) := by decide +kernel
theorem dX12_readLine_39 : decode cX12_readLine 39 = .ok (.iconst 5, 1) := by decide +kernel
theorem dX12_readLine_40 : decode cX12_readLine 40 = .ok (.if_icmp .ge 10, 3) := by decide +kernel
theorem dX12_readLine_43 : decode cX12_readLine 43 = .ok (.aload_n 0, 1) := by decide +kernel
theorem dX12_readLine_44 : decode cX12_readLine 44 = .ok (.invokevirtual 309, 3) := by decide +kernel
theorem dX12_readLine_47 : decode cX12_readLine 47 = .ok (.goto 142, 3) := by decide +kernel
theorem dX12_readLine_50 : decode cX12_readLine 50 = .ok (.aload_n 0, 1) := by decide +kernel
theorem dX12_readLine_51 : decode cX12_readLine 51 = .ok (.ldc2_w 169, 3) := by decide +kernel
theorem dX12_readLine_54 : decode cX12_readLine 54 = .ok (.invokevirtual 195, 3) := by decide +kernel
theorem dX12_readLine_57 : decode cX12_readLine 57 = .ok (.ifCond .eq 19, 3) := by decide +kernel
theorem dX12_readLine_60 : decode cX12_readLine 60 = .ok (.aload_n 0, 1) := by decide +kernel
theorem dX12_readLine_61 : decode cX12_readLine 61 = .ok (.getfield 303, 3) := by decide +kernel
theorem dX12_readLine_64 : decode cX12_readLine 64 = .ok (.bipush 10, 2) := by decide +kernel
theorem dX12_readLine_66 : decode cX12_readLine 66 = .ok (.if_icmp .ge 10, 3) := by decide +kernel
theorem dX12_readLine_69 : decode cX12_readLine 69 = .ok (.aload_n 0, 1) := by decide +kernel
theorem dX12_readLine_70 : decode cX12_readLine 70 = .ok (.invokevirtual 312, 3) := by decide +kernel
theorem dX12_readLine_73 : decode cX12_readLine 73 = .ok (.goto 116, 3) := by decide +kernel
theorem dX12_readLine_76 : decode cX12_readLine 76 = .ok (.aload_n 0, 1) := by decide +kernel
theorem dX12_readLine_77 : decode cX12_readLine 77 = .ok (.ldc2_w 173, 3) := by decide +kernel
theorem dX12_readLine_80 : decode cX12_readLine 80 = .ok (.invokevirtual 195, 3) := by decide +kernel
theorem dX12_readLine_83 : decode cX12_readLine 83 = .ok (.ifCond .eq 22, 3) := by decide +kernel
theorem dX12_readLine_86 : decode cX12_readLine 86 = .ok (.aload_n 0, 1) := by decide +kernel
theorem dX12_readLine_87 : decode cX12_readLine 87 = .ok (.getfield 315, 3) := by decide +kernel
theorem dX12_readLine_90 : decode cX12_readLine 90 = .ok (.ifCond .ne 15, 3) := by decide +kernel
theorem dX12_readLine_93 : decode cX12_readLine 93 = .ok (.aload_n 0, 1) := by decide +kernel
theorem dX12_readLine_94 : decode cX12_readLine 94 = .ok (.iconst 1, 1) := by decide +kernel
theorem dX12_readLine_95 : decode cX12_readLine 95 = .ok (.putfield 315, 3) := by decide +kernel
theorem dX12_readLine_98 : decode cX12_readLine 98 = .ok (.aload_n 0, 1) := by decide +kernel
theorem dX12_readLine_99 : decode cX12_readLine 99 = .ok (.invokevirtual 318, 3) := by decide +kernel
theorem dX12_readLine_102 : decode cX12_readLine 102 = .ok (.goto 87, 3) := by decide +kernel
theorem dX12_readLine_105 : decode cX12_readLine 105 = .ok (.aload_n 0, 1) := by decide +kernel
theorem dX12_readLine_106 : decode cX12_readLine 106 = .ok (.ldc2_w 175, 3) := by decide +kernel
theorem dX12_readLine_109 : decode cX12_readLine 109 = .ok (.invokevirtual 195, 3) := by decide +kernel
theorem dX12_readLine_112 : decode cX12_readLine 112 = .ok (.ifCond .eq 32, 3) := by decide +kernel
theorem dX12_readLine_115 : decode cX12_readLine 115 = .ok (.aload_n 0, 1) := by decide +kernel
theorem dX12_readLine_116 : decode cX12_readLine 116 = .ok (.getfield 321, 3) := by decide +kernel
theorem dX12_readLine_119 : decode cX12_readLine 119 = .ok (.ifCond .ne 25, 3) := by decide +kernel
theorem dX12_readLine_122 : decode cX12_readLine 122 = .ok (.aload_n 0, 1) := by decide +kernel
theorem dX12_readLine_123 : decode cX12_readLine 123 = .ok (.iconst 1, 1) := by decide +kernel
theorem dX12_readLine_124 : decode cX12_readLine 124 = .ok (.putfield 321, 3) := by decide +kernel
theorem dX12_readLine_127 : decode cX12_readLine 127 = .ok (.aload_n 0, 1) := by decide +kernel
theorem dX12_readLine_128 : decode cX12_readLine 128 = .ok (.aload_n 0, 1) := by decide +kernel
theorem dX12_readLine_129 : decode cX12_readLine 129 = .ok (.ldc2_w 175, 3) := by decide +kernel
theorem dX12_readLine_132 : decode cX12_readLine 132 = .ok (.iconst 0, 1) := by decide +kernel
theorem dX12_readLine_133 : decode cX12_readLine 133 = .ok (.bipush 9, 2) := by decide +kernel
theorem dX12_readLine_135 : decode cX12_readLine 135 = .ok (.invokevirtual 296, 3) := by decide +kernel
theorem dX12_readLine_138 : decode cX12_readLine 138 = .ok (.putfield 324, 3) := by decide +kernel
theorem dX12_readLine_141 : decode cX12_readLine 141 = .ok (.goto 48, 3) := by decide +kernel
theorem dX12_readLine_144 : decode cX12_readLine 144 = .ok (.aload_n 0, 1) := by decide +kernel
theorem dX12_readLine_145 : decode cX12_readLine 145 = .ok (.ldc2_w 177, 3) := by decide +kernel
theorem dX12_readLine_148 : decode cX12_readLine 148 = .ok (.invokevirtual 195, 3) := by decide +kernel
theorem dX12_readLine_151 : decode cX12_readLine 151 = .ok (.ifCond .eq 33, 3) := by decide +kernel
theorem dX12_readLine_154 : decode cX12_readLine 154 = .ok (.aload_n 0, 1) := by decide +kernel
theorem dX12_readLine_155 : decode cX12_readLine 155 = .ok (.getfield 327, 3) := by decide +kernel
theorem dX12_readLine_158 : decode cX12_readLine 158 = .ok (.ifCond .ne 26, 3) := by decide +kernel
theorem dX12_readLine_161 : decode cX12_readLine 161 = .ok (.aload_n 0, 1) := by decide +kernel
theorem dX12_readLine_162 : decode cX12_readLine 162 = .ok (.iconst 1, 1) := by decide +kernel
theorem dX12_readLine_163 : decode cX12_readLine 163 = .ok (.putfield 327, 3) := by decide +kernel
theorem dX12_readLine_166 : decode cX12_readLine 166 = .ok (.aload_n 0, 1) := by decide +kernel
theorem dX12_readLine_167 : decode cX12_readLine 167 = .ok (.aload_n 0, 1) := by decide +kernel
theorem dX12_readLine_168 : decode cX12_readLine 168 = .ok (.ldc2_w 177, 3) := by decide +kernel
theorem dX12_readLine_171 : decode cX12_readLine 171 = .ok (.iconst 0, 1) := by decide +kernel
theorem dX12_readLine_172 : decode cX12_readLine 172 = .ok (.sipush 999, 3) := by decide +kernel
theorem dX12_readLine_175 : decode cX12_readLine 175 = .ok (.invokevirtual 296, 3) := by decide +kernel
theorem dX12_readLine_178 : decode cX12_readLine 178 = .ok (.putfield 330, 3) := by decide +kernel
theorem dX12_readLine_181 : decode cX12_readLine 181 = .ok (.goto 8, 3) := by decide +kernel
theorem dX12_readLine_184 : decode cX12_readLine 184 = .ok (.aload_n 0, 1) := by decide +kernel
theorem dX12_readLine_185 : decode cX12_readLine 185 = .ok (.iconst 2, 1) := by decide +kernel
theorem dX12_readLine_186 : decode cX12_readLine 186 = .ok (.invokevirtual 199, 3) := by decide +kernel
theorem dX12_readLine_189 : decode cX12_readLine 189 = .ok (.aload_n 0, 1) := by decide +kernel
theorem dX12_readLine_190 : decode cX12_readLine 190 = .ok (.getfield 158, 3) := by decide +kernel
theorem dX12_readLine_193 : decode cX12_readLine 193 = .ok (.ifCond .ne 17, 3) := by decide +kernel
theorem dX12_readLine_196 : decode cX12_readLine 196 = .ok (.aload_n 0, 1) := by decide +kernel
theorem dX12_readLine_197 : decode cX12_readLine 197 = .ok (.getfield 145, 3) := by decide +kernel
theorem dX12_readLine_200 : decode cX12_readLine 200 = .ok (.bipush 59, 2) := by decide +kernel
theorem dX12_readLine_202 : decode cX12_readLine 202 = .ok (.if_icmp .eq 8, 3) := by decide +kernel
theorem dX12_readLine_205 : decode cX12_readLine 205 = .ok (.aload_n 0, 1) := by decide +kernel
theorem dX12_readLine_206 : decode cX12_readLine 206 = .ok (.iconst 2, 1) := by decide +kernel
theorem dX12_readLine_207 : decode cX12_readLine 207 = .ok (.invokevirtual 199, 3) := by decide +kernel
theorem dX12_readLine_210 : decode cX12_readLine 210 = .ok (.aload_n 0, 1) := by decide +kernel
theorem dX12_readLine_211 : decode cX12_readLine 211 = .ok (.getfield 158, 3) := by decide +kernel
theorem dX12_readLine_214 : decode cX12_readLine 214 = .ok (.ifCond .ne 7, 3) := by decide +kernel
theorem dX12_readLine_217 : decode cX12_readLine 217 = .ok (.aload_n 0, 1) := by decide +kernel
theorem dX12_readLine_218 : decode cX12_readLine 218 = .ok (.invokevirtual 202, 3) := by decide +kernel
theorem dX12_readLine_221 : decode cX12_readLine 221 = .ok (.return_, 1) := by decide +kernel
theorem dX12_readAll_0 : decode cX12_readAll 0 = .ok (.aload_n 0, 1) := by decide +kernel
theorem dX12_readAll_1 : decode cX12_readAll 1 = .ok (.aload_n 0, 1) := by decide +kernel
theorem dX12_readAll_2 : decode cX12_readAll 2 = .ok (.getfield 118, 3) := by decide +kernel
theorem dX12_readAll_5 : decode cX12_readAll 5 = .ok (.putfield 128, 3) := by decide +kernel
theorem dX12_readAll_8 : decode cX12_readAll 8 = .ok (.aload_n 0, 1) := by decide +kernel
theorem dX12_readAll_9 : decode cX12_readAll 9 = .ok (.iconst 0, 1) := by decide +kernel
theorem dX12_readAll_10 : decode cX12_readAll 10 = .ok (.putfield 118, 3) := by decide +kernel
theorem dX12_readAll_13 : decode cX12_readAll 13 = .ok (.aload_n 0, 1) := by decide +kernel
theorem dX12_readAll_14 : decode cX12_readAll 14 = .ok (.iconst 0, 1) := by decide +kernel
theorem dX12_readAll_15 : decode cX12_readAll 15 = .ok (.putfield 125, 3) := by decide +kernel
theorem dX12_readAll_18 : decode cX12_readAll 18 = .ok (.aload_n 0, 1) := by decide +kernel
theorem dX12_readAll_19 : decode cX12_readAll 19 = .ok (.iconst 0, 1) := by decide +kernel
theorem dX12_readAll_20 : decode cX12_readAll 20 = .ok (.putfield 158, 3) := by decide +kernel
theorem dX12_readAll_23 : decode cX12_readAll 23 = .ok (.aload_n 0, 1) := by decide +kernel
theorem dX12_readAll_24 : decode cX12_readAll 24 = .ok (.iconst (-1), 1) := by decide +kernel
theorem dX12_readAll_25 : decode cX12_readAll 25 = .ok (.putfield 13, 3) := by decide +kernel
theorem dX12_readAll_28 : decode cX12_readAll 28 = .ok (.aload_n 0, 1) := by decide +kernel
theorem dX12_readAll_29 : decode cX12_readAll 29 = .ok (.iconst 0, 1) := by decide +kernel
theorem dX12_readAll_30 : decode cX12_readAll 30 = .ok (.putfield 238, 3) := by decide +kernel
theorem dX12_readAll_33 : decode cX12_readAll 33 = .ok (.aload_n 0, 1) := by decide +kernel
theorem dX12_readAll_34 : decode cX12_readAll 34 = .ok (.iconst 0, 1) := by decide +kernel
theorem dX12_readAll_35 : decode cX12_readAll 35 = .ok (.putfield 219, 3) := by decide +kernel
theorem dX12_readAll_38 : decode cX12_readAll 38 = .ok (.aload_n 0, 1) := by decide +kernel
theorem dX12_readAll_39 : decode cX12_readAll 39 = .ok (.iconst 0, 1) := by decide +kernel
theorem dX12_readAll_40 : decode cX12_readAll 40 = .ok (.putfield 303, 3) := by decide +kernel
theorem dX12_readAll_43 : decode cX12_readAll 43 = .ok (.aload_n 0, 1) := by decide +kernel
theorem dX12_readAll_44 : decode cX12_readAll 44 = .ok (.iconst 0, 1) := by decide +kernel
theorem dX12_readAll_45 : decode cX12_readAll 45 = .ok (.putfield 324, 3) := by decide +kernel
theorem dX12_readAll_48 : decode cX12_readAll 48 = .ok (.aload_n 0, 1) := by decide +kernel
theorem dX12_readAll_49 : decode cX12_readAll 49 = .ok (.iconst 0, 1) := by decide +kernel
theorem dX12_readAll_50 : decode cX12_readAll 50 = .ok (.putfield 330, 3) := by decide +kernel
theorem dX12_readAll_53 : decode cX12_readAll 53 = .ok (.aload_n 0, 1) := by decide +kernel
theorem dX12_readAll_54 : decode cX12_readAll 54 = .ok (.iconst 0, 1) := by decide +kernel
theorem dX12_readAll_55 : decode cX12_readAll 55 = .ok (.putfield 315, 3) := by decide +kernel
theorem dX12_readAll_58 : decode cX12_readAll 58 = .ok (.aload_n 0, 1) := by decide +kernel
theorem dX12_readAll_59 : decode cX12_readAll 59 = .ok (.iconst 0, 1) := by decide +kernel
theorem dX12_readAll_60 : decode cX12_readAll 60 = .ok (.putfield 321, 3) := by decide +kernel
theorem dX12_readAll_63 : decode cX12_readAll 63 = .ok (.aload_n 0, 1) := by decide +kernel
theorem dX12_readAll_64 : decode cX12_readAll 64 = .ok (.iconst 0, 1) := by decide +kernel
theorem dX12_readAll_65 : decode cX12_readAll 65 = .ok (.putfield 327, 3) := by decide +kernel
theorem dX12_readAll_68 : decode cX12_readAll 68 = .ok (.aload_n 0, 1) := by decide +kernel
theorem dX12_readAll_69 : decode cX12_readAll 69 = .ok (.iconst 0, 1) := by decide +kernel
theorem dX12_readAll_70 : decode cX12_readAll 70 = .ok (.putfield 241, 3) := by decide +kernel
theorem dX12_readAll_73 : decode cX12_readAll 73 = .ok (.aload_n 0, 1) := by decide +kernel
theorem dX12_readAll_74 : decode cX12_readAll 74 = .ok (.iconst 0, 1) := by decide +kernel
theorem dX12_readAll_75 : decode cX12_readAll 75 = .ok (.putfield 222, 3) := by decide +kernel
theorem dX12_readAll_78 : decode cX12_readAll 78 = .ok (.aload_n 0, 1) := by decide +kernel
theorem dX12_readAll_79 : decode cX12_readAll 79 = .ok (.invokevirtual 202, 3) := by decide +kernel
theorem dX12_readAll_82 : decode cX12_readAll 82 = .ok (.aload_n 0, 1) := by decide +kernel
theorem dX12_readAll_83 : decode cX12_readAll 83 = .ok (.getfield 158, 3) := by decide +kernel
theorem dX12_readAll_86 : decode cX12_readAll 86 = .ok (.ifCond .ne 17, 3) := by decide +kernel
theorem dX12_readAll_89 : decode cX12_readAll 89 = .ok (.aload_n 0, 1) := by decide +kernel
theorem dX12_readAll_90 : decode cX12_readAll 90 = .ok (.getfield 145, 3) := by decide +kernel
theorem dX12_readAll_93 : decode cX12_readAll 93 = .ok (.ifCond .eq 10, 3) := by decide +kernel
theorem dX12_readAll_96 : decode cX12_readAll 96 = .ok (.aload_n 0, 1) := by decide +kernel
theorem dX12_readAll_97 : decode cX12_readAll 97 = .ok (.invokevirtual 333, 3) := by decide +kernel
theorem dX12_readAll_100 : decode cX12_readAll 100 = .ok (.goto (-18), 3) := by decide +kernel
theorem dX12_readAll_103 : decode cX12_readAll 103 = .ok (.return_, 1) := by decide +kernel
theorem dX12_village_0 : decode cX12_village 0 = .ok (.aload_n 0, 1) := by decide +kernel
theorem dX12_village_1 : decode cX12_village 1 = .ok (.invokevirtual 336, 3) := by decide +kernel
theorem dX12_village_4 : decode cX12_village 4 = .ok (.aload_n 0, 1) := by decide +kernel
theorem dX12_village_5 : decode cX12_village 5 = .ok (.getfield 158, 3) := by decide +kernel
theorem dX12_village_8 : decode cX12_village 8 = .ok (.ifCond .le 5, 3) := by decide +kernel
theorem dX12_village_11 : decode cX12_village 11 = .ok (.iconst (-1), 1) := by decide +kernel
theorem dX12_village_12 : decode cX12_village 12 = .ok (.ireturn, 1) := by decide +kernel
theorem dX12_village_13 : decode cX12_village 13 = .ok (.aload_n 0, 1) := by decide +kernel
theorem dX12_village_14 : decode cX12_village 14 = .ok (.aload_n 0, 1) := by decide +kernel
theorem dX12_village_15 : decode cX12_village 15 = .ok (.getfield 238, 3) := by decide +kernel
theorem dX12_village_18 : decode cX12_village 18 = .ok (.putfield 339, 3) := by decide +kernel
theorem dX12_village_21 : decode cX12_village 21 = .ok (.aload_n 0, 1) := by decide +kernel
theorem dX12_village_22 : decode cX12_village 22 = .ok (.aload_n 0, 1) := by decide +kernel
theorem dX12_village_23 : decode cX12_village 23 = .ok (.getfield 219, 3) := by decide +kernel
theorem dX12_village_26 : decode cX12_village 26 = .ok (.putfield 342, 3) := by decide +kernel
theorem dX12_village_29 : decode cX12_village 29 = .ok (.aload_n 0, 1) := by decide +kernel
theorem dX12_village_30 : decode cX12_village 30 = .ok (.aload_n 0, 1) := by decide +kernel
theorem dX12_village_31 : decode cX12_village 31 = .ok (.getfield 241, 3) := by decide +kernel
theorem dX12_village_34 : decode cX12_village 34 = .ok (.putfield 345, 3) := by decide +kernel
theorem dX12_village_37 : decode cX12_village 37 = .ok (.aload_n 0, 1) := by decide +kernel
theorem dX12_village_38 : decode cX12_village 38 = .ok (.aload_n 0, 1) := by decide +kernel
theorem dX12_village_39 : decode cX12_village 39 = .ok (.getfield 315, 3) := by decide +kernel
theorem dX12_village_42 : decode cX12_village 42 = .ok (.putfield 282, 3) := by decide +kernel
theorem dX12_village_45 : decode cX12_village 45 = .ok (.aload_n 0, 1) := by decide +kernel
theorem dX12_village_46 : decode cX12_village 46 = .ok (.aload_n 0, 1) := by decide +kernel
theorem dX12_village_47 : decode cX12_village 47 = .ok (.getfield 315, 3) := by decide +kernel
theorem dX12_village_50 : decode cX12_village 50 = .ok (.ifCond .eq 10, 3) := by decide +kernel
theorem dX12_village_53 : decode cX12_village 53 = .ok (.aload_n 0, 1) := by decide +kernel
theorem dX12_village_54 : decode cX12_village 54 = .ok (.getfield 222, 3) := by decide +kernel
theorem dX12_village_57 : decode cX12_village 57 = .ok (.goto 4, 3) := by decide +kernel
theorem dX12_village_60 : decode cX12_village 60 = .ok (.iconst 0, 1) := by decide +kernel
theorem dX12_village_61 : decode cX12_village 61 = .ok (.putfield 286, 3) := by decide +kernel
theorem dX12_village_64 : decode cX12_village 64 = .ok (.iconst 0, 1) := by decide +kernel
theorem dX12_village_65 : decode cX12_village 65 = .ok (.istore_n 1, 1) := by decide +kernel
theorem dX12_village_66 : decode cX12_village 66 = .ok (.iload_n 1, 1) := by decide +kernel
theorem dX12_village_67 : decode cX12_village 67 = .ok (.aload_n 0, 1) := by decide +kernel
theorem dX12_village_68 : decode cX12_village 68 = .ok (.getfield 286, 3) := by decide +kernel
theorem dX12_village_71 : decode cX12_village 71 = .ok (.if_icmp .ge 33, 3) := by decide +kernel
theorem dX12_village_74 : decode cX12_village 74 = .ok (.aload_n 0, 1) := by decide +kernel
theorem dX12_village_75 : decode cX12_village 75 = .ok (.getfield 27, 3) := by decide +kernel
theorem dX12_village_78 : decode cX12_village 78 = .ok (.iload_n 1, 1) := by decide +kernel
theorem dX12_village_79 : decode cX12_village 79 = .ok (.aload_n 0, 1) := by decide +kernel
theorem dX12_village_80 : decode cX12_village 80 = .ok (.getfield 21, 3) := by decide +kernel
theorem dX12_village_83 : decode cX12_village 83 = .ok (.iload_n 1, 1) := by decide +kernel
theorem dX12_village_84 : decode cX12_village 84 = .ok (.iaload, 1) := by decide +kernel
theorem dX12_village_85 : decode cX12_village 85 = .ok (.iastore, 1) := by decide +kernel
theorem dX12_village_86 : decode cX12_village 86 = .ok (.aload_n 0, 1) := by decide +kernel
theorem dX12_village_87 : decode cX12_village 87 = .ok (.getfield 30, 3) := by decide +kernel
theorem dX12_village_90 : decode cX12_village 90 = .ok (.iload_n 1, 1) := by decide +kernel
theorem dX12_village_91 : decode cX12_village 91 = .ok (.aload_n 0, 1) := by decide +kernel
theorem dX12_village_92 : decode cX12_village 92 = .ok (.getfield 24, 3) := by decide +kernel
theorem dX12_village_95 : decode cX12_village 95 = .ok (.iload_n 1, 1) := by decide +kernel
theorem dX12_village_96 : decode cX12_village 96 = .ok (.iaload, 1) := by decide +kernel
theorem dX12_village_97 : decode cX12_village 97 = .ok (.iastore, 1) := by decide +kernel
theorem dX12_village_98 : decode cX12_village 98 = .ok (.iinc 1 1, 3) := by decide +kernel
theorem dX12_village_101 : decode cX12_village 101 = .ok (.goto (-35), 3) := by decide +kernel
theorem dX12_village_104 : decode cX12_village 104 = .ok (.iconst 0, 1) := by decide +kernel
theorem dX12_village_105 : decode cX12_village 105 = .ok (.istore_n 1, 1) := by decide +kernel
theorem dX12_village_106 : decode cX12_village 106 = .ok (.iload_n 1, 1) := by decide +kernel
theorem dX12_village_107 : decode cX12_village 107 = .ok (.bipush 38, 2) := by decide +kernel
theorem dX12_village_109 : decode cX12_village 109 = .ok (.if_icmp .ge 16, 3) := by decide +kernel
theorem dX12_village_112 : decode cX12_village 112 = .ok (.aload_n 0, 1) := by decide +kernel
theorem dX12_village_113 : decode cX12_village 113 = .ok (.getfield 54, 3) := by decide +kernel
theorem dX12_village_116 : decode cX12_village 116 = .ok (.iload_n 1, 1) := by decide +kernel
theorem dX12_village_117 : decode cX12_village 117 = .ok (.iconst 0, 1) := by decide +kernel
theorem dX12_village_118 : decode cX12_village 118 = .ok (.iastore, 1) := by decide +kernel
theorem dX12_village_119 : decode cX12_village 119 = .ok (.iinc 1 1, 3) := by decide +kernel
theorem dX12_village_122 : decode cX12_village 122 = .ok (.goto (-16), 3) := by decide +kernel
theorem dX12_village_125 : decode cX12_village 125 = .ok (.iconst 0, 1) := by decide +kernel
theorem dX12_village_126 : decode cX12_village 126 = .ok (.istore_n 1, 1) := by decide +kernel
theorem dX12_village_127 : decode cX12_village 127 = .ok (.iload_n 1, 1) := by decide +kernel
theorem dX12_village_128 : decode cX12_village 128 = .ok (.iconst 5, 1) := by decide +kernel
theorem dX12_village_129 : decode cX12_village 129 = .ok (.if_icmp .ge 84, 3) := by decide +kernel
theorem dX12_village_132 : decode cX12_village 132 = .ok (.aload_n 0, 1) := by decide +kernel
theorem dX12_village_133 : decode cX12_village 133 = .ok (.getfield 51, 3) := by decide +kernel
theorem dX12_village_136 : decode cX12_village 136 = .ok (.iload_n 1, 1) := by decide +kernel
theorem dX12_village_137 : decode cX12_village 137 = .ok (.aload_n 0, 1) := by decide +kernel
theorem dX12_village_138 : decode cX12_village 138 = .ok (.getfield 42, 3) := by decide +kernel
theorem dX12_village_141 : decode cX12_village 141 = .ok (.iload_n 1, 1) := by decide +kernel
theorem dX12_village_142 : decode cX12_village 142 = .ok (.iaload, 1) := by decide +kernel
theorem dX12_village_143 : decode cX12_village 143 = .ok (.iastore, 1) := by decide +kernel
theorem dX12_village_144 : decode cX12_village 144 = .ok (.aload_n 0, 1) := by decide +kernel
theorem dX12_village_145 : decode cX12_village 145 = .ok (.getfield 54, 3) := by decide +kernel
theorem dX12_village_148 : decode cX12_village 148 = .ok (.iconst 5, 1) := by decide +kernel
theorem dX12_village_149 : decode cX12_village 149 = .ok (.iload_n 1, 1) := by decide +kernel
theorem dX12_village_150 : decode cX12_village 150 = .ok (.iadd, 1) := by decide +kernel
theorem dX12_village_151 : decode cX12_village 151 = .ok (.iconst (-1), 1) := by decide +kernel
theorem dX12_village_152 : decode cX12_village 152 = .ok (.iastore, 1) := by decide +kernel
theorem dX12_village_153 : decode cX12_village 153 = .ok (.aload_n 0, 1) := by decide +kernel
theorem dX12_village_154 : decode cX12_village 154 = .ok (.getfield 54, 3) := by decide +kernel
theorem dX12_village_157 : decode cX12_village 157 = .ok (.bipush 10, 2) := by decide +kernel
theorem dX12_village_159 : decode cX12_village 159 = .ok (.iload_n 1, 1) := by decide +kernel
theorem dX12_village_160 : decode cX12_village 160 = .ok (.iadd, 1) := by decide +kernel
theorem dX12_village_161 : decode cX12_village 161 = .ok (.iload_n 1, 1) := by decide +kernel
theorem dX12_village_162 : decode cX12_village 162 = .ok (.aload_n 0, 1) := by decide +kernel
theorem dX12_village_163 : decode cX12_village 163 = .ok (.getfield 342, 3) := by decide +kernel
theorem dX12_village_166 : decode cX12_village 166 = .ok (.if_icmp .ge 12, 3) := by decide +kernel
theorem dX12_village_169 : decode cX12_village 169 = .ok (.aload_n 0, 1) := by decide +kernel
theorem dX12_village_170 : decode cX12_village 170 = .ok (.getfield 48, 3) := by decide +kernel
theorem dX12_village_173 : decode cX12_village 173 = .ok (.iload_n 1, 1) := by decide +kernel
theorem dX12_village_174 : decode cX12_village 174 = .ok (.iaload, 1) := by decide +kernel
theorem dX12_village_175 : decode cX12_village 175 = .ok (.goto 4, 3) := by decide +kernel
theorem dX12_village_178 : decode cX12_village 178 = .ok (.iconst 0, 1) := by decide +kernel
theorem dX12_village_179 : decode cX12_village 179 = .ok (.iastore, 1) := by decide +kernel
theorem dX12_village_180 : decode cX12_village 180 = .ok (.aload_n 0, 1) := by decide +kernel
theorem dX12_village_181 : decode cX12_village 181 = .ok (.getfield 54, 3) := by decide +kernel
theorem dX12_village_184 : decode cX12_village 184 = .ok (.bipush 15, 2) := by decide +kernel
theorem dX12_village_186 : decode cX12_village 186 = .ok (.iload_n 1, 1) := by decide +kernel
theorem dX12_village_187 : decode cX12_village 187 = .ok (.iadd, 1) := by decide +kernel
theorem dX12_village_188 : decode cX12_village 188 = .ok (.iload_n 1, 1) := by decide +kernel
theorem dX12_village_189 : decode cX12_village 189 = .ok (.aload_n 0, 1) := by decide +kernel
theorem dX12_village_190 : decode cX12_village 190 = .ok (.getfield 342, 3) := by decide +kernel
theorem dX12_village_193 : decode cX12_village 193 = .ok (.if_icmp .ge 12, 3) := by decide +kernel
theorem dX12_village_196 : decode cX12_village 196 = .ok (.aload_n 0, 1) := by decide +kernel
theorem dX12_village_197 : decode cX12_village 197 = .ok (.getfield 45, 3) := by decide +kernel
theorem dX12_village_200 : decode cX12_village 200 = .ok (.iload_n 1, 1) := by decide +kernel
theorem dX12_village_201 : decode cX12_village 201 = .ok (.iaload, 1) := by decide +kernel
theorem dX12_village_202 : decode cX12_village 202 = .ok (.goto 4, 3) := by decide +kernel
theorem dX12_village_205 : decode cX12_village 205 = .ok (.iconst 0, 1) := by decide +kernel
theorem dX12_village_206 : decode cX12_village 206 = .ok (.iastore, 1) := by decide +kernel
theorem dX12_village_207 : decode cX12_village 207 = .ok (.iinc 1 1, 3) := by decide +kernel
theorem dX12_village_210 : decode cX12_village 210 = .ok (.goto (-83), 3) := by decide +kernel
theorem dX12_village_213 : decode cX12_village 213 = .ok (.aload_n 0, 1) := by decide +kernel
theorem dX12_village_214 : decode cX12_village 214 = .ok (.getfield 54, 3) := by decide +kernel
theorem dX12_village_217 : decode cX12_village 217 = .ok (.bipush 35, 2) := by decide +kernel
theorem dX12_village_219 : decode cX12_village 219 = .ok (.aload_n 0, 1) := by decide +kernel
theorem dX12_village_220 : decode cX12_village 220 = .ok (.getfield 324, 3) := by decide +kernel
theorem dX12_village_223 : decode cX12_village 223 = .ok (.iastore, 1) := by decide +kernel
theorem dX12_village_224 : decode cX12_village 224 = .ok (.aload_n 0, 1) := by decide +kernel
theorem dX12_village_225 : decode cX12_village 225 = .ok (.getfield 54, 3) := by decide +kernel
theorem dX12_village_228 : decode cX12_village 228 = .ok (.bipush 36, 2) := by decide +kernel
theorem dX12_village_230 : decode cX12_village 230 = .ok (.aload_n 0, 1) := by decide +kernel
theorem dX12_village_231 : decode cX12_village 231 = .ok (.getfield 330, 3) := by decide +kernel
theorem dX12_village_234 : decode cX12_village 234 = .ok (.iastore, 1) := by decide +kernel
theorem dX12_village_235 : decode cX12_village 235 = .ok (.aload_n 0, 1) := by decide +kernel
theorem dX12_village_236 : decode cX12_village 236 = .ok (.iconst 0, 1) := by decide +kernel
theorem dX12_village_237 : decode cX12_village 237 = .ok (.putfield 348, 3) := by decide +kernel
theorem dX12_village_240 : decode cX12_village 240 = .ok (.aload_n 0, 1) := by decide +kernel
theorem dX12_village_241 : decode cX12_village 241 = .ok (.iconst 0, 1) := by decide +kernel
theorem dX12_village_242 : decode cX12_village 242 = .ok (.putfield 351, 3) := by decide +kernel
theorem dX12_village_245 : decode cX12_village 245 = .ok (.aload_n 0, 1) := by decide +kernel
theorem dX12_village_246 : decode cX12_village 246 = .ok (.iconst 0, 1) := by decide +kernel
theorem dX12_village_247 : decode cX12_village 247 = .ok (.putfield 354, 3) := by decide +kernel
theorem dX12_village_250 : decode cX12_village 250 = .ok (.aload_n 0, 1) := by decide +kernel
theorem dX12_village_251 : decode cX12_village 251 = .ok (.iconst 0, 1) := by decide +kernel
theorem dX12_village_252 : decode cX12_village 252 = .ok (.putfield 357, 3) := by decide +kernel
theorem dX12_village_255 : decode cX12_village 255 = .ok (.iconst 0, 1) := by decide +kernel
theorem dX12_village_256 : decode cX12_village 256 = .ok (.istore_n 1, 1) := by decide +kernel
theorem dX12_village_257 : decode cX12_village 257 = .ok (.iload_n 1, 1) := by decide +kernel
theorem dX12_village_258 : decode cX12_village 258 = .ok (.iconst 3, 1) := by decide +kernel
theorem dX12_village_259 : decode cX12_village 259 = .ok (.if_icmp .ge 16, 3) := by decide +kernel
theorem dX12_village_262 : decode cX12_village 262 = .ok (.aload_n 0, 1) := by decide +kernel
theorem dX12_village_263 : decode cX12_village 263 = .ok (.getfield 111, 3) := by decide +kernel
theorem dX12_village_266 : decode cX12_village 266 = .ok (.iload_n 1, 1) := by decide +kernel
theorem dX12_village_267 : decode cX12_village 267 = .ok (.iconst 0, 1) := by decide +kernel
theorem dX12_village_268 : decode cX12_village 268 = .ok (.bastore, 1) := by decide +kernel
theorem dX12_village_269 : decode cX12_village 269 = .ok (.iinc 1 1, 3) := by decide +kernel
theorem dX12_village_272 : decode cX12_village 272 = .ok (.goto (-15), 3) := by decide +kernel
theorem dX12_village_275 : decode cX12_village 275 = .ok (.aload_n 0, 1) := by decide +kernel
theorem dX12_village_276 : decode cX12_village 276 = .ok (.getfield 342, 3) := by decide +kernel
theorem dX12_village_279 : decode cX12_village 279 = .ok (.ireturn, 1) := by decide +kernel
theorem dX12_fault_0 : decode cX12_fault 0 = .ok (.iload_n 1, 1) := by decide +kernel
theorem dX12_fault_1 : decode cX12_fault 1 = .ok (.ifCond .ne 10, 3) := by decide +kernel
theorem dX12_fault_4 : decode cX12_fault 4 = .ok (.aload_n 0, 1) := by decide +kernel
theorem dX12_fault_5 : decode cX12_fault 5 = .ok (.getfield 158, 3) := by decide +kernel
theorem dX12_fault_8 : decode cX12_fault 8 = .ok (.goto 16, 3) := by decide +kernel
theorem dX12_fault_11 : decode cX12_fault 11 = .ok (.iload_n 1, 1) := by decide +kernel
theorem dX12_fault_12 : decode cX12_fault 12 = .ok (.iconst 1, 1) := by decide +kernel
theorem dX12_fault_13 : decode cX12_fault 13 = .ok (.if_icmp .ne 10, 3) := by decide +kernel
theorem dX12_fault_16 : decode cX12_fault 16 = .ok (.aload_n 0, 1) := by decide +kernel
theorem dX12_fault_17 : decode cX12_fault 17 = .ok (.getfield 13, 3) := by decide +kernel
theorem dX12_fault_20 : decode cX12_fault 20 = .ok (.goto 4, 3) := by decide +kernel
theorem dX12_fault_23 : decode cX12_fault 23 = .ok (.iconst (-1), 1) := by decide +kernel
theorem dX12_fault_24 : decode cX12_fault 24 = .ok (.ireturn, 1) := by decide +kernel
theorem dX12_isIn_0 : decode cX12_isIn 0 = .ok (.iload_n 0, 1) := by decide +kernel
theorem dX12_isIn_1 : decode cX12_isIn 1 = .ok (.iload_n 1, 1) := by decide +kernel
theorem dX12_isIn_2 : decode cX12_isIn 2 = .ok (.if_icmp .lt 12, 3) := by decide +kernel
theorem dX12_isIn_5 : decode cX12_isIn 5 = .ok (.iload_n 0, 1) := by decide +kernel
theorem dX12_isIn_6 : decode cX12_isIn 6 = .ok (.iload_n 2, 1) := by decide +kernel
theorem dX12_isIn_7 : decode cX12_isIn 7 = .ok (.if_icmp .gt 7, 3) := by decide +kernel
theorem dX12_isIn_10 : decode cX12_isIn 10 = .ok (.iconst 1, 1) := by decide +kernel
theorem dX12_isIn_11 : decode cX12_isIn 11 = .ok (.goto 4, 3) := by decide +kernel
theorem dX12_isIn_14 : decode cX12_isIn 14 = .ok (.iconst 0, 1) := by decide +kernel
theorem dX12_isIn_15 : decode cX12_isIn 15 = .ok (.ireturn, 1) := by decide +kernel
theorem dX12_isSoul_0 : decode cX12_isSoul 0 = .ok (.iload_n 1, 1) := by decide +kernel
theorem dX12_isSoul_1 : decode cX12_isSoul 1 = .ok (.iconst 0, 1) := by decide +kernel
theorem dX12_isSoul_2 : decode cX12_isSoul 2 = .ok (.aload_n 0, 1) := by decide +kernel
theorem dX12_isSoul_3 : decode cX12_isSoul 3 = .ok (.getfield 342, 3) := by decide +kernel
theorem dX12_isSoul_6 : decode cX12_isSoul 6 = .ok (.iconst 1, 1) := by decide +kernel
theorem dX12_isSoul_7 : decode cX12_isSoul 7 = .ok (.isub, 1) := by decide +kernel
theorem dX12_isSoul_8 : decode cX12_isSoul 8 = .ok (.invokestatic 360, 3) := by decide +kernel
theorem dX12_isSoul_11 : decode cX12_isSoul 11 = .ok (.ireturn, 1) := by decide +kernel
theorem dX12_isDeed_0 : decode cX12_isDeed 0 = .ok (.iload_n 1, 1) := by decide +kernel
theorem dX12_isDeed_1 : decode cX12_isDeed 1 = .ok (.iconst 0, 1) := by decide +kernel
theorem dX12_isDeed_2 : decode cX12_isDeed 2 = .ok (.aload_n 0, 1) := by decide +kernel
theorem dX12_isDeed_3 : decode cX12_isDeed 3 = .ok (.getfield 339, 3) := by decide +kernel
theorem dX12_isDeed_6 : decode cX12_isDeed 6 = .ok (.iconst 1, 1) := by decide +kernel
theorem dX12_isDeed_7 : decode cX12_isDeed 7 = .ok (.isub, 1) := by decide +kernel
theorem dX12_isDeed_8 : decode cX12_isDeed 8 = .ok (.invokestatic 360, 3) := by decide +kernel
theorem dX12_isDeed_11 : decode cX12_isDeed 11 = .ok (.ireturn, 1) := by decide +kernel
theorem dX12_load_0 : decode cX12_load 0 = .ok (.iconst 0, 1) := by decide +kernel
theorem dX12_load_1 : decode cX12_load 1 = .ok (.istore_n 1, 1) := by decide +kernel
theorem dX12_load_2 : decode cX12_load 2 = .ok (.iload_n 1, 1) := by decide +kernel
theorem dX12_load_3 : decode cX12_load 3 = .ok (.iconst 5, 1) := by decide +kernel
theorem dX12_load_4 : decode cX12_load 4 = .ok (.if_icmp .ge 23, 3) := by decide +kernel
theorem dX12_load_7 : decode cX12_load 7 = .ok (.aload_n 0, 1) := by decide +kernel
theorem dX12_load_8 : decode cX12_load 8 = .ok (.getfield 57, 3) := by decide +kernel
theorem dX12_load_11 : decode cX12_load 11 = .ok (.iload_n 1, 1) := by decide +kernel
theorem dX12_load_12 : decode cX12_load 12 = .ok (.aload_n 0, 1) := by decide +kernel
theorem dX12_load_13 : decode cX12_load 13 = .ok (.getfield 54, 3) := by decide +kernel
theorem dX12_load_16 : decode cX12_load 16 = .ok (.iconst 5, 1) := by decide +kernel
theorem dX12_load_17 : decode cX12_load 17 = .ok (.iload_n 1, 1) := by decide +kernel
theorem dX12_load_18 : decode cX12_load 18 = .ok (.iadd, 1) := by decide +kernel
theorem dX12_load_19 : decode cX12_load 19 = .ok (.iaload, 1) := by decide +kernel
theorem dX12_load_20 : decode cX12_load 20 = .ok (.iastore, 1) := by decide +kernel
theorem dX12_load_21 : decode cX12_load 21 = .ok (.iinc 1 1, 3) := by decide +kernel
theorem dX12_load_24 : decode cX12_load 24 = .ok (.goto (-22), 3) := by decide +kernel
theorem dX12_load_27 : decode cX12_load 27 = .ok (.return_, 1) := by decide +kernel
theorem dX12_saidMany_0 : decode cX12_saidMany 0 = .ok (.iconst 0, 1) := by decide +kernel
theorem dX12_saidMany_1 : decode cX12_saidMany 1 = .ok (.istore_n 1, 1) := by decide +kernel
theorem dX12_saidMany_2 : decode cX12_saidMany 2 = .ok (.iconst 0, 1) := by decide +kernel
theorem dX12_saidMany_3 : decode cX12_saidMany 3 = .ok (.istore_n 2, 1) := by decide +kernel
theorem dX12_saidMany_4 : decode cX12_saidMany 4 = .ok (.iload_n 2, 1) := by decide +kernel
theorem dX12_saidMany_5 : decode cX12_saidMany 5 = .ok (.aload_n 0, 1) := by decide +kernel
theorem dX12_saidMany_6 : decode cX12_saidMany 6 = .ok (.getfield 342, 3) := by decide +kernel
theorem dX12_saidMany_9 : decode cX12_saidMany 9 = .ok (.if_icmp .ge 29, 3) := by decide +kernel
theorem dX12_saidMany_12 : decode cX12_saidMany 12 = .ok (.iload_n 1, 1) := by decide +kernel
theorem dX12_saidMany_13 : decode cX12_saidMany 13 = .ok (.aload_n 0, 1) := by decide +kernel
theorem dX12_saidMany_14 : decode cX12_saidMany 14 = .ok (.getfield 57, 3) := by decide +kernel
theorem dX12_saidMany_17 : decode cX12_saidMany 17 = .ok (.iload_n 2, 1) := by decide +kernel
theorem dX12_saidMany_18 : decode cX12_saidMany 18 = .ok (.iaload, 1) := by decide +kernel
theorem dX12_saidMany_19 : decode cX12_saidMany 19 = .ok (.ifCond .lt 7, 3) := by decide +kernel
theorem dX12_saidMany_22 : decode cX12_saidMany 22 = .ok (.iconst 1, 1) := by decide +kernel
theorem dX12_saidMany_23 : decode cX12_saidMany 23 = .ok (.goto 4, 3) := by decide +kernel
theorem dX12_saidMany_26 : decode cX12_saidMany 26 = .ok (.iconst 0, 1) := by decide +kernel
theorem dX12_saidMany_27 : decode cX12_saidMany 27 = .ok (.invokestatic 278, 3) := by decide +kernel
theorem dX12_saidMany_30 : decode cX12_saidMany 30 = .ok (.iadd, 1) := by decide +kernel
theorem dX12_saidMany_31 : decode cX12_saidMany 31 = .ok (.istore_n 1, 1) := by decide +kernel
theorem dX12_saidMany_32 : decode cX12_saidMany 32 = .ok (.iinc 2 1, 3) := by decide +kernel
theorem dX12_saidMany_35 : decode cX12_saidMany 35 = .ok (.goto (-31), 3) := by decide +kernel
theorem dX12_saidMany_38 : decode cX12_saidMany 38 = .ok (.iload_n 1, 1) := by decide +kernel
theorem dX12_saidMany_39 : decode cX12_saidMany 39 = .ok (.ireturn, 1) := by decide +kernel
theorem dX12_isFeud_0 : decode cX12_isFeud 0 = .ok (.aload_n 0, 1) := by decide +kernel
theorem dX12_isFeud_1 : decode cX12_isFeud 1 = .ok (.getfield 54, 3) := by decide +kernel
theorem dX12_isFeud_4 : decode cX12_isFeud 4 = .ok (.bipush 10, 2) := by decide +kernel
theorem dX12_isFeud_6 : decode cX12_isFeud 6 = .ok (.iload_n 1, 1) := by decide +kernel
theorem dX12_isFeud_7 : decode cX12_isFeud 7 = .ok (.iadd, 1) := by decide +kernel
theorem dX12_isFeud_8 : decode cX12_isFeud 8 = .ok (.iaload, 1) := by decide +kernel
theorem dX12_isFeud_9 : decode cX12_isFeud 9 = .ok (.iload_n 2, 1) := by decide +kernel
theorem dX12_isFeud_10 : decode cX12_isFeud 10 = .ok (.ishr, 1) := by decide +kernel
theorem dX12_isFeud_11 : decode cX12_isFeud 11 = .ok (.iconst 1, 1) := by decide +kernel
theorem dX12_isFeud_12 : decode cX12_isFeud 12 = .ok (.iand, 1) := by decide +kernel
theorem dX12_isFeud_13 : decode cX12_isFeud 13 = .ok (.iconst 1, 1) := by decide +kernel
theorem dX12_isFeud_14 : decode cX12_isFeud 14 = .ok (.if_icmp .ne 7, 3) := by decide +kernel
theorem dX12_isFeud_17 : decode cX12_isFeud 17 = .ok (.iconst 1, 1) := by decide +kernel
theorem dX12_isFeud_18 : decode cX12_isFeud 18 = .ok (.goto 4, 3) := by decide +kernel
theorem dX12_isFeud_21 : decode cX12_isFeud 21 = .ok (.iconst 0, 1) := by decide +kernel
theorem dX12_isFeud_22 : decode cX12_isFeud 22 = .ok (.ireturn, 1) := by decide +kernel
theorem dX12_isStone_0 : decode cX12_isStone 0 = .ok (.iconst 0, 1) := by decide +kernel
theorem dX12_isStone_1 : decode cX12_isStone 1 = .ok (.istore_n 1, 1) := by decide +kernel
theorem dX12_isStone_2 : decode cX12_isStone 2 = .ok (.iconst 0, 1) := by decide +kernel
theorem dX12_isStone_3 : decode cX12_isStone 3 = .ok (.istore_n 2, 1) := by decide +kernel
theorem dX12_isStone_4 : decode cX12_isStone 4 = .ok (.iload_n 2, 1) := by decide +kernel
theorem dX12_isStone_5 : decode cX12_isStone 5 = .ok (.aload_n 0, 1) := by decide +kernel
theorem dX12_isStone_6 : decode cX12_isStone 6 = .ok (.getfield 342, 3) := by decide +kernel
theorem dX12_isStone_9 : decode cX12_isStone 9 = .ok (.if_icmp .ge 59, 3) := by decide +kernel
theorem dX12_isStone_12 : decode cX12_isStone 12 = .ok (.iconst 0, 1) := by decide +kernel
theorem dX12_isStone_13 : decode cX12_isStone 13 = .ok (.istore_n 3, 1) := by decide +kernel
theorem dX12_isStone_14 : decode cX12_isStone 14 = .ok (.iload_n 3, 1) := by decide +kernel
theorem dX12_isStone_15 : decode cX12_isStone 15 = .ok (.iload_n 2, 1) := by decide +kernel
theorem dX12_isStone_16 : decode cX12_isStone 16 = .ok (.if_icmp .ge 46, 3) := by decide +kernel
theorem dX12_isStone_19 : decode cX12_isStone 19 = .ok (.iload_n 1, 1) := by decide +kernel
theorem dX12_isStone_20 : decode cX12_isStone 20 = .ok (.ifCond .ne 30, 3) := by decide +kernel
theorem dX12_isStone_23 : decode cX12_isStone 23 = .ok (.aload_n 0, 1) := by decide +kernel
theorem dX12_isStone_24 : decode cX12_isStone 24 = .ok (.getfield 57, 3) := by decide +kernel
theorem dX12_isStone_27 : decode cX12_isStone 27 = .ok (.iload_n 2, 1) := by decide +kernel
theorem dX12_isStone_28 : decode cX12_isStone 28 = .ok (.iaload, 1) := by decide +kernel
theorem dX12_isStone_29 : decode cX12_isStone 29 = .ok (.ifCond .lt 25, 3) := by decide +kernel
theorem dX12_isStone_32 : decode cX12_isStone 32 = .ok (.aload_n 0, 1) := by decide +kernel
theorem dX12_isStone_33 : decode cX12_isStone 33 = .ok (.getfield 57, 3) := by decide +kernel
theorem dX12_isStone_36 : decode cX12_isStone 36 = .ok (.iload_n 3, 1) := by decide +kernel
theorem dX12_isStone_37 : decode cX12_isStone 37 = .ok (.iaload, 1) := by decide +kernel
theorem dX12_isStone_38 : decode cX12_isStone 38 = .ok (.ifCond .lt 16, 3) := by decide +kernel
theorem dX12_isStone_41 : decode cX12_isStone 41 = .ok (.aload_n 0, 1) := by decide +kernel
theorem dX12_isStone_42 : decode cX12_isStone 42 = .ok (.iload_n 2, 1) := by decide +kernel
theorem dX12_isStone_43 : decode cX12_isStone 43 = .ok (.iload_n 3, 1) := by decide +kernel
theorem dX12_isStone_44 : decode cX12_isStone 44 = .ok (.invokevirtual 364, 3) := by decide +kernel
theorem dX12_isStone_47 : decode cX12_isStone 47 = .ok (.ifCond .eq 7, 3) := by decide +kernel
theorem dX12_isStone_50 : decode cX12_isStone 50 = .ok (.iconst 1, 1) := by decide +kernel
theorem dX12_isStone_51 : decode cX12_isStone 51 = .ok (.goto 4, 3) := by decide +kernel
theorem dX12_isStone_54 : decode cX12_isStone 54 = .ok (.iconst 0, 1) := by decide +kernel
theorem dX12_isStone_55 : decode cX12_isStone 55 = .ok (.istore_n 1, 1) := by decide +kernel
theorem dX12_isStone_56 : decode cX12_isStone 56 = .ok (.iinc 3 1, 3) := by decide +kernel
theorem dX12_isStone_59 : decode cX12_isStone 59 = .ok (.goto (-45), 3) := by decide +kernel
theorem dX12_isStone_62 : decode cX12_isStone 62 = .ok (.iinc 2 1, 3) := by decide +kernel
theorem dX12_isStone_65 : decode cX12_isStone 65 = .ok (.goto (-61), 3) := by decide +kernel
theorem dX12_isStone_68 : decode cX12_isStone 68 = .ok (.iload_n 1, 1) := by decide +kernel
theorem dX12_isStone_69 : decode cX12_isStone 69 = .ok (.ireturn, 1) := by decide +kernel
theorem dX12_namers_0 : decode cX12_namers 0 = .ok (.iconst 0, 1) := by decide +kernel
theorem dX12_namers_1 : decode cX12_namers 1 = .ok (.istore_n 2, 1) := by decide +kernel
theorem dX12_namers_2 : decode cX12_namers 2 = .ok (.iconst 0, 1) := by decide +kernel
theorem dX12_namers_3 : decode cX12_namers 3 = .ok (.istore_n 3, 1) := by decide +kernel
theorem dX12_namers_4 : decode cX12_namers 4 = .ok (.iload_n 3, 1) := by decide +kernel
theorem dX12_namers_5 : decode cX12_namers 5 = .ok (.aload_n 0, 1) := by decide +kernel
theorem dX12_namers_6 : decode cX12_namers 6 = .ok (.getfield 342, 3) := by decide +kernel
theorem dX12_namers_9 : decode cX12_namers 9 = .ok (.if_icmp .ge 30, 3) := by decide +kernel
theorem dX12_namers_12 : decode cX12_namers 12 = .ok (.iload_n 2, 1) := by decide +kernel
theorem dX12_namers_13 : decode cX12_namers 13 = .ok (.aload_n 0, 1) := by decide +kernel
theorem dX12_namers_14 : decode cX12_namers 14 = .ok (.getfield 57, 3) := by decide +kernel
theorem dX12_namers_17 : decode cX12_namers 17 = .ok (.iload_n 3, 1) := by decide +kernel
theorem dX12_namers_18 : decode cX12_namers 18 = .ok (.iaload, 1) := by decide +kernel
theorem dX12_namers_19 : decode cX12_namers 19 = .ok (.iload_n 1, 1) := by decide +kernel
theorem dX12_namers_20 : decode cX12_namers 20 = .ok (.if_icmp .ne 7, 3) := by decide +kernel
theorem dX12_namers_23 : decode cX12_namers 23 = .ok (.iconst 1, 1) := by decide +kernel
theorem dX12_namers_24 : decode cX12_namers 24 = .ok (.goto 4, 3) := by decide +kernel
theorem dX12_namers_27 : decode cX12_namers 27 = .ok (.iconst 0, 1) := by decide +kernel
theorem dX12_namers_28 : decode cX12_namers 28 = .ok (.invokestatic 278, 3) := by decide +kernel
theorem dX12_namers_31 : decode cX12_namers 31 = .ok (.iadd, 1) := by decide +kernel
theorem dX12_namers_32 : decode cX12_namers 32 = .ok (.istore_n 2, 1) := by decide +kernel
theorem dX12_namers_33 : decode cX12_namers 33 = .ok (.iinc 3 1, 3) := by decide +kernel
theorem dX12_namers_36 : decode cX12_namers 36 = .ok (.goto (-32), 3) := by decide +kernel
theorem dX12_namers_39 : decode cX12_namers 39 = .ok (.iload_n 2, 1) := by decide +kernel
theorem dX12_namers_40 : decode cX12_namers 40 = .ok (.ireturn, 1) := by decide +kernel
theorem dX12_loafOf_0 : decode cX12_loafOf 0 = .ok (.aload_n 0, 1) := by decide +kernel
theorem dX12_loafOf_1 : decode cX12_loafOf 1 = .ok (.aload_n 0, 1) := by decide +kernel
theorem dX12_loafOf_2 : decode cX12_loafOf 2 = .ok (.getfield 54, 3) := by decide +kernel
theorem dX12_loafOf_5 : decode cX12_loafOf 5 = .ok (.iload_n 1, 1) := by decide +kernel
theorem dX12_loafOf_6 : decode cX12_loafOf 6 = .ok (.iaload, 1) := by decide +kernel
theorem dX12_loafOf_7 : decode cX12_loafOf 7 = .ok (.aload_n 0, 1) := by decide +kernel
theorem dX12_loafOf_8 : decode cX12_loafOf 8 = .ok (.getfield 54, 3) := by decide +kernel
theorem dX12_loafOf_11 : decode cX12_loafOf 11 = .ok (.bipush 15, 2) := by decide +kernel
theorem dX12_loafOf_13 : decode cX12_loafOf 13 = .ok (.iload_n 1, 1) := by decide +kernel
theorem dX12_loafOf_14 : decode cX12_loafOf 14 = .ok (.iadd, 1) := by decide +kernel
theorem dX12_loafOf_15 : decode cX12_loafOf 15 = .ok (.iaload, 1) := by decide +kernel
theorem dX12_loafOf_16 : decode cX12_loafOf 16 = .ok (.aload_n 0, 1) := by decide +kernel
theorem dX12_loafOf_17 : decode cX12_loafOf 17 = .ok (.getfield 54, 3) := by decide +kernel
theorem dX12_loafOf_20 : decode cX12_loafOf 20 = .ok (.bipush 20, 2) := by decide +kernel
theorem dX12_loafOf_22 : decode cX12_loafOf 22 = .ok (.iload_n 1, 1) := by decide +kernel
theorem dX12_loafOf_23 : decode cX12_loafOf 23 = .ok (.iadd, 1) := by decide +kernel
theorem dX12_loafOf_24 : decode cX12_loafOf 24 = .ok (.iaload, 1) := by decide +kernel
theorem dX12_loafOf_25 : decode cX12_loafOf 25 = .ok (.aload_n 0, 1) := by decide +kernel
theorem dX12_loafOf_26 : decode cX12_loafOf 26 = .ok (.getfield 54, 3) := by decide +kernel
theorem dX12_loafOf_29 : decode cX12_loafOf 29 = .ok (.bipush 35, 2) := by decide +kernel
theorem dX12_loafOf_31 : decode cX12_loafOf 31 = .ok (.iaload, 1) := by decide +kernel
theorem dX12_loafOf_32 : decode cX12_loafOf 32 = .ok (.iload_n 2, 1) := by decide +kernel
theorem dX12_loafOf_33 : decode cX12_loafOf 33 = .ok (.invokevirtual 368, 3) := by decide +kernel
theorem dX12_loafOf_36 : decode cX12_loafOf 36 = .ok (.ireturn, 1) := by decide +kernel
theorem dX12_layGets_0 : decode cX12_layGets 0 = .ok (.aload_n 0, 1) := by decide +kernel
theorem dX12_layGets_1 : decode cX12_layGets 1 = .ok (.invokevirtual 372, 3) := by decide +kernel
theorem dX12_layGets_4 : decode cX12_layGets 4 = .ok (.istore_n 1, 1) := by decide +kernel
theorem dX12_layGets_5 : decode cX12_layGets 5 = .ok (.aload_n 0, 1) := by decide +kernel
theorem dX12_layGets_6 : decode cX12_layGets 6 = .ok (.invokevirtual 375, 3) := by decide +kernel
theorem dX12_layGets_9 : decode cX12_layGets 9 = .ok (.istore_n 2, 1) := by decide +kernel
theorem dX12_layGets_10 : decode cX12_layGets 10 = .ok (.iconst 0, 1) := by decide +kernel
theorem dX12_layGets_11 : decode cX12_layGets 11 = .ok (.istore_n 3, 1) := by decide +kernel
theorem dX12_layGets_12 : decode cX12_layGets 12 = .ok (.iload_n 3, 1) := by decide +kernel
theorem dX12_layGets_13 : decode cX12_layGets 13 = .ok (.aload_n 0, 1) := by decide +kernel
theorem dX12_layGets_14 : decode cX12_layGets 14 = .ok (.getfield 342, 3) := by decide +kernel
theorem dX12_layGets_17 : decode cX12_layGets 17 = .ok (.if_icmp .ge 21, 3) := by decide +kernel
theorem dX12_layGets_20 : decode cX12_layGets 20 = .ok (.aload_n 0, 1) := by decide +kernel
theorem dX12_layGets_21 : decode cX12_layGets 21 = .ok (.getfield 60, 3) := by decide +kernel
theorem dX12_layGets_24 : decode cX12_layGets 24 = .ok (.iload_n 3, 1) := by decide +kernel
theorem dX12_layGets_25 : decode cX12_layGets 25 = .ok (.aload_n 0, 1) := by decide +kernel
theorem dX12_layGets_26 : decode cX12_layGets 26 = .ok (.iload_n 3, 1) := by decide +kernel
theorem dX12_layGets_27 : decode cX12_layGets 27 = .ok (.iload_n 1, 1) := by decide +kernel
theorem dX12_layGets_28 : decode cX12_layGets 28 = .ok (.invokevirtual 378, 3) := by decide +kernel
theorem dX12_layGets_31 : decode cX12_layGets 31 = .ok (.iastore, 1) := by decide +kernel
theorem dX12_layGets_32 : decode cX12_layGets 32 = .ok (.iinc 3 1, 3) := by decide +kernel
theorem dX12_layGets_35 : decode cX12_layGets 35 = .ok (.goto (-23), 3) := by decide +kernel
theorem dX12_layGets_38 : decode cX12_layGets 38 = .ok (.iconst 0, 1) := by decide +kernel
theorem dX12_layGets_39 : decode cX12_layGets 39 = .ok (.istore_n 3, 1) := by decide +kernel
theorem dX12_layGets_40 : decode cX12_layGets 40 = .ok (.iload_n 3, 1) := by decide +kernel
theorem dX12_layGets_41 : decode cX12_layGets 41 = .ok (.aload_n 0, 1) := by decide +kernel
theorem dX12_layGets_42 : decode cX12_layGets 42 = .ok (.getfield 342, 3) := by decide +kernel
theorem dX12_layGets_45 : decode cX12_layGets 45 = .ok (.if_icmp .ge 54, 3) := by decide +kernel
theorem dX12_layGets_48 : decode cX12_layGets 48 = .ok (.aload_n 0, 1) := by decide +kernel
theorem dX12_layGets_49 : decode cX12_layGets 49 = .ok (.getfield 63, 3) := by decide +kernel
theorem dX12_layGets_52 : decode cX12_layGets 52 = .ok (.iload_n 3, 1) := by decide +kernel
theorem dX12_layGets_53 : decode cX12_layGets 53 = .ok (.iload_n 2, 1) := by decide +kernel
theorem dX12_layGets_54 : decode cX12_layGets 54 = .ok (.ifCond .ne 12, 3) := by decide +kernel
theorem dX12_layGets_57 : decode cX12_layGets 57 = .ok (.aload_n 0, 1) := by decide +kernel
theorem dX12_layGets_58 : decode cX12_layGets 58 = .ok (.getfield 57, 3) := by decide +kernel
theorem dX12_layGets_61 : decode cX12_layGets 61 = .ok (.iload_n 3, 1) := by decide +kernel
theorem dX12_layGets_62 : decode cX12_layGets 62 = .ok (.iaload, 1) := by decide +kernel
theorem dX12_layGets_63 : decode cX12_layGets 63 = .ok (.ifCond .ge 7, 3) := by decide +kernel
theorem dX12_layGets_66 : decode cX12_layGets 66 = .ok (.iconst 0, 1) := by decide +kernel
theorem dX12_layGets_67 : decode cX12_layGets 67 = .ok (.goto 25, 3) := by decide +kernel
theorem dX12_layGets_70 : decode cX12_layGets 70 = .ok (.aload_n 0, 1) := by decide +kernel
theorem dX12_layGets_71 : decode cX12_layGets 71 = .ok (.getfield 60, 3) := by decide +kernel
theorem dX12_layGets_74 : decode cX12_layGets 74 = .ok (.aload_n 0, 1) := by decide +kernel
theorem dX12_layGets_75 : decode cX12_layGets 75 = .ok (.getfield 57, 3) := by decide +kernel
theorem dX12_layGets_78 : decode cX12_layGets 78 = .ok (.iload_n 3, 1) := by decide +kernel
theorem dX12_layGets_79 : decode cX12_layGets 79 = .ok (.iaload, 1) := by decide +kernel
theorem dX12_layGets_80 : decode cX12_layGets 80 = .ok (.iaload, 1) := by decide +kernel
theorem dX12_layGets_81 : decode cX12_layGets 81 = .ok (.aload_n 0, 1) := by decide +kernel
theorem dX12_layGets_82 : decode cX12_layGets 82 = .ok (.aload_n 0, 1) := by decide +kernel
theorem dX12_layGets_83 : decode cX12_layGets 83 = .ok (.getfield 57, 3) := by decide +kernel
theorem dX12_layGets_86 : decode cX12_layGets 86 = .ok (.iload_n 3, 1) := by decide +kernel
theorem dX12_layGets_87 : decode cX12_layGets 87 = .ok (.iaload, 1) := by decide +kernel
theorem dX12_layGets_88 : decode cX12_layGets 88 = .ok (.invokevirtual 381, 3) := by decide +kernel
theorem dX12_layGets_91 : decode cX12_layGets 91 = .ok (.idiv, 1) := by decide +kernel
theorem dX12_layGets_92 : decode cX12_layGets 92 = .ok (.iastore, 1) := by decide +kernel
theorem dX12_layGets_93 : decode cX12_layGets 93 = .ok (.iinc 3 1, 3) := by decide +kernel
theorem dX12_layGets_96 : decode cX12_layGets 96 = .ok (.goto (-56), 3) := by decide +kernel
theorem dX12_layGets_99 : decode cX12_layGets 99 = .ok (.return_, 1) := by decide +kernel
theorem dX12_allGet_0 : decode cX12_allGet 0 = .ok (.iconst 0, 1) := by decide +kernel
theorem dX12_allGet_1 : decode cX12_allGet 1 = .ok (.istore_n 1, 1) := by decide +kernel
theorem dX12_allGet_2 : decode cX12_allGet 2 = .ok (.iconst 0, 1) := by decide +kernel
theorem dX12_allGet_3 : decode cX12_allGet 3 = .ok (.istore_n 2, 1) := by decide +kernel
theorem dX12_allGet_4 : decode cX12_allGet 4 = .ok (.iload_n 2, 1) := by decide +kernel
theorem dX12_allGet_5 : decode cX12_allGet 5 = .ok (.aload_n 0, 1) := by decide +kernel
theorem dX12_allGet_6 : decode cX12_allGet 6 = .ok (.getfield 342, 3) := by decide +kernel
theorem dX12_allGet_9 : decode cX12_allGet 9 = .ok (.if_icmp .ge 18, 3) := by decide +kernel
theorem dX12_allGet_12 : decode cX12_allGet 12 = .ok (.iload_n 1, 1) := by decide +kernel
theorem dX12_allGet_13 : decode cX12_allGet 13 = .ok (.aload_n 0, 1) := by decide +kernel
theorem dX12_allGet_14 : decode cX12_allGet 14 = .ok (.getfield 63, 3) := by decide +kernel
theorem dX12_allGet_17 : decode cX12_allGet 17 = .ok (.iload_n 2, 1) := by decide +kernel
theorem dX12_allGet_18 : decode cX12_allGet 18 = .ok (.iaload, 1) := by decide +kernel
theorem dX12_allGet_19 : decode cX12_allGet 19 = .ok (.iadd, 1) := by decide +kernel
theorem dX12_allGet_20 : decode cX12_allGet 20 = .ok (.istore_n 1, 1) := by decide +kernel
theorem dX12_allGet_21 : decode cX12_allGet 21 = .ok (.iinc 2 1, 3) := by decide +kernel
theorem dX12_allGet_24 : decode cX12_allGet 24 = .ok (.goto (-20), 3) := by decide +kernel
theorem dX12_allGet_27 : decode cX12_allGet 27 = .ok (.iload_n 1, 1) := by decide +kernel
theorem dX12_allGet_28 : decode cX12_allGet 28 = .ok (.ireturn, 1) := by decide +kernel
theorem dX12_fedSet_0 : decode cX12_fedSet 0 = .ok (.iconst 0, 1) := by decide +kernel
theorem dX12_fedSet_1 : decode cX12_fedSet 1 = .ok (.istore_n 1, 1) := by decide +kernel
theorem dX12_fedSet_2 : decode cX12_fedSet 2 = .ok (.iconst 0, 1) := by decide +kernel
theorem dX12_fedSet_3 : decode cX12_fedSet 3 = .ok (.istore_n 2, 1) := by decide +kernel
theorem dX12_fedSet_4 : decode cX12_fedSet 4 = .ok (.iload_n 2, 1) := by decide +kernel
theorem dX12_fedSet_5 : decode cX12_fedSet 5 = .ok (.aload_n 0, 1) := by decide +kernel
theorem dX12_fedSet_6 : decode cX12_fedSet 6 = .ok (.getfield 342, 3) := by decide +kernel
theorem dX12_fedSet_9 : decode cX12_fedSet 9 = .ok (.if_icmp .ge 37, 3) := by decide +kernel
theorem dX12_fedSet_12 : decode cX12_fedSet 12 = .ok (.iload_n 1, 1) := by decide +kernel
theorem dX12_fedSet_13 : decode cX12_fedSet 13 = .ok (.aload_n 0, 1) := by decide +kernel
theorem dX12_fedSet_14 : decode cX12_fedSet 14 = .ok (.getfield 63, 3) := by decide +kernel
theorem dX12_fedSet_17 : decode cX12_fedSet 17 = .ok (.iload_n 2, 1) := by decide +kernel
theorem dX12_fedSet_18 : decode cX12_fedSet 18 = .ok (.iaload, 1) := by decide +kernel
theorem dX12_fedSet_19 : decode cX12_fedSet 19 = .ok (.aload_n 0, 1) := by decide +kernel
theorem dX12_fedSet_20 : decode cX12_fedSet 20 = .ok (.getfield 51, 3) := by decide +kernel
theorem dX12_fedSet_23 : decode cX12_fedSet 23 = .ok (.iload_n 2, 1) := by decide +kernel
theorem dX12_fedSet_24 : decode cX12_fedSet 24 = .ok (.iaload, 1) := by decide +kernel
theorem dX12_fedSet_25 : decode cX12_fedSet 25 = .ok (.if_icmp .lt 7, 3) := by decide +kernel
theorem dX12_fedSet_28 : decode cX12_fedSet 28 = .ok (.iconst 1, 1) := by decide +kernel
theorem dX12_fedSet_29 : decode cX12_fedSet 29 = .ok (.goto 4, 3) := by decide +kernel
theorem dX12_fedSet_32 : decode cX12_fedSet 32 = .ok (.iconst 0, 1) := by decide +kernel
theorem dX12_fedSet_33 : decode cX12_fedSet 33 = .ok (.invokestatic 278, 3) := by decide +kernel
theorem dX12_fedSet_36 : decode cX12_fedSet 36 = .ok (.iload_n 2, 1) := by decide +kernel
theorem dX12_fedSet_37 : decode cX12_fedSet 37 = .ok (.ishl, 1) := by decide +kernel
theorem dX12_fedSet_38 : decode cX12_fedSet 38 = .ok (.ior, 1) := by decide +kernel
theorem dX12_fedSet_39 : decode cX12_fedSet 39 = .ok (.istore_n 1, 1) := by decide +kernel
theorem dX12_fedSet_40 : decode cX12_fedSet 40 = .ok (.iinc 2 1, 3) := by decide +kernel
theorem dX12_fedSet_43 : decode cX12_fedSet 43 = .ok (.goto (-39), 3) := by decide +kernel
theorem dX12_fedSet_46 : decode cX12_fedSet 46 = .ok (.iload_n 1, 1) := by decide +kernel
theorem dX12_fedSet_47 : decode cX12_fedSet 47 = .ok (.ireturn, 1) := by decide +kernel
theorem dX12_layNow_0 : decode cX12_layNow 0 = .ok (.aload_n 0, 1) := by decide +kernel
theorem dX12_layNow_1 : decode cX12_layNow 1 = .ok (.invokevirtual 384, 3) := by decide +kernel
theorem dX12_layNow_4 : decode cX12_layNow 4 = .ok (.aload_n 0, 1) := by decide +kernel
theorem dX12_layNow_5 : decode cX12_layNow 5 = .ok (.invokevirtual 387, 3) := by decide +kernel
theorem dX12_layNow_8 : decode cX12_layNow 8 = .ok (.return_, 1) := by decide +kernel
theorem dX12_soul_0 : decode cX12_soul 0 = .ok (.aload_n 0, 1) := by decide +kernel
theorem dX12_soul_1 : decode cX12_soul 1 = .ok (.iload_n 1, 1) := by decide +kernel
theorem dX12_soul_2 : decode cX12_soul 2 = .ok (.invokevirtual 390, 3) := by decide +kernel
theorem dX12_soul_5 : decode cX12_soul 5 = .ok (.ifCond .ne 6, 3) := by decide +kernel
theorem dX12_soul_8 : decode cX12_soul 8 = .ok (.bipush (-2), 2) := by decide +kernel
theorem dX12_soul_10 : decode cX12_soul 10 = .ok (.ireturn, 1) := by decide +kernel
theorem dX12_soul_11 : decode cX12_soul 11 = .ok (.aload_n 0, 1) := by decide +kernel
theorem dX12_soul_12 : decode cX12_soul 12 = .ok (.invokevirtual 393, 3) := by decide +kernel
theorem dX12_soul_15 : decode cX12_soul 15 = .ok (.iload_n 2, 1) := by decide +kernel
theorem dX12_soul_16 : decode cX12_soul 16 = .ok (.tableswitch 143 0 9 #[56, 63, 70, 79, 89, 99, 106, 113, 123, 133], 56) := by decide +kernel
theorem dX12_soul_72 : decode cX12_soul 72 = .ok (.aload_n 0, 1) := by decide +kernel
theorem dX12_soul_73 : decode cX12_soul 73 = .ok (.getfield 51, 3) := by decide +kernel
theorem dX12_soul_76 : decode cX12_soul 76 = .ok (.iload_n 1, 1) := by decide +kernel
theorem dX12_soul_77 : decode cX12_soul 77 = .ok (.iaload, 1) := by decide +kernel
theorem dX12_soul_78 : decode cX12_soul 78 = .ok (.ireturn, 1) := by decide +kernel
theorem dX12_soul_79 : decode cX12_soul 79 = .ok (.aload_n 0, 1) := by decide +kernel
theorem dX12_soul_80 : decode cX12_soul 80 = .ok (.getfield 54, 3) := by decide +kernel
theorem dX12_soul_83 : decode cX12_soul 83 = .ok (.iload_n 1, 1) := by decide +kernel
theorem dX12_soul_84 : decode cX12_soul 84 = .ok (.iaload, 1) := by decide +kernel
theorem dX12_soul_85 : decode cX12_soul 85 = .ok (.ireturn, 1) := by decide +kernel
theorem dX12_soul_86 : decode cX12_soul 86 = .ok (.aload_n 0, 1) := by decide +kernel
theorem dX12_soul_87 : decode cX12_soul 87 = .ok (.getfield 54, 3) := by decide +kernel
theorem dX12_soul_90 : decode cX12_soul 90 = .ok (.iconst 5, 1) := by decide +kernel
theorem dX12_soul_91 : decode cX12_soul 91 = .ok (.iload_n 1, 1) := by decide +kernel
theorem dX12_soul_92 : decode cX12_soul 92 = .ok (.iadd, 1) := by decide +kernel
theorem dX12_soul_93 : decode cX12_soul 93 = .ok (.iaload, 1) := by decide +kernel
theorem dX12_soul_94 : decode cX12_soul 94 = .ok (.ireturn, 1) := by decide +kernel
theorem dX12_soul_95 : decode cX12_soul 95 = .ok (.aload_n 0, 1) := by decide +kernel
theorem dX12_soul_96 : decode cX12_soul 96 = .ok (.getfield 54, 3) := by decide +kernel
theorem dX12_soul_99 : decode cX12_soul 99 = .ok (.bipush 15, 2) := by decide +kernel
theorem dX12_soul_101 : decode cX12_soul 101 = .ok (.iload_n 1, 1) := by decide +kernel
theorem dX12_soul_102 : decode cX12_soul 102 = .ok (.iadd, 1) := by decide +kernel
theorem dX12_soul_103 : decode cX12_soul 103 = .ok (.iaload, 1) := by decide +kernel
theorem dX12_soul_104 : decode cX12_soul 104 = .ok (.ireturn, 1) := by decide +kernel
theorem dX12_soul_105 : decode cX12_soul 105 = .ok (.aload_n 0, 1) := by decide +kernel
theorem dX12_soul_106 : decode cX12_soul 106 = .ok (.getfield 54, 3) := by decide +kernel
theorem dX12_soul_109 : decode cX12_soul 109 = .ok (.bipush 20, 2) := by decide +kernel
theorem dX12_soul_111 : decode cX12_soul 111 = .ok (.iload_n 1, 1) := by decide +kernel
theorem dX12_soul_112 : decode cX12_soul 112 = .ok (.iadd, 1) := by decide +kernel
theorem dX12_soul_113 : decode cX12_soul 113 = .ok (.iaload, 1) := by decide +kernel
theorem dX12_soul_114 : decode cX12_soul 114 = .ok (.ireturn, 1) := by decide +kernel
theorem dX12_soul_115 : decode cX12_soul 115 = .ok (.aload_n 0, 1) := by decide +kernel
theorem dX12_soul_116 : decode cX12_soul 116 = .ok (.getfield 60, 3) := by decide +kernel
theorem dX12_soul_119 : decode cX12_soul 119 = .ok (.iload_n 1, 1) := by decide +kernel
theorem dX12_soul_120 : decode cX12_soul 120 = .ok (.iaload, 1) := by decide +kernel
theorem dX12_soul_121 : decode cX12_soul 121 = .ok (.ireturn, 1) := by decide +kernel
theorem dX12_soul_122 : decode cX12_soul 122 = .ok (.aload_n 0, 1) := by decide +kernel
theorem dX12_soul_123 : decode cX12_soul 123 = .ok (.getfield 63, 3) := by decide +kernel
theorem dX12_soul_126 : decode cX12_soul 126 = .ok (.iload_n 1, 1) := by decide +kernel
theorem dX12_soul_127 : decode cX12_soul 127 = .ok (.iaload, 1) := by decide +kernel
theorem dX12_soul_128 : decode cX12_soul 128 = .ok (.ireturn, 1) := by decide +kernel
theorem dX12_soul_129 : decode cX12_soul 129 = .ok (.aload_n 0, 1) := by decide +kernel
theorem dX12_soul_130 : decode cX12_soul 130 = .ok (.getfield 54, 3) := by decide +kernel
theorem dX12_soul_133 : decode cX12_soul 133 = .ok (.bipush 25, 2) := by decide +kernel
theorem dX12_soul_135 : decode cX12_soul 135 = .ok (.iload_n 1, 1) := by decide +kernel
theorem dX12_soul_136 : decode cX12_soul 136 = .ok (.iadd, 1) := by decide +kernel
theorem dX12_soul_137 : decode cX12_soul 137 = .ok (.iaload, 1) := by decide +kernel
theorem dX12_soul_138 : decode cX12_soul 138 = .ok (.ireturn, 1) := by decide +kernel
theorem dX12_soul_139 : decode cX12_soul 139 = .ok (.aload_n 0, 1) := by decide +kernel
theorem dX12_soul_140 : decode cX12_soul 140 = .ok (.getfield 54, 3) := by decide +kernel
theorem dX12_soul_143 : decode cX12_soul 143 = .ok (.bipush 30, 2) := by decide +kernel
theorem dX12_soul_145 : decode cX12_soul 145 = .ok (.iload_n 1, 1) := by decide +kernel
theorem dX12_soul_146 : decode cX12_soul 146 = .ok (.iadd, 1) := by decide +kernel
theorem dX12_soul_147 : decode cX12_soul 147 = .ok (.iaload, 1) := by decide +kernel
theorem dX12_soul_148 : decode cX12_soul 148 = .ok (.ireturn, 1) := by decide +kernel
theorem dX12_soul_149 : decode cX12_soul 149 = .ok (.aload_n 0, 1) := by decide +kernel
theorem dX12_soul_150 : decode cX12_soul 150 = .ok (.getfield 54, 3) := by decide +kernel
theorem dX12_soul_153 : decode cX12_soul 153 = .ok (.bipush 10, 2) := by decide +kernel
theorem dX12_soul_155 : decode cX12_soul 155 = .ok (.iload_n 1, 1) := by decide +kernel
theorem dX12_soul_156 : decode cX12_soul 156 = .ok (.iadd, 1) := by decide +kernel
theorem dX12_soul_157 : decode cX12_soul 157 = .ok (.iaload, 1) := by decide +kernel
theorem dX12_soul_158 : decode cX12_soul 158 = .ok (.ireturn, 1) := by decide +kernel
theorem dX12_soul_159 : decode cX12_soul 159 = .ok (.bipush (-2), 2) := by decide +kernel
theorem dX12_soul_161 : decode cX12_soul 161 = .ok (.ireturn, 1) := by decide +kernel
theorem dX12_act_0 : decode cX12_act 0 = .ok (.aload_n 0, 1) := by decide +kernel
theorem dX12_act_1 : decode cX12_act 1 = .ok (.getfield 348, 3) := by decide +kernel
theorem dX12_act_4 : decode cX12_act 4 = .ok (.bipush 40, 2) := by decide +kernel
theorem dX12_act_6 : decode cX12_act 6 = .ok (.if_icmp .ne 43, 3) := by decide +kernel
theorem dX12_act_9 : decode cX12_act 9 = .ok (.iconst 0, 1) := by decide +kernel
theorem dX12_act_10 : decode cX12_act 10 = .ok (.istore_n 1, 1) := by decide +kernel
theorem dX12_act_11 : decode cX12_act 11 = .ok (.iload_n 1, 1) := by decide +kernel
theorem dX12_act_12 : decode cX12_act 12 = .ok (.sipush 1560, 3) := by decide +kernel
theorem dX12_act_15 : decode cX12_act 15 = .ok (.if_icmp .ge 24, 3) := by decide +kernel
theorem dX12_act_18 : decode cX12_act 18 = .ok (.aload_n 0, 1) := by decide +kernel
theorem dX12_act_19 : decode cX12_act 19 = .ok (.getfield 66, 3) := by decide +kernel
theorem dX12_act_22 : decode cX12_act 22 = .ok (.iload_n 1, 1) := by decide +kernel
theorem dX12_act_23 : decode cX12_act 23 = .ok (.aload_n 0, 1) := by decide +kernel
theorem dX12_act_24 : decode cX12_act 24 = .ok (.getfield 66, 3) := by decide +kernel
theorem dX12_act_27 : decode cX12_act 27 = .ok (.bipush 40, 2) := by decide +kernel
theorem dX12_act_29 : decode cX12_act 29 = .ok (.iload_n 1, 1) := by decide +kernel
theorem dX12_act_30 : decode cX12_act 30 = .ok (.iadd, 1) := by decide +kernel
theorem dX12_act_31 : decode cX12_act 31 = .ok (.iaload, 1) := by decide +kernel
theorem dX12_act_32 : decode cX12_act 32 = .ok (.iastore, 1) := by decide +kernel
theorem dX12_act_33 : decode cX12_act 33 = .ok (.iinc 1 1, 3) := by decide +kernel
theorem dX12_act_36 : decode cX12_act 36 = .ok (.goto (-25), 3) := by decide +kernel
theorem dX12_act_39 : decode cX12_act 39 = .ok (.aload_n 0, 1) := by decide +kernel
theorem dX12_act_40 : decode cX12_act 40 = .ok (.dup, 1) := by decide +kernel
theorem dX12_act_41 : decode cX12_act 41 = .ok (.getfield 348, 3) := by decide +kernel
theorem dX12_act_44 : decode cX12_act 44 = .ok (.iconst 1, 1) := by decide +kernel
theorem dX12_act_45 : decode cX12_act 45 = .ok (.isub, 1) := by decide +kernel
theorem dX12_act_46 : decode cX12_act 46 = .ok (.putfield 348, 3) := by decide +kernel
theorem dX12_act_49 : decode cX12_act 49 = .ok (.iconst 0, 1) := by decide +kernel
theorem dX12_act_50 : decode cX12_act 50 = .ok (.istore_n 1, 1) := by decide +kernel
theorem dX12_act_51 : decode cX12_act 51 = .ok (.iload_n 1, 1) := by decide +kernel
theorem dX12_act_52 : decode cX12_act 52 = .ok (.bipush 38, 2) := by decide +kernel
theorem dX12_act_54 : decode cX12_act 54 = .ok (.if_icmp .ge 29, 3) := by decide +kernel
theorem dX12_act_57 : decode cX12_act 57 = .ok (.aload_n 0, 1) := by decide +kernel
theorem dX12_act_58 : decode cX12_act 58 = .ok (.getfield 66, 3) := by decide +kernel
theorem dX12_act_61 : decode cX12_act 61 = .ok (.bipush 40, 2) := by decide +kernel
theorem dX12_act_63 : decode cX12_act 63 = .ok (.aload_n 0, 1) := by decide +kernel
theorem dX12_act_64 : decode cX12_act 64 = .ok (.getfield 348, 3) := by decide +kernel
theorem dX12_act_67 : decode cX12_act 67 = .ok (.imul, 1) := by decide +kernel
theorem dX12_act_68 : decode cX12_act 68 = .ok (.iload_n 1, 1) := by decide +kernel
theorem dX12_act_69 : decode cX12_act 69 = .ok (.iadd, 1) := by decide +kernel
theorem dX12_act_70 : decode cX12_act 70 = .ok (.aload_n 0, 1) := by decide +kernel
theorem dX12_act_71 : decode cX12_act 71 = .ok (.getfield 54, 3) := by decide +kernel
theorem dX12_act_74 : decode cX12_act 74 = .ok (.iload_n 1, 1) := by decide +kernel
theorem dX12_act_75 : decode cX12_act 75 = .ok (.iaload, 1) := by decide +kernel
theorem dX12_act_76 : decode cX12_act 76 = .ok (.iastore, 1) := by decide +kernel
theorem dX12_act_77 : decode cX12_act 77 = .ok (.iinc 1 1, 3) := by decide +kernel
theorem dX12_act_80 : decode cX12_act 80 = .ok (.goto (-29), 3) := by decide +kernel
theorem dX12_act_83 : decode cX12_act 83 = .ok (.aload_n 0, 1) := by decide +kernel
theorem dX12_act_84 : decode cX12_act 84 = .ok (.dup, 1) := by decide +kernel
theorem dX12_act_85 : decode cX12_act 85 = .ok (.getfield 348, 3) := by decide +kernel
theorem dX12_act_88 : decode cX12_act 88 = .ok (.iconst 1, 1) := by decide +kernel
theorem dX12_act_89 : decode cX12_act 89 = .ok (.iadd, 1) := by decide +kernel
theorem dX12_act_90 : decode cX12_act 90 = .ok (.putfield 348, 3) := by decide +kernel
theorem dX12_act_93 : decode cX12_act 93 = .ok (.aload_n 0, 1) := by decide +kernel
theorem dX12_act_94 : decode cX12_act 94 = .ok (.iconst 0, 1) := by decide +kernel
theorem dX12_act_95 : decode cX12_act 95 = .ok (.putfield 351, 3) := by decide +kernel
theorem dX12_act_98 : decode cX12_act 98 = .ok (.return_, 1) := by decide +kernel
theorem dX12_exchange_0 : decode cX12_exchange 0 = .ok (.iconst 0, 1) := by decide +kernel
theorem dX12_exchange_1 : decode cX12_exchange 1 = .ok (.istore_n 2, 1) := by decide +kernel
theorem dX12_exchange_2 : decode cX12_exchange 2 = .ok (.iload_n 2, 1) := by decide +kernel
theorem dX12_exchange_3 : decode cX12_exchange 3 = .ok (.bipush 38, 2) := by decide +kernel
theorem dX12_exchange_5 : decode cX12_exchange 5 = .ok (.if_icmp .ge 39, 3) := by decide +kernel
theorem dX12_exchange_8 : decode cX12_exchange 8 = .ok (.aload_n 0, 1) := by decide +kernel
theorem dX12_exchange_9 : decode cX12_exchange 9 = .ok (.getfield 66, 3) := by decide +kernel
theorem dX12_exchange_12 : decode cX12_exchange 12 = .ok (.iload_n 1, 1) := by decide +kernel
theorem dX12_exchange_13 : decode cX12_exchange 13 = .ok (.iload_n 2, 1) := by decide +kernel
theorem dX12_exchange_14 : decode cX12_exchange 14 = .ok (.iadd, 1) := by decide +kernel
theorem dX12_exchange_15 : decode cX12_exchange 15 = .ok (.iaload, 1) := by decide +kernel
theorem dX12_exchange_16 : decode cX12_exchange 16 = .ok (.istore_n 3, 1) := by decide +kernel
theorem dX12_exchange_17 : decode cX12_exchange 17 = .ok (.aload_n 0, 1) := by decide +kernel
theorem dX12_exchange_18 : decode cX12_exchange 18 = .ok (.getfield 66, 3) := by decide +kernel
theorem dX12_exchange_21 : decode cX12_exchange 21 = .ok (.iload_n 1, 1) := by decide +kernel
theorem dX12_exchange_22 : decode cX12_exchange 22 = .ok (.iload_n 2, 1) := by decide +kernel
theorem dX12_exchange_23 : decode cX12_exchange 23 = .ok (.iadd, 1) := by decide +kernel
theorem dX12_exchange_24 : decode cX12_exchange 24 = .ok (.aload_n 0, 1) := by decide +kernel
theorem dX12_exchange_25 : decode cX12_exchange 25 = .ok (.getfield 54, 3) := by decide +kernel
theorem dX12_exchange_28 : decode cX12_exchange 28 = .ok (.iload_n 2, 1) := by decide +kernel
theorem dX12_exchange_29 : decode cX12_exchange 29 = .ok (.iaload, 1) := by decide +kernel
theorem dX12_exchange_30 : decode cX12_exchange 30 = .ok (.iastore, 1) := by decide +kernel
theorem dX12_exchange_31 : decode cX12_exchange 31 = .ok (.aload_n 0, 1) := by decide +kernel
theorem dX12_exchange_32 : decode cX12_exchange 32 = .ok (.getfield 54, 3) := by decide +kernel
theorem dX12_exchange_35 : decode cX12_exchange 35 = .ok (.iload_n 2, 1) := by decide +kernel
theorem dX12_exchange_36 : decode cX12_exchange 36 = .ok (.iload_n 3, 1) := by decide +kernel
theorem dX12_exchange_37 : decode cX12_exchange 37 = .ok (.iastore, 1) := by decide +kernel
theorem dX12_exchange_38 : decode cX12_exchange 38 = .ok (.iinc 2 1, 3) := by decide +kernel
theorem dX12_exchange_41 : decode cX12_exchange 41 = .ok (.goto (-39), 3) := by decide +kernel
theorem dX12_exchange_44 : decode cX12_exchange 44 = .ok (.return_, 1) := by decide +kernel
theorem dX12_does_0 : decode cX12_does 0 = .ok (.aload_n 0, 1) := by decide +kernel
theorem dX12_does_1 : decode cX12_does 1 = .ok (.iload_n 1, 1) := by decide +kernel
theorem dX12_does_2 : decode cX12_does 2 = .ok (.invokevirtual 390, 3) := by decide +kernel
theorem dX12_does_5 : decode cX12_does 5 = .ok (.ifCond .eq 11, 3) := by decide +kernel
theorem dX12_does_8 : decode cX12_does 8 = .ok (.aload_n 0, 1) := by decide +kernel
theorem dX12_does_9 : decode cX12_does 9 = .ok (.iload_n 2, 1) := by decide +kernel
theorem dX12_does_10 : decode cX12_does 10 = .ok (.invokevirtual 396, 3) := by decide +kernel
theorem dX12_does_13 : decode cX12_does 13 = .ok (.ifCond .ne 5, 3) := by decide +kernel
theorem dX12_does_16 : decode cX12_does 16 = .ok (.iconst (-1), 1) := by decide +kernel
theorem dX12_does_17 : decode cX12_does 17 = .ok (.ireturn, 1) := by decide +kernel
theorem dX12_does_18 : decode cX12_does 18 = .ok (.aload_n 0, 1) := by decide +kernel
theorem dX12_does_19 : decode cX12_does 19 = .ok (.invokevirtual 399, 3) := by decide +kernel
theorem dX12_does_22 : decode cX12_does 22 = .ok (.aload_n 0, 1) := by decide +kernel
theorem dX12_does_23 : decode cX12_does 23 = .ok (.getfield 54, 3) := by decide +kernel
theorem dX12_does_26 : decode cX12_does 26 = .ok (.iload_n 1, 1) := by decide +kernel
theorem dX12_does_27 : decode cX12_does 27 = .ok (.dup2, 1) := by decide +kernel
theorem dX12_does_28 : decode cX12_does 28 = .ok (.iaload, 1) := by decide +kernel
theorem dX12_does_29 : decode cX12_does 29 = .ok (.iconst 1, 1) := by decide +kernel
theorem dX12_does_30 : decode cX12_does 30 = .ok (.iload_n 2, 1) := by decide +kernel
theorem dX12_does_31 : decode cX12_does 31 = .ok (.ishl, 1) := by decide +kernel
theorem dX12_does_32 : decode cX12_does 32 = .ok (.ixor, 1) := by decide +kernel
theorem dX12_does_33 : decode cX12_does 33 = .ok (.iastore, 1) := by decide +kernel
theorem dX12_does_34 : decode cX12_does 34 = .ok (.aload_n 0, 1) := by decide +kernel
theorem dX12_does_35 : decode cX12_does 35 = .ok (.getfield 54, 3) := by decide +kernel
theorem dX12_does_38 : decode cX12_does 38 = .ok (.iload_n 1, 1) := by decide +kernel
theorem dX12_does_39 : decode cX12_does 39 = .ok (.iaload, 1) := by decide +kernel
theorem dX12_does_40 : decode cX12_does 40 = .ok (.ireturn, 1) := by decide +kernel
theorem dX12_says_0 : decode cX12_says 0 = .ok (.aload_n 0, 1) := by decide +kernel
theorem dX12_says_1 : decode cX12_says 1 = .ok (.iload_n 1, 1) := by decide +kernel
theorem dX12_says_2 : decode cX12_says 2 = .ok (.invokevirtual 390, 3) := by decide +kernel
theorem dX12_says_5 : decode cX12_says 5 = .ok (.ifCond .eq 16, 3) := by decide +kernel
theorem dX12_says_8 : decode cX12_says 8 = .ok (.iload_n 2, 1) := by decide +kernel
theorem dX12_says_9 : decode cX12_says 9 = .ok (.iconst (-1), 1) := by decide +kernel
theorem dX12_says_10 : decode cX12_says 10 = .ok (.if_icmp .eq 13, 3) := by decide +kernel
theorem dX12_says_13 : decode cX12_says 13 = .ok (.aload_n 0, 1) := by decide +kernel
theorem dX12_says_14 : decode cX12_says 14 = .ok (.iload_n 2, 1) := by decide +kernel
theorem dX12_says_15 : decode cX12_says 15 = .ok (.invokevirtual 390, 3) := by decide +kernel
theorem dX12_says_18 : decode cX12_says 18 = .ok (.ifCond .ne 5, 3) := by decide +kernel
theorem dX12_says_21 : decode cX12_says 21 = .ok (.iconst (-1), 1) := by decide +kernel
theorem dX12_says_22 : decode cX12_says 22 = .ok (.ireturn, 1) := by decide +kernel
theorem dX12_says_23 : decode cX12_says 23 = .ok (.aload_n 0, 1) := by decide +kernel
theorem dX12_says_24 : decode cX12_says 24 = .ok (.invokevirtual 399, 3) := by decide +kernel
theorem dX12_says_27 : decode cX12_says 27 = .ok (.aload_n 0, 1) := by decide +kernel
theorem dX12_says_28 : decode cX12_says 28 = .ok (.getfield 54, 3) := by decide +kernel
theorem dX12_says_31 : decode cX12_says 31 = .ok (.iconst 5, 1) := by decide +kernel
theorem dX12_says_32 : decode cX12_says 32 = .ok (.iload_n 1, 1) := by decide +kernel
theorem dX12_says_33 : decode cX12_says 33 = .ok (.iadd, 1) := by decide +kernel
theorem dX12_says_34 : decode cX12_says 34 = .ok (.iload_n 2, 1) := by decide +kernel
theorem dX12_says_35 : decode cX12_says 35 = .ok (.iastore, 1) := by decide +kernel
theorem dX12_says_36 : decode cX12_says 36 = .ok (.aload_n 0, 1) := by decide +kernel
theorem dX12_says_37 : decode cX12_says 37 = .ok (.invokevirtual 384, 3) := by decide +kernel
theorem dX12_says_40 : decode cX12_says 40 = .ok (.iload_n 2, 1) := by decide +kernel
theorem dX12_says_41 : decode cX12_says 41 = .ok (.iconst (-1), 1) := by decide +kernel
theorem dX12_says_42 : decode cX12_says 42 = .ok (.if_icmp .ne 7, 3) := by decide +kernel
theorem dX12_says_45 : decode cX12_says 45 = .ok (.iconst 0, 1) := by decide +kernel
theorem dX12_says_46 : decode cX12_says 46 = .ok (.goto 8, 3) := by decide +kernel
theorem dX12_says_49 : decode cX12_says 49 = .ok (.aload_n 0, 1) := by decide +kernel
theorem dX12_says_50 : decode cX12_says 50 = .ok (.iload_n 2, 1) := by decide +kernel
theorem dX12_says_51 : decode cX12_says 51 = .ok (.invokevirtual 381, 3) := by decide +kernel
theorem dX12_says_54 : decode cX12_says 54 = .ok (.ireturn, 1) := by decide +kernel
theorem dX12_feud_0 : decode cX12_feud 0 = .ok (.aload_n 0, 1) := by decide +kernel
theorem dX12_feud_1 : decode cX12_feud 1 = .ok (.iload_n 1, 1) := by decide +kernel
theorem dX12_feud_2 : decode cX12_feud 2 = .ok (.invokevirtual 390, 3) := by decide +kernel
theorem dX12_feud_5 : decode cX12_feud 5 = .ok (.ifCond .eq 16, 3) := by decide +kernel
theorem dX12_feud_8 : decode cX12_feud 8 = .ok (.aload_n 0, 1) := by decide +kernel
theorem dX12_feud_9 : decode cX12_feud 9 = .ok (.iload_n 2, 1) := by decide +kernel
theorem dX12_feud_10 : decode cX12_feud 10 = .ok (.invokevirtual 390, 3) := by decide +kernel
theorem dX12_feud_13 : decode cX12_feud 13 = .ok (.ifCond .eq 8, 3) := by decide +kernel
theorem dX12_feud_16 : decode cX12_feud 16 = .ok (.iload_n 1, 1) := by decide +kernel
theorem dX12_feud_17 : decode cX12_feud 17 = .ok (.iload_n 2, 1) := by decide +kernel
theorem dX12_feud_18 : decode cX12_feud 18 = .ok (.if_icmp .ne 5, 3) := by decide +kernel
theorem dX12_feud_21 : decode cX12_feud 21 = .ok (.iconst (-1), 1) := by decide +kernel
theorem dX12_feud_22 : decode cX12_feud 22 = .ok (.ireturn, 1) := by decide +kernel
theorem dX12_feud_23 : decode cX12_feud 23 = .ok (.aload_n 0, 1) := by decide +kernel
theorem dX12_feud_24 : decode cX12_feud 24 = .ok (.invokevirtual 399, 3) := by decide +kernel
theorem dX12_feud_27 : decode cX12_feud 27 = .ok (.aload_n 0, 1) := by decide +kernel
theorem dX12_feud_28 : decode cX12_feud 28 = .ok (.getfield 54, 3) := by decide +kernel
theorem dX12_feud_31 : decode cX12_feud 31 = .ok (.bipush 10, 2) := by decide +kernel
theorem dX12_feud_33 : decode cX12_feud 33 = .ok (.iload_n 1, 1) := by decide +kernel
theorem dX12_feud_34 : decode cX12_feud 34 = .ok (.iadd, 1) := by decide +kernel
theorem dX12_feud_35 : decode cX12_feud 35 = .ok (.dup2, 1) := by decide +kernel
theorem dX12_feud_36 : decode cX12_feud 36 = .ok (.iaload, 1) := by decide +kernel
theorem dX12_feud_37 : decode cX12_feud 37 = .ok (.iconst 1, 1) := by decide +kernel
theorem dX12_feud_38 : decode cX12_feud 38 = .ok (.iload_n 2, 1) := by decide +kernel
theorem dX12_feud_39 : decode cX12_feud 39 = .ok (.ishl, 1) := by decide +kernel
theorem dX12_feud_40 : decode cX12_feud 40 = .ok (.ixor, 1) := by decide +kernel
theorem dX12_feud_41 : decode cX12_feud 41 = .ok (.iastore, 1) := by decide +kernel
theorem dX12_feud_42 : decode cX12_feud 42 = .ok (.aload_n 0, 1) := by decide +kernel
theorem dX12_feud_43 : decode cX12_feud 43 = .ok (.getfield 54, 3) := by decide +kernel
theorem dX12_feud_46 : decode cX12_feud 46 = .ok (.bipush 10, 2) := by decide +kernel
theorem dX12_feud_48 : decode cX12_feud 48 = .ok (.iload_n 2, 1) := by decide +kernel
theorem dX12_feud_49 : decode cX12_feud 49 = .ok (.iadd, 1) := by decide +kernel
theorem dX12_feud_50 : decode cX12_feud 50 = .ok (.dup2, 1) := by decide +kernel
theorem dX12_feud_51 : decode cX12_feud 51 = .ok (.iaload, 1) := by decide +kernel
theorem dX12_feud_52 : decode cX12_feud 52 = .ok (.iconst 1, 1) := by decide +kernel
theorem dX12_feud_53 : decode cX12_feud 53 = .ok (.iload_n 1, 1) := by decide +kernel
theorem dX12_feud_54 : decode cX12_feud 54 = .ok (.ishl, 1) := by decide +kernel
theorem dX12_feud_55 : decode cX12_feud 55 = .ok (.ixor, 1) := by decide +kernel
theorem dX12_feud_56 : decode cX12_feud 56 = .ok (.iastore, 1) := by decide +kernel
theorem dX12_feud_57 : decode cX12_feud 57 = .ok (.aload_n 0, 1) := by decide +kernel
theorem dX12_feud_58 : decode cX12_feud 58 = .ok (.getfield 54, 3) := by decide +kernel
theorem dX12_feud_61 : decode cX12_feud 61 = .ok (.bipush 10, 2) := by decide +kernel
theorem dX12_feud_63 : decode cX12_feud 63 = .ok (.iload_n 1, 1) := by decide +kernel
theorem dX12_feud_64 : decode cX12_feud 64 = .ok (.iadd, 1) := by decide +kernel
theorem dX12_feud_65 : decode cX12_feud 65 = .ok (.iaload, 1) := by decide +kernel
theorem dX12_feud_66 : decode cX12_feud 66 = .ok (.iload_n 2, 1) := by decide +kernel
theorem dX12_feud_67 : decode cX12_feud 67 = .ok (.ishr, 1) := by decide +kernel
theorem dX12_feud_68 : decode cX12_feud 68 = .ok (.iconst 1, 1) := by decide +kernel
theorem dX12_feud_69 : decode cX12_feud 69 = .ok (.iand, 1) := by decide +kernel
theorem dX12_feud_70 : decode cX12_feud 70 = .ok (.ireturn, 1) := by decide +kernel
theorem dX12_bread_0 : decode cX12_bread 0 = .ok (.aload_n 0, 1) := by decide +kernel
theorem dX12_bread_1 : decode cX12_bread 1 = .ok (.getfield 54, 3) := by decide +kernel
theorem dX12_bread_4 : decode cX12_bread 4 = .ok (.bipush 37, 2) := by decide +kernel
theorem dX12_bread_6 : decode cX12_bread 6 = .ok (.iaload, 1) := by decide +kernel
theorem dX12_bread_7 : decode cX12_bread 7 = .ok (.sipush 999, 3) := by decide +kernel
theorem dX12_bread_10 : decode cX12_bread 10 = .ok (.if_icmp .ne 5, 3) := by decide +kernel
theorem dX12_bread_13 : decode cX12_bread 13 = .ok (.iconst (-1), 1) := by decide +kernel
theorem dX12_bread_14 : decode cX12_bread 14 = .ok (.ireturn, 1) := by decide +kernel
theorem dX12_bread_15 : decode cX12_bread 15 = .ok (.aload_n 0, 1) := by decide +kernel
theorem dX12_bread_16 : decode cX12_bread 16 = .ok (.invokevirtual 399, 3) := by decide +kernel
theorem dX12_bread_19 : decode cX12_bread 19 = .ok (.aload_n 0, 1) := by decide +kernel
theorem dX12_bread_20 : decode cX12_bread 20 = .ok (.invokevirtual 393, 3) := by decide +kernel
theorem dX12_bread_23 : decode cX12_bread 23 = .ok (.aload_n 0, 1) := by decide +kernel
theorem dX12_bread_24 : decode cX12_bread 24 = .ok (.invokevirtual 402, 3) := by decide +kernel
theorem dX12_bread_27 : decode cX12_bread 27 = .ok (.istore_n 1, 1) := by decide +kernel
theorem dX12_bread_28 : decode cX12_bread 28 = .ok (.iconst 0, 1) := by decide +kernel
theorem dX12_bread_29 : decode cX12_bread 29 = .ok (.istore_n 2, 1) := by decide +kernel
theorem dX12_bread_30 : decode cX12_bread 30 = .ok (.iload_n 2, 1) := by decide +kernel
theorem dX12_bread_31 : decode cX12_bread 31 = .ok (.aload_n 0, 1) := by decide +kernel
theorem dX12_bread_32 : decode cX12_bread 32 = .ok (.getfield 342, 3) := by decide +kernel
theorem dX12_bread_35 : decode cX12_bread 35 = .ok (.if_icmp .ge 123, 3) := by decide +kernel
theorem dX12_bread_38 : decode cX12_bread 38 = .ok (.aload_n 0, 1) := by decide +kernel
theorem dX12_bread_39 : decode cX12_bread 39 = .ok (.getfield 54, 3) := by decide +kernel
theorem dX12_bread_42 : decode cX12_bread 42 = .ok (.bipush 25, 2) := by decide +kernel
theorem dX12_bread_44 : decode cX12_bread 44 = .ok (.iload_n 2, 1) := by decide +kernel
theorem dX12_bread_45 : decode cX12_bread 45 = .ok (.iadd, 1) := by decide +kernel
theorem dX12_bread_46 : decode cX12_bread 46 = .ok (.dup2, 1) := by decide +kernel
theorem dX12_bread_47 : decode cX12_bread 47 = .ok (.iaload, 1) := by decide +kernel
theorem dX12_bread_48 : decode cX12_bread 48 = .ok (.iload_n 1, 1) := by decide +kernel
theorem dX12_bread_49 : decode cX12_bread 49 = .ok (.iload_n 2, 1) := by decide +kernel
theorem dX12_bread_50 : decode cX12_bread 50 = .ok (.ishr, 1) := by decide +kernel
theorem dX12_bread_51 : decode cX12_bread 51 = .ok (.iconst 1, 1) := by decide +kernel
theorem dX12_bread_52 : decode cX12_bread 52 = .ok (.iand, 1) := by decide +kernel
theorem dX12_bread_53 : decode cX12_bread 53 = .ok (.iadd, 1) := by decide +kernel
theorem dX12_bread_54 : decode cX12_bread 54 = .ok (.iastore, 1) := by decide +kernel
theorem dX12_bread_55 : decode cX12_bread 55 = .ok (.aload_n 0, 1) := by decide +kernel
theorem dX12_bread_56 : decode cX12_bread 56 = .ok (.getfield 54, 3) := by decide +kernel
theorem dX12_bread_59 : decode cX12_bread 59 = .ok (.bipush 30, 2) := by decide +kernel
theorem dX12_bread_61 : decode cX12_bread 61 = .ok (.iload_n 2, 1) := by decide +kernel
theorem dX12_bread_62 : decode cX12_bread 62 = .ok (.iadd, 1) := by decide +kernel
theorem dX12_bread_63 : decode cX12_bread 63 = .ok (.dup2, 1) := by decide +kernel
theorem dX12_bread_64 : decode cX12_bread 64 = .ok (.iaload, 1) := by decide +kernel
theorem dX12_bread_65 : decode cX12_bread 65 = .ok (.aload_n 0, 1) := by decide +kernel
theorem dX12_bread_66 : decode cX12_bread 66 = .ok (.getfield 57, 3) := by decide +kernel
theorem dX12_bread_69 : decode cX12_bread 69 = .ok (.iload_n 2, 1) := by decide +kernel
theorem dX12_bread_70 : decode cX12_bread 70 = .ok (.iaload, 1) := by decide +kernel
theorem dX12_bread_71 : decode cX12_bread 71 = .ok (.ifCond .lt 17, 3) := by decide +kernel
theorem dX12_bread_74 : decode cX12_bread 74 = .ok (.aload_n 0, 1) := by decide +kernel
theorem dX12_bread_75 : decode cX12_bread 75 = .ok (.getfield 57, 3) := by decide +kernel
theorem dX12_bread_78 : decode cX12_bread 78 = .ok (.iload_n 2, 1) := by decide +kernel
theorem dX12_bread_79 : decode cX12_bread 79 = .ok (.iaload, 1) := by decide +kernel
theorem dX12_bread_80 : decode cX12_bread 80 = .ok (.iload_n 2, 1) := by decide +kernel
theorem dX12_bread_81 : decode cX12_bread 81 = .ok (.if_icmp .eq 7, 3) := by decide +kernel
theorem dX12_bread_84 : decode cX12_bread 84 = .ok (.iconst 1, 1) := by decide +kernel
theorem dX12_bread_85 : decode cX12_bread 85 = .ok (.goto 4, 3) := by decide +kernel
theorem dX12_bread_88 : decode cX12_bread 88 = .ok (.iconst 0, 1) := by decide +kernel
theorem dX12_bread_89 : decode cX12_bread 89 = .ok (.invokestatic 278, 3) := by decide +kernel
theorem dX12_bread_92 : decode cX12_bread 92 = .ok (.iadd, 1) := by decide +kernel
theorem dX12_bread_93 : decode cX12_bread 93 = .ok (.iastore, 1) := by decide +kernel
theorem dX12_bread_94 : decode cX12_bread 94 = .ok (.aload_n 0, 1) := by decide +kernel
theorem dX12_bread_95 : decode cX12_bread 95 = .ok (.getfield 54, 3) := by decide +kernel
theorem dX12_bread_98 : decode cX12_bread 98 = .ok (.bipush 20, 2) := by decide +kernel
theorem dX12_bread_100 : decode cX12_bread 100 = .ok (.iload_n 2, 1) := by decide +kernel
theorem dX12_bread_101 : decode cX12_bread 101 = .ok (.iadd, 1) := by decide +kernel
theorem dX12_bread_102 : decode cX12_bread 102 = .ok (.aload_n 0, 1) := by decide +kernel
theorem dX12_bread_103 : decode cX12_bread 103 = .ok (.getfield 60, 3) := by decide +kernel
theorem dX12_bread_106 : decode cX12_bread 106 = .ok (.iload_n 2, 1) := by decide +kernel
theorem dX12_bread_107 : decode cX12_bread 107 = .ok (.iaload, 1) := by decide +kernel
theorem dX12_bread_108 : decode cX12_bread 108 = .ok (.iastore, 1) := by decide +kernel
theorem dX12_bread_109 : decode cX12_bread 109 = .ok (.aload_n 0, 1) := by decide +kernel
theorem dX12_bread_110 : decode cX12_bread 110 = .ok (.getfield 54, 3) := by decide +kernel
theorem dX12_bread_113 : decode cX12_bread 113 = .ok (.bipush 15, 2) := by decide +kernel
theorem dX12_bread_115 : decode cX12_bread 115 = .ok (.iload_n 2, 1) := by decide +kernel
theorem dX12_bread_116 : decode cX12_bread 116 = .ok (.iadd, 1) := by decide +kernel
theorem dX12_bread_117 : decode cX12_bread 117 = .ok (.iaload, 1) := by decide +kernel
theorem dX12_bread_118 : decode cX12_bread 118 = .ok (.bipush 99, 2) := by decide +kernel
theorem dX12_bread_120 : decode cX12_bread 120 = .ok (.if_icmp .ge 16, 3) := by decide +kernel
theorem dX12_bread_123 : decode cX12_bread 123 = .ok (.aload_n 0, 1) := by decide +kernel
theorem dX12_bread_124 : decode cX12_bread 124 = .ok (.getfield 54, 3) := by decide +kernel
theorem dX12_bread_127 : decode cX12_bread 127 = .ok (.bipush 15, 2) := by decide +kernel
theorem dX12_bread_129 : decode cX12_bread 129 = .ok (.iload_n 2, 1) := by decide +kernel
theorem dX12_bread_130 : decode cX12_bread 130 = .ok (.iadd, 1) := by decide +kernel
theorem dX12_bread_131 : decode cX12_bread 131 = .ok (.dup2, 1) := by decide +kernel
theorem dX12_bread_132 : decode cX12_bread 132 = .ok (.iaload, 1) := by decide +kernel
theorem dX12_bread_133 : decode cX12_bread 133 = .ok (.iconst 1, 1) := by decide +kernel
theorem dX12_bread_134 : decode cX12_bread 134 = .ok (.iadd, 1) := by decide +kernel
theorem dX12_bread_135 : decode cX12_bread 135 = .ok (.iastore, 1) := by decide +kernel
theorem dX12_bread_136 : decode cX12_bread 136 = .ok (.aload_n 0, 1) := by decide +kernel
theorem dX12_bread_137 : decode cX12_bread 137 = .ok (.getfield 54, 3) := by decide +kernel
theorem dX12_bread_140 : decode cX12_bread 140 = .ok (.iload_n 2, 1) := by decide +kernel
theorem dX12_bread_141 : decode cX12_bread 141 = .ok (.iconst 0, 1) := by decide +kernel
theorem dX12_bread_142 : decode cX12_bread 142 = .ok (.iastore, 1) := by decide +kernel
theorem dX12_bread_143 : decode cX12_bread 143 = .ok (.aload_n 0, 1) := by decide +kernel
theorem dX12_bread_144 : decode cX12_bread 144 = .ok (.getfield 54, 3) := by decide +kernel
theorem dX12_bread_147 : decode cX12_bread 147 = .ok (.iconst 5, 1) := by decide +kernel
theorem dX12_bread_148 : decode cX12_bread 148 = .ok (.iload_n 2, 1) := by decide +kernel
theorem dX12_bread_149 : decode cX12_bread 149 = .ok (.iadd, 1) := by decide +kernel
theorem dX12_bread_150 : decode cX12_bread 150 = .ok (.iconst (-1), 1) := by decide +kernel
theorem dX12_bread_151 : decode cX12_bread 151 = .ok (.iastore, 1) := by decide +kernel
theorem dX12_bread_152 : decode cX12_bread 152 = .ok (.iinc 2 1, 3) := by decide +kernel
theorem dX12_bread_155 : decode cX12_bread 155 = .ok (.goto (-125), 3) := by decide +kernel
theorem dX12_bread_158 : decode cX12_bread 158 = .ok (.aload_n 0, 1) := by decide +kernel
theorem dX12_bread_159 : decode cX12_bread 159 = .ok (.getfield 54, 3) := by decide +kernel
theorem dX12_bread_162 : decode cX12_bread 162 = .ok (.bipush 36, 2) := by decide +kernel
theorem dX12_bread_164 : decode cX12_bread 164 = .ok (.aload_n 0, 1) := by decide +kernel
theorem dX12_bread_165 : decode cX12_bread 165 = .ok (.getfield 54, 3) := by decide +kernel
theorem dX12_bread_168 : decode cX12_bread 168 = .ok (.bipush 36, 2) := by decide +kernel
theorem dX12_bread_170 : decode cX12_bread 170 = .ok (.iaload, 1) := by decide +kernel
theorem dX12_bread_171 : decode cX12_bread 171 = .ok (.sipush 137, 3) := by decide +kernel
theorem dX12_bread_174 : decode cX12_bread 174 = .ok (.imul, 1) := by decide +kernel
theorem dX12_bread_175 : decode cX12_bread 175 = .ok (.bipush 71, 2) := by decide +kernel
theorem dX12_bread_177 : decode cX12_bread 177 = .ok (.iadd, 1) := by decide +kernel
theorem dX12_bread_178 : decode cX12_bread 178 = .ok (.sipush 1000, 3) := by decide +kernel
theorem dX12_bread_181 : decode cX12_bread 181 = .ok (.irem, 1) := by decide +kernel
theorem dX12_bread_182 : decode cX12_bread 182 = .ok (.iastore, 1) := by decide +kernel
theorem dX12_bread_183 : decode cX12_bread 183 = .ok (.aload_n 0, 1) := by decide +kernel
theorem dX12_bread_184 : decode cX12_bread 184 = .ok (.getfield 54, 3) := by decide +kernel
theorem dX12_bread_187 : decode cX12_bread 187 = .ok (.bipush 35, 2) := by decide +kernel
theorem dX12_bread_189 : decode cX12_bread 189 = .ok (.aload_n 0, 1) := by decide +kernel
theorem dX12_bread_190 : decode cX12_bread 190 = .ok (.getfield 54, 3) := by decide +kernel
theorem dX12_bread_193 : decode cX12_bread 193 = .ok (.bipush 36, 2) := by decide +kernel
theorem dX12_bread_195 : decode cX12_bread 195 = .ok (.iaload, 1) := by decide +kernel
theorem dX12_bread_196 : decode cX12_bread 196 = .ok (.bipush 10, 2) := by decide +kernel
theorem dX12_bread_198 : decode cX12_bread 198 = .ok (.irem, 1) := by decide +kernel
theorem dX12_bread_199 : decode cX12_bread 199 = .ok (.iastore, 1) := by decide +kernel
theorem dX12_bread_200 : decode cX12_bread 200 = .ok (.aload_n 0, 1) := by decide +kernel
theorem dX12_bread_201 : decode cX12_bread 201 = .ok (.getfield 54, 3) := by decide +kernel
theorem dX12_bread_204 : decode cX12_bread 204 = .ok (.bipush 37, 2) := by decide +kernel
theorem dX12_bread_206 : decode cX12_bread 206 = .ok (.dup2, 1) := by decide +kernel
theorem dX12_bread_207 : decode cX12_bread 207 = .ok (.iaload, 1) := by decide +kernel
theorem dX12_bread_208 : decode cX12_bread 208 = .ok (.iconst 1, 1) := by decide +kernel
theorem dX12_bread_209 : decode cX12_bread 209 = .ok (.iadd, 1) := by decide +kernel
theorem dX12_bread_210 : decode cX12_bread 210 = .ok (.iastore, 1) := by decide +kernel
theorem dX12_bread_211 : decode cX12_bread 211 = .ok (.iload_n 1, 1) := by decide +kernel
theorem dX12_bread_212 : decode cX12_bread 212 = .ok (.ireturn, 1) := by decide +kernel
theorem dX12_undo_0 : decode cX12_undo 0 = .ok (.aload_n 0, 1) := by decide +kernel
theorem dX12_undo_1 : decode cX12_undo 1 = .ok (.getfield 348, 3) := by decide +kernel
theorem dX12_undo_4 : decode cX12_undo 4 = .ok (.ifCond .ne 5, 3) := by decide +kernel
theorem dX12_undo_7 : decode cX12_undo 7 = .ok (.iconst 0, 1) := by decide +kernel
theorem dX12_undo_8 : decode cX12_undo 8 = .ok (.ireturn, 1) := by decide +kernel
theorem dX12_undo_9 : decode cX12_undo 9 = .ok (.aload_n 0, 1) := by decide +kernel
theorem dX12_undo_10 : decode cX12_undo 10 = .ok (.dup, 1) := by decide +kernel
theorem dX12_undo_11 : decode cX12_undo 11 = .ok (.getfield 348, 3) := by decide +kernel
theorem dX12_undo_14 : decode cX12_undo 14 = .ok (.iconst 1, 1) := by decide +kernel
theorem dX12_undo_15 : decode cX12_undo 15 = .ok (.isub, 1) := by decide +kernel
theorem dX12_undo_16 : decode cX12_undo 16 = .ok (.putfield 348, 3) := by decide +kernel
theorem dX12_undo_19 : decode cX12_undo 19 = .ok (.aload_n 0, 1) := by decide +kernel
theorem dX12_undo_20 : decode cX12_undo 20 = .ok (.dup, 1) := by decide +kernel
theorem dX12_undo_21 : decode cX12_undo 21 = .ok (.getfield 351, 3) := by decide +kernel
theorem dX12_undo_24 : decode cX12_undo 24 = .ok (.iconst 1, 1) := by decide +kernel
theorem dX12_undo_25 : decode cX12_undo 25 = .ok (.iadd, 1) := by decide +kernel
theorem dX12_undo_26 : decode cX12_undo 26 = .ok (.putfield 351, 3) := by decide +kernel
theorem dX12_undo_29 : decode cX12_undo 29 = .ok (.aload_n 0, 1) := by decide +kernel
theorem dX12_undo_30 : decode cX12_undo 30 = .ok (.bipush 40, 2) := by decide +kernel
theorem dX12_undo_32 : decode cX12_undo 32 = .ok (.aload_n 0, 1) := by decide +kernel
theorem dX12_undo_33 : decode cX12_undo 33 = .ok (.getfield 348, 3) := by decide +kernel
theorem dX12_undo_36 : decode cX12_undo 36 = .ok (.imul, 1) := by decide +kernel
theorem dX12_undo_37 : decode cX12_undo 37 = .ok (.invokevirtual 405, 3) := by decide +kernel
theorem dX12_undo_40 : decode cX12_undo 40 = .ok (.iconst 1, 1) := by decide +kernel
theorem dX12_undo_41 : decode cX12_undo 41 = .ok (.ireturn, 1) := by decide +kernel
theorem dX12_redo_0 : decode cX12_redo 0 = .ok (.aload_n 0, 1) := by decide +kernel
theorem dX12_redo_1 : decode cX12_redo 1 = .ok (.getfield 351, 3) := by decide +kernel
theorem dX12_redo_4 : decode cX12_redo 4 = .ok (.ifCond .ne 5, 3) := by decide +kernel
theorem dX12_redo_7 : decode cX12_redo 7 = .ok (.iconst 0, 1) := by decide +kernel
theorem dX12_redo_8 : decode cX12_redo 8 = .ok (.ireturn, 1) := by decide +kernel
theorem dX12_redo_9 : decode cX12_redo 9 = .ok (.aload_n 0, 1) := by decide +kernel
theorem dX12_redo_10 : decode cX12_redo 10 = .ok (.bipush 40, 2) := by decide +kernel
theorem dX12_redo_12 : decode cX12_redo 12 = .ok (.aload_n 0, 1) := by decide +kernel
theorem dX12_redo_13 : decode cX12_redo 13 = .ok (.getfield 348, 3) := by decide +kernel
theorem dX12_redo_16 : decode cX12_redo 16 = .ok (.imul, 1) := by decide +kernel
theorem dX12_redo_17 : decode cX12_redo 17 = .ok (.invokevirtual 405, 3) := by decide +kernel
theorem dX12_redo_20 : decode cX12_redo 20 = .ok (.aload_n 0, 1) := by decide +kernel
theorem dX12_redo_21 : decode cX12_redo 21 = .ok (.dup, 1) := by decide +kernel
theorem dX12_redo_22 : decode cX12_redo 22 = .ok (.getfield 348, 3) := by decide +kernel
theorem dX12_redo_25 : decode cX12_redo 25 = .ok (.iconst 1, 1) := by decide +kernel
theorem dX12_redo_26 : decode cX12_redo 26 = .ok (.iadd, 1) := by decide +kernel
theorem dX12_redo_27 : decode cX12_redo 27 = .ok (.putfield 348, 3) := by decide +kernel
theorem dX12_redo_30 : decode cX12_redo 30 = .ok (.aload_n 0, 1) := by decide +kernel
theorem dX12_redo_31 : decode cX12_redo 31 = .ok (.dup, 1) := by decide +kernel
theorem dX12_redo_32 : decode cX12_redo 32 = .ok (.getfield 351, 3) := by decide +kernel
theorem dX12_redo_35 : decode cX12_redo 35 = .ok (.iconst 1, 1) := by decide +kernel
theorem dX12_redo_36 : decode cX12_redo 36 = .ok (.isub, 1) := by decide +kernel
theorem dX12_redo_37 : decode cX12_redo 37 = .ok (.putfield 351, 3) := by decide +kernel
theorem dX12_redo_40 : decode cX12_redo 40 = .ok (.iconst 1, 1) := by decide +kernel
theorem dX12_redo_41 : decode cX12_redo 41 = .ok (.ireturn, 1) := by decide +kernel
theorem dX12_stone_0 : decode cX12_stone 0 = .ok (.aload_n 0, 1) := by decide +kernel
theorem dX12_stone_1 : decode cX12_stone 1 = .ok (.invokevirtual 384, 3) := by decide +kernel
theorem dX12_stone_4 : decode cX12_stone 4 = .ok (.aload_n 0, 1) := by decide +kernel
theorem dX12_stone_5 : decode cX12_stone 5 = .ok (.invokevirtual 375, 3) := by decide +kernel
theorem dX12_stone_8 : decode cX12_stone 8 = .ok (.ireturn, 1) := by decide +kernel
theorem dX12_fed_0 : decode cX12_fed 0 = .ok (.aload_n 0, 1) := by decide +kernel
theorem dX12_fed_1 : decode cX12_fed 1 = .ok (.invokevirtual 393, 3) := by decide +kernel
theorem dX12_fed_4 : decode cX12_fed 4 = .ok (.aload_n 0, 1) := by decide +kernel
theorem dX12_fed_5 : decode cX12_fed 5 = .ok (.invokevirtual 402, 3) := by decide +kernel
theorem dX12_fed_8 : decode cX12_fed 8 = .ok (.ireturn, 1) := by decide +kernel
theorem dX12_sayingsOf_0 : decode cX12_sayingsOf 0 = .ok (.iconst 1, 1) := by decide +kernel
theorem dX12_sayingsOf_1 : decode cX12_sayingsOf 1 = .ok (.istore_n 1, 1) := by decide +kernel
theorem dX12_sayingsOf_2 : decode cX12_sayingsOf 2 = .ok (.iconst 0, 1) := by decide +kernel
theorem dX12_sayingsOf_3 : decode cX12_sayingsOf 3 = .ok (.istore_n 2, 1) := by decide +kernel
theorem dX12_sayingsOf_4 : decode cX12_sayingsOf 4 = .ok (.iload_n 2, 1) := by decide +kernel
theorem dX12_sayingsOf_5 : decode cX12_sayingsOf 5 = .ok (.aload_n 0, 1) := by decide +kernel
theorem dX12_sayingsOf_6 : decode cX12_sayingsOf 6 = .ok (.getfield 342, 3) := by decide +kernel
theorem dX12_sayingsOf_9 : decode cX12_sayingsOf 9 = .ok (.if_icmp .ge 18, 3) := by decide +kernel
theorem dX12_sayingsOf_12 : decode cX12_sayingsOf 12 = .ok (.iload_n 1, 1) := by decide +kernel
theorem dX12_sayingsOf_13 : decode cX12_sayingsOf 13 = .ok (.aload_n 0, 1) := by decide +kernel
theorem dX12_sayingsOf_14 : decode cX12_sayingsOf 14 = .ok (.getfield 342, 3) := by decide +kernel
theorem dX12_sayingsOf_17 : decode cX12_sayingsOf 17 = .ok (.iconst 1, 1) := by decide +kernel
theorem dX12_sayingsOf_18 : decode cX12_sayingsOf 18 = .ok (.iadd, 1) := by decide +kernel
theorem dX12_sayingsOf_19 : decode cX12_sayingsOf 19 = .ok (.imul, 1) := by decide +kernel
theorem dX12_sayingsOf_20 : decode cX12_sayingsOf 20 = .ok (.istore_n 1, 1) := by decide +kernel
theorem dX12_sayingsOf_21 : decode cX12_sayingsOf 21 = .ok (.iinc 2 1, 3) := by decide +kernel
theorem dX12_sayingsOf_24 : decode cX12_sayingsOf 24 = .ok (.goto (-20), 3) := by decide +kernel
theorem dX12_sayingsOf_27 : decode cX12_sayingsOf 27 = .ok (.iload_n 1, 1) := by decide +kernel
theorem dX12_sayingsOf_28 : decode cX12_sayingsOf 28 = .ok (.ireturn, 1) := by decide +kernel
theorem dX12_laySayings_0 : decode cX12_laySayings 0 = .ok (.iload_n 1, 1) := by decide +kernel
theorem dX12_laySayings_1 : decode cX12_laySayings 1 = .ok (.istore_n 2, 1) := by decide +kernel
theorem dX12_laySayings_2 : decode cX12_laySayings 2 = .ok (.aload_n 0, 1) := by decide +kernel
theorem dX12_laySayings_3 : decode cX12_laySayings 3 = .ok (.getfield 342, 3) := by decide +kernel
theorem dX12_laySayings_6 : decode cX12_laySayings 6 = .ok (.iconst 1, 1) := by decide +kernel
theorem dX12_laySayings_7 : decode cX12_laySayings 7 = .ok (.isub, 1) := by decide +kernel
theorem dX12_laySayings_8 : decode cX12_laySayings 8 = .ok (.istore_n 3, 1) := by decide +kernel
theorem dX12_laySayings_9 : decode cX12_laySayings 9 = .ok (.iload_n 3, 1) := by decide +kernel
theorem dX12_laySayings_10 : decode cX12_laySayings 10 = .ok (.ifCond .lt 34, 3) := by decide +kernel
theorem dX12_laySayings_13 : decode cX12_laySayings 13 = .ok (.aload_n 0, 1) := by decide +kernel
theorem dX12_laySayings_14 : decode cX12_laySayings 14 = .ok (.getfield 57, 3) := by decide +kernel
theorem dX12_laySayings_17 : decode cX12_laySayings 17 = .ok (.iload_n 3, 1) := by decide +kernel
theorem dX12_laySayings_18 : decode cX12_laySayings 18 = .ok (.iload_n 2, 1) := by decide +kernel
theorem dX12_laySayings_19 : decode cX12_laySayings 19 = .ok (.aload_n 0, 1) := by decide +kernel
theorem dX12_laySayings_20 : decode cX12_laySayings 20 = .ok (.getfield 342, 3) := by decide +kernel
theorem dX12_laySayings_23 : decode cX12_laySayings 23 = .ok (.iconst 1, 1) := by decide +kernel
theorem dX12_laySayings_24 : decode cX12_laySayings 24 = .ok (.iadd, 1) := by decide +kernel
theorem dX12_laySayings_25 : decode cX12_laySayings 25 = .ok (.irem, 1) := by decide +kernel
theorem dX12_laySayings_26 : decode cX12_laySayings 26 = .ok (.iconst 1, 1) := by decide +kernel
theorem dX12_laySayings_27 : decode cX12_laySayings 27 = .ok (.isub, 1) := by decide +kernel
theorem dX12_laySayings_28 : decode cX12_laySayings 28 = .ok (.iastore, 1) := by decide +kernel
theorem dX12_laySayings_29 : decode cX12_laySayings 29 = .ok (.iload_n 2, 1) := by decide +kernel
theorem dX12_laySayings_30 : decode cX12_laySayings 30 = .ok (.aload_n 0, 1) := by decide +kernel
theorem dX12_laySayings_31 : decode cX12_laySayings 31 = .ok (.getfield 342, 3) := by decide +kernel
theorem dX12_laySayings_34 : decode cX12_laySayings 34 = .ok (.iconst 1, 1) := by decide +kernel
theorem dX12_laySayings_35 : decode cX12_laySayings 35 = .ok (.iadd, 1) := by decide +kernel
theorem dX12_laySayings_36 : decode cX12_laySayings 36 = .ok (.idiv, 1) := by decide +kernel
theorem dX12_laySayings_37 : decode cX12_laySayings 37 = .ok (.istore_n 2, 1) := by decide +kernel
theorem dX12_laySayings_38 : decode cX12_laySayings 38 = .ok (.iinc 3 (-1), 3) := by decide +kernel
theorem dX12_laySayings_41 : decode cX12_laySayings 41 = .ok (.goto (-32), 3) := by decide +kernel
theorem dX12_laySayings_44 : decode cX12_laySayings 44 = .ok (.aload_n 0, 1) := by decide +kernel
theorem dX12_laySayings_45 : decode cX12_laySayings 45 = .ok (.invokevirtual 387, 3) := by decide +kernel
theorem dX12_laySayings_48 : decode cX12_laySayings 48 = .ok (.return_, 1) := by decide +kernel
theorem dX12_putSayings_0 : decode cX12_putSayings 0 = .ok (.iconst 0, 1) := by decide +kernel
theorem dX12_putSayings_1 : decode cX12_putSayings 1 = .ok (.istore_n 1, 1) := by decide +kernel
theorem dX12_putSayings_2 : decode cX12_putSayings 2 = .ok (.iload_n 1, 1) := by decide +kernel
theorem dX12_putSayings_3 : decode cX12_putSayings 3 = .ok (.aload_n 0, 1) := by decide +kernel
theorem dX12_putSayings_4 : decode cX12_putSayings 4 = .ok (.getfield 342, 3) := by decide +kernel
theorem dX12_putSayings_7 : decode cX12_putSayings 7 = .ok (.if_icmp .ge 21, 3) := by decide +kernel
theorem dX12_putSayings_10 : decode cX12_putSayings 10 = .ok (.aload_n 0, 1) := by decide +kernel
theorem dX12_putSayings_11 : decode cX12_putSayings 11 = .ok (.getfield 69, 3) := by decide +kernel
theorem dX12_putSayings_14 : decode cX12_putSayings 14 = .ok (.iload_n 1, 1) := by decide +kernel
theorem dX12_putSayings_15 : decode cX12_putSayings 15 = .ok (.aload_n 0, 1) := by decide +kernel
theorem dX12_putSayings_16 : decode cX12_putSayings 16 = .ok (.getfield 57, 3) := by decide +kernel
theorem dX12_putSayings_19 : decode cX12_putSayings 19 = .ok (.iload_n 1, 1) := by decide +kernel
theorem dX12_putSayings_20 : decode cX12_putSayings 20 = .ok (.iaload, 1) := by decide +kernel
theorem dX12_putSayings_21 : decode cX12_putSayings 21 = .ok (.iastore, 1) := by decide +kernel
theorem dX12_putSayings_22 : decode cX12_putSayings 22 = .ok (.iinc 1 1, 3) := by decide +kernel
theorem dX12_putSayings_25 : decode cX12_putSayings 25 = .ok (.goto (-23), 3) := by decide +kernel
theorem dX12_putSayings_28 : decode cX12_putSayings 28 = .ok (.aload_n 0, 1) := by decide +kernel
theorem dX12_putSayings_29 : decode cX12_putSayings 29 = .ok (.aload_n 0, 1) := by decide +kernel
theorem dX12_putSayings_30 : decode cX12_putSayings 30 = .ok (.getfield 342, 3) := by decide +kernel
theorem dX12_putSayings_33 : decode cX12_putSayings 33 = .ok (.putfield 357, 3) := by decide +kernel
theorem dX12_putSayings_36 : decode cX12_putSayings 36 = .ok (.return_, 1) := by decide +kernel
theorem dX12_shames_0 : decode cX12_shames 0 = .ok (.iconst 0, 1) := by decide +kernel
theorem dX12_shames_1 : decode cX12_shames 1 = .ok (.istore_n 1, 1) := by decide +kernel
theorem dX12_shames_2 : decode cX12_shames 2 = .ok (.iconst 0, 1) := by decide +kernel
theorem dX12_shames_3 : decode cX12_shames 3 = .ok (.istore_n 2, 1) := by decide +kernel
theorem dX12_shames_4 : decode cX12_shames 4 = .ok (.iload_n 2, 1) := by decide +kernel
theorem dX12_shames_5 : decode cX12_shames 5 = .ok (.aload_n 0, 1) := by decide +kernel
theorem dX12_shames_6 : decode cX12_shames 6 = .ok (.getfield 342, 3) := by decide +kernel
theorem dX12_shames_9 : decode cX12_shames 9 = .ok (.if_icmp .ge 39, 3) := by decide +kernel
theorem dX12_shames_12 : decode cX12_shames 12 = .ok (.iload_n 1, 1) := by decide +kernel
theorem dX12_shames_13 : decode cX12_shames 13 = .ok (.aload_n 0, 1) := by decide +kernel
theorem dX12_shames_14 : decode cX12_shames 14 = .ok (.getfield 57, 3) := by decide +kernel
theorem dX12_shames_17 : decode cX12_shames 17 = .ok (.iload_n 2, 1) := by decide +kernel
theorem dX12_shames_18 : decode cX12_shames 18 = .ok (.iaload, 1) := by decide +kernel
theorem dX12_shames_19 : decode cX12_shames 19 = .ok (.ifCond .lt 17, 3) := by decide +kernel
theorem dX12_shames_22 : decode cX12_shames 22 = .ok (.aload_n 0, 1) := by decide +kernel
theorem dX12_shames_23 : decode cX12_shames 23 = .ok (.getfield 57, 3) := by decide +kernel
theorem dX12_shames_26 : decode cX12_shames 26 = .ok (.iload_n 2, 1) := by decide +kernel
theorem dX12_shames_27 : decode cX12_shames 27 = .ok (.iaload, 1) := by decide +kernel
theorem dX12_shames_28 : decode cX12_shames 28 = .ok (.iload_n 2, 1) := by decide +kernel
theorem dX12_shames_29 : decode cX12_shames 29 = .ok (.if_icmp .eq 7, 3) := by decide +kernel
theorem dX12_shames_32 : decode cX12_shames 32 = .ok (.iconst 1, 1) := by decide +kernel
theorem dX12_shames_33 : decode cX12_shames 33 = .ok (.goto 4, 3) := by decide +kernel
theorem dX12_shames_36 : decode cX12_shames 36 = .ok (.iconst 0, 1) := by decide +kernel
theorem dX12_shames_37 : decode cX12_shames 37 = .ok (.invokestatic 278, 3) := by decide +kernel
theorem dX12_shames_40 : decode cX12_shames 40 = .ok (.iadd, 1) := by decide +kernel
theorem dX12_shames_41 : decode cX12_shames 41 = .ok (.istore_n 1, 1) := by decide +kernel
theorem dX12_shames_42 : decode cX12_shames 42 = .ok (.iinc 2 1, 3) := by decide +kernel
theorem dX12_shames_45 : decode cX12_shames 45 = .ok (.goto (-41), 3) := by decide +kernel
theorem dX12_shames_48 : decode cX12_shames 48 = .ok (.iload_n 1, 1) := by decide +kernel
theorem dX12_shames_49 : decode cX12_shames 49 = .ok (.ireturn, 1) := by decide +kernel
theorem dX12_feeds_0 : decode cX12_feeds 0 = .ok (.aload_n 0, 1) := by decide +kernel
theorem dX12_feeds_1 : decode cX12_feeds 1 = .ok (.iconst 0, 1) := by decide +kernel
theorem dX12_feeds_2 : decode cX12_feeds 2 = .ok (.putfield 357, 3) := by decide +kernel
theorem dX12_feeds_5 : decode cX12_feeds 5 = .ok (.iload_n 1, 1) := by decide +kernel
theorem dX12_feeds_6 : decode cX12_feeds 6 = .ok (.iconst 0, 1) := by decide +kernel
theorem dX12_feeds_7 : decode cX12_feeds 7 = .ok (.iconst 1, 1) := by decide +kernel
theorem dX12_feeds_8 : decode cX12_feeds 8 = .ok (.aload_n 0, 1) := by decide +kernel
theorem dX12_feeds_9 : decode cX12_feeds 9 = .ok (.getfield 342, 3) := by decide +kernel
theorem dX12_feeds_12 : decode cX12_feeds 12 = .ok (.ishl, 1) := by decide +kernel
theorem dX12_feeds_13 : decode cX12_feeds 13 = .ok (.iconst 1, 1) := by decide +kernel
theorem dX12_feeds_14 : decode cX12_feeds 14 = .ok (.isub, 1) := by decide +kernel
theorem dX12_feeds_15 : decode cX12_feeds 15 = .ok (.invokestatic 360, 3) := by decide +kernel
theorem dX12_feeds_18 : decode cX12_feeds 18 = .ok (.ifCond .ne 5, 3) := by decide +kernel
theorem dX12_feeds_21 : decode cX12_feeds 21 = .ok (.iconst (-1), 1) := by decide +kernel
theorem dX12_feeds_22 : decode cX12_feeds 22 = .ok (.ireturn, 1) := by decide +kernel
theorem dX12_feeds_23 : decode cX12_feeds 23 = .ok (.iconst (-1), 1) := by decide +kernel
theorem dX12_feeds_24 : decode cX12_feeds 24 = .ok (.istore_n 2, 1) := by decide +kernel
theorem dX12_feeds_25 : decode cX12_feeds 25 = .ok (.aload_n 0, 1) := by decide +kernel
theorem dX12_feeds_26 : decode cX12_feeds 26 = .ok (.invokevirtual 408, 3) := by decide +kernel
theorem dX12_feeds_29 : decode cX12_feeds 29 = .ok (.istore_n 3, 1) := by decide +kernel
theorem dX12_feeds_30 : decode cX12_feeds 30 = .ok (.iconst 0, 1) := by decide +kernel
theorem dX12_feeds_31 : decode cX12_feeds 31 = .ok (.istore 4, 2) := by decide +kernel
theorem dX12_feeds_33 : decode cX12_feeds 33 = .ok (.iload 4, 2) := by decide +kernel
theorem dX12_feeds_35 : decode cX12_feeds 35 = .ok (.iload_n 3, 1) := by decide +kernel
theorem dX12_feeds_36 : decode cX12_feeds 36 = .ok (.if_icmp .ge 50, 3) := by decide +kernel
theorem dX12_feeds_39 : decode cX12_feeds 39 = .ok (.aload_n 0, 1) := by decide +kernel
theorem dX12_feeds_40 : decode cX12_feeds 40 = .ok (.iload 4, 2) := by decide +kernel
theorem dX12_feeds_42 : decode cX12_feeds 42 = .ok (.invokevirtual 411, 3) := by decide +kernel
theorem dX12_feeds_45 : decode cX12_feeds 45 = .ok (.iload_n 1, 1) := by decide +kernel
theorem dX12_feeds_46 : decode cX12_feeds 46 = .ok (.aload_n 0, 1) := by decide +kernel
theorem dX12_feeds_47 : decode cX12_feeds 47 = .ok (.invokevirtual 402, 3) := by decide +kernel
theorem dX12_feeds_50 : decode cX12_feeds 50 = .ok (.iconst (-1), 1) := by decide +kernel
theorem dX12_feeds_51 : decode cX12_feeds 51 = .ok (.ixor, 1) := by decide +kernel
theorem dX12_feeds_52 : decode cX12_feeds 52 = .ok (.iand, 1) := by decide +kernel
theorem dX12_feeds_53 : decode cX12_feeds 53 = .ok (.ifCond .ne 27, 3) := by decide +kernel
theorem dX12_feeds_56 : decode cX12_feeds 56 = .ok (.iload_n 2, 1) := by decide +kernel
theorem dX12_feeds_57 : decode cX12_feeds 57 = .ok (.ifCond .lt 14, 3) := by decide +kernel
theorem dX12_feeds_60 : decode cX12_feeds 60 = .ok (.aload_n 0, 1) := by decide +kernel
theorem dX12_feeds_61 : decode cX12_feeds 61 = .ok (.invokevirtual 414, 3) := by decide +kernel
theorem dX12_feeds_64 : decode cX12_feeds 64 = .ok (.iload_n 2, 1) := by decide +kernel
theorem dX12_feeds_65 : decode cX12_feeds 65 = .ok (.if_icmp .lt 6, 3) := by decide +kernel
theorem dX12_feeds_68 : decode cX12_feeds 68 = .ok (.goto 12, 3) := by decide +kernel
theorem dX12_feeds_71 : decode cX12_feeds 71 = .ok (.aload_n 0, 1) := by decide +kernel
theorem dX12_feeds_72 : decode cX12_feeds 72 = .ok (.invokevirtual 414, 3) := by decide +kernel
theorem dX12_feeds_75 : decode cX12_feeds 75 = .ok (.istore_n 2, 1) := by decide +kernel
theorem dX12_feeds_76 : decode cX12_feeds 76 = .ok (.aload_n 0, 1) := by decide +kernel
theorem dX12_feeds_77 : decode cX12_feeds 77 = .ok (.invokevirtual 417, 3) := by decide +kernel
theorem dX12_feeds_80 : decode cX12_feeds 80 = .ok (.iinc 4 1, 3) := by decide +kernel
theorem dX12_feeds_83 : decode cX12_feeds 83 = .ok (.goto (-50), 3) := by decide +kernel
theorem dX12_feeds_86 : decode cX12_feeds 86 = .ok (.iload_n 2, 1) := by decide +kernel
theorem dX12_feeds_87 : decode cX12_feeds 87 = .ok (.ireturn, 1) := by decide +kernel
theorem dX12_richest_0 : decode cX12_richest 0 = .ok (.iconst (-1), 1) := by decide +kernel
theorem dX12_richest_1 : decode cX12_richest 1 = .ok (.istore_n 1, 1) := by decide +kernel
theorem dX12_richest_2 : decode cX12_richest 2 = .ok (.aload_n 0, 1) := by decide +kernel
theorem dX12_richest_3 : decode cX12_richest 3 = .ok (.invokevirtual 408, 3) := by decide +kernel
theorem dX12_richest_6 : decode cX12_richest 6 = .ok (.istore_n 2, 1) := by decide +kernel
theorem dX12_richest_7 : decode cX12_richest 7 = .ok (.iconst 0, 1) := by decide +kernel
theorem dX12_richest_8 : decode cX12_richest 8 = .ok (.istore_n 3, 1) := by decide +kernel
theorem dX12_richest_9 : decode cX12_richest 9 = .ok (.iload_n 3, 1) := by decide +kernel
theorem dX12_richest_10 : decode cX12_richest 10 = .ok (.iload_n 2, 1) := by decide +kernel
theorem dX12_richest_11 : decode cX12_richest 11 = .ok (.if_icmp .ge 34, 3) := by decide +kernel
theorem dX12_richest_14 : decode cX12_richest 14 = .ok (.aload_n 0, 1) := by decide +kernel
theorem dX12_richest_15 : decode cX12_richest 15 = .ok (.iload_n 3, 1) := by decide +kernel
theorem dX12_richest_16 : decode cX12_richest 16 = .ok (.invokevirtual 411, 3) := by decide +kernel
theorem dX12_richest_19 : decode cX12_richest 19 = .ok (.aload_n 0, 1) := by decide +kernel
theorem dX12_richest_20 : decode cX12_richest 20 = .ok (.invokevirtual 420, 3) := by decide +kernel
theorem dX12_richest_23 : decode cX12_richest 23 = .ok (.iload_n 1, 1) := by decide +kernel
theorem dX12_richest_24 : decode cX12_richest 24 = .ok (.if_icmp .gt 6, 3) := by decide +kernel
theorem dX12_richest_27 : decode cX12_richest 27 = .ok (.goto 12, 3) := by decide +kernel
theorem dX12_richest_30 : decode cX12_richest 30 = .ok (.aload_n 0, 1) := by decide +kernel
theorem dX12_richest_31 : decode cX12_richest 31 = .ok (.invokevirtual 420, 3) := by decide +kernel
theorem dX12_richest_34 : decode cX12_richest 34 = .ok (.istore_n 1, 1) := by decide +kernel
theorem dX12_richest_35 : decode cX12_richest 35 = .ok (.aload_n 0, 1) := by decide +kernel
theorem dX12_richest_36 : decode cX12_richest 36 = .ok (.invokevirtual 417, 3) := by decide +kernel
theorem dX12_richest_39 : decode cX12_richest 39 = .ok (.iinc 3 1, 3) := by decide +kernel
theorem dX12_richest_42 : decode cX12_richest 42 = .ok (.goto (-33), 3) := by decide +kernel
theorem dX12_richest_45 : decode cX12_richest 45 = .ok (.iload_n 1, 1) := by decide +kernel
theorem dX12_richest_46 : decode cX12_richest 46 = .ok (.ireturn, 1) := by decide +kernel
theorem dX12_getsBy_0 : decode cX12_getsBy 0 = .ok (.aload_n 0, 1) := by decide +kernel
theorem dX12_getsBy_1 : decode cX12_getsBy 1 = .ok (.getfield 57, 3) := by decide +kernel
theorem dX12_getsBy_4 : decode cX12_getsBy 4 = .ok (.iload_n 1, 1) := by decide +kernel
theorem dX12_getsBy_5 : decode cX12_getsBy 5 = .ok (.iaload, 1) := by decide +kernel
theorem dX12_getsBy_6 : decode cX12_getsBy 6 = .ok (.istore_n 3, 1) := by decide +kernel
theorem dX12_getsBy_7 : decode cX12_getsBy 7 = .ok (.aload_n 0, 1) := by decide +kernel
theorem dX12_getsBy_8 : decode cX12_getsBy 8 = .ok (.getfield 57, 3) := by decide +kernel
theorem dX12_getsBy_11 : decode cX12_getsBy 11 = .ok (.iload_n 1, 1) := by decide +kernel
theorem dX12_getsBy_12 : decode cX12_getsBy 12 = .ok (.iload_n 2, 1) := by decide +kernel
theorem dX12_getsBy_13 : decode cX12_getsBy 13 = .ok (.iastore, 1) := by decide +kernel
theorem dX12_getsBy_14 : decode cX12_getsBy 14 = .ok (.aload_n 0, 1) := by decide +kernel
theorem dX12_getsBy_15 : decode cX12_getsBy 15 = .ok (.invokevirtual 387, 3) := by decide +kernel
theorem dX12_getsBy_18 : decode cX12_getsBy 18 = .ok (.aload_n 0, 1) := by decide +kernel
theorem dX12_getsBy_19 : decode cX12_getsBy 19 = .ok (.getfield 57, 3) := by decide +kernel
theorem dX12_getsBy_22 : decode cX12_getsBy 22 = .ok (.iload_n 1, 1) := by decide +kernel
theorem dX12_getsBy_23 : decode cX12_getsBy 23 = .ok (.iload_n 3, 1) := by decide +kernel
theorem dX12_getsBy_24 : decode cX12_getsBy 24 = .ok (.iastore, 1) := by decide +kernel
theorem dX12_getsBy_25 : decode cX12_getsBy 25 = .ok (.aload_n 0, 1) := by decide +kernel
theorem dX12_getsBy_26 : decode cX12_getsBy 26 = .ok (.getfield 63, 3) := by decide +kernel
theorem dX12_getsBy_29 : decode cX12_getsBy 29 = .ok (.iload_n 1, 1) := by decide +kernel
theorem dX12_getsBy_30 : decode cX12_getsBy 30 = .ok (.iaload, 1) := by decide +kernel
theorem dX12_getsBy_31 : decode cX12_getsBy 31 = .ok (.ireturn, 1) := by decide +kernel
theorem dX12_mostFor_0 : decode cX12_mostFor 0 = .ok (.iconst 0, 1) := by decide +kernel
theorem dX12_mostFor_1 : decode cX12_mostFor 1 = .ok (.istore_n 2, 1) := by decide +kernel
theorem dX12_mostFor_2 : decode cX12_mostFor 2 = .ok (.iconst (-1), 1) := by decide +kernel
theorem dX12_mostFor_3 : decode cX12_mostFor 3 = .ok (.istore_n 3, 1) := by decide +kernel
theorem dX12_mostFor_4 : decode cX12_mostFor 4 = .ok (.iload_n 3, 1) := by decide +kernel
theorem dX12_mostFor_5 : decode cX12_mostFor 5 = .ok (.aload_n 0, 1) := by decide +kernel
theorem dX12_mostFor_6 : decode cX12_mostFor 6 = .ok (.getfield 342, 3) := by decide +kernel
theorem dX12_mostFor_9 : decode cX12_mostFor 9 = .ok (.if_icmp .ge 30, 3) := by decide +kernel
theorem dX12_mostFor_12 : decode cX12_mostFor 12 = .ok (.aload_n 0, 1) := by decide +kernel
theorem dX12_mostFor_13 : decode cX12_mostFor 13 = .ok (.iload_n 1, 1) := by decide +kernel
theorem dX12_mostFor_14 : decode cX12_mostFor 14 = .ok (.iload_n 3, 1) := by decide +kernel
theorem dX12_mostFor_15 : decode cX12_mostFor 15 = .ok (.invokevirtual 423, 3) := by decide +kernel
theorem dX12_mostFor_18 : decode cX12_mostFor 18 = .ok (.istore 4, 2) := by decide +kernel
theorem dX12_mostFor_20 : decode cX12_mostFor 20 = .ok (.iload 4, 2) := by decide +kernel
theorem dX12_mostFor_22 : decode cX12_mostFor 22 = .ok (.iload_n 2, 1) := by decide +kernel
theorem dX12_mostFor_23 : decode cX12_mostFor 23 = .ok (.if_icmp .le 8, 3) := by decide +kernel
theorem dX12_mostFor_26 : decode cX12_mostFor 26 = .ok (.iload 4, 2) := by decide +kernel
theorem dX12_mostFor_28 : decode cX12_mostFor 28 = .ok (.goto 4, 3) := by decide +kernel
theorem dX12_mostFor_31 : decode cX12_mostFor 31 = .ok (.iload_n 2, 1) := by decide +kernel
theorem dX12_mostFor_32 : decode cX12_mostFor 32 = .ok (.istore_n 2, 1) := by decide +kernel
theorem dX12_mostFor_33 : decode cX12_mostFor 33 = .ok (.iinc 3 1, 3) := by decide +kernel
theorem dX12_mostFor_36 : decode cX12_mostFor 36 = .ok (.goto (-32), 3) := by decide +kernel
theorem dX12_mostFor_39 : decode cX12_mostFor 39 = .ok (.iload_n 2, 1) := by decide +kernel
theorem dX12_mostFor_40 : decode cX12_mostFor 40 = .ok (.ireturn, 1) := by decide +kernel
theorem dX12_isSteadyHere_0 : decode cX12_isSteadyHere 0 = .ok (.iconst 1, 1) := by decide +kernel
theorem dX12_isSteadyHere_1 : decode cX12_isSteadyHere 1 = .ok (.istore_n 1, 1) := by decide +kernel
theorem dX12_isSteadyHere_2 : decode cX12_isSteadyHere 2 = .ok (.iconst 0, 1) := by decide +kernel
theorem dX12_isSteadyHere_3 : decode cX12_isSteadyHere 3 = .ok (.istore_n 2, 1) := by decide +kernel
theorem dX12_isSteadyHere_4 : decode cX12_isSteadyHere 4 = .ok (.iload_n 2, 1) := by decide +kernel
theorem dX12_isSteadyHere_5 : decode cX12_isSteadyHere 5 = .ok (.aload_n 0, 1) := by decide +kernel
theorem dX12_isSteadyHere_6 : decode cX12_isSteadyHere 6 = .ok (.getfield 342, 3) := by decide +kernel
theorem dX12_isSteadyHere_9 : decode cX12_isSteadyHere 9 = .ok (.if_icmp .ge 38, 3) := by decide +kernel
theorem dX12_isSteadyHere_12 : decode cX12_isSteadyHere 12 = .ok (.iload_n 1, 1) := by decide +kernel
theorem dX12_isSteadyHere_13 : decode cX12_isSteadyHere 13 = .ok (.ifCond .eq 34, 3) := by decide +kernel
theorem dX12_isSteadyHere_16 : decode cX12_isSteadyHere 16 = .ok (.aload_n 0, 1) := by decide +kernel
theorem dX12_isSteadyHere_17 : decode cX12_isSteadyHere 17 = .ok (.iload_n 2, 1) := by decide +kernel
theorem dX12_isSteadyHere_18 : decode cX12_isSteadyHere 18 = .ok (.aload_n 0, 1) := by decide +kernel
theorem dX12_isSteadyHere_19 : decode cX12_isSteadyHere 19 = .ok (.getfield 57, 3) := by decide +kernel
theorem dX12_isSteadyHere_22 : decode cX12_isSteadyHere 22 = .ok (.iload_n 2, 1) := by decide +kernel
theorem dX12_isSteadyHere_23 : decode cX12_isSteadyHere 23 = .ok (.iaload, 1) := by decide +kernel
theorem dX12_isSteadyHere_24 : decode cX12_isSteadyHere 24 = .ok (.invokevirtual 423, 3) := by decide +kernel
theorem dX12_isSteadyHere_27 : decode cX12_isSteadyHere 27 = .ok (.aload_n 0, 1) := by decide +kernel
theorem dX12_isSteadyHere_28 : decode cX12_isSteadyHere 28 = .ok (.iload_n 2, 1) := by decide +kernel
theorem dX12_isSteadyHere_29 : decode cX12_isSteadyHere 29 = .ok (.invokevirtual 426, 3) := by decide +kernel
theorem dX12_isSteadyHere_32 : decode cX12_isSteadyHere 32 = .ok (.if_icmp .ne 7, 3) := by decide +kernel
theorem dX12_isSteadyHere_35 : decode cX12_isSteadyHere 35 = .ok (.iconst 1, 1) := by decide +kernel
theorem dX12_isSteadyHere_36 : decode cX12_isSteadyHere 36 = .ok (.goto 4, 3) := by decide +kernel
theorem dX12_isSteadyHere_39 : decode cX12_isSteadyHere 39 = .ok (.iconst 0, 1) := by decide +kernel
theorem dX12_isSteadyHere_40 : decode cX12_isSteadyHere 40 = .ok (.istore_n 1, 1) := by decide +kernel
theorem dX12_isSteadyHere_41 : decode cX12_isSteadyHere 41 = .ok (.iinc 2 1, 3) := by decide +kernel
theorem dX12_isSteadyHere_44 : decode cX12_isSteadyHere 44 = .ok (.goto (-40), 3) := by decide +kernel
theorem dX12_isSteadyHere_47 : decode cX12_isSteadyHere 47 = .ok (.iload_n 1, 1) := by decide +kernel
theorem dX12_isSteadyHere_48 : decode cX12_isSteadyHere 48 = .ok (.ireturn, 1) := by decide +kernel
theorem dX12_steady_0 : decode cX12_steady 0 = .ok (.aload_n 0, 1) := by decide +kernel
theorem dX12_steady_1 : decode cX12_steady 1 = .ok (.iconst 0, 1) := by decide +kernel
theorem dX12_steady_2 : decode cX12_steady 2 = .ok (.putfield 357, 3) := by decide +kernel
theorem dX12_steady_5 : decode cX12_steady 5 = .ok (.iconst 0, 1) := by decide +kernel
theorem dX12_steady_6 : decode cX12_steady 6 = .ok (.istore_n 1, 1) := by decide +kernel
theorem dX12_steady_7 : decode cX12_steady 7 = .ok (.aload_n 0, 1) := by decide +kernel
theorem dX12_steady_8 : decode cX12_steady 8 = .ok (.invokevirtual 408, 3) := by decide +kernel
theorem dX12_steady_11 : decode cX12_steady 11 = .ok (.istore_n 2, 1) := by decide +kernel
theorem dX12_steady_12 : decode cX12_steady 12 = .ok (.iconst 0, 1) := by decide +kernel
theorem dX12_steady_13 : decode cX12_steady 13 = .ok (.istore_n 3, 1) := by decide +kernel
theorem dX12_steady_14 : decode cX12_steady 14 = .ok (.iload_n 3, 1) := by decide +kernel
theorem dX12_steady_15 : decode cX12_steady 15 = .ok (.iload_n 2, 1) := by decide +kernel
theorem dX12_steady_16 : decode cX12_steady 16 = .ok (.if_icmp .ge 35, 3) := by decide +kernel
theorem dX12_steady_19 : decode cX12_steady 19 = .ok (.aload_n 0, 1) := by decide +kernel
theorem dX12_steady_20 : decode cX12_steady 20 = .ok (.iload_n 3, 1) := by decide +kernel
theorem dX12_steady_21 : decode cX12_steady 21 = .ok (.invokevirtual 411, 3) := by decide +kernel
theorem dX12_steady_24 : decode cX12_steady 24 = .ok (.aload_n 0, 1) := by decide +kernel
theorem dX12_steady_25 : decode cX12_steady 25 = .ok (.invokevirtual 429, 3) := by decide +kernel
theorem dX12_steady_28 : decode cX12_steady 28 = .ok (.ifCond .ne 6, 3) := by decide +kernel
theorem dX12_steady_31 : decode cX12_steady 31 = .ok (.goto 14, 3) := by decide +kernel
theorem dX12_steady_34 : decode cX12_steady 34 = .ok (.iload_n 1, 1) := by decide +kernel
theorem dX12_steady_35 : decode cX12_steady 35 = .ok (.ifCond .ne 7, 3) := by decide +kernel
theorem dX12_steady_38 : decode cX12_steady 38 = .ok (.aload_n 0, 1) := by decide +kernel
theorem dX12_steady_39 : decode cX12_steady 39 = .ok (.invokevirtual 417, 3) := by decide +kernel
theorem dX12_steady_42 : decode cX12_steady 42 = .ok (.iinc 1 1, 3) := by decide +kernel
theorem dX12_steady_45 : decode cX12_steady 45 = .ok (.iinc 3 1, 3) := by decide +kernel
theorem dX12_steady_48 : decode cX12_steady 48 = .ok (.goto (-34), 3) := by decide +kernel
theorem dX12_steady_51 : decode cX12_steady 51 = .ok (.iload_n 1, 1) := by decide +kernel
theorem dX12_steady_52 : decode cX12_steady 52 = .ok (.ireturn, 1) := by decide +kernel
theorem dX12_isSteady_0 : decode cX12_isSteady 0 = .ok (.aload_n 0, 1) := by decide +kernel
theorem dX12_isSteady_1 : decode cX12_isSteady 1 = .ok (.invokevirtual 384, 3) := by decide +kernel
theorem dX12_isSteady_4 : decode cX12_isSteady 4 = .ok (.aload_n 0, 1) := by decide +kernel
theorem dX12_isSteady_5 : decode cX12_isSteady 5 = .ok (.invokevirtual 429, 3) := by decide +kernel
theorem dX12_isSteady_8 : decode cX12_isSteady 8 = .ok (.ireturn, 1) := by decide +kernel
theorem dX12_goRound_0 : decode cX12_goRound 0 = .ok (.iconst 0, 1) := by decide +kernel
theorem dX12_goRound_1 : decode cX12_goRound 1 = .ok (.istore_n 1, 1) := by decide +kernel
theorem dX12_goRound_2 : decode cX12_goRound 2 = .ok (.iconst 0, 1) := by decide +kernel
theorem dX12_goRound_3 : decode cX12_goRound 3 = .ok (.istore_n 2, 1) := by decide +kernel
theorem dX12_goRound_4 : decode cX12_goRound 4 = .ok (.iload_n 2, 1) := by decide +kernel
theorem dX12_goRound_5 : decode cX12_goRound 5 = .ok (.aload_n 0, 1) := by decide +kernel
theorem dX12_goRound_6 : decode cX12_goRound 6 = .ok (.getfield 342, 3) := by decide +kernel
theorem dX12_goRound_9 : decode cX12_goRound 9 = .ok (.if_icmp .ge 63, 3) := by decide +kernel
theorem dX12_goRound_12 : decode cX12_goRound 12 = .ok (.aload_n 0, 1) := by decide +kernel
theorem dX12_goRound_13 : decode cX12_goRound 13 = .ok (.iload_n 2, 1) := by decide +kernel
theorem dX12_goRound_14 : decode cX12_goRound 14 = .ok (.invokevirtual 426, 3) := by decide +kernel
theorem dX12_goRound_17 : decode cX12_goRound 17 = .ok (.istore_n 3, 1) := by decide +kernel
theorem dX12_goRound_18 : decode cX12_goRound 18 = .ok (.aload_n 0, 1) := by decide +kernel
theorem dX12_goRound_19 : decode cX12_goRound 19 = .ok (.iload_n 2, 1) := by decide +kernel
theorem dX12_goRound_20 : decode cX12_goRound 20 = .ok (.aload_n 0, 1) := by decide +kernel
theorem dX12_goRound_21 : decode cX12_goRound 21 = .ok (.getfield 57, 3) := by decide +kernel
theorem dX12_goRound_24 : decode cX12_goRound 24 = .ok (.iload_n 2, 1) := by decide +kernel
theorem dX12_goRound_25 : decode cX12_goRound 25 = .ok (.iaload, 1) := by decide +kernel
theorem dX12_goRound_26 : decode cX12_goRound 26 = .ok (.invokevirtual 423, 3) := by decide +kernel
theorem dX12_goRound_29 : decode cX12_goRound 29 = .ok (.iload_n 3, 1) := by decide +kernel
theorem dX12_goRound_30 : decode cX12_goRound 30 = .ok (.if_icmp .ne 6, 3) := by decide +kernel
theorem dX12_goRound_33 : decode cX12_goRound 33 = .ok (.goto 33, 3) := by decide +kernel
theorem dX12_goRound_36 : decode cX12_goRound 36 = .ok (.iconst (-1), 1) := by decide +kernel
theorem dX12_goRound_37 : decode cX12_goRound 37 = .ok (.istore 4, 2) := by decide +kernel
theorem dX12_goRound_39 : decode cX12_goRound 39 = .ok (.aload_n 0, 1) := by decide +kernel
theorem dX12_goRound_40 : decode cX12_goRound 40 = .ok (.iload_n 2, 1) := by decide +kernel
theorem dX12_goRound_41 : decode cX12_goRound 41 = .ok (.iload 4, 2) := by decide +kernel
theorem dX12_goRound_43 : decode cX12_goRound 43 = .ok (.invokevirtual 423, 3) := by decide +kernel
theorem dX12_goRound_46 : decode cX12_goRound 46 = .ok (.iload_n 3, 1) := by decide +kernel
theorem dX12_goRound_47 : decode cX12_goRound 47 = .ok (.if_icmp .ge 9, 3) := by decide +kernel
theorem dX12_goRound_50 : decode cX12_goRound 50 = .ok (.iinc 4 1, 3) := by decide +kernel
theorem dX12_goRound_53 : decode cX12_goRound 53 = .ok (.goto (-14), 3) := by decide +kernel
theorem dX12_goRound_56 : decode cX12_goRound 56 = .ok (.aload_n 0, 1) := by decide +kernel
theorem dX12_goRound_57 : decode cX12_goRound 57 = .ok (.getfield 57, 3) := by decide +kernel
theorem dX12_goRound_60 : decode cX12_goRound 60 = .ok (.iload_n 2, 1) := by decide +kernel
theorem dX12_goRound_61 : decode cX12_goRound 61 = .ok (.iload 4, 2) := by decide +kernel
theorem dX12_goRound_63 : decode cX12_goRound 63 = .ok (.iastore, 1) := by decide +kernel
theorem dX12_goRound_64 : decode cX12_goRound 64 = .ok (.iconst 1, 1) := by decide +kernel
theorem dX12_goRound_65 : decode cX12_goRound 65 = .ok (.istore_n 1, 1) := by decide +kernel
theorem dX12_goRound_66 : decode cX12_goRound 66 = .ok (.iinc 2 1, 3) := by decide +kernel
theorem dX12_goRound_69 : decode cX12_goRound 69 = .ok (.goto (-65), 3) := by decide +kernel
theorem dX12_goRound_72 : decode cX12_goRound 72 = .ok (.iload_n 1, 1) := by decide +kernel
theorem dX12_goRound_73 : decode cX12_goRound 73 = .ok (.ireturn, 1) := by decide +kernel
theorem dX12_rest_0 : decode cX12_rest 0 = .ok (.aload_n 0, 1) := by decide +kernel
theorem dX12_rest_1 : decode cX12_rest 1 = .ok (.iconst 0, 1) := by decide +kernel
theorem dX12_rest_2 : decode cX12_rest 2 = .ok (.putfield 357, 3) := by decide +kernel
theorem dX12_rest_5 : decode cX12_rest 5 = .ok (.aload_n 0, 1) := by decide +kernel
theorem dX12_rest_6 : decode cX12_rest 6 = .ok (.invokevirtual 384, 3) := by decide +kernel
theorem dX12_rest_9 : decode cX12_rest 9 = .ok (.iconst 0, 1) := by decide +kernel
theorem dX12_rest_10 : decode cX12_rest 10 = .ok (.istore_n 1, 1) := by decide +kernel
theorem dX12_rest_11 : decode cX12_rest 11 = .ok (.iload_n 1, 1) := by decide +kernel
theorem dX12_rest_12 : decode cX12_rest 12 = .ok (.bipush 50, 2) := by decide +kernel
theorem dX12_rest_14 : decode cX12_rest 14 = .ok (.if_icmp .gt 25, 3) := by decide +kernel
theorem dX12_rest_17 : decode cX12_rest 17 = .ok (.aload_n 0, 1) := by decide +kernel
theorem dX12_rest_18 : decode cX12_rest 18 = .ok (.invokevirtual 432, 3) := by decide +kernel
theorem dX12_rest_21 : decode cX12_rest 21 = .ok (.ifCond .eq 6, 3) := by decide +kernel
theorem dX12_rest_24 : decode cX12_rest 24 = .ok (.goto 9, 3) := by decide +kernel
theorem dX12_rest_27 : decode cX12_rest 27 = .ok (.aload_n 0, 1) := by decide +kernel
theorem dX12_rest_28 : decode cX12_rest 28 = .ok (.invokevirtual 417, 3) := by decide +kernel
theorem dX12_rest_31 : decode cX12_rest 31 = .ok (.iload_n 1, 1) := by decide +kernel
theorem dX12_rest_32 : decode cX12_rest 32 = .ok (.ireturn, 1) := by decide +kernel
theorem dX12_rest_33 : decode cX12_rest 33 = .ok (.iinc 1 1, 3) := by decide +kernel
theorem dX12_rest_36 : decode cX12_rest 36 = .ok (.goto (-25), 3) := by decide +kernel
theorem dX12_rest_39 : decode cX12_rest 39 = .ok (.iconst (-1), 1) := by decide +kernel
theorem dX12_rest_40 : decode cX12_rest 40 = .ok (.ireturn, 1) := by decide +kernel
theorem dX12_members_0 : decode cX12_members 0 = .ok (.iconst 0, 1) := by decide +kernel
theorem dX12_members_1 : decode cX12_members 1 = .ok (.istore_n 1, 1) := by decide +kernel
theorem dX12_members_2 : decode cX12_members 2 = .ok (.iconst 0, 1) := by decide +kernel
theorem dX12_members_3 : decode cX12_members 3 = .ok (.istore_n 2, 1) := by decide +kernel
theorem dX12_members_4 : decode cX12_members 4 = .ok (.iload_n 2, 1) := by decide +kernel
theorem dX12_members_5 : decode cX12_members 5 = .ok (.iconst 5, 1) := by decide +kernel
theorem dX12_members_6 : decode cX12_members 6 = .ok (.if_icmp .ge 17, 3) := by decide +kernel
theorem dX12_members_9 : decode cX12_members 9 = .ok (.iload_n 1, 1) := by decide +kernel
theorem dX12_members_10 : decode cX12_members 10 = .ok (.iload_n 0, 1) := by decide +kernel
theorem dX12_members_11 : decode cX12_members 11 = .ok (.iload_n 2, 1) := by decide +kernel
theorem dX12_members_12 : decode cX12_members 12 = .ok (.ishr, 1) := by decide +kernel
theorem dX12_members_13 : decode cX12_members 13 = .ok (.iconst 1, 1) := by decide +kernel
theorem dX12_members_14 : decode cX12_members 14 = .ok (.iand, 1) := by decide +kernel
theorem dX12_members_15 : decode cX12_members 15 = .ok (.iadd, 1) := by decide +kernel
theorem dX12_members_16 : decode cX12_members 16 = .ok (.istore_n 1, 1) := by decide +kernel
theorem dX12_members_17 : decode cX12_members 17 = .ok (.iinc 2 1, 3) := by decide +kernel
theorem dX12_members_20 : decode cX12_members 20 = .ok (.goto (-16), 3) := by decide +kernel
theorem dX12_members_23 : decode cX12_members 23 = .ok (.iload_n 1, 1) := by decide +kernel
theorem dX12_members_24 : decode cX12_members 24 = .ok (.ireturn, 1) := by decide +kernel
theorem dX12_silent_0 : decode cX12_silent 0 = .ok (.iconst (-1), 1) := by decide +kernel
theorem dX12_silent_1 : decode cX12_silent 1 = .ok (.istore_n 1, 1) := by decide +kernel
theorem dX12_silent_2 : decode cX12_silent 2 = .ok (.iconst 0, 1) := by decide +kernel
theorem dX12_silent_3 : decode cX12_silent 3 = .ok (.istore_n 2, 1) := by decide +kernel
theorem dX12_silent_4 : decode cX12_silent 4 = .ok (.iload_n 2, 1) := by decide +kernel
theorem dX12_silent_5 : decode cX12_silent 5 = .ok (.iconst 1, 1) := by decide +kernel
theorem dX12_silent_6 : decode cX12_silent 6 = .ok (.aload_n 0, 1) := by decide +kernel
theorem dX12_silent_7 : decode cX12_silent 7 = .ok (.getfield 342, 3) := by decide +kernel
theorem dX12_silent_10 : decode cX12_silent 10 = .ok (.ishl, 1) := by decide +kernel
theorem dX12_silent_11 : decode cX12_silent 11 = .ok (.if_icmp .ge 101, 3) := by decide +kernel
theorem dX12_silent_14 : decode cX12_silent 14 = .ok (.aload_n 0, 1) := by decide +kernel
theorem dX12_silent_15 : decode cX12_silent 15 = .ok (.invokevirtual 384, 3) := by decide +kernel
theorem dX12_silent_18 : decode cX12_silent 18 = .ok (.iconst 1, 1) := by decide +kernel
theorem dX12_silent_19 : decode cX12_silent 19 = .ok (.istore_n 3, 1) := by decide +kernel
theorem dX12_silent_20 : decode cX12_silent 20 = .ok (.iconst 0, 1) := by decide +kernel
theorem dX12_silent_21 : decode cX12_silent 21 = .ok (.istore 4, 2) := by decide +kernel
theorem dX12_silent_23 : decode cX12_silent 23 = .ok (.iload 4, 2) := by decide +kernel
theorem dX12_silent_25 : decode cX12_silent 25 = .ok (.aload_n 0, 1) := by decide +kernel
theorem dX12_silent_26 : decode cX12_silent 26 = .ok (.getfield 342, 3) := by decide +kernel
theorem dX12_silent_29 : decode cX12_silent 29 = .ok (.if_icmp .ge 49, 3) := by decide +kernel
theorem dX12_silent_32 : decode cX12_silent 32 = .ok (.iload_n 2, 1) := by decide +kernel
theorem dX12_silent_33 : decode cX12_silent 33 = .ok (.iload 4, 2) := by decide +kernel
theorem dX12_silent_35 : decode cX12_silent 35 = .ok (.ishr, 1) := by decide +kernel
theorem dX12_silent_36 : decode cX12_silent 36 = .ok (.iconst 1, 1) := by decide +kernel
theorem dX12_silent_37 : decode cX12_silent 37 = .ok (.iand, 1) := by decide +kernel
theorem dX12_silent_38 : decode cX12_silent 38 = .ok (.ifCond .ne 6, 3) := by decide +kernel
theorem dX12_silent_41 : decode cX12_silent 41 = .ok (.goto 31, 3) := by decide +kernel
theorem dX12_silent_44 : decode cX12_silent 44 = .ok (.iload_n 3, 1) := by decide +kernel
theorem dX12_silent_45 : decode cX12_silent 45 = .ok (.ifCond .eq 17, 3) := by decide +kernel
theorem dX12_silent_48 : decode cX12_silent 48 = .ok (.aload_n 0, 1) := by decide +kernel
theorem dX12_silent_49 : decode cX12_silent 49 = .ok (.getfield 57, 3) := by decide +kernel
theorem dX12_silent_52 : decode cX12_silent 52 = .ok (.iload 4, 2) := by decide +kernel
theorem dX12_silent_54 : decode cX12_silent 54 = .ok (.iaload, 1) := by decide +kernel
theorem dX12_silent_55 : decode cX12_silent 55 = .ok (.ifCond .lt 7, 3) := by decide +kernel
theorem dX12_silent_58 : decode cX12_silent 58 = .ok (.iconst 1, 1) := by decide +kernel
theorem dX12_silent_59 : decode cX12_silent 59 = .ok (.goto 4, 3) := by decide +kernel
theorem dX12_silent_62 : decode cX12_silent 62 = .ok (.iconst 0, 1) := by decide +kernel
theorem dX12_silent_63 : decode cX12_silent 63 = .ok (.istore_n 3, 1) := by decide +kernel
theorem dX12_silent_64 : decode cX12_silent 64 = .ok (.aload_n 0, 1) := by decide +kernel
theorem dX12_silent_65 : decode cX12_silent 65 = .ok (.getfield 57, 3) := by decide +kernel
theorem dX12_silent_68 : decode cX12_silent 68 = .ok (.iload 4, 2) := by decide +kernel
theorem dX12_silent_70 : decode cX12_silent 70 = .ok (.iconst (-1), 1) := by decide +kernel
theorem dX12_silent_71 : decode cX12_silent 71 = .ok (.iastore, 1) := by decide +kernel
theorem dX12_silent_72 : decode cX12_silent 72 = .ok (.iinc 4 1, 3) := by decide +kernel
theorem dX12_silent_75 : decode cX12_silent 75 = .ok (.goto (-52), 3) := by decide +kernel
theorem dX12_silent_78 : decode cX12_silent 78 = .ok (.iload_n 3, 1) := by decide +kernel
theorem dX12_silent_79 : decode cX12_silent 79 = .ok (.ifCond .eq 27, 3) := by decide +kernel
theorem dX12_silent_82 : decode cX12_silent 82 = .ok (.aload_n 0, 1) := by decide +kernel
theorem dX12_silent_83 : decode cX12_silent 83 = .ok (.invokevirtual 375, 3) := by decide +kernel
theorem dX12_silent_86 : decode cX12_silent 86 = .ok (.ifCond .ne 20, 3) := by decide +kernel
theorem dX12_silent_89 : decode cX12_silent 89 = .ok (.iload_n 1, 1) := by decide +kernel
theorem dX12_silent_90 : decode cX12_silent 90 = .ok (.ifCond .lt 14, 3) := by decide +kernel
theorem dX12_silent_93 : decode cX12_silent 93 = .ok (.iload_n 2, 1) := by decide +kernel
theorem dX12_silent_94 : decode cX12_silent 94 = .ok (.invokestatic 435, 3) := by decide +kernel
theorem dX12_silent_97 : decode cX12_silent 97 = .ok (.iload_n 1, 1) := by decide +kernel
theorem dX12_silent_98 : decode cX12_silent 98 = .ok (.invokestatic 435, 3) := by decide +kernel
theorem dX12_silent_101 : decode cX12_silent 101 = .ok (.if_icmp .ge 5, 3) := by decide +kernel
theorem dX12_silent_104 : decode cX12_silent 104 = .ok (.iload_n 2, 1) := by decide +kernel
theorem dX12_silent_105 : decode cX12_silent 105 = .ok (.istore_n 1, 1) := by decide +kernel
theorem dX12_silent_106 : decode cX12_silent 106 = .ok (.iinc 2 1, 3) := by decide +kernel
theorem dX12_silent_109 : decode cX12_silent 109 = .ok (.goto (-105), 3) := by decide +kernel
theorem dX12_silent_112 : decode cX12_silent 112 = .ok (.iload_n 1, 1) := by decide +kernel
theorem dX12_silent_113 : decode cX12_silent 113 = .ok (.ireturn, 1) := by decide +kernel
theorem dX12_spoiler_0 : decode cX12_spoiler 0 = .ok (.iload_n 1, 1) := by decide +kernel
theorem dX12_spoiler_1 : decode cX12_spoiler 1 = .ok (.iconst 0, 1) := by decide +kernel
theorem dX12_spoiler_2 : decode cX12_spoiler 2 = .ok (.iconst 1, 1) := by decide +kernel
theorem dX12_spoiler_3 : decode cX12_spoiler 3 = .ok (.invokestatic 360, 3) := by decide +kernel
theorem dX12_spoiler_6 : decode cX12_spoiler 6 = .ok (.ifCond .ne 5, 3) := by decide +kernel
theorem dX12_spoiler_9 : decode cX12_spoiler 9 = .ok (.iconst (-1), 1) := by decide +kernel
theorem dX12_spoiler_10 : decode cX12_spoiler 10 = .ok (.ireturn, 1) := by decide +kernel
theorem dX12_spoiler_11 : decode cX12_spoiler 11 = .ok (.iconst (-1), 1) := by decide +kernel
theorem dX12_spoiler_12 : decode cX12_spoiler 12 = .ok (.istore_n 2, 1) := by decide +kernel
theorem dX12_spoiler_13 : decode cX12_spoiler 13 = .ok (.iconst (-1), 1) := by decide +kernel
theorem dX12_spoiler_14 : decode cX12_spoiler 14 = .ok (.istore_n 3, 1) := by decide +kernel
theorem dX12_spoiler_15 : decode cX12_spoiler 15 = .ok (.iconst 0, 1) := by decide +kernel
theorem dX12_spoiler_16 : decode cX12_spoiler 16 = .ok (.istore 4, 2) := by decide +kernel
theorem dX12_spoiler_18 : decode cX12_spoiler 18 = .ok (.iload 4, 2) := by decide +kernel
theorem dX12_spoiler_20 : decode cX12_spoiler 20 = .ok (.aload_n 0, 1) := by decide +kernel
theorem dX12_spoiler_21 : decode cX12_spoiler 21 = .ok (.getfield 342, 3) := by decide +kernel
theorem dX12_spoiler_24 : decode cX12_spoiler 24 = .ok (.if_icmp .ge 57, 3) := by decide +kernel
theorem dX12_spoiler_27 : decode cX12_spoiler 27 = .ok (.aload_n 0, 1) := by decide +kernel
theorem dX12_spoiler_28 : decode cX12_spoiler 28 = .ok (.invokevirtual 384, 3) := by decide +kernel
theorem dX12_spoiler_31 : decode cX12_spoiler 31 = .ok (.aload_n 0, 1) := by decide +kernel
theorem dX12_spoiler_32 : decode cX12_spoiler 32 = .ok (.getfield 57, 3) := by decide +kernel
theorem dX12_spoiler_35 : decode cX12_spoiler 35 = .ok (.iload 4, 2) := by decide +kernel
theorem dX12_spoiler_37 : decode cX12_spoiler 37 = .ok (.iaload, 1) := by decide +kernel
theorem dX12_spoiler_38 : decode cX12_spoiler 38 = .ok (.ifCond .ge 6, 3) := by decide +kernel
theorem dX12_spoiler_41 : decode cX12_spoiler 41 = .ok (.goto 34, 3) := by decide +kernel
theorem dX12_spoiler_44 : decode cX12_spoiler 44 = .ok (.aload_n 0, 1) := by decide +kernel
theorem dX12_spoiler_45 : decode cX12_spoiler 45 = .ok (.getfield 57, 3) := by decide +kernel
theorem dX12_spoiler_48 : decode cX12_spoiler 48 = .ok (.iload 4, 2) := by decide +kernel
theorem dX12_spoiler_50 : decode cX12_spoiler 50 = .ok (.iconst (-1), 1) := by decide +kernel
theorem dX12_spoiler_51 : decode cX12_spoiler 51 = .ok (.iastore, 1) := by decide +kernel
theorem dX12_spoiler_52 : decode cX12_spoiler 52 = .ok (.aload_n 0, 1) := by decide +kernel
theorem dX12_spoiler_53 : decode cX12_spoiler 53 = .ok (.invokevirtual 387, 3) := by decide +kernel
theorem dX12_spoiler_56 : decode cX12_spoiler 56 = .ok (.aload_n 0, 1) := by decide +kernel
theorem dX12_spoiler_57 : decode cX12_spoiler 57 = .ok (.invokevirtual 420, 3) := by decide +kernel
theorem dX12_spoiler_60 : decode cX12_spoiler 60 = .ok (.iload_n 3, 1) := by decide +kernel
theorem dX12_spoiler_61 : decode cX12_spoiler 61 = .ok (.if_icmp .gt 6, 3) := by decide +kernel
theorem dX12_spoiler_64 : decode cX12_spoiler 64 = .ok (.goto 11, 3) := by decide +kernel
theorem dX12_spoiler_67 : decode cX12_spoiler 67 = .ok (.iload 4, 2) := by decide +kernel
theorem dX12_spoiler_69 : decode cX12_spoiler 69 = .ok (.istore_n 2, 1) := by decide +kernel
theorem dX12_spoiler_70 : decode cX12_spoiler 70 = .ok (.aload_n 0, 1) := by decide +kernel
theorem dX12_spoiler_71 : decode cX12_spoiler 71 = .ok (.invokevirtual 420, 3) := by decide +kernel
theorem dX12_spoiler_74 : decode cX12_spoiler 74 = .ok (.istore_n 3, 1) := by decide +kernel
theorem dX12_spoiler_75 : decode cX12_spoiler 75 = .ok (.iinc 4 1, 3) := by decide +kernel
theorem dX12_spoiler_78 : decode cX12_spoiler 78 = .ok (.goto (-60), 3) := by decide +kernel
theorem dX12_spoiler_81 : decode cX12_spoiler 81 = .ok (.iload_n 1, 1) := by decide +kernel
theorem dX12_spoiler_82 : decode cX12_spoiler 82 = .ok (.ifCond .ne 7, 3) := by decide +kernel
theorem dX12_spoiler_85 : decode cX12_spoiler 85 = .ok (.iload_n 2, 1) := by decide +kernel
theorem dX12_spoiler_86 : decode cX12_spoiler 86 = .ok (.goto 4, 3) := by decide +kernel
theorem dX12_spoiler_89 : decode cX12_spoiler 89 = .ok (.iload_n 3, 1) := by decide +kernel
theorem dX12_spoiler_90 : decode cX12_spoiler 90 = .ok (.ireturn, 1) := by decide +kernel
theorem dX12_claims_0 : decode cX12_claims 0 = .ok (.aload_n 0, 1) := by decide +kernel
theorem dX12_claims_1 : decode cX12_claims 1 = .ok (.iload_n 1, 1) := by decide +kernel
theorem dX12_claims_2 : decode cX12_claims 2 = .ok (.invokevirtual 390, 3) := by decide +kernel
theorem dX12_claims_5 : decode cX12_claims 5 = .ok (.ifCond .ne 5, 3) := by decide +kernel
theorem dX12_claims_8 : decode cX12_claims 8 = .ok (.iconst (-1), 1) := by decide +kernel
theorem dX12_claims_9 : decode cX12_claims 9 = .ok (.ireturn, 1) := by decide +kernel
theorem dX12_claims_10 : decode cX12_claims 10 = .ok (.iconst 0, 1) := by decide +kernel
theorem dX12_claims_11 : decode cX12_claims 11 = .ok (.istore_n 2, 1) := by decide +kernel
theorem dX12_claims_12 : decode cX12_claims 12 = .ok (.iconst 0, 1) := by decide +kernel
theorem dX12_claims_13 : decode cX12_claims 13 = .ok (.istore_n 3, 1) := by decide +kernel
theorem dX12_claims_14 : decode cX12_claims 14 = .ok (.iload_n 3, 1) := by decide +kernel
theorem dX12_claims_15 : decode cX12_claims 15 = .ok (.aload_n 0, 1) := by decide +kernel
theorem dX12_claims_16 : decode cX12_claims 16 = .ok (.getfield 342, 3) := by decide +kernel
theorem dX12_claims_19 : decode cX12_claims 19 = .ok (.if_icmp .ge 34, 3) := by decide +kernel
theorem dX12_claims_22 : decode cX12_claims 22 = .ok (.iload_n 2, 1) := by decide +kernel
theorem dX12_claims_23 : decode cX12_claims 23 = .ok (.aload_n 0, 1) := by decide +kernel
theorem dX12_claims_24 : decode cX12_claims 24 = .ok (.getfield 54, 3) := by decide +kernel
theorem dX12_claims_27 : decode cX12_claims 27 = .ok (.iconst 5, 1) := by decide +kernel
theorem dX12_claims_28 : decode cX12_claims 28 = .ok (.iload_n 3, 1) := by decide +kernel
theorem dX12_claims_29 : decode cX12_claims 29 = .ok (.iadd, 1) := by decide +kernel
theorem dX12_claims_30 : decode cX12_claims 30 = .ok (.iaload, 1) := by decide +kernel
theorem dX12_claims_31 : decode cX12_claims 31 = .ok (.iload_n 1, 1) := by decide +kernel
theorem dX12_claims_32 : decode cX12_claims 32 = .ok (.if_icmp .ne 7, 3) := by decide +kernel
theorem dX12_claims_35 : decode cX12_claims 35 = .ok (.iconst 1, 1) := by decide +kernel
theorem dX12_claims_36 : decode cX12_claims 36 = .ok (.goto 4, 3) := by decide +kernel
theorem dX12_claims_39 : decode cX12_claims 39 = .ok (.iconst 0, 1) := by decide +kernel
theorem dX12_claims_40 : decode cX12_claims 40 = .ok (.invokestatic 278, 3) := by decide +kernel
theorem dX12_claims_43 : decode cX12_claims 43 = .ok (.iload_n 3, 1) := by decide +kernel
theorem dX12_claims_44 : decode cX12_claims 44 = .ok (.ishl, 1) := by decide +kernel
theorem dX12_claims_45 : decode cX12_claims 45 = .ok (.ior, 1) := by decide +kernel
theorem dX12_claims_46 : decode cX12_claims 46 = .ok (.istore_n 2, 1) := by decide +kernel
theorem dX12_claims_47 : decode cX12_claims 47 = .ok (.iinc 3 1, 3) := by decide +kernel
theorem dX12_claims_50 : decode cX12_claims 50 = .ok (.goto (-36), 3) := by decide +kernel
theorem dX12_claims_53 : decode cX12_claims 53 = .ok (.iload_n 2, 1) := by decide +kernel
theorem dX12_claims_54 : decode cX12_claims 54 = .ok (.ireturn, 1) := by decide +kernel
theorem dX12_isPeace_0 : decode cX12_isPeace 0 = .ok (.iconst 1, 1) := by decide +kernel
theorem dX12_isPeace_1 : decode cX12_isPeace 1 = .ok (.istore_n 2, 1) := by decide +kernel
theorem dX12_isPeace_2 : decode cX12_isPeace 2 = .ok (.iconst 0, 1) := by decide +kernel
theorem dX12_isPeace_3 : decode cX12_isPeace 3 = .ok (.istore_n 3, 1) := by decide +kernel
theorem dX12_isPeace_4 : decode cX12_isPeace 4 = .ok (.iload_n 3, 1) := by decide +kernel
theorem dX12_isPeace_5 : decode cX12_isPeace 5 = .ok (.aload_n 0, 1) := by decide +kernel
theorem dX12_isPeace_6 : decode cX12_isPeace 6 = .ok (.getfield 342, 3) := by decide +kernel
theorem dX12_isPeace_9 : decode cX12_isPeace 9 = .ok (.if_icmp .ge 63, 3) := by decide +kernel
theorem dX12_isPeace_12 : decode cX12_isPeace 12 = .ok (.iconst 0, 1) := by decide +kernel
theorem dX12_isPeace_13 : decode cX12_isPeace 13 = .ok (.istore 4, 2) := by decide +kernel
theorem dX12_isPeace_15 : decode cX12_isPeace 15 = .ok (.iload 4, 2) := by decide +kernel
theorem dX12_isPeace_17 : decode cX12_isPeace 17 = .ok (.iload_n 3, 1) := by decide +kernel
theorem dX12_isPeace_18 : decode cX12_isPeace 18 = .ok (.if_icmp .ge 48, 3) := by decide +kernel
theorem dX12_isPeace_21 : decode cX12_isPeace 21 = .ok (.iload_n 2, 1) := by decide +kernel
theorem dX12_isPeace_22 : decode cX12_isPeace 22 = .ok (.ifCond .eq 36, 3) := by decide +kernel
theorem dX12_isPeace_25 : decode cX12_isPeace 25 = .ok (.iload_n 1, 1) := by decide +kernel
theorem dX12_isPeace_26 : decode cX12_isPeace 26 = .ok (.iload_n 3, 1) := by decide +kernel
theorem dX12_isPeace_27 : decode cX12_isPeace 27 = .ok (.ishr, 1) := by decide +kernel
theorem dX12_isPeace_28 : decode cX12_isPeace 28 = .ok (.iconst 1, 1) := by decide +kernel
theorem dX12_isPeace_29 : decode cX12_isPeace 29 = .ok (.iand, 1) := by decide +kernel
theorem dX12_isPeace_30 : decode cX12_isPeace 30 = .ok (.iconst 1, 1) := by decide +kernel
theorem dX12_isPeace_31 : decode cX12_isPeace 31 = .ok (.if_icmp .ne 23, 3) := by decide +kernel
theorem dX12_isPeace_34 : decode cX12_isPeace 34 = .ok (.iload_n 1, 1) := by decide +kernel
theorem dX12_isPeace_35 : decode cX12_isPeace 35 = .ok (.iload 4, 2) := by decide +kernel
theorem dX12_isPeace_37 : decode cX12_isPeace 37 = .ok (.ishr, 1) := by decide +kernel
theorem dX12_isPeace_38 : decode cX12_isPeace 38 = .ok (.iconst 1, 1) := by decide +kernel
theorem dX12_isPeace_39 : decode cX12_isPeace 39 = .ok (.iand, 1) := by decide +kernel
theorem dX12_isPeace_40 : decode cX12_isPeace 40 = .ok (.iconst 1, 1) := by decide +kernel
theorem dX12_isPeace_41 : decode cX12_isPeace 41 = .ok (.if_icmp .ne 13, 3) := by decide +kernel
theorem dX12_isPeace_44 : decode cX12_isPeace 44 = .ok (.aload_n 0, 1) := by decide +kernel
theorem dX12_isPeace_45 : decode cX12_isPeace 45 = .ok (.iload_n 3, 1) := by decide +kernel
theorem dX12_isPeace_46 : decode cX12_isPeace 46 = .ok (.iload 4, 2) := by decide +kernel
theorem dX12_isPeace_48 : decode cX12_isPeace 48 = .ok (.invokevirtual 364, 3) := by decide +kernel
theorem dX12_isPeace_51 : decode cX12_isPeace 51 = .ok (.ifCond .ne 7, 3) := by decide +kernel
theorem dX12_isPeace_54 : decode cX12_isPeace 54 = .ok (.iconst 1, 1) := by decide +kernel
theorem dX12_isPeace_55 : decode cX12_isPeace 55 = .ok (.goto 4, 3) := by decide +kernel
theorem dX12_isPeace_58 : decode cX12_isPeace 58 = .ok (.iconst 0, 1) := by decide +kernel
theorem dX12_isPeace_59 : decode cX12_isPeace 59 = .ok (.istore_n 2, 1) := by decide +kernel
theorem dX12_isPeace_60 : decode cX12_isPeace 60 = .ok (.iinc 4 1, 3) := by decide +kernel
theorem dX12_isPeace_63 : decode cX12_isPeace 63 = .ok (.goto (-48), 3) := by decide +kernel
theorem dX12_isPeace_66 : decode cX12_isPeace 66 = .ok (.iinc 3 1, 3) := by decide +kernel
theorem dX12_isPeace_69 : decode cX12_isPeace 69 = .ok (.goto (-65), 3) := by decide +kernel
theorem dX12_isPeace_72 : decode cX12_isPeace 72 = .ok (.iload_n 2, 1) := by decide +kernel
theorem dX12_isPeace_73 : decode cX12_isPeace 73 = .ok (.ireturn, 1) := by decide +kernel
theorem dX12_peace_0 : decode cX12_peace 0 = .ok (.iconst 0, 1) := by decide +kernel
theorem dX12_peace_1 : decode cX12_peace 1 = .ok (.istore_n 2, 1) := by decide +kernel
theorem dX12_peace_2 : decode cX12_peace 2 = .ok (.iconst 1, 1) := by decide +kernel
theorem dX12_peace_3 : decode cX12_peace 3 = .ok (.istore_n 3, 1) := by decide +kernel
theorem dX12_peace_4 : decode cX12_peace 4 = .ok (.iload_n 3, 1) := by decide +kernel
theorem dX12_peace_5 : decode cX12_peace 5 = .ok (.iconst 1, 1) := by decide +kernel
theorem dX12_peace_6 : decode cX12_peace 6 = .ok (.aload_n 0, 1) := by decide +kernel
theorem dX12_peace_7 : decode cX12_peace 7 = .ok (.getfield 342, 3) := by decide +kernel
theorem dX12_peace_10 : decode cX12_peace 10 = .ok (.ishl, 1) := by decide +kernel
theorem dX12_peace_11 : decode cX12_peace 11 = .ok (.if_icmp .ge 30, 3) := by decide +kernel
theorem dX12_peace_14 : decode cX12_peace 14 = .ok (.iload_n 3, 1) := by decide +kernel
theorem dX12_peace_15 : decode cX12_peace 15 = .ok (.invokestatic 435, 3) := by decide +kernel
theorem dX12_peace_18 : decode cX12_peace 18 = .ok (.iload_n 2, 1) := by decide +kernel
theorem dX12_peace_19 : decode cX12_peace 19 = .ok (.invokestatic 435, 3) := by decide +kernel
theorem dX12_peace_22 : decode cX12_peace 22 = .ok (.if_icmp .le 13, 3) := by decide +kernel
theorem dX12_peace_25 : decode cX12_peace 25 = .ok (.aload_n 0, 1) := by decide +kernel
theorem dX12_peace_26 : decode cX12_peace 26 = .ok (.iload_n 3, 1) := by decide +kernel
theorem dX12_peace_27 : decode cX12_peace 27 = .ok (.invokevirtual 438, 3) := by decide +kernel
theorem dX12_peace_30 : decode cX12_peace 30 = .ok (.ifCond .eq 5, 3) := by decide +kernel
theorem dX12_peace_33 : decode cX12_peace 33 = .ok (.iload_n 3, 1) := by decide +kernel
theorem dX12_peace_34 : decode cX12_peace 34 = .ok (.istore_n 2, 1) := by decide +kernel
theorem dX12_peace_35 : decode cX12_peace 35 = .ok (.iinc 3 1, 3) := by decide +kernel
theorem dX12_peace_38 : decode cX12_peace 38 = .ok (.goto (-34), 3) := by decide +kernel
theorem dX12_peace_41 : decode cX12_peace 41 = .ok (.iload_n 1, 1) := by decide +kernel
theorem dX12_peace_42 : decode cX12_peace 42 = .ok (.ifCond .ne 10, 3) := by decide +kernel
theorem dX12_peace_45 : decode cX12_peace 45 = .ok (.iload_n 2, 1) := by decide +kernel
theorem dX12_peace_46 : decode cX12_peace 46 = .ok (.invokestatic 435, 3) := by decide +kernel
theorem dX12_peace_49 : decode cX12_peace 49 = .ok (.goto 13, 3) := by decide +kernel
theorem dX12_peace_52 : decode cX12_peace 52 = .ok (.iload_n 1, 1) := by decide +kernel
theorem dX12_peace_53 : decode cX12_peace 53 = .ok (.iconst 1, 1) := by decide +kernel
theorem dX12_peace_54 : decode cX12_peace 54 = .ok (.if_icmp .ne 7, 3) := by decide +kernel
theorem dX12_peace_57 : decode cX12_peace 57 = .ok (.iload_n 2, 1) := by decide +kernel
theorem dX12_peace_58 : decode cX12_peace 58 = .ok (.goto 4, 3) := by decide +kernel
theorem dX12_peace_61 : decode cX12_peace 61 = .ok (.iconst (-1), 1) := by decide +kernel
theorem dX12_peace_62 : decode cX12_peace 62 = .ok (.ireturn, 1) := by decide +kernel
theorem dX12_arePairs_0 : decode cX12_arePairs 0 = .ok (.iconst 1, 1) := by decide +kernel
theorem dX12_arePairs_1 : decode cX12_arePairs 1 = .ok (.istore_n 1, 1) := by decide +kernel
theorem dX12_arePairs_2 : decode cX12_arePairs 2 = .ok (.iconst 0, 1) := by decide +kernel
theorem dX12_arePairs_3 : decode cX12_arePairs 3 = .ok (.istore_n 2, 1) := by decide +kernel
theorem dX12_arePairs_4 : decode cX12_arePairs 4 = .ok (.iload_n 2, 1) := by decide +kernel
theorem dX12_arePairs_5 : decode cX12_arePairs 5 = .ok (.aload_n 0, 1) := by decide +kernel
theorem dX12_arePairs_6 : decode cX12_arePairs 6 = .ok (.getfield 342, 3) := by decide +kernel
theorem dX12_arePairs_9 : decode cX12_arePairs 9 = .ok (.if_icmp .ge 67, 3) := by decide +kernel
theorem dX12_arePairs_12 : decode cX12_arePairs 12 = .ok (.iload_n 1, 1) := by decide +kernel
theorem dX12_arePairs_13 : decode cX12_arePairs 13 = .ok (.ifCond .eq 55, 3) := by decide +kernel
theorem dX12_arePairs_16 : decode cX12_arePairs 16 = .ok (.aload_n 0, 1) := by decide +kernel
theorem dX12_arePairs_17 : decode cX12_arePairs 17 = .ok (.getfield 57, 3) := by decide +kernel
theorem dX12_arePairs_20 : decode cX12_arePairs 20 = .ok (.iload_n 2, 1) := by decide +kernel
theorem dX12_arePairs_21 : decode cX12_arePairs 21 = .ok (.iaload, 1) := by decide +kernel
theorem dX12_arePairs_22 : decode cX12_arePairs 22 = .ok (.ifCond .lt 42, 3) := by decide +kernel
theorem dX12_arePairs_25 : decode cX12_arePairs 25 = .ok (.aload_n 0, 1) := by decide +kernel
theorem dX12_arePairs_26 : decode cX12_arePairs 26 = .ok (.getfield 57, 3) := by decide +kernel
theorem dX12_arePairs_29 : decode cX12_arePairs 29 = .ok (.iload_n 2, 1) := by decide +kernel
theorem dX12_arePairs_30 : decode cX12_arePairs 30 = .ok (.iaload, 1) := by decide +kernel
theorem dX12_arePairs_31 : decode cX12_arePairs 31 = .ok (.iload_n 2, 1) := by decide +kernel
theorem dX12_arePairs_32 : decode cX12_arePairs 32 = .ok (.if_icmp .eq 36, 3) := by decide +kernel
theorem dX12_arePairs_35 : decode cX12_arePairs 35 = .ok (.aload_n 0, 1) := by decide +kernel
theorem dX12_arePairs_36 : decode cX12_arePairs 36 = .ok (.getfield 57, 3) := by decide +kernel
theorem dX12_arePairs_39 : decode cX12_arePairs 39 = .ok (.aload_n 0, 1) := by decide +kernel
theorem dX12_arePairs_40 : decode cX12_arePairs 40 = .ok (.getfield 57, 3) := by decide +kernel
theorem dX12_arePairs_43 : decode cX12_arePairs 43 = .ok (.iload_n 2, 1) := by decide +kernel
theorem dX12_arePairs_44 : decode cX12_arePairs 44 = .ok (.iaload, 1) := by decide +kernel
theorem dX12_arePairs_45 : decode cX12_arePairs 45 = .ok (.iaload, 1) := by decide +kernel
theorem dX12_arePairs_46 : decode cX12_arePairs 46 = .ok (.iload_n 2, 1) := by decide +kernel
theorem dX12_arePairs_47 : decode cX12_arePairs 47 = .ok (.if_icmp .ne 21, 3) := by decide +kernel
theorem dX12_arePairs_50 : decode cX12_arePairs 50 = .ok (.aload_n 0, 1) := by decide +kernel
theorem dX12_arePairs_51 : decode cX12_arePairs 51 = .ok (.iload_n 2, 1) := by decide +kernel
theorem dX12_arePairs_52 : decode cX12_arePairs 52 = .ok (.aload_n 0, 1) := by decide +kernel
theorem dX12_arePairs_53 : decode cX12_arePairs 53 = .ok (.getfield 57, 3) := by decide +kernel
theorem dX12_arePairs_56 : decode cX12_arePairs 56 = .ok (.iload_n 2, 1) := by decide +kernel
theorem dX12_arePairs_57 : decode cX12_arePairs 57 = .ok (.iaload, 1) := by decide +kernel
theorem dX12_arePairs_58 : decode cX12_arePairs 58 = .ok (.invokevirtual 364, 3) := by decide +kernel
theorem dX12_arePairs_61 : decode cX12_arePairs 61 = .ok (.ifCond .ne 7, 3) := by decide +kernel
theorem dX12_arePairs_64 : decode cX12_arePairs 64 = .ok (.iconst 1, 1) := by decide +kernel
theorem dX12_arePairs_65 : decode cX12_arePairs 65 = .ok (.goto 4, 3) := by decide +kernel
theorem dX12_arePairs_68 : decode cX12_arePairs 68 = .ok (.iconst 0, 1) := by decide +kernel
theorem dX12_arePairs_69 : decode cX12_arePairs 69 = .ok (.istore_n 1, 1) := by decide +kernel
theorem dX12_arePairs_70 : decode cX12_arePairs 70 = .ok (.iinc 2 1, 3) := by decide +kernel
theorem dX12_arePairs_73 : decode cX12_arePairs 73 = .ok (.goto (-69), 3) := by decide +kernel
theorem dX12_arePairs_76 : decode cX12_arePairs 76 = .ok (.iload_n 1, 1) := by decide +kernel
theorem dX12_arePairs_77 : decode cX12_arePairs 77 = .ok (.ireturn, 1) := by decide +kernel
theorem dX12_pairs_0 : decode cX12_pairs 0 = .ok (.iconst (-1), 1) := by decide +kernel
theorem dX12_pairs_1 : decode cX12_pairs 1 = .ok (.istore_n 1, 1) := by decide +kernel
theorem dX12_pairs_2 : decode cX12_pairs 2 = .ok (.aload_n 0, 1) := by decide +kernel
theorem dX12_pairs_3 : decode cX12_pairs 3 = .ok (.invokevirtual 408, 3) := by decide +kernel
theorem dX12_pairs_6 : decode cX12_pairs 6 = .ok (.istore_n 2, 1) := by decide +kernel
theorem dX12_pairs_7 : decode cX12_pairs 7 = .ok (.aload_n 0, 1) := by decide +kernel
theorem dX12_pairs_8 : decode cX12_pairs 8 = .ok (.invokevirtual 393, 3) := by decide +kernel
theorem dX12_pairs_11 : decode cX12_pairs 11 = .ok (.aload_n 0, 1) := by decide +kernel
theorem dX12_pairs_12 : decode cX12_pairs 12 = .ok (.invokevirtual 372, 3) := by decide +kernel
theorem dX12_pairs_15 : decode cX12_pairs 15 = .ok (.istore_n 3, 1) := by decide +kernel
theorem dX12_pairs_16 : decode cX12_pairs 16 = .ok (.iconst 0, 1) := by decide +kernel
theorem dX12_pairs_17 : decode cX12_pairs 17 = .ok (.istore 4, 2) := by decide +kernel
theorem dX12_pairs_19 : decode cX12_pairs 19 = .ok (.iload 4, 2) := by decide +kernel
theorem dX12_pairs_21 : decode cX12_pairs 21 = .ok (.aload_n 0, 1) := by decide +kernel
theorem dX12_pairs_22 : decode cX12_pairs 22 = .ok (.getfield 342, 3) := by decide +kernel
theorem dX12_pairs_25 : decode cX12_pairs 25 = .ok (.if_icmp .ge 23, 3) := by decide +kernel
