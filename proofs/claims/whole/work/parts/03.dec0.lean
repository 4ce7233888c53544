theorem dX0_init_0 : decode cX0_init 0 = .ok (.aload_n 0, 1) := by decide +kernel
theorem dX0_init_1 : decode cX0_init 1 = .ok (.invokespecial 3, 3) := by decide +kernel
theorem dX0_init_4 : decode cX0_init 4 = .ok (.aload_n 0, 1) := by decide +kernel
theorem dX0_init_5 : decode cX0_init 5 = .ok (.iconst 5, 1) := by decide +kernel
theorem dX0_init_6 : decode cX0_init 6 = .ok (.newarray .int, 2) := by decide +kernel
theorem dX0_init_8 : decode cX0_init 8 = .ok (.putfield 9, 3) := by decide +kernel
theorem dX0_init_11 : decode cX0_init 11 = .ok (.aload_n 0, 1) := by decide +kernel
theorem dX0_init_12 : decode cX0_init 12 = .ok (.iconst 5, 1) := by decide +kernel
theorem dX0_init_13 : decode cX0_init 13 = .ok (.newarray .int, 2) := by decide +kernel
theorem dX0_init_15 : decode cX0_init 15 = .ok (.putfield 15, 3) := by decide +kernel
theorem dX0_init_18 : decode cX0_init 18 = .ok (.aload_n 0, 1) := by decide +kernel
theorem dX0_init_19 : decode cX0_init 19 = .ok (.bipush 30, 2) := by decide +kernel
theorem dX0_init_21 : decode cX0_init 21 = .ok (.newarray .int, 2) := by decide +kernel
theorem dX0_init_23 : decode cX0_init 23 = .ok (.putfield 18, 3) := by decide +kernel
theorem dX0_init_26 : decode cX0_init 26 = .ok (.aload_n 0, 1) := by decide +kernel
theorem dX0_init_27 : decode cX0_init 27 = .ok (.bipush 32, 2) := by decide +kernel
theorem dX0_init_29 : decode cX0_init 29 = .ok (.newarray .boolean, 2) := by decide +kernel
theorem dX0_init_31 : decode cX0_init 31 = .ok (.putfield 21, 3) := by decide +kernel
theorem dX0_init_34 : decode cX0_init 34 = .ok (.aload_n 0, 1) := by decide +kernel
theorem dX0_init_35 : decode cX0_init 35 = .ok (.aload_n 1, 1) := by decide +kernel
theorem dX0_init_36 : decode cX0_init 36 = .ok (.putfield 25, 3) := by decide +kernel
theorem dX0_init_39 : decode cX0_init 39 = .ok (.aload_n 0, 1) := by decide +kernel
theorem dX0_init_40 : decode cX0_init 40 = .ok (.aload_n 2, 1) := by decide +kernel
theorem dX0_init_41 : decode cX0_init 41 = .ok (.putfield 29, 3) := by decide +kernel
theorem dX0_init_44 : decode cX0_init 44 = .ok (.return_, 1) := by decide +kernel
theorem dX0_lookAtNow_0 : decode cX0_lookAtNow 0 = .ok (.aload_n 0, 1) := by decide +kernel
theorem dX0_lookAtNow_1 : decode cX0_lookAtNow 1 = .ok (.getfield 18, 3) := by decide +kernel
theorem dX0_lookAtNow_4 : decode cX0_lookAtNow 4 = .ok (.iconst (-1), 1) := by decide +kernel
theorem dX0_lookAtNow_5 : decode cX0_lookAtNow 5 = .ok (.invokestatic 33, 3) := by decide +kernel
theorem dX0_lookAtNow_8 : decode cX0_lookAtNow 8 = .ok (.iconst 0, 1) := by decide +kernel
theorem dX0_lookAtNow_9 : decode cX0_lookAtNow 9 = .ok (.istore_n 1, 1) := by decide +kernel
theorem dX0_lookAtNow_10 : decode cX0_lookAtNow 10 = .ok (.iload_n 1, 1) := by decide +kernel
theorem dX0_lookAtNow_11 : decode cX0_lookAtNow 11 = .ok (.aload_n 0, 1) := by decide +kernel
theorem dX0_lookAtNow_12 : decode cX0_lookAtNow 12 = .ok (.getfield 21, 3) := by decide +kernel
theorem dX0_lookAtNow_15 : decode cX0_lookAtNow 15 = .ok (.arraylength, 1) := by decide +kernel
theorem dX0_lookAtNow_16 : decode cX0_lookAtNow 16 = .ok (.if_icmp .ge 23, 3) := by decide +kernel
theorem dX0_lookAtNow_19 : decode cX0_lookAtNow 19 = .ok (.aload_n 0, 1) := by decide +kernel
theorem dX0_lookAtNow_20 : decode cX0_lookAtNow 20 = .ok (.getfield 21, 3) := by decide +kernel
theorem dX0_lookAtNow_23 : decode cX0_lookAtNow 23 = .ok (.iload_n 1, 1) := by decide +kernel
theorem dX0_lookAtNow_24 : decode cX0_lookAtNow 24 = .ok (.aload_n 0, 1) := by decide +kernel
theorem dX0_lookAtNow_25 : decode cX0_lookAtNow 25 = .ok (.getfield 29, 3) := by decide +kernel
theorem dX0_lookAtNow_28 : decode cX0_lookAtNow 28 = .ok (.iload_n 1, 1) := by decide +kernel
theorem dX0_lookAtNow_29 : decode cX0_lookAtNow 29 = .ok (.invokevirtual 39, 3) := by decide +kernel
theorem dX0_lookAtNow_32 : decode cX0_lookAtNow 32 = .ok (.bastore, 1) := by decide +kernel
theorem dX0_lookAtNow_33 : decode cX0_lookAtNow 33 = .ok (.iinc 1 1, 3) := by decide +kernel
theorem dX0_lookAtNow_36 : decode cX0_lookAtNow 36 = .ok (.goto (-26), 3) := by decide +kernel
theorem dX0_lookAtNow_39 : decode cX0_lookAtNow 39 = .ok (.aload_n 0, 1) := by decide +kernel
theorem dX0_lookAtNow_40 : decode cX0_lookAtNow 40 = .ok (.invokevirtual 45, 3) := by decide +kernel
theorem dX0_lookAtNow_43 : decode cX0_lookAtNow 43 = .ok (.iconst 0, 1) := by decide +kernel
theorem dX0_lookAtNow_44 : decode cX0_lookAtNow 44 = .ok (.istore_n 1, 1) := by decide +kernel
theorem dX0_lookAtNow_45 : decode cX0_lookAtNow 45 = .ok (.iload_n 1, 1) := by decide +kernel
theorem dX0_lookAtNow_46 : decode cX0_lookAtNow 46 = .ok (.aload_n 0, 1) := by decide +kernel
theorem dX0_lookAtNow_47 : decode cX0_lookAtNow 47 = .ok (.getfield 25, 3) := by decide +kernel
theorem dX0_lookAtNow_50 : decode cX0_lookAtNow 50 = .ok (.getfield 48, 3) := by decide +kernel
theorem dX0_lookAtNow_53 : decode cX0_lookAtNow 53 = .ok (.if_icmp .ge 23, 3) := by decide +kernel
theorem dX0_lookAtNow_56 : decode cX0_lookAtNow 56 = .ok (.aload_n 0, 1) := by decide +kernel
theorem dX0_lookAtNow_57 : decode cX0_lookAtNow 57 = .ok (.iload_n 1, 1) := by decide +kernel
theorem dX0_lookAtNow_58 : decode cX0_lookAtNow 58 = .ok (.aload_n 0, 1) := by decide +kernel
theorem dX0_lookAtNow_59 : decode cX0_lookAtNow 59 = .ok (.getfield 29, 3) := by decide +kernel
theorem dX0_lookAtNow_62 : decode cX0_lookAtNow 62 = .ok (.getfield 54, 3) := by decide +kernel
theorem dX0_lookAtNow_65 : decode cX0_lookAtNow 65 = .ok (.iload_n 1, 1) := by decide +kernel
theorem dX0_lookAtNow_66 : decode cX0_lookAtNow 66 = .ok (.iaload, 1) := by decide +kernel
theorem dX0_lookAtNow_67 : decode cX0_lookAtNow 67 = .ok (.invokevirtual 55, 3) := by decide +kernel
theorem dX0_lookAtNow_70 : decode cX0_lookAtNow 70 = .ok (.iinc 1 1, 3) := by decide +kernel
theorem dX0_lookAtNow_73 : decode cX0_lookAtNow 73 = .ok (.goto (-28), 3) := by decide +kernel
theorem dX0_lookAtNow_76 : decode cX0_lookAtNow 76 = .ok (.return_, 1) := by decide +kernel
theorem dX0_hush_0 : decode cX0_hush 0 = .ok (.aload_n 0, 1) := by decide +kernel
theorem dX0_hush_1 : decode cX0_hush 1 = .ok (.iconst 0, 1) := by decide +kernel
theorem dX0_hush_2 : decode cX0_hush 2 = .ok (.putfield 59, 3) := by decide +kernel
theorem dX0_hush_5 : decode cX0_hush 5 = .ok (.aload_n 0, 1) := by decide +kernel
theorem dX0_hush_6 : decode cX0_hush 6 = .ok (.getfield 9, 3) := by decide +kernel
theorem dX0_hush_9 : decode cX0_hush 9 = .ok (.iconst (-1), 1) := by decide +kernel
theorem dX0_hush_10 : decode cX0_hush 10 = .ok (.invokestatic 33, 3) := by decide +kernel
theorem dX0_hush_13 : decode cX0_hush 13 = .ok (.aload_n 0, 1) := by decide +kernel
theorem dX0_hush_14 : decode cX0_hush 14 = .ok (.getfield 15, 3) := by decide +kernel
theorem dX0_hush_17 : decode cX0_hush 17 = .ok (.iconst 0, 1) := by decide +kernel
theorem dX0_hush_18 : decode cX0_hush 18 = .ok (.invokestatic 33, 3) := by decide +kernel
theorem dX0_hush_21 : decode cX0_hush 21 = .ok (.return_, 1) := by decide +kernel
theorem dX0_put_0 : decode cX0_put 0 = .ok (.iload_n 1, 1) := by decide +kernel
theorem dX0_put_1 : decode cX0_put 1 = .ok (.ifCond .lt 18, 3) := by decide +kernel
theorem dX0_put_4 : decode cX0_put 4 = .ok (.iload_n 1, 1) := by decide +kernel
theorem dX0_put_5 : decode cX0_put 5 = .ok (.iconst 5, 1) := by decide +kernel
theorem dX0_put_6 : decode cX0_put 6 = .ok (.if_icmp .ge 13, 3) := by decide +kernel
theorem dX0_put_9 : decode cX0_put 9 = .ok (.iload_n 2, 1) := by decide +kernel
theorem dX0_put_10 : decode cX0_put 10 = .ok (.iconst (-1), 1) := by decide +kernel
theorem dX0_put_11 : decode cX0_put 11 = .ok (.if_icmp .lt 8, 3) := by decide +kernel
theorem dX0_put_14 : decode cX0_put 14 = .ok (.iload_n 2, 1) := by decide +kernel
theorem dX0_put_15 : decode cX0_put 15 = .ok (.iconst 5, 1) := by decide +kernel
theorem dX0_put_16 : decode cX0_put 16 = .ok (.if_icmp .lt 4, 3) := by decide +kernel
theorem dX0_put_19 : decode cX0_put 19 = .ok (.return_, 1) := by decide +kernel
theorem dX0_put_20 : decode cX0_put 20 = .ok (.aload_n 0, 1) := by decide +kernel
theorem dX0_put_21 : decode cX0_put 21 = .ok (.getfield 9, 3) := by decide +kernel
theorem dX0_put_24 : decode cX0_put 24 = .ok (.iload_n 1, 1) := by decide +kernel
theorem dX0_put_25 : decode cX0_put 25 = .ok (.iaload, 1) := by decide +kernel
theorem dX0_put_26 : decode cX0_put 26 = .ok (.istore_n 3, 1) := by decide +kernel
theorem dX0_put_27 : decode cX0_put 27 = .ok (.iload_n 3, 1) := by decide +kernel
theorem dX0_put_28 : decode cX0_put 28 = .ok (.ifCond .lt 18, 3) := by decide +kernel
theorem dX0_put_31 : decode cX0_put 31 = .ok (.iload_n 3, 1) := by decide +kernel
theorem dX0_put_32 : decode cX0_put 32 = .ok (.iconst 5, 1) := by decide +kernel
theorem dX0_put_33 : decode cX0_put 33 = .ok (.if_icmp .ge 13, 3) := by decide +kernel
theorem dX0_put_36 : decode cX0_put 36 = .ok (.aload_n 0, 1) := by decide +kernel
theorem dX0_put_37 : decode cX0_put 37 = .ok (.getfield 15, 3) := by decide +kernel
theorem dX0_put_40 : decode cX0_put 40 = .ok (.iload_n 3, 1) := by decide +kernel
theorem dX0_put_41 : decode cX0_put 41 = .ok (.dup2, 1) := by decide +kernel
theorem dX0_put_42 : decode cX0_put 42 = .ok (.iaload, 1) := by decide +kernel
theorem dX0_put_43 : decode cX0_put 43 = .ok (.iconst 1, 1) := by decide +kernel
theorem dX0_put_44 : decode cX0_put 44 = .ok (.isub, 1) := by decide +kernel
theorem dX0_put_45 : decode cX0_put 45 = .ok (.iastore, 1) := by decide +kernel
theorem dX0_put_46 : decode cX0_put 46 = .ok (.aload_n 0, 1) := by decide +kernel
theorem dX0_put_47 : decode cX0_put 47 = .ok (.getfield 9, 3) := by decide +kernel
theorem dX0_put_50 : decode cX0_put 50 = .ok (.iload_n 1, 1) := by decide +kernel
theorem dX0_put_51 : decode cX0_put 51 = .ok (.iload_n 2, 1) := by decide +kernel
theorem dX0_put_52 : decode cX0_put 52 = .ok (.iastore, 1) := by decide +kernel
theorem dX0_put_53 : decode cX0_put 53 = .ok (.iload_n 2, 1) := by decide +kernel
theorem dX0_put_54 : decode cX0_put 54 = .ok (.iconst (-1), 1) := by decide +kernel
theorem dX0_put_55 : decode cX0_put 55 = .ok (.if_icmp .ne 20, 3) := by decide +kernel
theorem dX0_put_58 : decode cX0_put 58 = .ok (.aload_n 0, 1) := by decide +kernel
theorem dX0_put_59 : decode cX0_put 59 = .ok (.dup, 1) := by decide +kernel
theorem dX0_put_60 : decode cX0_put 60 = .ok (.getfield 59, 3) := by decide +kernel
theorem dX0_put_63 : decode cX0_put 63 = .ok (.iconst 1, 1) := by decide +kernel
theorem dX0_put_64 : decode cX0_put 64 = .ok (.iload_n 1, 1) := by decide +kernel
theorem dX0_put_65 : decode cX0_put 65 = .ok (.ishl, 1) := by decide +kernel
theorem dX0_put_66 : decode cX0_put 66 = .ok (.iconst (-1), 1) := by decide +kernel
theorem dX0_put_67 : decode cX0_put 67 = .ok (.ixor, 1) := by decide +kernel
theorem dX0_put_68 : decode cX0_put 68 = .ok (.iand, 1) := by decide +kernel
theorem dX0_put_69 : decode cX0_put 69 = .ok (.putfield 59, 3) := by decide +kernel
theorem dX0_put_72 : decode cX0_put 72 = .ok (.goto 25, 3) := by decide +kernel
theorem dX0_put_75 : decode cX0_put 75 = .ok (.aload_n 0, 1) := by decide +kernel
theorem dX0_put_76 : decode cX0_put 76 = .ok (.getfield 15, 3) := by decide +kernel
theorem dX0_put_79 : decode cX0_put 79 = .ok (.iload_n 2, 1) := by decide +kernel
theorem dX0_put_80 : decode cX0_put 80 = .ok (.dup2, 1) := by decide +kernel
theorem dX0_put_81 : decode cX0_put 81 = .ok (.iaload, 1) := by decide +kernel
theorem dX0_put_82 : decode cX0_put 82 = .ok (.iconst 1, 1) := by decide +kernel
theorem dX0_put_83 : decode cX0_put 83 = .ok (.iadd, 1) := by decide +kernel
theorem dX0_put_84 : decode cX0_put 84 = .ok (.iastore, 1) := by decide +kernel
theorem dX0_put_85 : decode cX0_put 85 = .ok (.aload_n 0, 1) := by decide +kernel
theorem dX0_put_86 : decode cX0_put 86 = .ok (.dup, 1) := by decide +kernel
theorem dX0_put_87 : decode cX0_put 87 = .ok (.getfield 59, 3) := by decide +kernel
theorem dX0_put_90 : decode cX0_put 90 = .ok (.iconst 1, 1) := by decide +kernel
theorem dX0_put_91 : decode cX0_put 91 = .ok (.iload_n 1, 1) := by decide +kernel
theorem dX0_put_92 : decode cX0_put 92 = .ok (.ishl, 1) := by decide +kernel
theorem dX0_put_93 : decode cX0_put 93 = .ok (.ior, 1) := by decide +kernel
theorem dX0_put_94 : decode cX0_put 94 = .ok (.putfield 59, 3) := by decide +kernel
theorem dX0_put_97 : decode cX0_put 97 = .ok (.return_, 1) := by decide +kernel
theorem dX0_countWays_0 : decode cX0_countWays 0 = .ok (.iconst 1, 1) := by decide +kernel
theorem dX0_countWays_1 : decode cX0_countWays 1 = .ok (.istore_n 1, 1) := by decide +kernel
theorem dX0_countWays_2 : decode cX0_countWays 2 = .ok (.iconst 0, 1) := by decide +kernel
theorem dX0_countWays_3 : decode cX0_countWays 3 = .ok (.istore_n 2, 1) := by decide +kernel
theorem dX0_countWays_4 : decode cX0_countWays 4 = .ok (.iload_n 2, 1) := by decide +kernel
theorem dX0_countWays_5 : decode cX0_countWays 5 = .ok (.aload_n 0, 1) := by decide +kernel
theorem dX0_countWays_6 : decode cX0_countWays 6 = .ok (.getfield 25, 3) := by decide +kernel
theorem dX0_countWays_9 : decode cX0_countWays 9 = .ok (.getfield 48, 3) := by decide +kernel
theorem dX0_countWays_12 : decode cX0_countWays 12 = .ok (.if_icmp .ge 21, 3) := by decide +kernel
theorem dX0_countWays_15 : decode cX0_countWays 15 = .ok (.iload_n 1, 1) := by decide +kernel
theorem dX0_countWays_16 : decode cX0_countWays 16 = .ok (.aload_n 0, 1) := by decide +kernel
theorem dX0_countWays_17 : decode cX0_countWays 17 = .ok (.getfield 25, 3) := by decide +kernel
theorem dX0_countWays_20 : decode cX0_countWays 20 = .ok (.getfield 48, 3) := by decide +kernel
theorem dX0_countWays_23 : decode cX0_countWays 23 = .ok (.iconst 1, 1) := by decide +kernel
theorem dX0_countWays_24 : decode cX0_countWays 24 = .ok (.iadd, 1) := by decide +kernel
theorem dX0_countWays_25 : decode cX0_countWays 25 = .ok (.imul, 1) := by decide +kernel
theorem dX0_countWays_26 : decode cX0_countWays 26 = .ok (.istore_n 1, 1) := by decide +kernel
theorem dX0_countWays_27 : decode cX0_countWays 27 = .ok (.iinc 2 1, 3) := by decide +kernel
theorem dX0_countWays_30 : decode cX0_countWays 30 = .ok (.goto (-26), 3) := by decide +kernel
theorem dX0_countWays_33 : decode cX0_countWays 33 = .ok (.iload_n 1, 1) := by decide +kernel
theorem dX0_countWays_34 : decode cX0_countWays 34 = .ok (.ireturn, 1) := by decide +kernel
theorem dX0_goOn_0 : decode cX0_goOn 0 = .ok (.aload_n 0, 1) := by decide +kernel
theorem dX0_goOn_1 : decode cX0_goOn 1 = .ok (.getfield 25, 3) := by decide +kernel
theorem dX0_goOn_4 : decode cX0_goOn 4 = .ok (.getfield 48, 3) := by decide +kernel
theorem dX0_goOn_7 : decode cX0_goOn 7 = .ok (.iconst 1, 1) := by decide +kernel
theorem dX0_goOn_8 : decode cX0_goOn 8 = .ok (.isub, 1) := by decide +kernel
theorem dX0_goOn_9 : decode cX0_goOn 9 = .ok (.istore_n 1, 1) := by decide +kernel
theorem dX0_goOn_10 : decode cX0_goOn 10 = .ok (.iload_n 1, 1) := by decide +kernel
theorem dX0_goOn_11 : decode cX0_goOn 11 = .ok (.ifCond .lt 47, 3) := by decide +kernel
theorem dX0_goOn_14 : decode cX0_goOn 14 = .ok (.aload_n 0, 1) := by decide +kernel
theorem dX0_goOn_15 : decode cX0_goOn 15 = .ok (.getfield 9, 3) := by decide +kernel
theorem dX0_goOn_18 : decode cX0_goOn 18 = .ok (.iload_n 1, 1) := by decide +kernel
theorem dX0_goOn_19 : decode cX0_goOn 19 = .ok (.iaload, 1) := by decide +kernel
theorem dX0_goOn_20 : decode cX0_goOn 20 = .ok (.iconst 1, 1) := by decide +kernel
theorem dX0_goOn_21 : decode cX0_goOn 21 = .ok (.iadd, 1) := by decide +kernel
theorem dX0_goOn_22 : decode cX0_goOn 22 = .ok (.aload_n 0, 1) := by decide +kernel
theorem dX0_goOn_23 : decode cX0_goOn 23 = .ok (.getfield 25, 3) := by decide +kernel
theorem dX0_goOn_26 : decode cX0_goOn 26 = .ok (.getfield 48, 3) := by decide +kernel
theorem dX0_goOn_29 : decode cX0_goOn 29 = .ok (.if_icmp .ge 17, 3) := by decide +kernel
theorem dX0_goOn_32 : decode cX0_goOn 32 = .ok (.aload_n 0, 1) := by decide +kernel
theorem dX0_goOn_33 : decode cX0_goOn 33 = .ok (.iload_n 1, 1) := by decide +kernel
theorem dX0_goOn_34 : decode cX0_goOn 34 = .ok (.aload_n 0, 1) := by decide +kernel
theorem dX0_goOn_35 : decode cX0_goOn 35 = .ok (.getfield 9, 3) := by decide +kernel
theorem dX0_goOn_38 : decode cX0_goOn 38 = .ok (.iload_n 1, 1) := by decide +kernel
theorem dX0_goOn_39 : decode cX0_goOn 39 = .ok (.iaload, 1) := by decide +kernel
theorem dX0_goOn_40 : decode cX0_goOn 40 = .ok (.iconst 1, 1) := by decide +kernel
theorem dX0_goOn_41 : decode cX0_goOn 41 = .ok (.iadd, 1) := by decide +kernel
theorem dX0_goOn_42 : decode cX0_goOn 42 = .ok (.invokevirtual 55, 3) := by decide +kernel
theorem dX0_goOn_45 : decode cX0_goOn 45 = .ok (.return_, 1) := by decide +kernel
theorem dX0_goOn_46 : decode cX0_goOn 46 = .ok (.aload_n 0, 1) := by decide +kernel
theorem dX0_goOn_47 : decode cX0_goOn 47 = .ok (.iload_n 1, 1) := by decide +kernel
theorem dX0_goOn_48 : decode cX0_goOn 48 = .ok (.iconst (-1), 1) := by decide +kernel
theorem dX0_goOn_49 : decode cX0_goOn 49 = .ok (.invokevirtual 55, 3) := by decide +kernel
theorem dX0_goOn_52 : decode cX0_goOn 52 = .ok (.iinc 1 (-1), 3) := by decide +kernel
theorem dX0_goOn_55 : decode cX0_goOn 55 = .ok (.goto (-45), 3) := by decide +kernel
theorem dX0_goOn_58 : decode cX0_goOn 58 = .ok (.return_, 1) := by decide +kernel
theorem dX0_gainBy_0 : decode cX0_gainBy 0 = .ok (.iload_n 2, 1) := by decide +kernel
theorem dX0_gainBy_1 : decode cX0_gainBy 1 = .ok (.ifCond .lt 29, 3) := by decide +kernel
theorem dX0_gainBy_4 : decode cX0_gainBy 4 = .ok (.iload_n 2, 1) := by decide +kernel
theorem dX0_gainBy_5 : decode cX0_gainBy 5 = .ok (.aload_n 0, 1) := by decide +kernel
theorem dX0_gainBy_6 : decode cX0_gainBy 6 = .ok (.getfield 25, 3) := by decide +kernel
theorem dX0_gainBy_9 : decode cX0_gainBy 9 = .ok (.getfield 48, 3) := by decide +kernel
theorem dX0_gainBy_12 : decode cX0_gainBy 12 = .ok (.if_icmp .ge 18, 3) := by decide +kernel
theorem dX0_gainBy_15 : decode cX0_gainBy 15 = .ok (.iload_n 1, 1) := by decide +kernel
theorem dX0_gainBy_16 : decode cX0_gainBy 16 = .ok (.ifCond .lt 14, 3) := by decide +kernel
theorem dX0_gainBy_19 : decode cX0_gainBy 19 = .ok (.iload_n 1, 1) := by decide +kernel
theorem dX0_gainBy_20 : decode cX0_gainBy 20 = .ok (.aload_n 0, 1) := by decide +kernel
theorem dX0_gainBy_21 : decode cX0_gainBy 21 = .ok (.getfield 25, 3) := by decide +kernel
theorem dX0_gainBy_24 : decode cX0_gainBy 24 = .ok (.getfield 48, 3) := by decide +kernel
theorem dX0_gainBy_27 : decode cX0_gainBy 27 = .ok (.if_icmp .lt 5, 3) := by decide +kernel
theorem dX0_gainBy_30 : decode cX0_gainBy 30 = .ok (.iconst 0, 1) := by decide +kernel
theorem dX0_gainBy_31 : decode cX0_gainBy 31 = .ok (.ireturn, 1) := by decide +kernel
theorem dX0_gainBy_32 : decode cX0_gainBy 32 = .ok (.aload_n 0, 1) := by decide +kernel
theorem dX0_gainBy_33 : decode cX0_gainBy 33 = .ok (.getfield 59, 3) := by decide +kernel
theorem dX0_gainBy_36 : decode cX0_gainBy 36 = .ok (.iconst 1, 1) := by decide +kernel
theorem dX0_gainBy_37 : decode cX0_gainBy 37 = .ok (.iload_n 1, 1) := by decide +kernel
theorem dX0_gainBy_38 : decode cX0_gainBy 38 = .ok (.ishl, 1) := by decide +kernel
theorem dX0_gainBy_39 : decode cX0_gainBy 39 = .ok (.ior, 1) := by decide +kernel
theorem dX0_gainBy_40 : decode cX0_gainBy 40 = .ok (.istore_n 3, 1) := by decide +kernel
theorem dX0_gainBy_41 : decode cX0_gainBy 41 = .ok (.aload_n 0, 1) := by decide +kernel
theorem dX0_gainBy_42 : decode cX0_gainBy 42 = .ok (.getfield 21, 3) := by decide +kernel
theorem dX0_gainBy_45 : decode cX0_gainBy 45 = .ok (.iload_n 3, 1) := by decide +kernel
theorem dX0_gainBy_46 : decode cX0_gainBy 46 = .ok (.baload, 1) := by decide +kernel
theorem dX0_gainBy_47 : decode cX0_gainBy 47 = .ok (.ifCond .eq 5, 3) := by decide +kernel
theorem dX0_gainBy_50 : decode cX0_gainBy 50 = .ok (.iconst 0, 1) := by decide +kernel
theorem dX0_gainBy_51 : decode cX0_gainBy 51 = .ok (.ireturn, 1) := by decide +kernel
theorem dX0_gainBy_52 : decode cX0_gainBy 52 = .ok (.aload_n 0, 1) := by decide +kernel
theorem dX0_gainBy_53 : decode cX0_gainBy 53 = .ok (.getfield 9, 3) := by decide +kernel
theorem dX0_gainBy_56 : decode cX0_gainBy 56 = .ok (.iload_n 1, 1) := by decide +kernel
theorem dX0_gainBy_57 : decode cX0_gainBy 57 = .ok (.iaload, 1) := by decide +kernel
theorem dX0_gainBy_58 : decode cX0_gainBy 58 = .ok (.iload_n 2, 1) := by decide +kernel
theorem dX0_gainBy_59 : decode cX0_gainBy 59 = .ok (.if_icmp .ne 14, 3) := by decide +kernel
theorem dX0_gainBy_62 : decode cX0_gainBy 62 = .ok (.aload_n 0, 1) := by decide +kernel
theorem dX0_gainBy_63 : decode cX0_gainBy 63 = .ok (.getfield 15, 3) := by decide +kernel
theorem dX0_gainBy_66 : decode cX0_gainBy 66 = .ok (.iload_n 2, 1) := by decide +kernel
theorem dX0_gainBy_67 : decode cX0_gainBy 67 = .ok (.iaload, 1) := by decide +kernel
theorem dX0_gainBy_68 : decode cX0_gainBy 68 = .ok (.iconst 1, 1) := by decide +kernel
theorem dX0_gainBy_69 : decode cX0_gainBy 69 = .ok (.isub, 1) := by decide +kernel
theorem dX0_gainBy_70 : decode cX0_gainBy 70 = .ok (.goto 9, 3) := by decide +kernel
theorem dX0_gainBy_73 : decode cX0_gainBy 73 = .ok (.aload_n 0, 1) := by decide +kernel
theorem dX0_gainBy_74 : decode cX0_gainBy 74 = .ok (.getfield 15, 3) := by decide +kernel
theorem dX0_gainBy_77 : decode cX0_gainBy 77 = .ok (.iload_n 2, 1) := by decide +kernel
theorem dX0_gainBy_78 : decode cX0_gainBy 78 = .ok (.iaload, 1) := by decide +kernel
theorem dX0_gainBy_79 : decode cX0_gainBy 79 = .ok (.istore 4, 2) := by decide +kernel
theorem dX0_gainBy_81 : decode cX0_gainBy 81 = .ok (.iload 4, 2) := by decide +kernel
theorem dX0_gainBy_83 : decode cX0_gainBy 83 = .ok (.ifCond .ge 7, 3) := by decide +kernel
theorem dX0_gainBy_86 : decode cX0_gainBy 86 = .ok (.iconst 0, 1) := by decide +kernel
theorem dX0_gainBy_87 : decode cX0_gainBy 87 = .ok (.goto 17, 3) := by decide +kernel
theorem dX0_gainBy_90 : decode cX0_gainBy 90 = .ok (.aload_n 0, 1) := by decide +kernel
theorem dX0_gainBy_91 : decode cX0_gainBy 91 = .ok (.iload_n 3, 1) := by decide +kernel
theorem dX0_gainBy_92 : decode cX0_gainBy 92 = .ok (.invokestatic 62, 3) := by decide +kernel
theorem dX0_gainBy_95 : decode cX0_gainBy 95 = .ok (.iload_n 2, 1) := by decide +kernel
theorem dX0_gainBy_96 : decode cX0_gainBy 96 = .ok (.invokevirtual 68, 3) := by decide +kernel
theorem dX0_gainBy_99 : decode cX0_gainBy 99 = .ok (.iload 4, 2) := by decide +kernel
theorem dX0_gainBy_101 : decode cX0_gainBy 101 = .ok (.iconst 1, 1) := by decide +kernel
theorem dX0_gainBy_102 : decode cX0_gainBy 102 = .ok (.iadd, 1) := by decide +kernel
theorem dX0_gainBy_103 : decode cX0_gainBy 103 = .ok (.idiv, 1) := by decide +kernel
theorem dX0_gainBy_104 : decode cX0_gainBy 104 = .ok (.ireturn, 1) := by decide +kernel
theorem dX0_gain_0 : decode cX0_gain 0 = .ok (.iload_n 1, 1) := by decide +kernel
theorem dX0_gain_1 : decode cX0_gain 1 = .ok (.ifCond .lt 8, 3) := by decide +kernel
theorem dX0_gain_4 : decode cX0_gain 4 = .ok (.iload_n 1, 1) := by decide +kernel
theorem dX0_gain_5 : decode cX0_gain 5 = .ok (.iconst 5, 1) := by decide +kernel
theorem dX0_gain_6 : decode cX0_gain 6 = .ok (.if_icmp .lt 7, 3) := by decide +kernel
theorem dX0_gain_9 : decode cX0_gain 9 = .ok (.iconst 0, 1) := by decide +kernel
theorem dX0_gain_10 : decode cX0_gain 10 = .ok (.goto 14, 3) := by decide +kernel
theorem dX0_gain_13 : decode cX0_gain 13 = .ok (.aload_n 0, 1) := by decide +kernel
theorem dX0_gain_14 : decode cX0_gain 14 = .ok (.iload_n 1, 1) := by decide +kernel
theorem dX0_gain_15 : decode cX0_gain 15 = .ok (.aload_n 0, 1) := by decide +kernel
theorem dX0_gain_16 : decode cX0_gain 16 = .ok (.getfield 9, 3) := by decide +kernel
theorem dX0_gain_19 : decode cX0_gain 19 = .ok (.iload_n 1, 1) := by decide +kernel
theorem dX0_gain_20 : decode cX0_gain 20 = .ok (.iaload, 1) := by decide +kernel
theorem dX0_gain_21 : decode cX0_gain 21 = .ok (.invokevirtual 72, 3) := by decide +kernel
theorem dX0_gain_24 : decode cX0_gain 24 = .ok (.ireturn, 1) := by decide +kernel
theorem dX0_gainOfAll_0 : decode cX0_gainOfAll 0 = .ok (.iconst 0, 1) := by decide +kernel
theorem dX0_gainOfAll_1 : decode cX0_gainOfAll 1 = .ok (.istore_n 1, 1) := by decide +kernel
theorem dX0_gainOfAll_2 : decode cX0_gainOfAll 2 = .ok (.iconst 0, 1) := by decide +kernel
theorem dX0_gainOfAll_3 : decode cX0_gainOfAll 3 = .ok (.istore_n 2, 1) := by decide +kernel
theorem dX0_gainOfAll_4 : decode cX0_gainOfAll 4 = .ok (.iload_n 2, 1) := by decide +kernel
theorem dX0_gainOfAll_5 : decode cX0_gainOfAll 5 = .ok (.aload_n 0, 1) := by decide +kernel
theorem dX0_gainOfAll_6 : decode cX0_gainOfAll 6 = .ok (.getfield 25, 3) := by decide +kernel
theorem dX0_gainOfAll_9 : decode cX0_gainOfAll 9 = .ok (.getfield 48, 3) := by decide +kernel
theorem dX0_gainOfAll_12 : decode cX0_gainOfAll 12 = .ok (.if_icmp .ge 17, 3) := by decide +kernel
theorem dX0_gainOfAll_15 : decode cX0_gainOfAll 15 = .ok (.iload_n 1, 1) := by decide +kernel
theorem dX0_gainOfAll_16 : decode cX0_gainOfAll 16 = .ok (.aload_n 0, 1) := by decide +kernel
theorem dX0_gainOfAll_17 : decode cX0_gainOfAll 17 = .ok (.iload_n 2, 1) := by decide +kernel
theorem dX0_gainOfAll_18 : decode cX0_gainOfAll 18 = .ok (.invokevirtual 75, 3) := by decide +kernel
theorem dX0_gainOfAll_21 : decode cX0_gainOfAll 21 = .ok (.iadd, 1) := by decide +kernel
theorem dX0_gainOfAll_22 : decode cX0_gainOfAll 22 = .ok (.istore_n 1, 1) := by decide +kernel
theorem dX0_gainOfAll_23 : decode cX0_gainOfAll 23 = .ok (.iinc 2 1, 3) := by decide +kernel
theorem dX0_gainOfAll_26 : decode cX0_gainOfAll 26 = .ok (.goto (-22), 3) := by decide +kernel
theorem dX0_gainOfAll_29 : decode cX0_gainOfAll 29 = .ok (.iload_n 1, 1) := by decide +kernel
theorem dX0_gainOfAll_30 : decode cX0_gainOfAll 30 = .ok (.ireturn, 1) := by decide +kernel
theorem dX0_areFed_0 : decode cX0_areFed 0 = .ok (.iconst 0, 1) := by decide +kernel
theorem dX0_areFed_1 : decode cX0_areFed 1 = .ok (.istore_n 2, 1) := by decide +kernel
theorem dX0_areFed_2 : decode cX0_areFed 2 = .ok (.iload_n 2, 1) := by decide +kernel
theorem dX0_areFed_3 : decode cX0_areFed 3 = .ok (.aload_n 0, 1) := by decide +kernel
theorem dX0_areFed_4 : decode cX0_areFed 4 = .ok (.getfield 25, 3) := by decide +kernel
theorem dX0_areFed_7 : decode cX0_areFed 7 = .ok (.getfield 48, 3) := by decide +kernel
theorem dX0_areFed_10 : decode cX0_areFed 10 = .ok (.if_icmp .ge 36, 3) := by decide +kernel
theorem dX0_areFed_13 : decode cX0_areFed 13 = .ok (.iload_n 1, 1) := by decide +kernel
theorem dX0_areFed_14 : decode cX0_areFed 14 = .ok (.iconst 1, 1) := by decide +kernel
theorem dX0_areFed_15 : decode cX0_areFed 15 = .ok (.iload_n 2, 1) := by decide +kernel
theorem dX0_areFed_16 : decode cX0_areFed 16 = .ok (.ishl, 1) := by decide +kernel
theorem dX0_areFed_17 : decode cX0_areFed 17 = .ok (.iand, 1) := by decide +kernel
theorem dX0_areFed_18 : decode cX0_areFed 18 = .ok (.ifCond .eq 22, 3) := by decide +kernel
theorem dX0_areFed_21 : decode cX0_areFed 21 = .ok (.aload_n 0, 1) := by decide +kernel
theorem dX0_areFed_22 : decode cX0_areFed 22 = .ok (.iload_n 2, 1) := by decide +kernel
theorem dX0_areFed_23 : decode cX0_areFed 23 = .ok (.invokevirtual 75, 3) := by decide +kernel
theorem dX0_areFed_26 : decode cX0_areFed 26 = .ok (.aload_n 0, 1) := by decide +kernel
theorem dX0_areFed_27 : decode cX0_areFed 27 = .ok (.getfield 25, 3) := by decide +kernel
theorem dX0_areFed_30 : decode cX0_areFed 30 = .ok (.getfield 78, 3) := by decide +kernel
theorem dX0_areFed_33 : decode cX0_areFed 33 = .ok (.iload_n 2, 1) := by decide +kernel
theorem dX0_areFed_34 : decode cX0_areFed 34 = .ok (.iaload, 1) := by decide +kernel
theorem dX0_areFed_35 : decode cX0_areFed 35 = .ok (.if_icmp .ge 5, 3) := by decide +kernel
theorem dX0_areFed_38 : decode cX0_areFed 38 = .ok (.iconst 0, 1) := by decide +kernel
theorem dX0_areFed_39 : decode cX0_areFed 39 = .ok (.ireturn, 1) := by decide +kernel
theorem dX0_areFed_40 : decode cX0_areFed 40 = .ok (.iinc 2 1, 3) := by decide +kernel
theorem dX0_areFed_43 : decode cX0_areFed 43 = .ok (.goto (-41), 3) := by decide +kernel
theorem dX0_areFed_46 : decode cX0_areFed 46 = .ok (.iconst 1, 1) := by decide +kernel
theorem dX0_areFed_47 : decode cX0_areFed 47 = .ok (.ireturn, 1) := by decide +kernel
theorem dX0_shame_0 : decode cX0_shame 0 = .ok (.iconst 0, 1) := by decide +kernel
theorem dX0_shame_1 : decode cX0_shame 1 = .ok (.istore_n 1, 1) := by decide +kernel
theorem dX0_shame_2 : decode cX0_shame 2 = .ok (.iconst 0, 1) := by decide +kernel
theorem dX0_shame_3 : decode cX0_shame 3 = .ok (.istore_n 2, 1) := by decide +kernel
theorem dX0_shame_4 : decode cX0_shame 4 = .ok (.iload_n 2, 1) := by decide +kernel
theorem dX0_shame_5 : decode cX0_shame 5 = .ok (.aload_n 0, 1) := by decide +kernel
theorem dX0_shame_6 : decode cX0_shame 6 = .ok (.getfield 25, 3) := by decide +kernel
theorem dX0_shame_9 : decode cX0_shame 9 = .ok (.getfield 48, 3) := by decide +kernel
theorem dX0_shame_12 : decode cX0_shame 12 = .ok (.if_icmp .ge 32, 3) := by decide +kernel
theorem dX0_shame_15 : decode cX0_shame 15 = .ok (.aload_n 0, 1) := by decide +kernel
theorem dX0_shame_16 : decode cX0_shame 16 = .ok (.getfield 9, 3) := by decide +kernel
theorem dX0_shame_19 : decode cX0_shame 19 = .ok (.iload_n 2, 1) := by decide +kernel
theorem dX0_shame_20 : decode cX0_shame 20 = .ok (.iaload, 1) := by decide +kernel
theorem dX0_shame_21 : decode cX0_shame 21 = .ok (.iconst (-1), 1) := by decide +kernel
theorem dX0_shame_22 : decode cX0_shame 22 = .ok (.if_icmp .eq 16, 3) := by decide +kernel
theorem dX0_shame_25 : decode cX0_shame 25 = .ok (.aload_n 0, 1) := by decide +kernel
theorem dX0_shame_26 : decode cX0_shame 26 = .ok (.getfield 9, 3) := by decide +kernel
theorem dX0_shame_29 : decode cX0_shame 29 = .ok (.iload_n 2, 1) := by decide +kernel
theorem dX0_shame_30 : decode cX0_shame 30 = .ok (.iaload, 1) := by decide +kernel
theorem dX0_shame_31 : decode cX0_shame 31 = .ok (.iload_n 2, 1) := by decide +kernel
theorem dX0_shame_32 : decode cX0_shame 32 = .ok (.if_icmp .eq 6, 3) := by decide +kernel
theorem dX0_shame_35 : decode cX0_shame 35 = .ok (.iinc 1 1, 3) := by decide +kernel
theorem dX0_shame_38 : decode cX0_shame 38 = .ok (.iinc 2 1, 3) := by decide +kernel
theorem dX0_shame_41 : decode cX0_shame 41 = .ok (.goto (-37), 3) := by decide +kernel
theorem dX0_shame_44 : decode cX0_shame 44 = .ok (.iload_n 1, 1) := by decide +kernel
theorem dX0_shame_45 : decode cX0_shame 45 = .ok (.ireturn, 1) := by decide +kernel
theorem dX0_bestFor_0 : decode cX0_bestFor 0 = .ok (.iload_n 1, 1) := by decide +kernel
theorem dX0_bestFor_1 : decode cX0_bestFor 1 = .ok (.ifCond .lt 8, 3) := by decide +kernel
theorem dX0_bestFor_4 : decode cX0_bestFor 4 = .ok (.iload_n 1, 1) := by decide +kernel
theorem dX0_bestFor_5 : decode cX0_bestFor 5 = .ok (.iconst 5, 1) := by decide +kernel
theorem dX0_bestFor_6 : decode cX0_bestFor 6 = .ok (.if_icmp .lt 5, 3) := by decide +kernel
theorem dX0_bestFor_9 : decode cX0_bestFor 9 = .ok (.iconst (-1), 1) := by decide +kernel
theorem dX0_bestFor_10 : decode cX0_bestFor 10 = .ok (.ireturn, 1) := by decide +kernel
theorem dX0_bestFor_11 : decode cX0_bestFor 11 = .ok (.aload_n 0, 1) := by decide +kernel
theorem dX0_bestFor_12 : decode cX0_bestFor 12 = .ok (.getfield 9, 3) := by decide +kernel
theorem dX0_bestFor_15 : decode cX0_bestFor 15 = .ok (.iload_n 1, 1) := by decide +kernel
theorem dX0_bestFor_16 : decode cX0_bestFor 16 = .ok (.iaload, 1) := by decide +kernel
theorem dX0_bestFor_17 : decode cX0_bestFor 17 = .ok (.istore_n 2, 1) := by decide +kernel
theorem dX0_bestFor_18 : decode cX0_bestFor 18 = .ok (.aload_n 0, 1) := by decide +kernel
theorem dX0_bestFor_19 : decode cX0_bestFor 19 = .ok (.iload_n 1, 1) := by decide +kernel
theorem dX0_bestFor_20 : decode cX0_bestFor 20 = .ok (.iload_n 2, 1) := by decide +kernel
theorem dX0_bestFor_21 : decode cX0_bestFor 21 = .ok (.invokevirtual 72, 3) := by decide +kernel
theorem dX0_bestFor_24 : decode cX0_bestFor 24 = .ok (.istore_n 3, 1) := by decide +kernel
theorem dX0_bestFor_25 : decode cX0_bestFor 25 = .ok (.iconst (-1), 1) := by decide +kernel
theorem dX0_bestFor_26 : decode cX0_bestFor 26 = .ok (.istore 4, 2) := by decide +kernel
theorem dX0_bestFor_28 : decode cX0_bestFor 28 = .ok (.iload 4, 2) := by decide +kernel
theorem dX0_bestFor_30 : decode cX0_bestFor 30 = .ok (.aload_n 0, 1) := by decide +kernel
theorem dX0_bestFor_31 : decode cX0_bestFor 31 = .ok (.getfield 25, 3) := by decide +kernel
theorem dX0_bestFor_34 : decode cX0_bestFor 34 = .ok (.getfield 48, 3) := by decide +kernel
theorem dX0_bestFor_37 : decode cX0_bestFor 37 = .ok (.if_icmp .ge 30, 3) := by decide +kernel
theorem dX0_bestFor_40 : decode cX0_bestFor 40 = .ok (.aload_n 0, 1) := by decide +kernel
theorem dX0_bestFor_41 : decode cX0_bestFor 41 = .ok (.iload_n 1, 1) := by decide +kernel
theorem dX0_bestFor_42 : decode cX0_bestFor 42 = .ok (.iload 4, 2) := by decide +kernel
theorem dX0_bestFor_44 : decode cX0_bestFor 44 = .ok (.invokevirtual 72, 3) := by decide +kernel
theorem dX0_bestFor_47 : decode cX0_bestFor 47 = .ok (.istore 5, 2) := by decide +kernel
theorem dX0_bestFor_49 : decode cX0_bestFor 49 = .ok (.iload 5, 2) := by decide +kernel
theorem dX0_bestFor_51 : decode cX0_bestFor 51 = .ok (.iload_n 3, 1) := by decide +kernel
theorem dX0_bestFor_52 : decode cX0_bestFor 52 = .ok (.if_icmp .le 9, 3) := by decide +kernel
theorem dX0_bestFor_55 : decode cX0_bestFor 55 = .ok (.iload 5, 2) := by decide +kernel
theorem dX0_bestFor_57 : decode cX0_bestFor 57 = .ok (.istore_n 3, 1) := by decide +kernel
theorem dX0_bestFor_58 : decode cX0_bestFor 58 = .ok (.iload 4, 2) := by decide +kernel
theorem dX0_bestFor_60 : decode cX0_bestFor 60 = .ok (.istore_n 2, 1) := by decide +kernel
theorem dX0_bestFor_61 : decode cX0_bestFor 61 = .ok (.iinc 4 1, 3) := by decide +kernel
theorem dX0_bestFor_64 : decode cX0_bestFor 64 = .ok (.goto (-36), 3) := by decide +kernel
theorem dX0_bestFor_67 : decode cX0_bestFor 67 = .ok (.iload_n 2, 1) := by decide +kernel
theorem dX0_bestFor_68 : decode cX0_bestFor 68 = .ok (.ireturn, 1) := by decide +kernel
theorem dX0_loafBy_0 : decode cX0_loafBy 0 = .ok (.iload_n 1, 1) := by decide +kernel
theorem dX0_loafBy_1 : decode cX0_loafBy 1 = .ok (.iconst 5, 1) := by decide +kernel
theorem dX0_loafBy_2 : decode cX0_loafBy 2 = .ok (.imul, 1) := by decide +kernel
theorem dX0_loafBy_3 : decode cX0_loafBy 3 = .ok (.iload_n 2, 1) := by decide +kernel
theorem dX0_loafBy_4 : decode cX0_loafBy 4 = .ok (.iadd, 1) := by decide +kernel
theorem dX0_loafBy_5 : decode cX0_loafBy 5 = .ok (.istore_n 3, 1) := by decide +kernel
theorem dX0_loafBy_6 : decode cX0_loafBy 6 = .ok (.iload_n 3, 1) := by decide +kernel
theorem dX0_loafBy_7 : decode cX0_loafBy 7 = .ok (.ifCond .lt 21, 3) := by decide +kernel
theorem dX0_loafBy_10 : decode cX0_loafBy 10 = .ok (.iload_n 3, 1) := by decide +kernel
theorem dX0_loafBy_11 : decode cX0_loafBy 11 = .ok (.aload_n 0, 1) := by decide +kernel
theorem dX0_loafBy_12 : decode cX0_loafBy 12 = .ok (.getfield 18, 3) := by decide +kernel
theorem dX0_loafBy_15 : decode cX0_loafBy 15 = .ok (.arraylength, 1) := by decide +kernel
theorem dX0_loafBy_16 : decode cX0_loafBy 16 = .ok (.if_icmp .ge 12, 3) := by decide +kernel
theorem dX0_loafBy_19 : decode cX0_loafBy 19 = .ok (.iload_n 2, 1) := by decide +kernel
theorem dX0_loafBy_20 : decode cX0_loafBy 20 = .ok (.ifCond .lt 8, 3) := by decide +kernel
theorem dX0_loafBy_23 : decode cX0_loafBy 23 = .ok (.iload_n 2, 1) := by decide +kernel
theorem dX0_loafBy_24 : decode cX0_loafBy 24 = .ok (.iconst 5, 1) := by decide +kernel
theorem dX0_loafBy_25 : decode cX0_loafBy 25 = .ok (.if_icmp .lt 5, 3) := by decide +kernel
theorem dX0_loafBy_28 : decode cX0_loafBy 28 = .ok (.iconst 0, 1) := by decide +kernel
theorem dX0_loafBy_29 : decode cX0_loafBy 29 = .ok (.ireturn, 1) := by decide +kernel
theorem dX0_loafBy_30 : decode cX0_loafBy 30 = .ok (.aload_n 0, 1) := by decide +kernel
theorem dX0_loafBy_31 : decode cX0_loafBy 31 = .ok (.getfield 18, 3) := by decide +kernel
theorem dX0_loafBy_34 : decode cX0_loafBy 34 = .ok (.iload_n 3, 1) := by decide +kernel
theorem dX0_loafBy_35 : decode cX0_loafBy 35 = .ok (.iaload, 1) := by decide +kernel
theorem dX0_loafBy_36 : decode cX0_loafBy 36 = .ok (.iconst (-1), 1) := by decide +kernel
theorem dX0_loafBy_37 : decode cX0_loafBy 37 = .ok (.if_icmp .ne 54, 3) := by decide +kernel
theorem dX0_loafBy_40 : decode cX0_loafBy 40 = .ok (.aload_n 0, 1) := by decide +kernel
theorem dX0_loafBy_41 : decode cX0_loafBy 41 = .ok (.getfield 18, 3) := by decide +kernel
theorem dX0_loafBy_44 : decode cX0_loafBy 44 = .ok (.iload_n 3, 1) := by decide +kernel
theorem dX0_loafBy_45 : decode cX0_loafBy 45 = .ok (.aload_n 0, 1) := by decide +kernel
theorem dX0_loafBy_46 : decode cX0_loafBy 46 = .ok (.getfield 25, 3) := by decide +kernel
theorem dX0_loafBy_49 : decode cX0_loafBy 49 = .ok (.getfield 81, 3) := by decide +kernel
theorem dX0_loafBy_52 : decode cX0_loafBy 52 = .ok (.aload_n 0, 1) := by decide +kernel
theorem dX0_loafBy_53 : decode cX0_loafBy 53 = .ok (.getfield 29, 3) := by decide +kernel
theorem dX0_loafBy_56 : decode cX0_loafBy 56 = .ok (.getfield 85, 3) := by decide +kernel
theorem dX0_loafBy_59 : decode cX0_loafBy 59 = .ok (.iload_n 2, 1) := by decide +kernel
theorem dX0_loafBy_60 : decode cX0_loafBy 60 = .ok (.iaload, 1) := by decide +kernel
theorem dX0_loafBy_61 : decode cX0_loafBy 61 = .ok (.aload_n 0, 1) := by decide +kernel
theorem dX0_loafBy_62 : decode cX0_loafBy 62 = .ok (.getfield 29, 3) := by decide +kernel
theorem dX0_loafBy_65 : decode cX0_loafBy 65 = .ok (.getfield 88, 3) := by decide +kernel
theorem dX0_loafBy_68 : decode cX0_loafBy 68 = .ok (.iload_n 2, 1) := by decide +kernel
theorem dX0_loafBy_69 : decode cX0_loafBy 69 = .ok (.iaload, 1) := by decide +kernel
theorem dX0_loafBy_70 : decode cX0_loafBy 70 = .ok (.aload_n 0, 1) := by decide +kernel
theorem dX0_loafBy_71 : decode cX0_loafBy 71 = .ok (.getfield 29, 3) := by decide +kernel
theorem dX0_loafBy_74 : decode cX0_loafBy 74 = .ok (.getfield 91, 3) := by decide +kernel
theorem dX0_loafBy_77 : decode cX0_loafBy 77 = .ok (.iload_n 2, 1) := by decide +kernel
theorem dX0_loafBy_78 : decode cX0_loafBy 78 = .ok (.iaload, 1) := by decide +kernel
theorem dX0_loafBy_79 : decode cX0_loafBy 79 = .ok (.aload_n 0, 1) := by decide +kernel
theorem dX0_loafBy_80 : decode cX0_loafBy 80 = .ok (.getfield 29, 3) := by decide +kernel
theorem dX0_loafBy_83 : decode cX0_loafBy 83 = .ok (.getfield 94, 3) := by decide +kernel
theorem dX0_loafBy_86 : decode cX0_loafBy 86 = .ok (.iload_n 1, 1) := by decide +kernel
theorem dX0_loafBy_87 : decode cX0_loafBy 87 = .ok (.invokevirtual 97, 3) := by decide +kernel
theorem dX0_loafBy_90 : decode cX0_loafBy 90 = .ok (.iastore, 1) := by decide +kernel
theorem dX0_loafBy_91 : decode cX0_loafBy 91 = .ok (.aload_n 0, 1) := by decide +kernel
theorem dX0_loafBy_92 : decode cX0_loafBy 92 = .ok (.getfield 18, 3) := by decide +kernel
theorem dX0_loafBy_95 : decode cX0_loafBy 95 = .ok (.iload_n 3, 1) := by decide +kernel
theorem dX0_loafBy_96 : decode cX0_loafBy 96 = .ok (.iaload, 1) := by decide +kernel
theorem dX0_loafBy_97 : decode cX0_loafBy 97 = .ok (.ireturn, 1) := by decide +kernel
theorem dX1_init_0 : decode cX1_init 0 = .ok (.aload_n 0, 1) := by decide +kernel
theorem dX1_init_1 : decode cX1_init 1 = .ok (.invokespecial 3, 3) := by decide +kernel
theorem dX1_init_4 : decode cX1_init 4 = .ok (.aload_n 0, 1) := by decide +kernel
theorem dX1_init_5 : decode cX1_init 5 = .ok (.sipush 300, 3) := by decide +kernel
theorem dX1_init_8 : decode cX1_init 8 = .ok (.newarray .int, 2) := by decide +kernel
theorem dX1_init_10 : decode cX1_init 10 = .ok (.putfield 11, 3) := by decide +kernel
theorem dX1_init_13 : decode cX1_init 13 = .ok (.aload_n 0, 1) := by decide +kernel
theorem dX1_init_14 : decode cX1_init 14 = .ok (.sipush 300, 3) := by decide +kernel
theorem dX1_init_17 : decode cX1_init 17 = .ok (.newarray .int, 2) := by decide +kernel
theorem dX1_init_19 : decode cX1_init 19 = .ok (.putfield 15, 3) := by decide +kernel
theorem dX1_init_22 : decode cX1_init 22 = .ok (.aload_n 0, 1) := by decide +kernel
theorem dX1_init_23 : decode cX1_init 23 = .ok (.bipush 31, 2) := by decide +kernel
theorem dX1_init_25 : decode cX1_init 25 = .ok (.newarray .int, 2) := by decide +kernel
theorem dX1_init_27 : decode cX1_init 27 = .ok (.putfield 18, 3) := by decide +kernel
theorem dX1_init_30 : decode cX1_init 30 = .ok (.return_, 1) := by decide +kernel
theorem dX1_clear_0 : decode cX1_clear 0 = .ok (.aload_n 0, 1) := by decide +kernel
theorem dX1_clear_1 : decode cX1_clear 1 = .ok (.iconst 0, 1) := by decide +kernel
theorem dX1_clear_2 : decode cX1_clear 2 = .ok (.putfield 21, 3) := by decide +kernel
theorem dX1_clear_5 : decode cX1_clear 5 = .ok (.aload_n 0, 1) := by decide +kernel
theorem dX1_clear_6 : decode cX1_clear 6 = .ok (.iconst 0, 1) := by decide +kernel
theorem dX1_clear_7 : decode cX1_clear 7 = .ok (.putfield 25, 3) := by decide +kernel
theorem dX1_clear_10 : decode cX1_clear 10 = .ok (.return_, 1) := by decide +kernel
theorem dX1_take_0 : decode cX1_take 0 = .ok (.aload_n 0, 1) := by decide +kernel
theorem dX1_take_1 : decode cX1_take 1 = .ok (.aload_n 1, 1) := by decide +kernel
theorem dX1_take_2 : decode cX1_take 2 = .ok (.getfield 21, 3) := by decide +kernel
theorem dX1_take_5 : decode cX1_take 5 = .ok (.putfield 21, 3) := by decide +kernel
theorem dX1_take_8 : decode cX1_take 8 = .ok (.aload_n 0, 1) := by decide +kernel
theorem dX1_take_9 : decode cX1_take 9 = .ok (.aload_n 1, 1) := by decide +kernel
theorem dX1_take_10 : decode cX1_take 10 = .ok (.getfield 25, 3) := by decide +kernel
theorem dX1_take_13 : decode cX1_take 13 = .ok (.putfield 25, 3) := by decide +kernel
theorem dX1_take_16 : decode cX1_take 16 = .ok (.aload_n 1, 1) := by decide +kernel
theorem dX1_take_17 : decode cX1_take 17 = .ok (.getfield 11, 3) := by decide +kernel
theorem dX1_take_20 : decode cX1_take 20 = .ok (.iconst 0, 1) := by decide +kernel
theorem dX1_take_21 : decode cX1_take 21 = .ok (.aload_n 0, 1) := by decide +kernel
theorem dX1_take_22 : decode cX1_take 22 = .ok (.getfield 11, 3) := by decide +kernel
theorem dX1_take_25 : decode cX1_take 25 = .ok (.iconst 0, 1) := by decide +kernel
theorem dX1_take_26 : decode cX1_take 26 = .ok (.sipush 300, 3) := by decide +kernel
theorem dX1_take_29 : decode cX1_take 29 = .ok (.invokestatic 28, 3) := by decide +kernel
theorem dX1_take_32 : decode cX1_take 32 = .ok (.aload_n 1, 1) := by decide +kernel
theorem dX1_take_33 : decode cX1_take 33 = .ok (.getfield 15, 3) := by decide +kernel
theorem dX1_take_36 : decode cX1_take 36 = .ok (.iconst 0, 1) := by decide +kernel
theorem dX1_take_37 : decode cX1_take 37 = .ok (.aload_n 0, 1) := by decide +kernel
theorem dX1_take_38 : decode cX1_take 38 = .ok (.getfield 15, 3) := by decide +kernel
theorem dX1_take_41 : decode cX1_take 41 = .ok (.iconst 0, 1) := by decide +kernel
theorem dX1_take_42 : decode cX1_take 42 = .ok (.sipush 300, 3) := by decide +kernel
theorem dX1_take_45 : decode cX1_take 45 = .ok (.invokestatic 28, 3) := by decide +kernel
theorem dX1_take_48 : decode cX1_take 48 = .ok (.return_, 1) := by decide +kernel
theorem dX1_addStep_0 : decode cX1_addStep 0 = .ok (.aload_n 0, 1) := by decide +kernel
theorem dX1_addStep_1 : decode cX1_addStep 1 = .ok (.getfield 25, 3) := by decide +kernel
theorem dX1_addStep_4 : decode cX1_addStep 4 = .ok (.sipush 300, 3) := by decide +kernel
theorem dX1_addStep_7 : decode cX1_addStep 7 = .ok (.if_icmp .ge 33, 3) := by decide +kernel
theorem dX1_addStep_10 : decode cX1_addStep 10 = .ok (.aload_n 0, 1) := by decide +kernel
theorem dX1_addStep_11 : decode cX1_addStep 11 = .ok (.getfield 11, 3) := by decide +kernel
theorem dX1_addStep_14 : decode cX1_addStep 14 = .ok (.aload_n 0, 1) := by decide +kernel
theorem dX1_addStep_15 : decode cX1_addStep 15 = .ok (.getfield 25, 3) := by decide +kernel
theorem dX1_addStep_18 : decode cX1_addStep 18 = .ok (.iload_n 1, 1) := by decide +kernel
theorem dX1_addStep_19 : decode cX1_addStep 19 = .ok (.iastore, 1) := by decide +kernel
theorem dX1_addStep_20 : decode cX1_addStep 20 = .ok (.aload_n 0, 1) := by decide +kernel
theorem dX1_addStep_21 : decode cX1_addStep 21 = .ok (.getfield 15, 3) := by decide +kernel
theorem dX1_addStep_24 : decode cX1_addStep 24 = .ok (.aload_n 0, 1) := by decide +kernel
theorem dX1_addStep_25 : decode cX1_addStep 25 = .ok (.getfield 25, 3) := by decide +kernel
theorem dX1_addStep_28 : decode cX1_addStep 28 = .ok (.iload_n 2, 1) := by decide +kernel
theorem dX1_addStep_29 : decode cX1_addStep 29 = .ok (.iastore, 1) := by decide +kernel
theorem dX1_addStep_30 : decode cX1_addStep 30 = .ok (.aload_n 0, 1) := by decide +kernel
theorem dX1_addStep_31 : decode cX1_addStep 31 = .ok (.dup, 1) := by decide +kernel
theorem dX1_addStep_32 : decode cX1_addStep 32 = .ok (.getfield 25, 3) := by decide +kernel
theorem dX1_addStep_35 : decode cX1_addStep 35 = .ok (.iconst 1, 1) := by decide +kernel
theorem dX1_addStep_36 : decode cX1_addStep 36 = .ok (.iadd, 1) := by decide +kernel
theorem dX1_addStep_37 : decode cX1_addStep 37 = .ok (.putfield 25, 3) := by decide +kernel
theorem dX1_addStep_40 : decode cX1_addStep 40 = .ok (.return_, 1) := by decide +kernel
theorem dX1_loaf_0 : decode cX1_loaf 0 = .ok (.aload_n 0, 1) := by decide +kernel
theorem dX1_loaf_1 : decode cX1_loaf 1 = .ok (.getfield 25, 3) := by decide +kernel
theorem dX1_loaf_4 : decode cX1_loaf 4 = .ok (.ifCond .ne 6, 3) := by decide +kernel
theorem dX1_loaf_7 : decode cX1_loaf 7 = .ok (.bipush 10, 2) := by decide +kernel
theorem dX1_loaf_9 : decode cX1_loaf 9 = .ok (.ireturn, 1) := by decide +kernel
theorem dX1_loaf_10 : decode cX1_loaf 10 = .ok (.iconst 0, 1) := by decide +kernel
theorem dX1_loaf_11 : decode cX1_loaf 11 = .ok (.istore 6, 2) := by decide +kernel
theorem dX1_loaf_13 : decode cX1_loaf 13 = .ok (.iconst 0, 1) := by decide +kernel
theorem dX1_loaf_14 : decode cX1_loaf 14 = .ok (.istore 7, 2) := by decide +kernel
theorem dX1_loaf_16 : decode cX1_loaf 16 = .ok (.iload 7, 2) := by decide +kernel
theorem dX1_loaf_18 : decode cX1_loaf 18 = .ok (.aload_n 0, 1) := by decide +kernel
theorem dX1_loaf_19 : decode cX1_loaf 19 = .ok (.getfield 25, 3) := by decide +kernel
theorem dX1_loaf_22 : decode cX1_loaf 22 = .ok (.if_icmp .ge 147, 3) := by decide +kernel
theorem dX1_loaf_25 : decode cX1_loaf 25 = .ok (.aload_n 0, 1) := by decide +kernel
theorem dX1_loaf_26 : decode cX1_loaf 26 = .ok (.getfield 11, 3) := by decide +kernel
theorem dX1_loaf_29 : decode cX1_loaf 29 = .ok (.iload 7, 2) := by decide +kernel
theorem dX1_loaf_31 : decode cX1_loaf 31 = .ok (.iaload, 1) := by decide +kernel
theorem dX1_loaf_32 : decode cX1_loaf 32 = .ok (.istore 8, 2) := by decide +kernel
theorem dX1_loaf_34 : decode cX1_loaf 34 = .ok (.iload 8, 2) := by decide +kernel
theorem dX1_loaf_36 : decode cX1_loaf 36 = .ok (.iconst 5, 1) := by decide +kernel
theorem dX1_loaf_37 : decode cX1_loaf 37 = .ok (.if_icmp .gt 45, 3) := by decide +kernel
theorem dX1_loaf_40 : decode cX1_loaf 40 = .ok (.iload 6, 2) := by decide +kernel
theorem dX1_loaf_42 : decode cX1_loaf 42 = .ok (.aload_n 0, 1) := by decide +kernel
theorem dX1_loaf_43 : decode cX1_loaf 43 = .ok (.getfield 18, 3) := by decide +kernel
theorem dX1_loaf_46 : decode cX1_loaf 46 = .ok (.arraylength, 1) := by decide +kernel
theorem dX1_loaf_47 : decode cX1_loaf 47 = .ok (.if_icmp .ge 116, 3) := by decide +kernel
theorem dX1_loaf_50 : decode cX1_loaf 50 = .ok (.aload_n 0, 1) := by decide +kernel
theorem dX1_loaf_51 : decode cX1_loaf 51 = .ok (.getfield 18, 3) := by decide +kernel
theorem dX1_loaf_54 : decode cX1_loaf 54 = .ok (.iload 6, 2) := by decide +kernel
theorem dX1_loaf_56 : decode cX1_loaf 56 = .ok (.iload 8, 2) := by decide +kernel
theorem dX1_loaf_58 : decode cX1_loaf 58 = .ok (.aload_n 0, 1) := by decide +kernel
theorem dX1_loaf_59 : decode cX1_loaf 59 = .ok (.getfield 15, 3) := by decide +kernel
theorem dX1_loaf_62 : decode cX1_loaf 62 = .ok (.iload 7, 2) := by decide +kernel
theorem dX1_loaf_64 : decode cX1_loaf 64 = .ok (.iaload, 1) := by decide +kernel
theorem dX1_loaf_65 : decode cX1_loaf 65 = .ok (.iload_n 1, 1) := by decide +kernel
theorem dX1_loaf_66 : decode cX1_loaf 66 = .ok (.iload_n 2, 1) := by decide +kernel
theorem dX1_loaf_67 : decode cX1_loaf 67 = .ok (.iload_n 3, 1) := by decide +kernel
theorem dX1_loaf_68 : decode cX1_loaf 68 = .ok (.iload 4, 2) := by decide +kernel
theorem dX1_loaf_70 : decode cX1_loaf 70 = .ok (.iload 5, 2) := by decide +kernel
theorem dX1_loaf_72 : decode cX1_loaf 72 = .ok (.invokestatic 34, 3) := by decide +kernel
theorem dX1_loaf_75 : decode cX1_loaf 75 = .ok (.iastore, 1) := by decide +kernel
theorem dX1_loaf_76 : decode cX1_loaf 76 = .ok (.iinc 6 1, 3) := by decide +kernel
theorem dX1_loaf_79 : decode cX1_loaf 79 = .ok (.goto 84, 3) := by decide +kernel
theorem dX1_loaf_82 : decode cX1_loaf 82 = .ok (.iload 8, 2) := by decide +kernel
theorem dX1_loaf_84 : decode cX1_loaf 84 = .ok (.bipush 8, 2) := by decide +kernel
theorem dX1_loaf_86 : decode cX1_loaf 86 = .ok (.if_icmp .ne 38, 3) := by decide +kernel
theorem dX1_loaf_89 : decode cX1_loaf 89 = .ok (.iload 6, 2) := by decide +kernel
theorem dX1_loaf_91 : decode cX1_loaf 91 = .ok (.iconst 1, 1) := by decide +kernel
theorem dX1_loaf_92 : decode cX1_loaf 92 = .ok (.if_icmp .lt 71, 3) := by decide +kernel
theorem dX1_loaf_95 : decode cX1_loaf 95 = .ok (.aload_n 0, 1) := by decide +kernel
theorem dX1_loaf_96 : decode cX1_loaf 96 = .ok (.getfield 18, 3) := by decide +kernel
theorem dX1_loaf_99 : decode cX1_loaf 99 = .ok (.iload 6, 2) := by decide +kernel
theorem dX1_loaf_101 : decode cX1_loaf 101 = .ok (.iconst 1, 1) := by decide +kernel
theorem dX1_loaf_102 : decode cX1_loaf 102 = .ok (.isub, 1) := by decide +kernel
theorem dX1_loaf_103 : decode cX1_loaf 103 = .ok (.aload_n 0, 1) := by decide +kernel
theorem dX1_loaf_104 : decode cX1_loaf 104 = .ok (.getfield 18, 3) := by decide +kernel
theorem dX1_loaf_107 : decode cX1_loaf 107 = .ok (.iload 6, 2) := by decide +kernel
theorem dX1_loaf_109 : decode cX1_loaf 109 = .ok (.iconst 1, 1) := by decide +kernel
theorem dX1_loaf_110 : decode cX1_loaf 110 = .ok (.isub, 1) := by decide +kernel
theorem dX1_loaf_111 : decode cX1_loaf 111 = .ok (.iaload, 1) := by decide +kernel
theorem dX1_loaf_112 : decode cX1_loaf 112 = .ok (.ifCond .ne 7, 3) := by decide +kernel
theorem dX1_loaf_115 : decode cX1_loaf 115 = .ok (.iconst 1, 1) := by decide +kernel
theorem dX1_loaf_116 : decode cX1_loaf 116 = .ok (.goto 4, 3) := by decide +kernel
theorem dX1_loaf_119 : decode cX1_loaf 119 = .ok (.iconst 0, 1) := by decide +kernel
theorem dX1_loaf_120 : decode cX1_loaf 120 = .ok (.iastore, 1) := by decide +kernel
theorem dX1_loaf_121 : decode cX1_loaf 121 = .ok (.goto 42, 3) := by decide +kernel
theorem dX1_loaf_124 : decode cX1_loaf 124 = .ok (.iload 6, 2) := by decide +kernel
theorem dX1_loaf_126 : decode cX1_loaf 126 = .ok (.iconst 2, 1) := by decide +kernel
theorem dX1_loaf_127 : decode cX1_loaf 127 = .ok (.if_icmp .lt 36, 3) := by decide +kernel
theorem dX1_loaf_130 : decode cX1_loaf 130 = .ok (.iinc 6 (-1), 3) := by decide +kernel
theorem dX1_loaf_133 : decode cX1_loaf 133 = .ok (.aload_n 0, 1) := by decide +kernel
theorem dX1_loaf_134 : decode cX1_loaf 134 = .ok (.getfield 18, 3) := by decide +kernel
theorem dX1_loaf_137 : decode cX1_loaf 137 = .ok (.iload 6, 2) := by decide +kernel
theorem dX1_loaf_139 : decode cX1_loaf 139 = .ok (.iconst 1, 1) := by decide +kernel
theorem dX1_loaf_140 : decode cX1_loaf 140 = .ok (.isub, 1) := by decide +kernel
theorem dX1_loaf_141 : decode cX1_loaf 141 = .ok (.iload 8, 2) := by decide +kernel
theorem dX1_loaf_143 : decode cX1_loaf 143 = .ok (.aload_n 0, 1) := by decide +kernel
theorem dX1_loaf_144 : decode cX1_loaf 144 = .ok (.getfield 18, 3) := by decide +kernel
theorem dX1_loaf_147 : decode cX1_loaf 147 = .ok (.iload 6, 2) := by decide +kernel
theorem dX1_loaf_149 : decode cX1_loaf 149 = .ok (.iconst 1, 1) := by decide +kernel
theorem dX1_loaf_150 : decode cX1_loaf 150 = .ok (.isub, 1) := by decide +kernel
theorem dX1_loaf_151 : decode cX1_loaf 151 = .ok (.iaload, 1) := by decide +kernel
theorem dX1_loaf_152 : decode cX1_loaf 152 = .ok (.aload_n 0, 1) := by decide +kernel
theorem dX1_loaf_153 : decode cX1_loaf 153 = .ok (.getfield 18, 3) := by decide +kernel
theorem dX1_loaf_156 : decode cX1_loaf 156 = .ok (.iload 6, 2) := by decide +kernel
theorem dX1_loaf_158 : decode cX1_loaf 158 = .ok (.iaload, 1) := by decide +kernel
theorem dX1_loaf_159 : decode cX1_loaf 159 = .ok (.invokestatic 38, 3) := by decide +kernel
theorem dX1_loaf_162 : decode cX1_loaf 162 = .ok (.iastore, 1) := by decide +kernel
theorem dX1_loaf_163 : decode cX1_loaf 163 = .ok (.iinc 7 1, 3) := by decide +kernel
theorem dX1_loaf_166 : decode cX1_loaf 166 = .ok (.goto (-150), 3) := by decide +kernel
theorem dX1_loaf_169 : decode cX1_loaf 169 = .ok (.iconst 0, 1) := by decide +kernel
theorem dX1_loaf_170 : decode cX1_loaf 170 = .ok (.bipush 99, 2) := by decide +kernel
theorem dX1_loaf_172 : decode cX1_loaf 172 = .ok (.aload_n 0, 1) := by decide +kernel
theorem dX1_loaf_173 : decode cX1_loaf 173 = .ok (.getfield 18, 3) := by decide +kernel
theorem dX1_loaf_176 : decode cX1_loaf 176 = .ok (.iconst 0, 1) := by decide +kernel
theorem dX1_loaf_177 : decode cX1_loaf 177 = .ok (.iaload, 1) := by decide +kernel
theorem dX1_loaf_178 : decode cX1_loaf 178 = .ok (.invokestatic 42, 3) := by decide +kernel
theorem dX1_loaf_181 : decode cX1_loaf 181 = .ok (.invokestatic 48, 3) := by decide +kernel
theorem dX1_loaf_184 : decode cX1_loaf 184 = .ok (.ireturn, 1) := by decide +kernel
theorem dX1_unit_0 : decode cX1_unit 0 = .ok (.iload_n 0, 1) := by decide +kernel
theorem dX1_unit_1 : decode cX1_unit 1 = .ok (.tableswitch 52 1 5 #[35, 41, 43, 46, 49], 35) := by decide +kernel
theorem dX1_unit_36 : decode cX1_unit 36 = .ok (.iload_n 2, 1) := by decide +kernel
theorem dX1_unit_37 : decode cX1_unit 37 = .ok (.iload_n 1, 1) := by decide +kernel
theorem dX1_unit_38 : decode cX1_unit 38 = .ok (.ishr, 1) := by decide +kernel
theorem dX1_unit_39 : decode cX1_unit 39 = .ok (.iconst 1, 1) := by decide +kernel
theorem dX1_unit_40 : decode cX1_unit 40 = .ok (.iand, 1) := by decide +kernel
theorem dX1_unit_41 : decode cX1_unit 41 = .ok (.ireturn, 1) := by decide +kernel
theorem dX1_unit_42 : decode cX1_unit 42 = .ok (.iload_n 3, 1) := by decide +kernel
theorem dX1_unit_43 : decode cX1_unit 43 = .ok (.ireturn, 1) := by decide +kernel
theorem dX1_unit_44 : decode cX1_unit 44 = .ok (.iload 4, 2) := by decide +kernel
theorem dX1_unit_46 : decode cX1_unit 46 = .ok (.ireturn, 1) := by decide +kernel
theorem dX1_unit_47 : decode cX1_unit 47 = .ok (.iload 5, 2) := by decide +kernel
theorem dX1_unit_49 : decode cX1_unit 49 = .ok (.ireturn, 1) := by decide +kernel
theorem dX1_unit_50 : decode cX1_unit 50 = .ok (.iload 6, 2) := by decide +kernel
theorem dX1_unit_52 : decode cX1_unit 52 = .ok (.ireturn, 1) := by decide +kernel
theorem dX1_unit_53 : decode cX1_unit 53 = .ok (.iload_n 1, 1) := by decide +kernel
theorem dX1_unit_54 : decode cX1_unit 54 = .ok (.ireturn, 1) := by decide +kernel
theorem dX1_join_0 : decode cX1_join 0 = .ok (.iload_n 0, 1) := by decide +kernel
theorem dX1_join_1 : decode cX1_join 1 = .ok (.tableswitch 140 6 15 #[55, 69, 140, 83, 94, 105, 116, 120, 124, 128], 55) := by decide +kernel
theorem dX1_join_56 : decode cX1_join 56 = .ok (.iload_n 1, 1) := by decide +kernel
theorem dX1_join_57 : decode cX1_join 57 = .ok (.ifCond .ne 7, 3) := by decide +kernel
theorem dX1_join_60 : decode cX1_join 60 = .ok (.iload_n 2, 1) := by decide +kernel
theorem dX1_join_61 : decode cX1_join 61 = .ok (.ifCond .eq 7, 3) := by decide +kernel
theorem dX1_join_64 : decode cX1_join 64 = .ok (.iconst 1, 1) := by decide +kernel
theorem dX1_join_65 : decode cX1_join 65 = .ok (.goto 4, 3) := by decide +kernel
theorem dX1_join_68 : decode cX1_join 68 = .ok (.iconst 0, 1) := by decide +kernel
theorem dX1_join_69 : decode cX1_join 69 = .ok (.ireturn, 1) := by decide +kernel
theorem dX1_join_70 : decode cX1_join 70 = .ok (.iload_n 1, 1) := by decide +kernel
theorem dX1_join_71 : decode cX1_join 71 = .ok (.ifCond .eq 11, 3) := by decide +kernel
theorem dX1_join_74 : decode cX1_join 74 = .ok (.iload_n 2, 1) := by decide +kernel
theorem dX1_join_75 : decode cX1_join 75 = .ok (.ifCond .eq 7, 3) := by decide +kernel
theorem dX1_join_78 : decode cX1_join 78 = .ok (.iconst 1, 1) := by decide +kernel
theorem dX1_join_79 : decode cX1_join 79 = .ok (.goto 4, 3) := by decide +kernel
theorem dX1_join_82 : decode cX1_join 82 = .ok (.iconst 0, 1) := by decide +kernel
theorem dX1_join_83 : decode cX1_join 83 = .ok (.ireturn, 1) := by decide +kernel
theorem dX1_join_84 : decode cX1_join 84 = .ok (.iload_n 1, 1) := by decide +kernel
theorem dX1_join_85 : decode cX1_join 85 = .ok (.iload_n 2, 1) := by decide +kernel
theorem dX1_join_86 : decode cX1_join 86 = .ok (.if_icmp .ge 7, 3) := by decide +kernel
theorem dX1_join_89 : decode cX1_join 89 = .ok (.iconst 1, 1) := by decide +kernel
theorem dX1_join_90 : decode cX1_join 90 = .ok (.goto 4, 3) := by decide +kernel
theorem dX1_join_93 : decode cX1_join 93 = .ok (.iconst 0, 1) := by decide +kernel
theorem dX1_join_94 : decode cX1_join 94 = .ok (.ireturn, 1) := by decide +kernel
theorem dX1_join_95 : decode cX1_join 95 = .ok (.iload_n 1, 1) := by decide +kernel
theorem dX1_join_96 : decode cX1_join 96 = .ok (.iload_n 2, 1) := by decide +kernel
theorem dX1_join_97 : decode cX1_join 97 = .ok (.if_icmp .le 7, 3) := by decide +kernel
theorem dX1_join_100 : decode cX1_join 100 = .ok (.iconst 1, 1) := by decide +kernel
theorem dX1_join_101 : decode cX1_join 101 = .ok (.goto 4, 3) := by decide +kernel
theorem dX1_join_104 : decode cX1_join 104 = .ok (.iconst 0, 1) := by decide +kernel
theorem dX1_join_105 : decode cX1_join 105 = .ok (.ireturn, 1) := by decide +kernel
theorem dX1_join_106 : decode cX1_join 106 = .ok (.iload_n 1, 1) := by decide +kernel
theorem dX1_join_107 : decode cX1_join 107 = .ok (.iload_n 2, 1) := by decide +kernel
theorem dX1_join_108 : decode cX1_join 108 = .ok (.if_icmp .ne 7, 3) := by decide +kernel
theorem dX1_join_111 : decode cX1_join 111 = .ok (.iconst 1, 1) := by decide +kernel
theorem dX1_join_112 : decode cX1_join 112 = .ok (.goto 4, 3) := by decide +kernel
theorem dX1_join_115 : decode cX1_join 115 = .ok (.iconst 0, 1) := by decide +kernel
theorem dX1_join_116 : decode cX1_join 116 = .ok (.ireturn, 1) := by decide +kernel
theorem dX1_join_117 : decode cX1_join 117 = .ok (.iload_n 1, 1) := by decide +kernel
theorem dX1_join_118 : decode cX1_join 118 = .ok (.iload_n 2, 1) := by decide +kernel
theorem dX1_join_119 : decode cX1_join 119 = .ok (.iadd, 1) := by decide +kernel
theorem dX1_join_120 : decode cX1_join 120 = .ok (.ireturn, 1) := by decide +kernel
theorem dX1_join_121 : decode cX1_join 121 = .ok (.iload_n 1, 1) := by decide +kernel
theorem dX1_join_122 : decode cX1_join 122 = .ok (.iload_n 2, 1) := by decide +kernel
theorem dX1_join_123 : decode cX1_join 123 = .ok (.isub, 1) := by decide +kernel
theorem dX1_join_124 : decode cX1_join 124 = .ok (.ireturn, 1) := by decide +kernel
theorem dX1_join_125 : decode cX1_join 125 = .ok (.iload_n 1, 1) := by decide +kernel
theorem dX1_join_126 : decode cX1_join 126 = .ok (.iload_n 2, 1) := by decide +kernel
theorem dX1_join_127 : decode cX1_join 127 = .ok (.imul, 1) := by decide +kernel
theorem dX1_join_128 : decode cX1_join 128 = .ok (.ireturn, 1) := by decide +kernel
theorem dX1_join_129 : decode cX1_join 129 = .ok (.iload_n 2, 1) := by decide +kernel
theorem dX1_join_130 : decode cX1_join 130 = .ok (.ifCond .ne 7, 3) := by decide +kernel
theorem dX1_join_133 : decode cX1_join 133 = .ok (.iconst 0, 1) := by decide +kernel
theorem dX1_join_134 : decode cX1_join 134 = .ok (.goto 6, 3) := by decide +kernel
theorem dX1_join_137 : decode cX1_join 137 = .ok (.iload_n 1, 1) := by decide +kernel
theorem dX1_join_138 : decode cX1_join 138 = .ok (.iload_n 2, 1) := by decide +kernel
theorem dX1_join_139 : decode cX1_join 139 = .ok (.idiv, 1) := by decide +kernel
theorem dX1_join_140 : decode cX1_join 140 = .ok (.ireturn, 1) := by decide +kernel
theorem dX1_join_141 : decode cX1_join 141 = .ok (.iload_n 2, 1) := by decide +kernel
theorem dX1_join_142 : decode cX1_join 142 = .ok (.ifCond .ne 7, 3) := by decide +kernel
theorem dX1_join_145 : decode cX1_join 145 = .ok (.iconst 0, 1) := by decide +kernel
theorem dX1_join_146 : decode cX1_join 146 = .ok (.goto 6, 3) := by decide +kernel
theorem dX1_join_149 : decode cX1_join 149 = .ok (.iload_n 1, 1) := by decide +kernel
theorem dX1_join_150 : decode cX1_join 150 = .ok (.iload_n 2, 1) := by decide +kernel
theorem dX1_join_151 : decode cX1_join 151 = .ok (.irem, 1) := by decide +kernel
theorem dX1_join_152 : decode cX1_join 152 = .ok (.ireturn, 1) := by decide +kernel
theorem dX2_init_0 : decode cX2_init 0 = .ok (.aload_n 0, 1) := by decide +kernel
theorem dX2_init_1 : decode cX2_init 1 = .ok (.invokespecial 3, 3) := by decide +kernel
theorem dX2_init_4 : decode cX2_init 4 = .ok (.aload_n 0, 1) := by decide +kernel
theorem dX2_init_5 : decode cX2_init 5 = .ok (.bipush 64, 2) := by decide +kernel
theorem dX2_init_7 : decode cX2_init 7 = .ok (.newarray .int, 2) := by decide +kernel
theorem dX2_init_9 : decode cX2_init 9 = .ok (.putfield 11, 3) := by decide +kernel
theorem dX2_init_12 : decode cX2_init 12 = .ok (.aload_n 0, 1) := by decide +kernel
theorem dX2_init_13 : decode cX2_init 13 = .ok (.aload_n 1, 1) := by decide +kernel
theorem dX2_init_14 : decode cX2_init 14 = .ok (.putfield 15, 3) := by decide +kernel
theorem dX2_init_17 : decode cX2_init 17 = .ok (.aload_n 0, 1) := by decide +kernel
theorem dX2_init_18 : decode cX2_init 18 = .ok (.aload_n 2, 1) := by decide +kernel
theorem dX2_init_19 : decode cX2_init 19 = .ok (.putfield 19, 3) := by decide +kernel
theorem dX2_init_22 : decode cX2_init 22 = .ok (.aload_n 0, 1) := by decide +kernel
theorem dX2_init_23 : decode cX2_init 23 = .ok (.aload_n 3, 1) := by decide +kernel
theorem dX2_init_24 : decode cX2_init 24 = .ok (.putfield 23, 3) := by decide +kernel
theorem dX2_init_27 : decode cX2_init 27 = .ok (.return_, 1) := by decide +kernel
theorem dX2_readFormula_0 : decode cX2_readFormula 0 = .ok (.aload_n 0, 1) := by decide +kernel
theorem dX2_readFormula_1 : decode cX2_readFormula 1 = .ok (.iconst 0, 1) := by decide +kernel
theorem dX2_readFormula_2 : decode cX2_readFormula 2 = .ok (.putfield 27, 3) := by decide +kernel
theorem dX2_readFormula_5 : decode cX2_readFormula 5 = .ok (.aload_n 0, 1) := by decide +kernel
theorem dX2_readFormula_6 : decode cX2_readFormula 6 = .ok (.iconst 0, 1) := by decide +kernel
theorem dX2_readFormula_7 : decode cX2_readFormula 7 = .ok (.putfield 31, 3) := by decide +kernel
theorem dX2_readFormula_10 : decode cX2_readFormula 10 = .ok (.aload_n 0, 1) := by decide +kernel
theorem dX2_readFormula_11 : decode cX2_readFormula 11 = .ok (.iconst 0, 1) := by decide +kernel
theorem dX2_readFormula_12 : decode cX2_readFormula 12 = .ok (.putfield 34, 3) := by decide +kernel
theorem dX2_readFormula_15 : decode cX2_readFormula 15 = .ok (.aload_n 0, 1) := by decide +kernel
theorem dX2_readFormula_16 : decode cX2_readFormula 16 = .ok (.iconst 1, 1) := by decide +kernel
theorem dX2_readFormula_17 : decode cX2_readFormula 17 = .ok (.putfield 37, 3) := by decide +kernel
theorem dX2_readFormula_20 : decode cX2_readFormula 20 = .ok (.aload_n 0, 1) := by decide +kernel
theorem dX2_readFormula_21 : decode cX2_readFormula 21 = .ok (.iconst 1, 1) := by decide +kernel
theorem dX2_readFormula_22 : decode cX2_readFormula 22 = .ok (.putfield 41, 3) := by decide +kernel
theorem dX2_readFormula_25 : decode cX2_readFormula 25 = .ok (.iconst 0, 1) := by decide +kernel
theorem dX2_readFormula_26 : decode cX2_readFormula 26 = .ok (.istore_n 1, 1) := by decide +kernel
theorem dX2_readFormula_27 : decode cX2_readFormula 27 = .ok (.iload_n 1, 1) := by decide +kernel
theorem dX2_readFormula_28 : decode cX2_readFormula 28 = .ok (.sipush 1600, 3) := by decide +kernel
theorem dX2_readFormula_31 : decode cX2_readFormula 31 = .ok (.if_icmp .gt 74, 3) := by decide +kernel
theorem dX2_readFormula_34 : decode cX2_readFormula 34 = .ok (.aload_n 0, 1) := by decide +kernel
theorem dX2_readFormula_35 : decode cX2_readFormula 35 = .ok (.getfield 37, 3) := by decide +kernel
theorem dX2_readFormula_38 : decode cX2_readFormula 38 = .ok (.ifCond .ne 29, 3) := by decide +kernel
theorem dX2_readFormula_41 : decode cX2_readFormula 41 = .ok (.aload_n 0, 1) := by decide +kernel
theorem dX2_readFormula_42 : decode cX2_readFormula 42 = .ok (.getfield 31, 3) := by decide +kernel
theorem dX2_readFormula_45 : decode cX2_readFormula 45 = .ok (.ifCond .ne 22, 3) := by decide +kernel
theorem dX2_readFormula_48 : decode cX2_readFormula 48 = .ok (.aload_n 0, 1) := by decide +kernel
theorem dX2_readFormula_49 : decode cX2_readFormula 49 = .ok (.getfield 15, 3) := by decide +kernel
theorem dX2_readFormula_52 : decode cX2_readFormula 52 = .ok (.getfield 44, 3) := by decide +kernel
theorem dX2_readFormula_55 : decode cX2_readFormula 55 = .ok (.bipush 59, 2) := by decide +kernel
theorem dX2_readFormula_57 : decode cX2_readFormula 57 = .ok (.if_icmp .ne 10, 3) := by decide +kernel
theorem dX2_readFormula_60 : decode cX2_readFormula 60 = .ok (.aload_n 0, 1) := by decide +kernel
theorem dX2_readFormula_61 : decode cX2_readFormula 61 = .ok (.iconst 1, 1) := by decide +kernel
theorem dX2_readFormula_62 : decode cX2_readFormula 62 = .ok (.invokevirtual 49, 3) := by decide +kernel
theorem dX2_readFormula_65 : decode cX2_readFormula 65 = .ok (.iconst 0, 1) := by decide +kernel
theorem dX2_readFormula_66 : decode cX2_readFormula 66 = .ok (.ireturn, 1) := by decide +kernel
theorem dX2_readFormula_67 : decode cX2_readFormula 67 = .ok (.aload_n 0, 1) := by decide +kernel
theorem dX2_readFormula_68 : decode cX2_readFormula 68 = .ok (.getfield 37, 3) := by decide +kernel
theorem dX2_readFormula_71 : decode cX2_readFormula 71 = .ok (.ifCond .eq 10, 3) := by decide +kernel
theorem dX2_readFormula_74 : decode cX2_readFormula 74 = .ok (.aload_n 0, 1) := by decide +kernel
theorem dX2_readFormula_75 : decode cX2_readFormula 75 = .ok (.invokevirtual 53, 3) := by decide +kernel
theorem dX2_readFormula_78 : decode cX2_readFormula 78 = .ok (.goto 7, 3) := by decide +kernel
theorem dX2_readFormula_81 : decode cX2_readFormula 81 = .ok (.aload_n 0, 1) := by decide +kernel
theorem dX2_readFormula_82 : decode cX2_readFormula 82 = .ok (.invokevirtual 57, 3) := by decide +kernel
theorem dX2_readFormula_85 : decode cX2_readFormula 85 = .ok (.istore_n 2, 1) := by decide +kernel
theorem dX2_readFormula_86 : decode cX2_readFormula 86 = .ok (.iload_n 2, 1) := by decide +kernel
theorem dX2_readFormula_87 : decode cX2_readFormula 87 = .ok (.ifCond .eq 5, 3) := by decide +kernel
theorem dX2_readFormula_90 : decode cX2_readFormula 90 = .ok (.iload_n 2, 1) := by decide +kernel
theorem dX2_readFormula_91 : decode cX2_readFormula 91 = .ok (.ireturn, 1) := by decide +kernel
theorem dX2_readFormula_92 : decode cX2_readFormula 92 = .ok (.aload_n 0, 1) := by decide +kernel
theorem dX2_readFormula_93 : decode cX2_readFormula 93 = .ok (.getfield 15, 3) := by decide +kernel
theorem dX2_readFormula_96 : decode cX2_readFormula 96 = .ok (.invokevirtual 60, 3) := by decide +kernel
theorem dX2_readFormula_99 : decode cX2_readFormula 99 = .ok (.iinc 1 1, 3) := by decide +kernel
theorem dX2_readFormula_102 : decode cX2_readFormula 102 = .ok (.goto (-75), 3) := by decide +kernel
theorem dX2_readFormula_105 : decode cX2_readFormula 105 = .ok (.iconst 2, 1) := by decide +kernel
theorem dX2_readFormula_106 : decode cX2_readFormula 106 = .ok (.ireturn, 1) := by decide +kernel
theorem dX2_readUnit_0 : decode cX2_readUnit 0 = .ok (.aload_n 0, 1) := by decide +kernel
theorem dX2_readUnit_1 : decode cX2_readUnit 1 = .ok (.getfield 15, 3) := by decide +kernel
theorem dX2_readUnit_4 : decode cX2_readUnit 4 = .ok (.getfield 44, 3) := by decide +kernel
theorem dX2_readUnit_7 : decode cX2_readUnit 7 = .ok (.istore_n 1, 1) := by decide +kernel
theorem dX2_readUnit_8 : decode cX2_readUnit 8 = .ok (.iload_n 1, 1) := by decide +kernel
theorem dX2_readUnit_9 : decode cX2_readUnit 9 = .ok (.sipush 267, 3) := by decide +kernel
theorem dX2_readUnit_12 : decode cX2_readUnit 12 = .ok (.if_icmp .ne 17, 3) := by decide +kernel
theorem dX2_readUnit_15 : decode cX2_readUnit 15 = .ok (.aload_n 0, 1) := by decide +kernel
theorem dX2_readUnit_16 : decode cX2_readUnit 16 = .ok (.getfield 41, 3) := by decide +kernel
theorem dX2_readUnit_19 : decode cX2_readUnit 19 = .ok (.ifCond .eq 10, 3) := by decide +kernel
theorem dX2_readUnit_22 : decode cX2_readUnit 22 = .ok (.aload_n 0, 1) := by decide +kernel
theorem dX2_readUnit_23 : decode cX2_readUnit 23 = .ok (.bipush 8, 2) := by decide +kernel
theorem dX2_readUnit_25 : decode cX2_readUnit 25 = .ok (.invokevirtual 65, 3) := by decide +kernel
theorem dX2_readUnit_28 : decode cX2_readUnit 28 = .ok (.ireturn, 1) := by decide +kernel
theorem dX2_readUnit_29 : decode cX2_readUnit 29 = .ok (.iload_n 1, 1) := by decide +kernel
theorem dX2_readUnit_30 : decode cX2_readUnit 30 = .ok (.bipush 40, 2) := by decide +kernel
theorem dX2_readUnit_32 : decode cX2_readUnit 32 = .ok (.if_icmp .ne 8, 3) := by decide +kernel
theorem dX2_readUnit_35 : decode cX2_readUnit 35 = .ok (.bipush 17, 2) := by decide +kernel
theorem dX2_readUnit_37 : decode cX2_readUnit 37 = .ok (.goto 7, 3) := by decide +kernel
theorem dX2_readUnit_40 : decode cX2_readUnit 40 = .ok (.iload_n 1, 1) := by decide +kernel
theorem dX2_readUnit_41 : decode cX2_readUnit 41 = .ok (.invokestatic 69, 3) := by decide +kernel
theorem dX2_readUnit_44 : decode cX2_readUnit 44 = .ok (.istore_n 2, 1) := by decide +kernel
theorem dX2_readUnit_45 : decode cX2_readUnit 45 = .ok (.iload_n 2, 1) := by decide +kernel
theorem dX2_readUnit_46 : decode cX2_readUnit 46 = .ok (.iconst (-1), 1) := by decide +kernel
theorem dX2_readUnit_47 : decode cX2_readUnit 47 = .ok (.if_icmp .eq 18, 3) := by decide +kernel
theorem dX2_readUnit_50 : decode cX2_readUnit 50 = .ok (.aload_n 0, 1) := by decide +kernel
theorem dX2_readUnit_51 : decode cX2_readUnit 51 = .ok (.getfield 19, 3) := by decide +kernel
theorem dX2_readUnit_54 : decode cX2_readUnit 54 = .ok (.getfield 72, 3) := by decide +kernel
theorem dX2_readUnit_57 : decode cX2_readUnit 57 = .ok (.getfield 78, 3) := by decide +kernel
theorem dX2_readUnit_60 : decode cX2_readUnit 60 = .ok (.bipush 30, 2) := by decide +kernel
theorem dX2_readUnit_62 : decode cX2_readUnit 62 = .ok (.if_icmp .lt 5, 3) := by decide +kernel
theorem dX2_readUnit_65 : decode cX2_readUnit 65 = .ok (.iconst 2, 1) := by decide +kernel
theorem dX2_readUnit_66 : decode cX2_readUnit 66 = .ok (.ireturn, 1) := by decide +kernel
theorem dX2_readUnit_67 : decode cX2_readUnit 67 = .ok (.aload_n 0, 1) := by decide +kernel
theorem dX2_readUnit_68 : decode cX2_readUnit 68 = .ok (.getfield 19, 3) := by decide +kernel
theorem dX2_readUnit_71 : decode cX2_readUnit 71 = .ok (.getfield 72, 3) := by decide +kernel
theorem dX2_readUnit_74 : decode cX2_readUnit 74 = .ok (.dup, 1) := by decide +kernel
theorem dX2_readUnit_75 : decode cX2_readUnit 75 = .ok (.getfield 78, 3) := by decide +kernel
theorem dX2_readUnit_78 : decode cX2_readUnit 78 = .ok (.iconst 1, 1) := by decide +kernel
theorem dX2_readUnit_79 : decode cX2_readUnit 79 = .ok (.iadd, 1) := by decide +kernel
theorem dX2_readUnit_80 : decode cX2_readUnit 80 = .ok (.putfield 78, 3) := by decide +kernel
theorem dX2_readUnit_83 : decode cX2_readUnit 83 = .ok (.iload_n 2, 1) := by decide +kernel
theorem dX2_readUnit_84 : decode cX2_readUnit 84 = .ok (.bipush 17, 2) := by decide +kernel
theorem dX2_readUnit_86 : decode cX2_readUnit 86 = .ok (.if_icmp .ne 20, 3) := by decide +kernel
theorem dX2_readUnit_89 : decode cX2_readUnit 89 = .ok (.aload_n 0, 1) := by decide +kernel
theorem dX2_readUnit_90 : decode cX2_readUnit 90 = .ok (.dup, 1) := by decide +kernel
theorem dX2_readUnit_91 : decode cX2_readUnit 91 = .ok (.getfield 31, 3) := by decide +kernel
theorem dX2_readUnit_94 : decode cX2_readUnit 94 = .ok (.iconst 1, 1) := by decide +kernel
theorem dX2_readUnit_95 : decode cX2_readUnit 95 = .ok (.iadd, 1) := by decide +kernel
theorem dX2_readUnit_96 : decode cX2_readUnit 96 = .ok (.putfield 31, 3) := by decide +kernel
theorem dX2_readUnit_99 : decode cX2_readUnit 99 = .ok (.aload_n 0, 1) := by decide +kernel
theorem dX2_readUnit_100 : decode cX2_readUnit 100 = .ok (.bipush 17, 2) := by decide +kernel
theorem dX2_readUnit_102 : decode cX2_readUnit 102 = .ok (.invokevirtual 65, 3) := by decide +kernel
theorem dX2_readUnit_105 : decode cX2_readUnit 105 = .ok (.ireturn, 1) := by decide +kernel
theorem dX2_readUnit_106 : decode cX2_readUnit 106 = .ok (.aload_n 0, 1) := by decide +kernel
theorem dX2_readUnit_107 : decode cX2_readUnit 107 = .ok (.iconst 0, 1) := by decide +kernel
theorem dX2_readUnit_108 : decode cX2_readUnit 108 = .ok (.putfield 37, 3) := by decide +kernel
theorem dX2_readUnit_111 : decode cX2_readUnit 111 = .ok (.aload_n 0, 1) := by decide +kernel
theorem dX2_readUnit_112 : decode cX2_readUnit 112 = .ok (.getfield 15, 3) := by decide +kernel
theorem dX2_readUnit_115 : decode cX2_readUnit 115 = .ok (.getfield 81, 3) := by decide +kernel
theorem dX2_readUnit_118 : decode cX2_readUnit 118 = .ok (.istore_n 3, 1) := by decide +kernel
theorem dX2_readUnit_119 : decode cX2_readUnit 119 = .ok (.iload_n 2, 1) := by decide +kernel
theorem dX2_readUnit_120 : decode cX2_readUnit 120 = .ok (.iconst 1, 1) := by decide +kernel
theorem dX2_readUnit_121 : decode cX2_readUnit 121 = .ok (.if_icmp .ne 32, 3) := by decide +kernel
theorem dX2_readUnit_124 : decode cX2_readUnit 124 = .ok (.aload_n 0, 1) := by decide +kernel
theorem dX2_readUnit_125 : decode cX2_readUnit 125 = .ok (.getfield 23, 3) := by decide +kernel
theorem dX2_readUnit_128 : decode cX2_readUnit 128 = .ok (.aload_n 0, 1) := by decide +kernel
theorem dX2_readUnit_129 : decode cX2_readUnit 129 = .ok (.getfield 19, 3) := by decide +kernel
theorem dX2_readUnit_132 : decode cX2_readUnit 132 = .ok (.getfield 84, 3) := by decide +kernel
theorem dX2_readUnit_135 : decode cX2_readUnit 135 = .ok (.aload_n 0, 1) := by decide +kernel
theorem dX2_readUnit_136 : decode cX2_readUnit 136 = .ok (.getfield 15, 3) := by decide +kernel
theorem dX2_readUnit_139 : decode cX2_readUnit 139 = .ok (.getfield 87, 3) := by decide +kernel
theorem dX2_readUnit_142 : decode cX2_readUnit 142 = .ok (.invokestatic 91, 3) := by decide +kernel
theorem dX2_readUnit_145 : decode cX2_readUnit 145 = .ok (.istore_n 3, 1) := by decide +kernel
theorem dX2_readUnit_146 : decode cX2_readUnit 146 = .ok (.iload_n 3, 1) := by decide +kernel
theorem dX2_readUnit_147 : decode cX2_readUnit 147 = .ok (.iconst (-1), 1) := by decide +kernel
theorem dX2_readUnit_148 : decode cX2_readUnit 148 = .ok (.if_icmp .ne 5, 3) := by decide +kernel
theorem dX2_readUnit_151 : decode cX2_readUnit 151 = .ok (.iconst 5, 1) := by decide +kernel
theorem dX2_readUnit_152 : decode cX2_readUnit 152 = .ok (.ireturn, 1) := by decide +kernel
theorem dX2_readUnit_153 : decode cX2_readUnit 153 = .ok (.aload_n 0, 1) := by decide +kernel
theorem dX2_readUnit_154 : decode cX2_readUnit 154 = .ok (.getfield 19, 3) := by decide +kernel
theorem dX2_readUnit_157 : decode cX2_readUnit 157 = .ok (.getfield 72, 3) := by decide +kernel
theorem dX2_readUnit_160 : decode cX2_readUnit 160 = .ok (.iload_n 2, 1) := by decide +kernel
theorem dX2_readUnit_161 : decode cX2_readUnit 161 = .ok (.iload_n 3, 1) := by decide +kernel
theorem dX2_readUnit_162 : decode cX2_readUnit 162 = .ok (.invokevirtual 97, 3) := by decide +kernel
theorem dX2_readUnit_165 : decode cX2_readUnit 165 = .ok (.iconst 0, 1) := by decide +kernel
theorem dX2_readUnit_166 : decode cX2_readUnit 166 = .ok (.ireturn, 1) := by decide +kernel
theorem dX2_open_0 : decode cX2_open 0 = .ok (.aload_n 0, 1) := by decide +kernel
theorem dX2_open_1 : decode cX2_open 1 = .ok (.getfield 34, 3) := by decide +kernel
theorem dX2_open_4 : decode cX2_open 4 = .ok (.bipush 6, 2) := by decide +kernel
theorem dX2_open_6 : decode cX2_open 6 = .ok (.if_icmp .le 5, 3) := by decide +kernel
theorem dX2_open_9 : decode cX2_open 9 = .ok (.iconst 2, 1) := by decide +kernel
theorem dX2_open_10 : decode cX2_open 10 = .ok (.ireturn, 1) := by decide +kernel
theorem dX2_open_11 : decode cX2_open 11 = .ok (.aload_n 0, 1) := by decide +kernel
theorem dX2_open_12 : decode cX2_open 12 = .ok (.dup, 1) := by decide +kernel
theorem dX2_open_13 : decode cX2_open 13 = .ok (.getfield 34, 3) := by decide +kernel
theorem dX2_open_16 : decode cX2_open 16 = .ok (.iconst 1, 1) := by decide +kernel
theorem dX2_open_17 : decode cX2_open 17 = .ok (.iadd, 1) := by decide +kernel
theorem dX2_open_18 : decode cX2_open 18 = .ok (.putfield 34, 3) := by decide +kernel
theorem dX2_open_21 : decode cX2_open 21 = .ok (.aload_n 0, 1) := by decide +kernel
theorem dX2_open_22 : decode cX2_open 22 = .ok (.iconst 1, 1) := by decide +kernel
theorem dX2_open_23 : decode cX2_open 23 = .ok (.putfield 41, 3) := by decide +kernel
theorem dX2_open_26 : decode cX2_open 26 = .ok (.aload_n 0, 1) := by decide +kernel
theorem dX2_open_27 : decode cX2_open 27 = .ok (.iload_n 1, 1) := by decide +kernel
theorem dX2_open_28 : decode cX2_open 28 = .ok (.invokevirtual 101, 3) := by decide +kernel
theorem dX2_open_31 : decode cX2_open 31 = .ok (.ireturn, 1) := by decide +kernel
theorem dX2_readJoining_0 : decode cX2_readJoining 0 = .ok (.aload_n 0, 1) := by decide +kernel
theorem dX2_readJoining_1 : decode cX2_readJoining 1 = .ok (.getfield 15, 3) := by decide +kernel
theorem dX2_readJoining_4 : decode cX2_readJoining 4 = .ok (.getfield 44, 3) := by decide +kernel
theorem dX2_readJoining_7 : decode cX2_readJoining 7 = .ok (.bipush 41, 2) := by decide +kernel
theorem dX2_readJoining_9 : decode cX2_readJoining 9 = .ok (.if_icmp .ne 8, 3) := by decide +kernel
theorem dX2_readJoining_12 : decode cX2_readJoining 12 = .ok (.aload_n 0, 1) := by decide +kernel
theorem dX2_readJoining_13 : decode cX2_readJoining 13 = .ok (.invokevirtual 104, 3) := by decide +kernel
theorem dX2_readJoining_16 : decode cX2_readJoining 16 = .ok (.ireturn, 1) := by decide +kernel
theorem dX2_readJoining_17 : decode cX2_readJoining 17 = .ok (.aload_n 0, 1) := by decide +kernel
theorem dX2_readJoining_18 : decode cX2_readJoining 18 = .ok (.getfield 15, 3) := by decide +kernel
theorem dX2_readJoining_21 : decode cX2_readJoining 21 = .ok (.getfield 44, 3) := by decide +kernel
theorem dX2_readJoining_24 : decode cX2_readJoining 24 = .ok (.invokestatic 107, 3) := by decide +kernel
theorem dX2_readJoining_27 : decode cX2_readJoining 27 = .ok (.istore_n 1, 1) := by decide +kernel
theorem dX2_readJoining_28 : decode cX2_readJoining 28 = .ok (.iload_n 1, 1) := by decide +kernel
theorem dX2_readJoining_29 : decode cX2_readJoining 29 = .ok (.iconst (-1), 1) := by decide +kernel
theorem dX2_readJoining_30 : decode cX2_readJoining 30 = .ok (.if_icmp .ne 5, 3) := by decide +kernel
theorem dX2_readJoining_33 : decode cX2_readJoining 33 = .ok (.iconst 2, 1) := by decide +kernel
theorem dX2_readJoining_34 : decode cX2_readJoining 34 = .ok (.ireturn, 1) := by decide +kernel
theorem dX2_readJoining_35 : decode cX2_readJoining 35 = .ok (.getstatic 110, 3) := by decide +kernel
theorem dX2_readJoining_38 : decode cX2_readJoining 38 = .ok (.iload_n 1, 1) := by decide +kernel
theorem dX2_readJoining_39 : decode cX2_readJoining 39 = .ok (.iaload, 1) := by decide +kernel
theorem dX2_readJoining_40 : decode cX2_readJoining 40 = .ok (.istore_n 2, 1) := by decide +kernel
theorem dX2_readJoining_41 : decode cX2_readJoining 41 = .ok (.iload_n 2, 1) := by decide +kernel
theorem dX2_readJoining_42 : decode cX2_readJoining 42 = .ok (.iconst 4, 1) := by decide +kernel
theorem dX2_readJoining_43 : decode cX2_readJoining 43 = .ok (.if_icmp .ne 38, 3) := by decide +kernel
theorem dX2_readJoining_46 : decode cX2_readJoining 46 = .ok (.aload_n 0, 1) := by decide +kernel
theorem dX2_readJoining_47 : decode cX2_readJoining 47 = .ok (.iload_n 2, 1) := by decide +kernel
theorem dX2_readJoining_48 : decode cX2_readJoining 48 = .ok (.iconst 1, 1) := by decide +kernel
theorem dX2_readJoining_49 : decode cX2_readJoining 49 = .ok (.iadd, 1) := by decide +kernel
theorem dX2_readJoining_50 : decode cX2_readJoining 50 = .ok (.invokevirtual 49, 3) := by decide +kernel
theorem dX2_readJoining_53 : decode cX2_readJoining 53 = .ok (.aload_n 0, 1) := by decide +kernel
theorem dX2_readJoining_54 : decode cX2_readJoining 54 = .ok (.getfield 27, 3) := by decide +kernel
theorem dX2_readJoining_57 : decode cX2_readJoining 57 = .ok (.ifCond .le 29, 3) := by decide +kernel
theorem dX2_readJoining_60 : decode cX2_readJoining 60 = .ok (.getstatic 110, 3) := by decide +kernel
theorem dX2_readJoining_63 : decode cX2_readJoining 63 = .ok (.aload_n 0, 1) := by decide +kernel
theorem dX2_readJoining_64 : decode cX2_readJoining 64 = .ok (.getfield 11, 3) := by decide +kernel
theorem dX2_readJoining_67 : decode cX2_readJoining 67 = .ok (.aload_n 0, 1) := by decide +kernel
theorem dX2_readJoining_68 : decode cX2_readJoining 68 = .ok (.getfield 27, 3) := by decide +kernel
theorem dX2_readJoining_71 : decode cX2_readJoining 71 = .ok (.iconst 1, 1) := by decide +kernel
theorem dX2_readJoining_72 : decode cX2_readJoining 72 = .ok (.isub, 1) := by decide +kernel
theorem dX2_readJoining_73 : decode cX2_readJoining 73 = .ok (.iaload, 1) := by decide +kernel
theorem dX2_readJoining_74 : decode cX2_readJoining 74 = .ok (.iaload, 1) := by decide +kernel
theorem dX2_readJoining_75 : decode cX2_readJoining 75 = .ok (.iconst 4, 1) := by decide +kernel
theorem dX2_readJoining_76 : decode cX2_readJoining 76 = .ok (.if_icmp .ne 10, 3) := by decide +kernel
theorem dX2_readJoining_79 : decode cX2_readJoining 79 = .ok (.iconst 2, 1) := by decide +kernel
theorem dX2_readJoining_80 : decode cX2_readJoining 80 = .ok (.ireturn, 1) := by decide +kernel
theorem dX2_readJoining_81 : decode cX2_readJoining 81 = .ok (.aload_n 0, 1) := by decide +kernel
theorem dX2_readJoining_82 : decode cX2_readJoining 82 = .ok (.iload_n 2, 1) := by decide +kernel
theorem dX2_readJoining_83 : decode cX2_readJoining 83 = .ok (.invokevirtual 49, 3) := by decide +kernel
theorem dX2_readJoining_86 : decode cX2_readJoining 86 = .ok (.aload_n 0, 1) := by decide +kernel
theorem dX2_readJoining_87 : decode cX2_readJoining 87 = .ok (.iconst 1, 1) := by decide +kernel
theorem dX2_readJoining_88 : decode cX2_readJoining 88 = .ok (.putfield 37, 3) := by decide +kernel
theorem dX2_readJoining_91 : decode cX2_readJoining 91 = .ok (.aload_n 0, 1) := by decide +kernel
theorem dX2_readJoining_92 : decode cX2_readJoining 92 = .ok (.iload_n 2, 1) := by decide +kernel
theorem dX2_readJoining_93 : decode cX2_readJoining 93 = .ok (.iconst 2, 1) := by decide +kernel
theorem dX2_readJoining_94 : decode cX2_readJoining 94 = .ok (.if_icmp .gt 7, 3) := by decide +kernel
theorem dX2_readJoining_97 : decode cX2_readJoining 97 = .ok (.iconst 1, 1) := by decide +kernel
theorem dX2_readJoining_98 : decode cX2_readJoining 98 = .ok (.goto 4, 3) := by decide +kernel
theorem dX2_readJoining_101 : decode cX2_readJoining 101 = .ok (.iconst 0, 1) := by decide +kernel
theorem dX2_readJoining_102 : decode cX2_readJoining 102 = .ok (.putfield 41, 3) := by decide +kernel
theorem dX2_readJoining_105 : decode cX2_readJoining 105 = .ok (.aload_n 0, 1) := by decide +kernel
theorem dX2_readJoining_106 : decode cX2_readJoining 106 = .ok (.iload_n 1, 1) := by decide +kernel
theorem dX2_readJoining_107 : decode cX2_readJoining 107 = .ok (.invokevirtual 101, 3) := by decide +kernel
theorem dX2_readJoining_110 : decode cX2_readJoining 110 = .ok (.ireturn, 1) := by decide +kernel
theorem dX2_closeBracket_0 : decode cX2_closeBracket 0 = .ok (.aload_n 0, 1) := by decide +kernel
theorem dX2_closeBracket_1 : decode cX2_closeBracket 1 = .ok (.getfield 31, 3) := by decide +kernel
theorem dX2_closeBracket_4 : decode cX2_closeBracket 4 = .ok (.ifCond .ne 5, 3) := by decide +kernel
theorem dX2_closeBracket_7 : decode cX2_closeBracket 7 = .ok (.iconst 2, 1) := by decide +kernel
theorem dX2_closeBracket_8 : decode cX2_closeBracket 8 = .ok (.ireturn, 1) := by decide +kernel
theorem dX2_closeBracket_9 : decode cX2_closeBracket 9 = .ok (.aload_n 0, 1) := by decide +kernel
theorem dX2_closeBracket_10 : decode cX2_closeBracket 10 = .ok (.iconst 1, 1) := by decide +kernel
theorem dX2_closeBracket_11 : decode cX2_closeBracket 11 = .ok (.invokevirtual 49, 3) := by decide +kernel
theorem dX2_closeBracket_14 : decode cX2_closeBracket 14 = .ok (.aload_n 0, 1) := by decide +kernel
theorem dX2_closeBracket_15 : decode cX2_closeBracket 15 = .ok (.iconst 0, 1) := by decide +kernel
theorem dX2_closeBracket_16 : decode cX2_closeBracket 16 = .ok (.aload_n 0, 1) := by decide +kernel
theorem dX2_closeBracket_17 : decode cX2_closeBracket 17 = .ok (.getfield 27, 3) := by decide +kernel
theorem dX2_closeBracket_20 : decode cX2_closeBracket 20 = .ok (.iconst 1, 1) := by decide +kernel
theorem dX2_closeBracket_21 : decode cX2_closeBracket 21 = .ok (.isub, 1) := by decide +kernel
theorem dX2_closeBracket_22 : decode cX2_closeBracket 22 = .ok (.invokestatic 113, 3) := by decide +kernel
theorem dX2_closeBracket_25 : decode cX2_closeBracket 25 = .ok (.putfield 27, 3) := by decide +kernel
theorem dX2_closeBracket_28 : decode cX2_closeBracket 28 = .ok (.aload_n 0, 1) := by decide +kernel
theorem dX2_closeBracket_29 : decode cX2_closeBracket 29 = .ok (.dup, 1) := by decide +kernel
theorem dX2_closeBracket_30 : decode cX2_closeBracket 30 = .ok (.getfield 31, 3) := by decide +kernel
theorem dX2_closeBracket_33 : decode cX2_closeBracket 33 = .ok (.iconst 1, 1) := by decide +kernel
theorem dX2_closeBracket_34 : decode cX2_closeBracket 34 = .ok (.isub, 1) := by decide +kernel
theorem dX2_closeBracket_35 : decode cX2_closeBracket 35 = .ok (.putfield 31, 3) := by decide +kernel
theorem dX2_closeBracket_38 : decode cX2_closeBracket 38 = .ok (.aload_n 0, 1) := by decide +kernel
theorem dX2_closeBracket_39 : decode cX2_closeBracket 39 = .ok (.dup, 1) := by decide +kernel
theorem dX2_closeBracket_40 : decode cX2_closeBracket 40 = .ok (.getfield 34, 3) := by decide +kernel
theorem dX2_closeBracket_43 : decode cX2_closeBracket 43 = .ok (.iconst 1, 1) := by decide +kernel
theorem dX2_closeBracket_44 : decode cX2_closeBracket 44 = .ok (.isub, 1) := by decide +kernel
theorem dX2_closeBracket_45 : decode cX2_closeBracket 45 = .ok (.putfield 34, 3) := by decide +kernel
theorem dX2_closeBracket_48 : decode cX2_closeBracket 48 = .ok (.iconst 0, 1) := by decide +kernel
theorem dX2_closeBracket_49 : decode cX2_closeBracket 49 = .ok (.ireturn, 1) := by decide +kernel
theorem dX2_letWait_0 : decode cX2_letWait 0 = .ok (.aload_n 0, 1) := by decide +kernel
theorem dX2_letWait_1 : decode cX2_letWait 1 = .ok (.getfield 27, 3) := by decide +kernel
theorem dX2_letWait_4 : decode cX2_letWait 4 = .ok (.bipush 64, 2) := by decide +kernel
theorem dX2_letWait_6 : decode cX2_letWait 6 = .ok (.if_icmp .lt 5, 3) := by decide +kernel
theorem dX2_letWait_9 : decode cX2_letWait 9 = .ok (.iconst 2, 1) := by decide +kernel
theorem dX2_letWait_10 : decode cX2_letWait 10 = .ok (.ireturn, 1) := by decide +kernel
theorem dX2_letWait_11 : decode cX2_letWait 11 = .ok (.aload_n 0, 1) := by decide +kernel
theorem dX2_letWait_12 : decode cX2_letWait 12 = .ok (.getfield 11, 3) := by decide +kernel
theorem dX2_letWait_15 : decode cX2_letWait 15 = .ok (.aload_n 0, 1) := by decide +kernel
theorem dX2_letWait_16 : decode cX2_letWait 16 = .ok (.getfield 27, 3) := by decide +kernel
theorem dX2_letWait_19 : decode cX2_letWait 19 = .ok (.iload_n 1, 1) := by decide +kernel
theorem dX2_letWait_20 : decode cX2_letWait 20 = .ok (.iastore, 1) := by decide +kernel
theorem dX2_letWait_21 : decode cX2_letWait 21 = .ok (.aload_n 0, 1) := by decide +kernel
theorem dX2_letWait_22 : decode cX2_letWait 22 = .ok (.dup, 1) := by decide +kernel
theorem dX2_letWait_23 : decode cX2_letWait 23 = .ok (.getfield 27, 3) := by decide +kernel
theorem dX2_letWait_26 : decode cX2_letWait 26 = .ok (.iconst 1, 1) := by decide +kernel
theorem dX2_letWait_27 : decode cX2_letWait 27 = .ok (.iadd, 1) := by decide +kernel
theorem dX2_letWait_28 : decode cX2_letWait 28 = .ok (.putfield 27, 3) := by decide +kernel
theorem dX2_letWait_31 : decode cX2_letWait 31 = .ok (.iconst 0, 1) := by decide +kernel
theorem dX2_letWait_32 : decode cX2_letWait 32 = .ok (.ireturn, 1) := by decide +kernel
theorem dX2_unwind_0 : decode cX2_unwind 0 = .ok (.aload_n 0, 1) := by decide +kernel
theorem dX2_unwind_1 : decode cX2_unwind 1 = .ok (.getfield 27, 3) := by decide +kernel
theorem dX2_unwind_4 : decode cX2_unwind 4 = .ok (.iconst 1, 1) := by decide +kernel
theorem dX2_unwind_5 : decode cX2_unwind 5 = .ok (.isub, 1) := by decide +kernel
theorem dX2_unwind_6 : decode cX2_unwind 6 = .ok (.istore_n 2, 1) := by decide +kernel
theorem dX2_unwind_7 : decode cX2_unwind 7 = .ok (.iload_n 2, 1) := by decide +kernel
theorem dX2_unwind_8 : decode cX2_unwind 8 = .ok (.ifCond .lt 66, 3) := by decide +kernel
theorem dX2_unwind_11 : decode cX2_unwind 11 = .ok (.getstatic 110, 3) := by decide +kernel
theorem dX2_unwind_14 : decode cX2_unwind 14 = .ok (.aload_n 0, 1) := by decide +kernel
theorem dX2_unwind_15 : decode cX2_unwind 15 = .ok (.getfield 11, 3) := by decide +kernel
theorem dX2_unwind_18 : decode cX2_unwind 18 = .ok (.iload_n 2, 1) := by decide +kernel
theorem dX2_unwind_19 : decode cX2_unwind 19 = .ok (.iaload, 1) := by decide +kernel
theorem dX2_unwind_20 : decode cX2_unwind 20 = .ok (.iaload, 1) := by decide +kernel
theorem dX2_unwind_21 : decode cX2_unwind 21 = .ok (.iload_n 1, 1) := by decide +kernel
theorem dX2_unwind_22 : decode cX2_unwind 22 = .ok (.if_icmp .lt 52, 3) := by decide +kernel
theorem dX2_unwind_25 : decode cX2_unwind 25 = .ok (.aload_n 0, 1) := by decide +kernel
theorem dX2_unwind_26 : decode cX2_unwind 26 = .ok (.getfield 19, 3) := by decide +kernel
theorem dX2_unwind_29 : decode cX2_unwind 29 = .ok (.getfield 72, 3) := by decide +kernel
theorem dX2_unwind_32 : decode cX2_unwind 32 = .ok (.aload_n 0, 1) := by decide +kernel
theorem dX2_unwind_33 : decode cX2_unwind 33 = .ok (.getfield 11, 3) := by decide +kernel
theorem dX2_unwind_36 : decode cX2_unwind 36 = .ok (.iload_n 2, 1) := by decide +kernel
theorem dX2_unwind_37 : decode cX2_unwind 37 = .ok (.iaload, 1) := by decide +kernel
theorem dX2_unwind_38 : decode cX2_unwind 38 = .ok (.iconst 0, 1) := by decide +kernel
theorem dX2_unwind_39 : decode cX2_unwind 39 = .ok (.invokevirtual 97, 3) := by decide +kernel
theorem dX2_unwind_42 : decode cX2_unwind 42 = .ok (.aload_n 0, 1) := by decide +kernel
theorem dX2_unwind_43 : decode cX2_unwind 43 = .ok (.getfield 11, 3) := by decide +kernel
theorem dX2_unwind_46 : decode cX2_unwind 46 = .ok (.iload_n 2, 1) := by decide +kernel
theorem dX2_unwind_47 : decode cX2_unwind 47 = .ok (.iaload, 1) := by decide +kernel
theorem dX2_unwind_48 : decode cX2_unwind 48 = .ok (.bipush 8, 2) := by decide +kernel
theorem dX2_unwind_50 : decode cX2_unwind 50 = .ok (.if_icmp .ne 13, 3) := by decide +kernel
theorem dX2_unwind_53 : decode cX2_unwind 53 = .ok (.aload_n 0, 1) := by decide +kernel
theorem dX2_unwind_54 : decode cX2_unwind 54 = .ok (.dup, 1) := by decide +kernel
theorem dX2_unwind_55 : decode cX2_unwind 55 = .ok (.getfield 34, 3) := by decide +kernel
theorem dX2_unwind_58 : decode cX2_unwind 58 = .ok (.iconst 1, 1) := by decide +kernel
theorem dX2_unwind_59 : decode cX2_unwind 59 = .ok (.isub, 1) := by decide +kernel
theorem dX2_unwind_60 : decode cX2_unwind 60 = .ok (.putfield 34, 3) := by decide +kernel
theorem dX2_unwind_63 : decode cX2_unwind 63 = .ok (.aload_n 0, 1) := by decide +kernel
theorem dX2_unwind_64 : decode cX2_unwind 64 = .ok (.iload_n 2, 1) := by decide +kernel
theorem dX2_unwind_65 : decode cX2_unwind 65 = .ok (.putfield 27, 3) := by decide +kernel
theorem dX2_unwind_68 : decode cX2_unwind 68 = .ok (.iinc 2 (-1), 3) := by decide +kernel
theorem dX2_unwind_71 : decode cX2_unwind 71 = .ok (.goto (-64), 3) := by decide +kernel
theorem dX2_unwind_74 : decode cX2_unwind 74 = .ok (.return_, 1) := by decide +kernel
theorem dX2_stepOfUnit_0 : decode cX2_stepOfUnit 0 = .ok (.iload_n 0, 1) := by decide +kernel
theorem dX2_stepOfUnit_1 : decode cX2_stepOfUnit 1 = .ok (.lookupswitch 71 #[(2, 59), (3, 61), (263, 67), (268, 63), (269, 65), (270, 69)], 59) := by decide +kernel
theorem dX2_stepOfUnit_60 : decode cX2_stepOfUnit 60 = .ok (.iconst 0, 1) := by decide +kernel
theorem dX2_stepOfUnit_61 : decode cX2_stepOfUnit 61 = .ok (.ireturn, 1) := by decide +kernel
theorem dX2_stepOfUnit_62 : decode cX2_stepOfUnit 62 = .ok (.iconst 1, 1) := by decide +kernel
theorem dX2_stepOfUnit_63 : decode cX2_stepOfUnit 63 = .ok (.ireturn, 1) := by decide +kernel
theorem dX2_stepOfUnit_64 : decode cX2_stepOfUnit 64 = .ok (.iconst 2, 1) := by decide +kernel
theorem dX2_stepOfUnit_65 : decode cX2_stepOfUnit 65 = .ok (.ireturn, 1) := by decide +kernel
theorem dX2_stepOfUnit_66 : decode cX2_stepOfUnit 66 = .ok (.iconst 3, 1) := by decide +kernel
theorem dX2_stepOfUnit_67 : decode cX2_stepOfUnit 67 = .ok (.ireturn, 1) := by decide +kernel
theorem dX2_stepOfUnit_68 : decode cX2_stepOfUnit 68 = .ok (.iconst 4, 1) := by decide +kernel
theorem dX2_stepOfUnit_69 : decode cX2_stepOfUnit 69 = .ok (.ireturn, 1) := by decide +kernel
theorem dX2_stepOfUnit_70 : decode cX2_stepOfUnit 70 = .ok (.iconst 5, 1) := by decide +kernel
theorem dX2_stepOfUnit_71 : decode cX2_stepOfUnit 71 = .ok (.ireturn, 1) := by decide +kernel
theorem dX2_stepOfUnit_72 : decode cX2_stepOfUnit 72 = .ok (.iconst (-1), 1) := by decide +kernel
theorem dX2_stepOfUnit_73 : decode cX2_stepOfUnit 73 = .ok (.ireturn, 1) := by decide +kernel
theorem dX2_stepOfJoining_0 : decode cX2_stepOfJoining 0 = .ok (.iload_n 0, 1) := by decide +kernel
theorem dX2_stepOfJoining_1 : decode cX2_stepOfJoining 1 = .ok (.lookupswitch 121 #[(37, 118), (42, 112), (43, 106), (45, 109), (47, 115), (60, 97), (61, 103), (62, 100), (265, 91), (266, 94)], 91) := by decide +kernel
theorem dX2_stepOfJoining_92 : decode cX2_stepOfJoining 92 = .ok (.bipush 6, 2) := by decide +kernel
theorem dX2_stepOfJoining_94 : decode cX2_stepOfJoining 94 = .ok (.ireturn, 1) := by decide +kernel
theorem dX2_stepOfJoining_95 : decode cX2_stepOfJoining 95 = .ok (.bipush 7, 2) := by decide +kernel
theorem dX2_stepOfJoining_97 : decode cX2_stepOfJoining 97 = .ok (.ireturn, 1) := by decide +kernel
theorem dX2_stepOfJoining_98 : decode cX2_stepOfJoining 98 = .ok (.bipush 9, 2) := by decide +kernel
theorem dX2_stepOfJoining_100 : decode cX2_stepOfJoining 100 = .ok (.ireturn, 1) := by decide +kernel
theorem dX2_stepOfJoining_101 : decode cX2_stepOfJoining 101 = .ok (.bipush 10, 2) := by decide +kernel
theorem dX2_stepOfJoining_103 : decode cX2_stepOfJoining 103 = .ok (.ireturn, 1) := by decide +kernel
theorem dX2_stepOfJoining_104 : decode cX2_stepOfJoining 104 = .ok (.bipush 11, 2) := by decide +kernel
theorem dX2_stepOfJoining_106 : decode cX2_stepOfJoining 106 = .ok (.ireturn, 1) := by decide +kernel
theorem dX2_stepOfJoining_107 : decode cX2_stepOfJoining 107 = .ok (.bipush 12, 2) := by decide +kernel
theorem dX2_stepOfJoining_109 : decode cX2_stepOfJoining 109 = .ok (.ireturn, 1) := by decide +kernel
theorem dX2_stepOfJoining_110 : decode cX2_stepOfJoining 110 = .ok (.bipush 13, 2) := by decide +kernel
theorem dX2_stepOfJoining_112 : decode cX2_stepOfJoining 112 = .ok (.ireturn, 1) := by decide +kernel
theorem dX2_stepOfJoining_113 : decode cX2_stepOfJoining 113 = .ok (.bipush 14, 2) := by decide +kernel
theorem dX2_stepOfJoining_115 : decode cX2_stepOfJoining 115 = .ok (.ireturn, 1) := by decide +kernel
theorem dX2_stepOfJoining_116 : decode cX2_stepOfJoining 116 = .ok (.bipush 15, 2) := by decide +kernel
theorem dX2_stepOfJoining_118 : decode cX2_stepOfJoining 118 = .ok (.ireturn, 1) := by decide +kernel
theorem dX2_stepOfJoining_119 : decode cX2_stepOfJoining 119 = .ok (.bipush 16, 2) := by decide +kernel
theorem dX2_stepOfJoining_121 : decode cX2_stepOfJoining 121 = .ok (.ireturn, 1) := by decide +kernel
theorem dX2_stepOfJoining_122 : decode cX2_stepOfJoining 122 = .ok (.iconst (-1), 1) := by decide +kernel
theorem dX2_stepOfJoining_123 : decode cX2_stepOfJoining 123 = .ok (.ireturn, 1) := by decide +kernel
theorem dX3_init_0 : decode cX3_init 0 = .ok (.aload_n 0, 1) := by decide +kernel
theorem dX3_init_1 : decode cX3_init 1 = .ok (.invokespecial 3, 3) := by decide +kernel
theorem dX3_init_4 : decode cX3_init 4 = .ok (.aload_n 0, 1) := by decide +kernel
theorem dX3_init_5 : decode cX3_init 5 = .ok (.bipush 41, 2) := by decide +kernel
theorem dX3_init_7 : decode cX3_init 7 = .ok (.anewarray 9, 3) := by decide +kernel
theorem dX3_init_10 : decode cX3_init 10 = .ok (.putfield 11, 3) := by decide +kernel
theorem dX3_init_13 : decode cX3_init 13 = .ok (.iconst 0, 1) := by decide +kernel
theorem dX3_init_14 : decode cX3_init 14 = .ok (.istore_n 1, 1) := by decide +kernel
theorem dX3_init_15 : decode cX3_init 15 = .ok (.iload_n 1, 1) := by decide +kernel
theorem dX3_init_16 : decode cX3_init 16 = .ok (.bipush 41, 2) := by decide +kernel
theorem dX3_init_18 : decode cX3_init 18 = .ok (.if_icmp .ge 22, 3) := by decide +kernel
theorem dX3_init_21 : decode cX3_init 21 = .ok (.aload_n 0, 1) := by decide +kernel
theorem dX3_init_22 : decode cX3_init 22 = .ok (.getfield 11, 3) := by decide +kernel
theorem dX3_init_25 : decode cX3_init 25 = .ok (.iload_n 1, 1) := by decide +kernel
theorem dX3_init_26 : decode cX3_init 26 = .ok (.new 9, 3) := by decide +kernel
theorem dX3_init_29 : decode cX3_init 29 = .ok (.dup, 1) := by decide +kernel
theorem dX3_init_30 : decode cX3_init 30 = .ok (.invokespecial 15, 3) := by decide +kernel
theorem dX3_init_33 : decode cX3_init 33 = .ok (.aastore, 1) := by decide +kernel
theorem dX3_init_34 : decode cX3_init 34 = .ok (.iinc 1 1, 3) := by decide +kernel
theorem dX3_init_37 : decode cX3_init 37 = .ok (.goto (-22), 3) := by decide +kernel
theorem dX3_init_40 : decode cX3_init 40 = .ok (.return_, 1) := by decide +kernel
theorem dX3_begin_0 : decode cX3_begin 0 = .ok (.aload_n 0, 1) := by decide +kernel
theorem dX3_begin_1 : decode cX3_begin 1 = .ok (.iconst 0, 1) := by decide +kernel
theorem dX3_begin_2 : decode cX3_begin 2 = .ok (.putfield 16, 3) := by decide +kernel
theorem dX3_begin_5 : decode cX3_begin 5 = .ok (.aload_n 0, 1) := by decide +kernel
theorem dX3_begin_6 : decode cX3_begin 6 = .ok (.iconst 0, 1) := by decide +kernel
theorem dX3_begin_7 : decode cX3_begin 7 = .ok (.putfield 20, 3) := by decide +kernel
theorem dX3_begin_10 : decode cX3_begin 10 = .ok (.aload_n 0, 1) := by decide +kernel
theorem dX3_begin_11 : decode cX3_begin 11 = .ok (.iconst 0, 1) := by decide +kernel
theorem dX3_begin_12 : decode cX3_begin 12 = .ok (.putfield 23, 3) := by decide +kernel
theorem dX3_begin_15 : decode cX3_begin 15 = .ok (.aload_n 0, 1) := by decide +kernel
theorem dX3_begin_16 : decode cX3_begin 16 = .ok (.getfield 11, 3) := by decide +kernel
theorem dX3_begin_19 : decode cX3_begin 19 = .ok (.aload_n 0, 1) := by decide +kernel
theorem dX3_begin_20 : decode cX3_begin 20 = .ok (.getfield 16, 3) := by decide +kernel
theorem dX3_begin_23 : decode cX3_begin 23 = .ok (.aaload, 1) := by decide +kernel
theorem dX3_begin_24 : decode cX3_begin 24 = .ok (.aload_n 1, 1) := by decide +kernel
theorem dX3_begin_25 : decode cX3_begin 25 = .ok (.invokevirtual 26, 3) := by decide +kernel
theorem dX3_begin_28 : decode cX3_begin 28 = .ok (.return_, 1) := by decide +kernel
theorem dX3_keep_0 : decode cX3_keep 0 = .ok (.aload_n 0, 1) := by decide +kernel
theorem dX3_keep_1 : decode cX3_keep 1 = .ok (.aload_n 0, 1) := by decide +kernel
theorem dX3_keep_2 : decode cX3_keep 2 = .ok (.getfield 16, 3) := by decide +kernel
theorem dX3_keep_5 : decode cX3_keep 5 = .ok (.iconst 1, 1) := by decide +kernel
theorem dX3_keep_6 : decode cX3_keep 6 = .ok (.iadd, 1) := by decide +kernel
theorem dX3_keep_7 : decode cX3_keep 7 = .ok (.bipush 41, 2) := by decide +kernel
theorem dX3_keep_9 : decode cX3_keep 9 = .ok (.irem, 1) := by decide +kernel
theorem dX3_keep_10 : decode cX3_keep 10 = .ok (.putfield 16, 3) := by decide +kernel
theorem dX3_keep_13 : decode cX3_keep 13 = .ok (.aload_n 0, 1) := by decide +kernel
theorem dX3_keep_14 : decode cX3_keep 14 = .ok (.getfield 11, 3) := by decide +kernel
theorem dX3_keep_17 : decode cX3_keep 17 = .ok (.aload_n 0, 1) := by decide +kernel
theorem dX3_keep_18 : decode cX3_keep 18 = .ok (.getfield 16, 3) := by decide +kernel
theorem dX3_keep_21 : decode cX3_keep 21 = .ok (.aaload, 1) := by decide +kernel
theorem dX3_keep_22 : decode cX3_keep 22 = .ok (.aload_n 1, 1) := by decide +kernel
theorem dX3_keep_23 : decode cX3_keep 23 = .ok (.invokevirtual 26, 3) := by decide +kernel
theorem dX3_keep_26 : decode cX3_keep 26 = .ok (.aload_n 0, 1) := by decide +kernel
theorem dX3_keep_27 : decode cX3_keep 27 = .ok (.bipush 40, 2) := by decide +kernel
theorem dX3_keep_29 : decode cX3_keep 29 = .ok (.aload_n 0, 1) := by decide +kernel
theorem dX3_keep_30 : decode cX3_keep 30 = .ok (.getfield 20, 3) := by decide +kernel
theorem dX3_keep_33 : decode cX3_keep 33 = .ok (.iconst 1, 1) := by decide +kernel
theorem dX3_keep_34 : decode cX3_keep 34 = .ok (.iadd, 1) := by decide +kernel
theorem dX3_keep_35 : decode cX3_keep 35 = .ok (.invokestatic 30, 3) := by decide +kernel
theorem dX3_keep_38 : decode cX3_keep 38 = .ok (.putfield 20, 3) := by decide +kernel
theorem dX3_keep_41 : decode cX3_keep 41 = .ok (.aload_n 0, 1) := by decide +kernel
theorem dX3_keep_42 : decode cX3_keep 42 = .ok (.iconst 0, 1) := by decide +kernel
theorem dX3_keep_43 : decode cX3_keep 43 = .ok (.putfield 23, 3) := by decide +kernel
theorem dX3_keep_46 : decode cX3_keep 46 = .ok (.return_, 1) := by decide +kernel
theorem dX3_goBack_0 : decode cX3_goBack 0 = .ok (.aload_n 0, 1) := by decide +kernel
theorem dX3_goBack_1 : decode cX3_goBack 1 = .ok (.getfield 20, 3) := by decide +kernel
theorem dX3_goBack_4 : decode cX3_goBack 4 = .ok (.ifCond .ne 5, 3) := by decide +kernel
theorem dX3_goBack_7 : decode cX3_goBack 7 = .ok (.iconst 0, 1) := by decide +kernel
theorem dX3_goBack_8 : decode cX3_goBack 8 = .ok (.ireturn, 1) := by decide +kernel
theorem dX3_goBack_9 : decode cX3_goBack 9 = .ok (.aload_n 0, 1) := by decide +kernel
theorem dX3_goBack_10 : decode cX3_goBack 10 = .ok (.aload_n 0, 1) := by decide +kernel
theorem dX3_goBack_11 : decode cX3_goBack 11 = .ok (.getfield 16, 3) := by decide +kernel
theorem dX3_goBack_14 : decode cX3_goBack 14 = .ok (.bipush 41, 2) := by decide +kernel
theorem dX3_goBack_16 : decode cX3_goBack 16 = .ok (.iadd, 1) := by decide +kernel
theorem dX3_goBack_17 : decode cX3_goBack 17 = .ok (.iconst 1, 1) := by decide +kernel
theorem dX3_goBack_18 : decode cX3_goBack 18 = .ok (.isub, 1) := by decide +kernel
theorem dX3_goBack_19 : decode cX3_goBack 19 = .ok (.bipush 41, 2) := by decide +kernel
theorem dX3_goBack_21 : decode cX3_goBack 21 = .ok (.irem, 1) := by decide +kernel
theorem dX3_goBack_22 : decode cX3_goBack 22 = .ok (.putfield 16, 3) := by decide +kernel
theorem dX3_goBack_25 : decode cX3_goBack 25 = .ok (.aload_n 0, 1) := by decide +kernel
theorem dX3_goBack_26 : decode cX3_goBack 26 = .ok (.dup, 1) := by decide +kernel
theorem dX3_goBack_27 : decode cX3_goBack 27 = .ok (.getfield 20, 3) := by decide +kernel
theorem dX3_goBack_30 : decode cX3_goBack 30 = .ok (.iconst 1, 1) := by decide +kernel
theorem dX3_goBack_31 : decode cX3_goBack 31 = .ok (.isub, 1) := by decide +kernel
theorem dX3_goBack_32 : decode cX3_goBack 32 = .ok (.putfield 20, 3) := by decide +kernel
theorem dX3_goBack_35 : decode cX3_goBack 35 = .ok (.aload_n 0, 1) := by decide +kernel
theorem dX3_goBack_36 : decode cX3_goBack 36 = .ok (.dup, 1) := by decide +kernel
theorem dX3_goBack_37 : decode cX3_goBack 37 = .ok (.getfield 23, 3) := by decide +kernel
theorem dX3_goBack_40 : decode cX3_goBack 40 = .ok (.iconst 1, 1) := by decide +kernel
theorem dX3_goBack_41 : decode cX3_goBack 41 = .ok (.iadd, 1) := by decide +kernel
theorem dX3_goBack_42 : decode cX3_goBack 42 = .ok (.putfield 23, 3) := by decide +kernel
theorem dX3_goBack_45 : decode cX3_goBack 45 = .ok (.aload_n 1, 1) := by decide +kernel
theorem dX3_goBack_46 : decode cX3_goBack 46 = .ok (.aload_n 0, 1) := by decide +kernel
theorem dX3_goBack_47 : decode cX3_goBack 47 = .ok (.getfield 11, 3) := by decide +kernel
theorem dX3_goBack_50 : decode cX3_goBack 50 = .ok (.aload_n 0, 1) := by decide +kernel
theorem dX3_goBack_51 : decode cX3_goBack 51 = .ok (.getfield 16, 3) := by decide +kernel
theorem dX3_goBack_54 : decode cX3_goBack 54 = .ok (.aaload, 1) := by decide +kernel
theorem dX3_goBack_55 : decode cX3_goBack 55 = .ok (.invokevirtual 26, 3) := by decide +kernel
theorem dX3_goBack_58 : decode cX3_goBack 58 = .ok (.iconst 1, 1) := by decide +kernel
theorem dX3_goBack_59 : decode cX3_goBack 59 = .ok (.ireturn, 1) := by decide +kernel
theorem dX3_goOn_0 : decode cX3_goOn 0 = .ok (.aload_n 0, 1) := by decide +kernel
theorem dX3_goOn_1 : decode cX3_goOn 1 = .ok (.getfield 23, 3) := by decide +kernel
theorem dX3_goOn_4 : decode cX3_goOn 4 = .ok (.ifCond .ne 5, 3) := by decide +kernel
theorem dX3_goOn_7 : decode cX3_goOn 7 = .ok (.iconst 0, 1) := by decide +kernel
theorem dX3_goOn_8 : decode cX3_goOn 8 = .ok (.ireturn, 1) := by decide +kernel
theorem dX3_goOn_9 : decode cX3_goOn 9 = .ok (.aload_n 0, 1) := by decide +kernel
theorem dX3_goOn_10 : decode cX3_goOn 10 = .ok (.aload_n 0, 1) := by decide +kernel
theorem dX3_goOn_11 : decode cX3_goOn 11 = .ok (.getfield 16, 3) := by decide +kernel
theorem dX3_goOn_14 : decode cX3_goOn 14 = .ok (.iconst 1, 1) := by decide +kernel
theorem dX3_goOn_15 : decode cX3_goOn 15 = .ok (.iadd, 1) := by decide +kernel
theorem dX3_goOn_16 : decode cX3_goOn 16 = .ok (.bipush 41, 2) := by decide +kernel
theorem dX3_goOn_18 : decode cX3_goOn 18 = .ok (.irem, 1) := by decide +kernel
theorem dX3_goOn_19 : decode cX3_goOn 19 = .ok (.putfield 16, 3) := by decide +kernel
theorem dX3_goOn_22 : decode cX3_goOn 22 = .ok (.aload_n 0, 1) := by decide +kernel
theorem dX3_goOn_23 : decode cX3_goOn 23 = .ok (.dup, 1) := by decide +kernel
theorem dX3_goOn_24 : decode cX3_goOn 24 = .ok (.getfield 23, 3) := by decide +kernel
theorem dX3_goOn_27 : decode cX3_goOn 27 = .ok (.iconst 1, 1) := by decide +kernel
theorem dX3_goOn_28 : decode cX3_goOn 28 = .ok (.isub, 1) := by decide +kernel
theorem dX3_goOn_29 : decode cX3_goOn 29 = .ok (.putfield 23, 3) := by decide +kernel
theorem dX3_goOn_32 : decode cX3_goOn 32 = .ok (.aload_n 0, 1) := by decide +kernel
theorem dX3_goOn_33 : decode cX3_goOn 33 = .ok (.dup, 1) := by decide +kernel
theorem dX3_goOn_34 : decode cX3_goOn 34 = .ok (.getfield 20, 3) := by decide +kernel
theorem dX3_goOn_37 : decode cX3_goOn 37 = .ok (.iconst 1, 1) := by decide +kernel
theorem dX3_goOn_38 : decode cX3_goOn 38 = .ok (.iadd, 1) := by decide +kernel
theorem dX3_goOn_39 : decode cX3_goOn 39 = .ok (.putfield 20, 3) := by decide +kernel
theorem dX3_goOn_42 : decode cX3_goOn 42 = .ok (.aload_n 1, 1) := by decide +kernel
theorem dX3_goOn_43 : decode cX3_goOn 43 = .ok (.aload_n 0, 1) := by decide +kernel
theorem dX3_goOn_44 : decode cX3_goOn 44 = .ok (.getfield 11, 3) := by decide +kernel
theorem dX3_goOn_47 : decode cX3_goOn 47 = .ok (.aload_n 0, 1) := by decide +kernel
theorem dX3_goOn_48 : decode cX3_goOn 48 = .ok (.getfield 16, 3) := by decide +kernel
theorem dX3_goOn_51 : decode cX3_goOn 51 = .ok (.aaload, 1) := by decide +kernel
theorem dX3_goOn_52 : decode cX3_goOn 52 = .ok (.invokevirtual 26, 3) := by decide +kernel
theorem dX3_goOn_55 : decode cX3_goOn 55 = .ok (.iconst 1, 1) := by decide +kernel
theorem dX3_goOn_56 : decode cX3_goOn 56 = .ok (.ireturn, 1) := by decide +kernel
theorem dX4_init_0 : decode cX4_init 0 = .ok (.aload_n 0, 1) := by decide +kernel
theorem dX4_init_1 : decode cX4_init 1 = .ok (.invokespecial 3, 3) := by decide +kernel
theorem dX4_init_4 : decode cX4_init 4 = .ok (.aload_n 0, 1) := by decide +kernel
theorem dX4_init_5 : decode cX4_init 5 = .ok (.bipush 100, 2) := by decide +kernel
theorem dX4_init_7 : decode cX4_init 7 = .ok (.newarray .int, 2) := by decide +kernel
theorem dX4_init_9 : decode cX4_init 9 = .ok (.putfield 11, 3) := by decide +kernel
theorem dX4_init_12 : decode cX4_init 12 = .ok (.aload_n 0, 1) := by decide +kernel
theorem dX4_init_13 : decode cX4_init 13 = .ok (.bipush 100, 2) := by decide +kernel
theorem dX4_init_15 : decode cX4_init 15 = .ok (.newarray .int, 2) := by decide +kernel
theorem dX4_init_17 : decode cX4_init 17 = .ok (.putfield 15, 3) := by decide +kernel
theorem dX4_init_20 : decode cX4_init 20 = .ok (.aload_n 0, 1) := by decide +kernel
theorem dX4_init_21 : decode cX4_init 21 = .ok (.aload_n 1, 1) := by decide +kernel
theorem dX4_init_22 : decode cX4_init 22 = .ok (.putfield 18, 3) := by decide +kernel
theorem dX4_init_25 : decode cX4_init 25 = .ok (.aload_n 0, 1) := by decide +kernel
theorem dX4_init_26 : decode cX4_init 26 = .ok (.aload_n 2, 1) := by decide +kernel
theorem dX4_init_27 : decode cX4_init 27 = .ok (.putfield 22, 3) := by decide +kernel
theorem dX4_init_30 : decode cX4_init 30 = .ok (.return_, 1) := by decide +kernel
theorem dX4_loafBy_0 : decode cX4_loafBy 0 = .ok (.iload_n 1, 1) := by decide +kernel
theorem dX4_loafBy_1 : decode cX4_loafBy 1 = .ok (.ifCond .lt 8, 3) := by decide +kernel
theorem dX4_loafBy_4 : decode cX4_loafBy 4 = .ok (.iload_n 1, 1) := by decide +kernel
theorem dX4_loafBy_5 : decode cX4_loafBy 5 = .ok (.iconst 5, 1) := by decide +kernel
theorem dX4_loafBy_6 : decode cX4_loafBy 6 = .ok (.if_icmp .lt 5, 3) := by decide +kernel
theorem dX4_loafBy_9 : decode cX4_loafBy 9 = .ok (.iconst 0, 1) := by decide +kernel
theorem dX4_loafBy_10 : decode cX4_loafBy 10 = .ok (.ireturn, 1) := by decide +kernel
theorem dX4_loafBy_11 : decode cX4_loafBy 11 = .ok (.aload_n 0, 1) := by decide +kernel
theorem dX4_loafBy_12 : decode cX4_loafBy 12 = .ok (.getfield 18, 3) := by decide +kernel
theorem dX4_loafBy_15 : decode cX4_loafBy 15 = .ok (.getfield 26, 3) := by decide +kernel
theorem dX4_loafBy_18 : decode cX4_loafBy 18 = .ok (.iload_n 2, 1) := by decide +kernel
theorem dX4_loafBy_19 : decode cX4_loafBy 19 = .ok (.aload_n 0, 1) := by decide +kernel
theorem dX4_loafBy_20 : decode cX4_loafBy 20 = .ok (.getfield 22, 3) := by decide +kernel
theorem dX4_loafBy_23 : decode cX4_loafBy 23 = .ok (.getfield 32, 3) := by decide +kernel
theorem dX4_loafBy_26 : decode cX4_loafBy 26 = .ok (.iload_n 1, 1) := by decide +kernel
theorem dX4_loafBy_27 : decode cX4_loafBy 27 = .ok (.iaload, 1) := by decide +kernel
theorem dX4_loafBy_28 : decode cX4_loafBy 28 = .ok (.aload_n 0, 1) := by decide +kernel
theorem dX4_loafBy_29 : decode cX4_loafBy 29 = .ok (.getfield 22, 3) := by decide +kernel
theorem dX4_loafBy_32 : decode cX4_loafBy 32 = .ok (.getfield 37, 3) := by decide +kernel
theorem dX4_loafBy_35 : decode cX4_loafBy 35 = .ok (.iload_n 1, 1) := by decide +kernel
theorem dX4_loafBy_36 : decode cX4_loafBy 36 = .ok (.iaload, 1) := by decide +kernel
theorem dX4_loafBy_37 : decode cX4_loafBy 37 = .ok (.iload_n 3, 1) := by decide +kernel
theorem dX4_loafBy_38 : decode cX4_loafBy 38 = .ok (.iload 4, 2) := by decide +kernel
theorem dX4_loafBy_40 : decode cX4_loafBy 40 = .ok (.invokevirtual 40, 3) := by decide +kernel
theorem dX4_loafBy_43 : decode cX4_loafBy 43 = .ok (.ireturn, 1) := by decide +kernel
theorem dX4_loafNow_0 : decode cX4_loafNow 0 = .ok (.iload_n 1, 1) := by decide +kernel
theorem dX4_loafNow_1 : decode cX4_loafNow 1 = .ok (.ifCond .lt 8, 3) := by decide +kernel
theorem dX4_loafNow_4 : decode cX4_loafNow 4 = .ok (.iload_n 1, 1) := by decide +kernel
theorem dX4_loafNow_5 : decode cX4_loafNow 5 = .ok (.iconst 5, 1) := by decide +kernel
theorem dX4_loafNow_6 : decode cX4_loafNow 6 = .ok (.if_icmp .lt 5, 3) := by decide +kernel
theorem dX4_loafNow_9 : decode cX4_loafNow 9 = .ok (.iconst 0, 1) := by decide +kernel
theorem dX4_loafNow_10 : decode cX4_loafNow 10 = .ok (.ireturn, 1) := by decide +kernel
theorem dX4_loafNow_11 : decode cX4_loafNow 11 = .ok (.aload_n 0, 1) := by decide +kernel
theorem dX4_loafNow_12 : decode cX4_loafNow 12 = .ok (.iload_n 1, 1) := by decide +kernel
theorem dX4_loafNow_13 : decode cX4_loafNow 13 = .ok (.aload_n 0, 1) := by decide +kernel
theorem dX4_loafNow_14 : decode cX4_loafNow 14 = .ok (.getfield 22, 3) := by decide +kernel
theorem dX4_loafNow_17 : decode cX4_loafNow 17 = .ok (.getfield 46, 3) := by decide +kernel
theorem dX4_loafNow_20 : decode cX4_loafNow 20 = .ok (.iload_n 1, 1) := by decide +kernel
theorem dX4_loafNow_21 : decode cX4_loafNow 21 = .ok (.iaload, 1) := by decide +kernel
theorem dX4_loafNow_22 : decode cX4_loafNow 22 = .ok (.aload_n 0, 1) := by decide +kernel
theorem dX4_loafNow_23 : decode cX4_loafNow 23 = .ok (.getfield 22, 3) := by decide +kernel
theorem dX4_loafNow_26 : decode cX4_loafNow 26 = .ok (.getfield 49, 3) := by decide +kernel
theorem dX4_loafNow_29 : decode cX4_loafNow 29 = .ok (.aload_n 0, 1) := by decide +kernel
theorem dX4_loafNow_30 : decode cX4_loafNow 30 = .ok (.invokevirtual 53, 3) := by decide +kernel
theorem dX4_loafNow_33 : decode cX4_loafNow 33 = .ok (.invokevirtual 57, 3) := by decide +kernel
theorem dX4_loafNow_36 : decode cX4_loafNow 36 = .ok (.ireturn, 1) := by decide +kernel
theorem dX4_countSayers_0 : decode cX4_countSayers 0 = .ok (.aload_n 0, 1) := by decide +kernel
theorem dX4_countSayers_1 : decode cX4_countSayers 1 = .ok (.getfield 22, 3) := by decide +kernel
theorem dX4_countSayers_4 : decode cX4_countSayers 4 = .ok (.invokevirtual 61, 3) := by decide +kernel
theorem dX4_countSayers_7 : decode cX4_countSayers 7 = .ok (.invokestatic 64, 3) := by decide +kernel
theorem dX4_countSayers_10 : decode cX4_countSayers 10 = .ok (.ireturn, 1) := by decide +kernel
theorem dX4_deedsMaking_0 : decode cX4_deedsMaking 0 = .ok (.aload_n 0, 1) := by decide +kernel
theorem dX4_deedsMaking_1 : decode cX4_deedsMaking 1 = .ok (.invokevirtual 53, 3) := by decide +kernel
theorem dX4_deedsMaking_4 : decode cX4_deedsMaking 4 = .ok (.istore_n 3, 1) := by decide +kernel
theorem dX4_deedsMaking_5 : decode cX4_deedsMaking 5 = .ok (.iconst 0, 1) := by decide +kernel
theorem dX4_deedsMaking_6 : decode cX4_deedsMaking 6 = .ok (.istore 4, 2) := by decide +kernel
theorem dX4_deedsMaking_8 : decode cX4_deedsMaking 8 = .ok (.iconst 0, 1) := by decide +kernel
theorem dX4_deedsMaking_9 : decode cX4_deedsMaking 9 = .ok (.istore 5, 2) := by decide +kernel
theorem dX4_deedsMaking_11 : decode cX4_deedsMaking 11 = .ok (.iload 5, 2) := by decide +kernel
theorem dX4_deedsMaking_13 : decode cX4_deedsMaking 13 = .ok (.iconst 1, 1) := by decide +kernel
theorem dX4_deedsMaking_14 : decode cX4_deedsMaking 14 = .ok (.aload_n 0, 1) := by decide +kernel
theorem dX4_deedsMaking_15 : decode cX4_deedsMaking 15 = .ok (.getfield 18, 3) := by decide +kernel
theorem dX4_deedsMaking_18 : decode cX4_deedsMaking 18 = .ok (.getfield 70, 3) := by decide +kernel
theorem dX4_deedsMaking_21 : decode cX4_deedsMaking 21 = .ok (.ishl, 1) := by decide +kernel
theorem dX4_deedsMaking_22 : decode cX4_deedsMaking 22 = .ok (.if_icmp .ge 37, 3) := by decide +kernel
theorem dX4_deedsMaking_25 : decode cX4_deedsMaking 25 = .ok (.aload_n 0, 1) := by decide +kernel
theorem dX4_deedsMaking_26 : decode cX4_deedsMaking 26 = .ok (.iload_n 1, 1) := by decide +kernel
theorem dX4_deedsMaking_27 : decode cX4_deedsMaking 27 = .ok (.iload 5, 2) := by decide +kernel
theorem dX4_deedsMaking_29 : decode cX4_deedsMaking 29 = .ok (.aload_n 0, 1) := by decide +kernel
theorem dX4_deedsMaking_30 : decode cX4_deedsMaking 30 = .ok (.getfield 22, 3) := by decide +kernel
theorem dX4_deedsMaking_33 : decode cX4_deedsMaking 33 = .ok (.getfield 49, 3) := by decide +kernel
theorem dX4_deedsMaking_36 : decode cX4_deedsMaking 36 = .ok (.iload_n 3, 1) := by decide +kernel
theorem dX4_deedsMaking_37 : decode cX4_deedsMaking 37 = .ok (.invokevirtual 57, 3) := by decide +kernel
theorem dX4_deedsMaking_40 : decode cX4_deedsMaking 40 = .ok (.iload_n 2, 1) := by decide +kernel
theorem dX4_deedsMaking_41 : decode cX4_deedsMaking 41 = .ok (.if_icmp .ne 12, 3) := by decide +kernel
theorem dX4_deedsMaking_44 : decode cX4_deedsMaking 44 = .ok (.iload 4, 2) := by decide +kernel
theorem dX4_deedsMaking_46 : decode cX4_deedsMaking 46 = .ok (.iconst 1, 1) := by decide +kernel
theorem dX4_deedsMaking_47 : decode cX4_deedsMaking 47 = .ok (.iload 5, 2) := by decide +kernel
theorem dX4_deedsMaking_49 : decode cX4_deedsMaking 49 = .ok (.ishl, 1) := by decide +kernel
theorem dX4_deedsMaking_50 : decode cX4_deedsMaking 50 = .ok (.ior, 1) := by decide +kernel
theorem dX4_deedsMaking_51 : decode cX4_deedsMaking 51 = .ok (.istore 4, 2) := by decide +kernel
theorem dX4_deedsMaking_53 : decode cX4_deedsMaking 53 = .ok (.iinc 5 1, 3) := by decide +kernel
theorem dX4_deedsMaking_56 : decode cX4_deedsMaking 56 = .ok (.goto (-45), 3) := by decide +kernel
theorem dX4_deedsMaking_59 : decode cX4_deedsMaking 59 = .ok (.iload 4, 2) := by decide +kernel
theorem dX4_deedsMaking_61 : decode cX4_deedsMaking 61 = .ok (.ireturn, 1) := by decide +kernel
theorem dX4_fewestDeeds_0 : decode cX4_fewestDeeds 0 = .ok (.aload_n 0, 1) := by decide +kernel
theorem dX4_fewestDeeds_1 : decode cX4_fewestDeeds 1 = .ok (.invokevirtual 53, 3) := by decide +kernel
theorem dX4_fewestDeeds_4 : decode cX4_fewestDeeds 4 = .ok (.istore_n 3, 1) := by decide +kernel
theorem dX4_fewestDeeds_5 : decode cX4_fewestDeeds 5 = .ok (.iconst (-1), 1) := by decide +kernel
theorem dX4_fewestDeeds_6 : decode cX4_fewestDeeds 6 = .ok (.istore 4, 2) := by decide +kernel
theorem dX4_fewestDeeds_8 : decode cX4_fewestDeeds 8 = .ok (.iconst 0, 1) := by decide +kernel
theorem dX4_fewestDeeds_9 : decode cX4_fewestDeeds 9 = .ok (.istore 5, 2) := by decide +kernel
theorem dX4_fewestDeeds_11 : decode cX4_fewestDeeds 11 = .ok (.iload 5, 2) := by decide +kernel
theorem dX4_fewestDeeds_13 : decode cX4_fewestDeeds 13 = .ok (.iconst 1, 1) := by decide +kernel
theorem dX4_fewestDeeds_14 : decode cX4_fewestDeeds 14 = .ok (.aload_n 0, 1) := by decide +kernel
theorem dX4_fewestDeeds_15 : decode cX4_fewestDeeds 15 = .ok (.getfield 18, 3) := by decide +kernel
theorem dX4_fewestDeeds_18 : decode cX4_fewestDeeds 18 = .ok (.getfield 70, 3) := by decide +kernel
theorem dX4_fewestDeeds_21 : decode cX4_fewestDeeds 21 = .ok (.ishl, 1) := by decide +kernel
theorem dX4_fewestDeeds_22 : decode cX4_fewestDeeds 22 = .ok (.if_icmp .ge 63, 3) := by decide +kernel
theorem dX4_fewestDeeds_25 : decode cX4_fewestDeeds 25 = .ok (.iload 4, 2) := by decide +kernel
theorem dX4_fewestDeeds_27 : decode cX4_fewestDeeds 27 = .ok (.iconst (-1), 1) := by decide +kernel
theorem dX4_fewestDeeds_28 : decode cX4_fewestDeeds 28 = .ok (.if_icmp .eq 16, 3) := by decide +kernel
theorem dX4_fewestDeeds_31 : decode cX4_fewestDeeds 31 = .ok (.iload 5, 2) := by decide +kernel
theorem dX4_fewestDeeds_33 : decode cX4_fewestDeeds 33 = .ok (.invokestatic 64, 3) := by decide +kernel
theorem dX4_fewestDeeds_36 : decode cX4_fewestDeeds 36 = .ok (.iload 4, 2) := by decide +kernel
theorem dX4_fewestDeeds_38 : decode cX4_fewestDeeds 38 = .ok (.invokestatic 64, 3) := by decide +kernel
theorem dX4_fewestDeeds_41 : decode cX4_fewestDeeds 41 = .ok (.if_icmp .ge 7, 3) := by decide +kernel
theorem dX4_fewestDeeds_44 : decode cX4_fewestDeeds 44 = .ok (.iconst 1, 1) := by decide +kernel
theorem dX4_fewestDeeds_45 : decode cX4_fewestDeeds 45 = .ok (.goto 4, 3) := by decide +kernel
theorem dX4_fewestDeeds_48 : decode cX4_fewestDeeds 48 = .ok (.iconst 0, 1) := by decide +kernel
theorem dX4_fewestDeeds_49 : decode cX4_fewestDeeds 49 = .ok (.istore 6, 2) := by decide +kernel
theorem dX4_fewestDeeds_51 : decode cX4_fewestDeeds 51 = .ok (.iload 6, 2) := by decide +kernel
theorem dX4_fewestDeeds_53 : decode cX4_fewestDeeds 53 = .ok (.ifCond .eq 26, 3) := by decide +kernel
theorem dX4_fewestDeeds_56 : decode cX4_fewestDeeds 56 = .ok (.aload_n 0, 1) := by decide +kernel
theorem dX4_fewestDeeds_57 : decode cX4_fewestDeeds 57 = .ok (.iload_n 1, 1) := by decide +kernel
theorem dX4_fewestDeeds_58 : decode cX4_fewestDeeds 58 = .ok (.iload 5, 2) := by decide +kernel
theorem dX4_fewestDeeds_60 : decode cX4_fewestDeeds 60 = .ok (.aload_n 0, 1) := by decide +kernel
theorem dX4_fewestDeeds_61 : decode cX4_fewestDeeds 61 = .ok (.getfield 22, 3) := by decide +kernel
theorem dX4_fewestDeeds_64 : decode cX4_fewestDeeds 64 = .ok (.getfield 49, 3) := by decide +kernel
theorem dX4_fewestDeeds_67 : decode cX4_fewestDeeds 67 = .ok (.iload_n 3, 1) := by decide +kernel
theorem dX4_fewestDeeds_68 : decode cX4_fewestDeeds 68 = .ok (.invokevirtual 57, 3) := by decide +kernel
theorem dX4_fewestDeeds_71 : decode cX4_fewestDeeds 71 = .ok (.iload_n 2, 1) := by decide +kernel
theorem dX4_fewestDeeds_72 : decode cX4_fewestDeeds 72 = .ok (.if_icmp .lt 7, 3) := by decide +kernel
theorem dX4_fewestDeeds_75 : decode cX4_fewestDeeds 75 = .ok (.iload 5, 2) := by decide +kernel
theorem dX4_fewestDeeds_77 : decode cX4_fewestDeeds 77 = .ok (.istore 4, 2) := by decide +kernel
theorem dX4_fewestDeeds_79 : decode cX4_fewestDeeds 79 = .ok (.iinc 5 1, 3) := by decide +kernel
theorem dX4_fewestDeeds_82 : decode cX4_fewestDeeds 82 = .ok (.goto (-71), 3) := by decide +kernel
theorem dX4_fewestDeeds_85 : decode cX4_fewestDeeds 85 = .ok (.iload 4, 2) := by decide +kernel
theorem dX4_fewestDeeds_87 : decode cX4_fewestDeeds 87 = .ok (.ireturn, 1) := by decide +kernel
theorem dX4_heatsFor_0 : decode cX4_heatsFor 0 = .ok (.iload_n 1, 1) := by decide +kernel
theorem dX4_heatsFor_1 : decode cX4_heatsFor 1 = .ok (.ifCond .lt 8, 3) := by decide +kernel
theorem dX4_heatsFor_4 : decode cX4_heatsFor 4 = .ok (.iload_n 1, 1) := by decide +kernel
theorem dX4_heatsFor_5 : decode cX4_heatsFor 5 = .ok (.iconst 5, 1) := by decide +kernel
theorem dX4_heatsFor_6 : decode cX4_heatsFor 6 = .ok (.if_icmp .lt 5, 3) := by decide +kernel
theorem dX4_heatsFor_9 : decode cX4_heatsFor 9 = .ok (.iconst (-1), 1) := by decide +kernel
theorem dX4_heatsFor_10 : decode cX4_heatsFor 10 = .ok (.ireturn, 1) := by decide +kernel
theorem dX4_heatsFor_11 : decode cX4_heatsFor 11 = .ok (.aload_n 0, 1) := by decide +kernel
theorem dX4_heatsFor_12 : decode cX4_heatsFor 12 = .ok (.invokevirtual 53, 3) := by decide +kernel
theorem dX4_heatsFor_15 : decode cX4_heatsFor 15 = .ok (.istore_n 3, 1) := by decide +kernel
theorem dX4_heatsFor_16 : decode cX4_heatsFor 16 = .ok (.iconst 0, 1) := by decide +kernel
theorem dX4_heatsFor_17 : decode cX4_heatsFor 17 = .ok (.istore 4, 2) := by decide +kernel
theorem dX4_heatsFor_19 : decode cX4_heatsFor 19 = .ok (.iconst 0, 1) := by decide +kernel
theorem dX4_heatsFor_20 : decode cX4_heatsFor 20 = .ok (.istore 5, 2) := by decide +kernel
theorem dX4_heatsFor_22 : decode cX4_heatsFor 22 = .ok (.iload 5, 2) := by decide +kernel
theorem dX4_heatsFor_24 : decode cX4_heatsFor 24 = .ok (.bipush 10, 2) := by decide +kernel
theorem dX4_heatsFor_26 : decode cX4_heatsFor 26 = .ok (.if_icmp .ge 39, 3) := by decide +kernel
theorem dX4_heatsFor_29 : decode cX4_heatsFor 29 = .ok (.aload_n 0, 1) := by decide +kernel
theorem dX4_heatsFor_30 : decode cX4_heatsFor 30 = .ok (.iload_n 1, 1) := by decide +kernel
theorem dX4_heatsFor_31 : decode cX4_heatsFor 31 = .ok (.aload_n 0, 1) := by decide +kernel
theorem dX4_heatsFor_32 : decode cX4_heatsFor 32 = .ok (.getfield 22, 3) := by decide +kernel
theorem dX4_heatsFor_35 : decode cX4_heatsFor 35 = .ok (.getfield 46, 3) := by decide +kernel
theorem dX4_heatsFor_38 : decode cX4_heatsFor 38 = .ok (.iload_n 1, 1) := by decide +kernel
theorem dX4_heatsFor_39 : decode cX4_heatsFor 39 = .ok (.iaload, 1) := by decide +kernel
theorem dX4_heatsFor_40 : decode cX4_heatsFor 40 = .ok (.iload 5, 2) := by decide +kernel
theorem dX4_heatsFor_42 : decode cX4_heatsFor 42 = .ok (.iload_n 3, 1) := by decide +kernel
theorem dX4_heatsFor_43 : decode cX4_heatsFor 43 = .ok (.invokevirtual 57, 3) := by decide +kernel
theorem dX4_heatsFor_46 : decode cX4_heatsFor 46 = .ok (.iload_n 2, 1) := by decide +kernel
theorem dX4_heatsFor_47 : decode cX4_heatsFor 47 = .ok (.if_icmp .lt 12, 3) := by decide +kernel
theorem dX4_heatsFor_50 : decode cX4_heatsFor 50 = .ok (.iload 4, 2) := by decide +kernel
theorem dX4_heatsFor_52 : decode cX4_heatsFor 52 = .ok (.iconst 1, 1) := by decide +kernel
theorem dX4_heatsFor_53 : decode cX4_heatsFor 53 = .ok (.iload 5, 2) := by decide +kernel
theorem dX4_heatsFor_55 : decode cX4_heatsFor 55 = .ok (.ishl, 1) := by decide +kernel
theorem dX4_heatsFor_56 : decode cX4_heatsFor 56 = .ok (.ior, 1) := by decide +kernel
theorem dX4_heatsFor_57 : decode cX4_heatsFor 57 = .ok (.istore 4, 2) := by decide +kernel
theorem dX4_heatsFor_59 : decode cX4_heatsFor 59 = .ok (.iinc 5 1, 3) := by decide +kernel
theorem dX4_heatsFor_62 : decode cX4_heatsFor 62 = .ok (.goto (-40), 3) := by decide +kernel
theorem dX4_heatsFor_65 : decode cX4_heatsFor 65 = .ok (.iload 4, 2) := by decide +kernel
theorem dX4_heatsFor_67 : decode cX4_heatsFor 67 = .ok (.ireturn, 1) := by decide +kernel
theorem dX4_start_0 : decode cX4_start 0 = .ok (.aload_n 0, 1) := by decide +kernel
theorem dX4_start_1 : decode cX4_start 1 = .ok (.aload_n 0, 1) := by decide +kernel
theorem dX4_start_2 : decode cX4_start 2 = .ok (.iload_n 1, 1) := by decide +kernel
theorem dX4_start_3 : decode cX4_start 3 = .ok (.invokevirtual 72, 3) := by decide +kernel
theorem dX4_start_6 : decode cX4_start 6 = .ok (.putfield 75, 3) := by decide +kernel
theorem dX4_start_9 : decode cX4_start 9 = .ok (.aload_n 0, 1) := by decide +kernel
theorem dX4_start_10 : decode cX4_start 10 = .ok (.iload_n 1, 1) := by decide +kernel
theorem dX4_start_11 : decode cX4_start 11 = .ok (.ifCond .lt 8, 3) := by decide +kernel
theorem dX4_start_14 : decode cX4_start 14 = .ok (.iload_n 1, 1) := by decide +kernel
theorem dX4_start_15 : decode cX4_start 15 = .ok (.iconst 5, 1) := by decide +kernel
theorem dX4_start_16 : decode cX4_start 16 = .ok (.if_icmp .lt 7, 3) := by decide +kernel
theorem dX4_start_19 : decode cX4_start 19 = .ok (.iconst 0, 1) := by decide +kernel
theorem dX4_start_20 : decode cX4_start 20 = .ok (.goto 12, 3) := by decide +kernel
theorem dX4_start_23 : decode cX4_start 23 = .ok (.aload_n 0, 1) := by decide +kernel
theorem dX4_start_24 : decode cX4_start 24 = .ok (.getfield 22, 3) := by decide +kernel
theorem dX4_start_27 : decode cX4_start 27 = .ok (.getfield 32, 3) := by decide +kernel
theorem dX4_start_30 : decode cX4_start 30 = .ok (.iload_n 1, 1) := by decide +kernel
theorem dX4_start_31 : decode cX4_start 31 = .ok (.iaload, 1) := by decide +kernel
theorem dX4_start_32 : decode cX4_start 32 = .ok (.putfield 77, 3) := by decide +kernel
theorem dX4_start_35 : decode cX4_start 35 = .ok (.aload_n 0, 1) := by decide +kernel
theorem dX4_start_36 : decode cX4_start 36 = .ok (.aload_n 0, 1) := by decide +kernel
theorem dX4_start_37 : decode cX4_start 37 = .ok (.getfield 22, 3) := by decide +kernel
theorem dX4_start_40 : decode cX4_start 40 = .ok (.getfield 80, 3) := by decide +kernel
theorem dX4_start_43 : decode cX4_start 43 = .ok (.putfield 83, 3) := by decide +kernel
theorem dX4_start_46 : decode cX4_start 46 = .ok (.return_, 1) := by decide +kernel
theorem dX4_step_0 : decode cX4_step 0 = .ok (.aload_n 0, 1) := by decide +kernel
theorem dX4_step_1 : decode cX4_step 1 = .ok (.bipush 99, 2) := by decide +kernel
theorem dX4_step_3 : decode cX4_step 3 = .ok (.aload_n 0, 1) := by decide +kernel
theorem dX4_step_4 : decode cX4_step 4 = .ok (.getfield 77, 3) := by decide +kernel
theorem dX4_step_7 : decode cX4_step 7 = .ok (.iconst 1, 1) := by decide +kernel
theorem dX4_step_8 : decode cX4_step 8 = .ok (.iadd, 1) := by decide +kernel
theorem dX4_step_9 : decode cX4_step 9 = .ok (.invokestatic 84, 3) := by decide +kernel
theorem dX4_step_12 : decode cX4_step 12 = .ok (.putfield 77, 3) := by decide +kernel
theorem dX4_step_15 : decode cX4_step 15 = .ok (.aload_n 0, 1) := by decide +kernel
theorem dX4_step_16 : decode cX4_step 16 = .ok (.aload_n 0, 1) := by decide +kernel
theorem dX4_step_17 : decode cX4_step 17 = .ok (.getfield 83, 3) := by decide +kernel
theorem dX4_step_20 : decode cX4_step 20 = .ok (.invokestatic 90, 3) := by decide +kernel
theorem dX4_step_23 : decode cX4_step 23 = .ok (.putfield 83, 3) := by decide +kernel
theorem dX4_step_26 : decode cX4_step 26 = .ok (.aload_n 0, 1) := by decide +kernel
theorem dX4_step_27 : decode cX4_step 27 = .ok (.aload_n 0, 1) := by decide +kernel
theorem dX4_step_28 : decode cX4_step 28 = .ok (.getfield 18, 3) := by decide +kernel
theorem dX4_step_31 : decode cX4_step 31 = .ok (.getfield 26, 3) := by decide +kernel
theorem dX4_step_34 : decode cX4_step 34 = .ok (.iconst 0, 1) := by decide +kernel
theorem dX4_step_35 : decode cX4_step 35 = .ok (.aload_n 0, 1) := by decide +kernel
theorem dX4_step_36 : decode cX4_step 36 = .ok (.getfield 77, 3) := by decide +kernel
theorem dX4_step_39 : decode cX4_step 39 = .ok (.aload_n 0, 1) := by decide +kernel
theorem dX4_step_40 : decode cX4_step 40 = .ok (.getfield 75, 3) := by decide +kernel
theorem dX4_step_43 : decode cX4_step 43 = .ok (.aload_n 0, 1) := by decide +kernel
theorem dX4_step_44 : decode cX4_step 44 = .ok (.getfield 83, 3) := by decide +kernel
theorem dX4_step_47 : decode cX4_step 47 = .ok (.invokestatic 93, 3) := by decide +kernel
theorem dX4_step_50 : decode cX4_step 50 = .ok (.iconst 0, 1) := by decide +kernel
theorem dX4_step_51 : decode cX4_step 51 = .ok (.invokevirtual 40, 3) := by decide +kernel
theorem dX4_step_54 : decode cX4_step 54 = .ok (.putfield 75, 3) := by decide +kernel
theorem dX4_step_57 : decode cX4_step 57 = .ok (.return_, 1) := by decide +kernel
theorem dX4_loafBehind_0 : decode cX4_loafBehind 0 = .ok (.aload_n 0, 1) := by decide +kernel
theorem dX4_loafBehind_1 : decode cX4_loafBehind 1 = .ok (.iload_n 1, 1) := by decide +kernel
theorem dX4_loafBehind_2 : decode cX4_loafBehind 2 = .ok (.invokevirtual 96, 3) := by decide +kernel
theorem dX4_loafBehind_5 : decode cX4_loafBehind 5 = .ok (.iconst 0, 1) := by decide +kernel
theorem dX4_loafBehind_6 : decode cX4_loafBehind 6 = .ok (.istore_n 3, 1) := by decide +kernel
theorem dX4_loafBehind_7 : decode cX4_loafBehind 7 = .ok (.iload_n 3, 1) := by decide +kernel
theorem dX4_loafBehind_8 : decode cX4_loafBehind 8 = .ok (.iload_n 2, 1) := by decide +kernel
theorem dX4_loafBehind_9 : decode cX4_loafBehind 9 = .ok (.if_icmp .ge 13, 3) := by decide +kernel
theorem dX4_loafBehind_12 : decode cX4_loafBehind 12 = .ok (.aload_n 0, 1) := by decide +kernel
theorem dX4_loafBehind_13 : decode cX4_loafBehind 13 = .ok (.invokevirtual 100, 3) := by decide +kernel
theorem dX4_loafBehind_16 : decode cX4_loafBehind 16 = .ok (.iinc 3 1, 3) := by decide +kernel
theorem dX4_loafBehind_19 : decode cX4_loafBehind 19 = .ok (.goto (-12), 3) := by decide +kernel
theorem dX4_loafBehind_22 : decode cX4_loafBehind 22 = .ok (.aload_n 0, 1) := by decide +kernel
theorem dX4_loafBehind_23 : decode cX4_loafBehind 23 = .ok (.getfield 75, 3) := by decide +kernel
theorem dX4_loafBehind_26 : decode cX4_loafBehind 26 = .ok (.ireturn, 1) := by decide +kernel
theorem dX4_breadsTill_0 : decode cX4_breadsTill 0 = .ok (.aload_n 0, 1) := by decide +kernel
theorem dX4_breadsTill_1 : decode cX4_breadsTill 1 = .ok (.iload_n 1, 1) := by decide +kernel
theorem dX4_breadsTill_2 : decode cX4_breadsTill 2 = .ok (.invokevirtual 96, 3) := by decide +kernel
theorem dX4_breadsTill_5 : decode cX4_breadsTill 5 = .ok (.iconst 0, 1) := by decide +kernel
theorem dX4_breadsTill_6 : decode cX4_breadsTill 6 = .ok (.istore_n 3, 1) := by decide +kernel
theorem dX4_breadsTill_7 : decode cX4_breadsTill 7 = .ok (.iload_n 3, 1) := by decide +kernel
theorem dX4_breadsTill_8 : decode cX4_breadsTill 8 = .ok (.bipush 60, 2) := by decide +kernel
theorem dX4_breadsTill_10 : decode cX4_breadsTill 10 = .ok (.if_icmp .gt 23, 3) := by decide +kernel
theorem dX4_breadsTill_13 : decode cX4_breadsTill 13 = .ok (.aload_n 0, 1) := by decide +kernel
theorem dX4_breadsTill_14 : decode cX4_breadsTill 14 = .ok (.getfield 75, 3) := by decide +kernel
theorem dX4_breadsTill_17 : decode cX4_breadsTill 17 = .ok (.iload_n 2, 1) := by decide +kernel
theorem dX4_breadsTill_18 : decode cX4_breadsTill 18 = .ok (.if_icmp .lt 5, 3) := by decide +kernel
theorem dX4_breadsTill_21 : decode cX4_breadsTill 21 = .ok (.iload_n 3, 1) := by decide +kernel
theorem dX4_breadsTill_22 : decode cX4_breadsTill 22 = .ok (.ireturn, 1) := by decide +kernel
theorem dX4_breadsTill_23 : decode cX4_breadsTill 23 = .ok (.aload_n 0, 1) := by decide +kernel
theorem dX4_breadsTill_24 : decode cX4_breadsTill 24 = .ok (.invokevirtual 100, 3) := by decide +kernel
theorem dX4_breadsTill_27 : decode cX4_breadsTill 27 = .ok (.iinc 3 1, 3) := by decide +kernel
theorem dX4_breadsTill_30 : decode cX4_breadsTill 30 = .ok (.goto (-23), 3) := by decide +kernel
theorem dX4_breadsTill_33 : decode cX4_breadsTill 33 = .ok (.iconst (-1), 1) := by decide +kernel
theorem dX4_breadsTill_34 : decode cX4_breadsTill 34 = .ok (.ireturn, 1) := by decide +kernel
theorem dX4_oddsBehind_0 : decode cX4_oddsBehind 0 = .ok (.aload_n 0, 1) := by decide +kernel
theorem dX4_oddsBehind_1 : decode cX4_oddsBehind 1 = .ok (.iload_n 1, 1) := by decide +kernel
theorem dX4_oddsBehind_2 : decode cX4_oddsBehind 2 = .ok (.invokevirtual 96, 3) := by decide +kernel
theorem dX4_oddsBehind_5 : decode cX4_oddsBehind 5 = .ok (.aload_n 0, 1) := by decide +kernel
theorem dX4_oddsBehind_6 : decode cX4_oddsBehind 6 = .ok (.getfield 11, 3) := by decide +kernel
theorem dX4_oddsBehind_9 : decode cX4_oddsBehind 9 = .ok (.iconst 0, 1) := by decide +kernel
theorem dX4_oddsBehind_10 : decode cX4_oddsBehind 10 = .ok (.invokestatic 103, 3) := by decide +kernel
theorem dX4_oddsBehind_13 : decode cX4_oddsBehind 13 = .ok (.aload_n 0, 1) := by decide +kernel
theorem dX4_oddsBehind_14 : decode cX4_oddsBehind 14 = .ok (.getfield 75, 3) := by decide +kernel
theorem dX4_oddsBehind_17 : decode cX4_oddsBehind 17 = .ok (.ifCond .lt 22, 3) := by decide +kernel
theorem dX4_oddsBehind_20 : decode cX4_oddsBehind 20 = .ok (.aload_n 0, 1) := by decide +kernel
theorem dX4_oddsBehind_21 : decode cX4_oddsBehind 21 = .ok (.getfield 75, 3) := by decide +kernel
theorem dX4_oddsBehind_24 : decode cX4_oddsBehind 24 = .ok (.bipush 100, 2) := by decide +kernel
theorem dX4_oddsBehind_26 : decode cX4_oddsBehind 26 = .ok (.if_icmp .ge 13, 3) := by decide +kernel
theorem dX4_oddsBehind_29 : decode cX4_oddsBehind 29 = .ok (.aload_n 0, 1) := by decide +kernel
theorem dX4_oddsBehind_30 : decode cX4_oddsBehind 30 = .ok (.getfield 11, 3) := by decide +kernel
theorem dX4_oddsBehind_33 : decode cX4_oddsBehind 33 = .ok (.aload_n 0, 1) := by decide +kernel
theorem dX4_oddsBehind_34 : decode cX4_oddsBehind 34 = .ok (.getfield 75, 3) := by decide +kernel
theorem dX4_oddsBehind_37 : decode cX4_oddsBehind 37 = .ok (.iconst 1, 1) := by decide +kernel
theorem dX4_oddsBehind_38 : decode cX4_oddsBehind 38 = .ok (.iastore, 1) := by decide +kernel
theorem dX4_oddsBehind_39 : decode cX4_oddsBehind 39 = .ok (.iconst 1, 1) := by decide +kernel
theorem dX4_oddsBehind_40 : decode cX4_oddsBehind 40 = .ok (.istore 5, 2) := by decide +kernel
theorem dX4_oddsBehind_42 : decode cX4_oddsBehind 42 = .ok (.iconst 0, 1) := by decide +kernel
theorem dX4_oddsBehind_43 : decode cX4_oddsBehind 43 = .ok (.istore 6, 2) := by decide +kernel
theorem dX4_oddsBehind_45 : decode cX4_oddsBehind 45 = .ok (.iload 6, 2) := by decide +kernel
theorem dX4_oddsBehind_47 : decode cX4_oddsBehind 47 = .ok (.iload_n 2, 1) := by decide +kernel
theorem dX4_oddsBehind_48 : decode cX4_oddsBehind 48 = .ok (.if_icmp .ge 35, 3) := by decide +kernel
theorem dX4_oddsBehind_51 : decode cX4_oddsBehind 51 = .ok (.aload_n 0, 1) := by decide +kernel
theorem dX4_oddsBehind_52 : decode cX4_oddsBehind 52 = .ok (.bipush 99, 2) := by decide +kernel
theorem dX4_oddsBehind_54 : decode cX4_oddsBehind 54 = .ok (.aload_n 0, 1) := by decide +kernel
theorem dX4_oddsBehind_55 : decode cX4_oddsBehind 55 = .ok (.getfield 77, 3) := by decide +kernel
theorem dX4_oddsBehind_58 : decode cX4_oddsBehind 58 = .ok (.iconst 1, 1) := by decide +kernel
theorem dX4_oddsBehind_59 : decode cX4_oddsBehind 59 = .ok (.iadd, 1) := by decide +kernel
theorem dX4_oddsBehind_60 : decode cX4_oddsBehind 60 = .ok (.invokestatic 84, 3) := by decide +kernel
theorem dX4_oddsBehind_63 : decode cX4_oddsBehind 63 = .ok (.putfield 77, 3) := by decide +kernel
theorem dX4_oddsBehind_66 : decode cX4_oddsBehind 66 = .ok (.aload_n 0, 1) := by decide +kernel
theorem dX4_oddsBehind_67 : decode cX4_oddsBehind 67 = .ok (.invokevirtual 109, 3) := by decide +kernel
theorem dX4_oddsBehind_70 : decode cX4_oddsBehind 70 = .ok (.iload 5, 2) := by decide +kernel
theorem dX4_oddsBehind_72 : decode cX4_oddsBehind 72 = .ok (.bipush 10, 2) := by decide +kernel
theorem dX4_oddsBehind_74 : decode cX4_oddsBehind 74 = .ok (.imul, 1) := by decide +kernel
theorem dX4_oddsBehind_75 : decode cX4_oddsBehind 75 = .ok (.istore 5, 2) := by decide +kernel
theorem dX4_oddsBehind_77 : decode cX4_oddsBehind 77 = .ok (.iinc 6 1, 3) := by decide +kernel
theorem dX4_oddsBehind_80 : decode cX4_oddsBehind 80 = .ok (.goto (-35), 3) := by decide +kernel
theorem dX4_oddsBehind_83 : decode cX4_oddsBehind 83 = .ok (.iconst 0, 1) := by decide +kernel
theorem dX4_oddsBehind_84 : decode cX4_oddsBehind 84 = .ok (.istore 6, 2) := by decide +kernel
theorem dX4_oddsBehind_86 : decode cX4_oddsBehind 86 = .ok (.iconst 0, 1) := by decide +kernel
theorem dX4_oddsBehind_87 : decode cX4_oddsBehind 87 = .ok (.istore 7, 2) := by decide +kernel
theorem dX4_oddsBehind_89 : decode cX4_oddsBehind 89 = .ok (.iload 7, 2) := by decide +kernel
theorem dX4_oddsBehind_91 : decode cX4_oddsBehind 91 = .ok (.bipush 100, 2) := by decide +kernel
theorem dX4_oddsBehind_93 : decode cX4_oddsBehind 93 = .ok (.if_icmp .ge 27, 3) := by decide +kernel
theorem dX4_oddsBehind_96 : decode cX4_oddsBehind 96 = .ok (.iload 7, 2) := by decide +kernel
theorem dX4_oddsBehind_98 : decode cX4_oddsBehind 98 = .ok (.iload_n 3, 1) := by decide +kernel
theorem dX4_oddsBehind_99 : decode cX4_oddsBehind 99 = .ok (.if_icmp .lt 15, 3) := by decide +kernel
theorem dX4_oddsBehind_102 : decode cX4_oddsBehind 102 = .ok (.iload 6, 2) := by decide +kernel
theorem dX4_oddsBehind_104 : decode cX4_oddsBehind 104 = .ok (.aload_n 0, 1) := by decide +kernel
theorem dX4_oddsBehind_105 : decode cX4_oddsBehind 105 = .ok (.getfield 11, 3) := by decide +kernel
theorem dX4_oddsBehind_108 : decode cX4_oddsBehind 108 = .ok (.iload 7, 2) := by decide +kernel
theorem dX4_oddsBehind_110 : decode cX4_oddsBehind 110 = .ok (.iaload, 1) := by decide +kernel
theorem dX4_oddsBehind_111 : decode cX4_oddsBehind 111 = .ok (.iadd, 1) := by decide +kernel
theorem dX4_oddsBehind_112 : decode cX4_oddsBehind 112 = .ok (.istore 6, 2) := by decide +kernel
theorem dX4_oddsBehind_114 : decode cX4_oddsBehind 114 = .ok (.iinc 7 1, 3) := by decide +kernel
theorem dX4_oddsBehind_117 : decode cX4_oddsBehind 117 = .ok (.goto (-28), 3) := by decide +kernel
theorem dX4_oddsBehind_120 : decode cX4_oddsBehind 120 = .ok (.iconst 1, 1) := by decide +kernel
theorem dX4_oddsBehind_121 : decode cX4_oddsBehind 121 = .ok (.iload 6, 2) := by decide +kernel
theorem dX4_oddsBehind_123 : decode cX4_oddsBehind 123 = .ok (.iload 5, 2) := by decide +kernel
theorem dX4_oddsBehind_125 : decode cX4_oddsBehind 125 = .ok (.invokestatic 112, 3) := by decide +kernel
theorem dX4_oddsBehind_128 : decode cX4_oddsBehind 128 = .ok (.invokestatic 115, 3) := by decide +kernel
theorem dX4_oddsBehind_131 : decode cX4_oddsBehind 131 = .ok (.istore 7, 2) := by decide +kernel
theorem dX4_oddsBehind_133 : decode cX4_oddsBehind 133 = .ok (.iload 4, 2) := by decide +kernel
theorem dX4_oddsBehind_135 : decode cX4_oddsBehind 135 = .ok (.ifCond .ne 8, 3) := by decide +kernel
theorem dX4_oddsBehind_138 : decode cX4_oddsBehind 138 = .ok (.iload 6, 2) := by decide +kernel
theorem dX4_oddsBehind_140 : decode cX4_oddsBehind 140 = .ok (.goto 5, 3) := by decide +kernel
theorem dX4_oddsBehind_143 : decode cX4_oddsBehind 143 = .ok (.iload 5, 2) := by decide +kernel
theorem dX4_oddsBehind_145 : decode cX4_oddsBehind 145 = .ok (.iload 7, 2) := by decide +kernel
theorem dX4_oddsBehind_147 : decode cX4_oddsBehind 147 = .ok (.idiv, 1) := by decide +kernel
theorem dX4_oddsBehind_148 : decode cX4_oddsBehind 148 = .ok (.ireturn, 1) := by decide +kernel
theorem dX4_spreadWays_0 : decode cX4_spreadWays 0 = .ok (.aload_n 0, 1) := by decide +kernel
theorem dX4_spreadWays_1 : decode cX4_spreadWays 1 = .ok (.getfield 15, 3) := by decide +kernel
theorem dX4_spreadWays_4 : decode cX4_spreadWays 4 = .ok (.iconst 0, 1) := by decide +kernel
theorem dX4_spreadWays_5 : decode cX4_spreadWays 5 = .ok (.invokestatic 103, 3) := by decide +kernel
theorem dX4_spreadWays_8 : decode cX4_spreadWays 8 = .ok (.iconst 0, 1) := by decide +kernel
theorem dX4_spreadWays_9 : decode cX4_spreadWays 9 = .ok (.istore_n 1, 1) := by decide +kernel
theorem dX4_spreadWays_10 : decode cX4_spreadWays 10 = .ok (.iload_n 1, 1) := by decide +kernel
theorem dX4_spreadWays_11 : decode cX4_spreadWays 11 = .ok (.bipush 100, 2) := by decide +kernel
theorem dX4_spreadWays_13 : decode cX4_spreadWays 13 = .ok (.if_icmp .ge 76, 3) := by decide +kernel
theorem dX4_spreadWays_16 : decode cX4_spreadWays 16 = .ok (.iconst 0, 1) := by decide +kernel
theorem dX4_spreadWays_17 : decode cX4_spreadWays 17 = .ok (.istore_n 2, 1) := by decide +kernel
theorem dX4_spreadWays_18 : decode cX4_spreadWays 18 = .ok (.iload_n 2, 1) := by decide +kernel
theorem dX4_spreadWays_19 : decode cX4_spreadWays 19 = .ok (.bipush 10, 2) := by decide +kernel
theorem dX4_spreadWays_21 : decode cX4_spreadWays 21 = .ok (.if_icmp .ge 62, 3) := by decide +kernel
theorem dX4_spreadWays_24 : decode cX4_spreadWays 24 = .ok (.aload_n 0, 1) := by decide +kernel
theorem dX4_spreadWays_25 : decode cX4_spreadWays 25 = .ok (.getfield 11, 3) := by decide +kernel
theorem dX4_spreadWays_28 : decode cX4_spreadWays 28 = .ok (.iload_n 1, 1) := by decide +kernel
theorem dX4_spreadWays_29 : decode cX4_spreadWays 29 = .ok (.iaload, 1) := by decide +kernel
theorem dX4_spreadWays_30 : decode cX4_spreadWays 30 = .ok (.ifCond .le 53, 3) := by decide +kernel
theorem dX4_spreadWays_33 : decode cX4_spreadWays 33 = .ok (.aload_n 0, 1) := by decide +kernel
theorem dX4_spreadWays_34 : decode cX4_spreadWays 34 = .ok (.getfield 18, 3) := by decide +kernel
theorem dX4_spreadWays_37 : decode cX4_spreadWays 37 = .ok (.getfield 26, 3) := by decide +kernel
theorem dX4_spreadWays_40 : decode cX4_spreadWays 40 = .ok (.iconst 0, 1) := by decide +kernel
theorem dX4_spreadWays_41 : decode cX4_spreadWays 41 = .ok (.aload_n 0, 1) := by decide +kernel
theorem dX4_spreadWays_42 : decode cX4_spreadWays 42 = .ok (.getfield 77, 3) := by decide +kernel
theorem dX4_spreadWays_45 : decode cX4_spreadWays 45 = .ok (.iload_n 1, 1) := by decide +kernel
theorem dX4_spreadWays_46 : decode cX4_spreadWays 46 = .ok (.iload_n 2, 1) := by decide +kernel
theorem dX4_spreadWays_47 : decode cX4_spreadWays 47 = .ok (.iconst 0, 1) := by decide +kernel
theorem dX4_spreadWays_48 : decode cX4_spreadWays 48 = .ok (.invokevirtual 40, 3) := by decide +kernel
theorem dX4_spreadWays_51 : decode cX4_spreadWays 51 = .ok (.istore_n 3, 1) := by decide +kernel
theorem dX4_spreadWays_52 : decode cX4_spreadWays 52 = .ok (.iload_n 3, 1) := by decide +kernel
theorem dX4_spreadWays_53 : decode cX4_spreadWays 53 = .ok (.ifCond .lt 24, 3) := by decide +kernel
theorem dX4_spreadWays_56 : decode cX4_spreadWays 56 = .ok (.iload_n 3, 1) := by decide +kernel
theorem dX4_spreadWays_57 : decode cX4_spreadWays 57 = .ok (.bipush 100, 2) := by decide +kernel
theorem dX4_spreadWays_59 : decode cX4_spreadWays 59 = .ok (.if_icmp .ge 18, 3) := by decide +kernel
theorem dX4_spreadWays_62 : decode cX4_spreadWays 62 = .ok (.aload_n 0, 1) := by decide +kernel
theorem dX4_spreadWays_63 : decode cX4_spreadWays 63 = .ok (.getfield 15, 3) := by decide +kernel
theorem dX4_spreadWays_66 : decode cX4_spreadWays 66 = .ok (.iload_n 3, 1) := by decide +kernel
theorem dX4_spreadWays_67 : decode cX4_spreadWays 67 = .ok (.dup2, 1) := by decide +kernel
theorem dX4_spreadWays_68 : decode cX4_spreadWays 68 = .ok (.iaload, 1) := by decide +kernel
theorem dX4_spreadWays_69 : decode cX4_spreadWays 69 = .ok (.aload_n 0, 1) := by decide +kernel
theorem dX4_spreadWays_70 : decode cX4_spreadWays 70 = .ok (.getfield 11, 3) := by decide +kernel
theorem dX4_spreadWays_73 : decode cX4_spreadWays 73 = .ok (.iload_n 1, 1) := by decide +kernel
theorem dX4_spreadWays_74 : decode cX4_spreadWays 74 = .ok (.iaload, 1) := by decide +kernel
theorem dX4_spreadWays_75 : decode cX4_spreadWays 75 = .ok (.iadd, 1) := by decide +kernel
theorem dX4_spreadWays_76 : decode cX4_spreadWays 76 = .ok (.iastore, 1) := by decide +kernel
theorem dX4_spreadWays_77 : decode cX4_spreadWays 77 = .ok (.iinc 2 1, 3) := by decide +kernel
theorem dX4_spreadWays_80 : decode cX4_spreadWays 80 = .ok (.goto (-62), 3) := by decide +kernel
theorem dX4_spreadWays_83 : decode cX4_spreadWays 83 = .ok (.iinc 1 1, 3) := by decide +kernel
theorem dX4_spreadWays_86 : decode cX4_spreadWays 86 = .ok (.goto (-76), 3) := by decide +kernel
theorem dX4_spreadWays_89 : decode cX4_spreadWays 89 = .ok (.aload_n 0, 1) := by decide +kernel
theorem dX4_spreadWays_90 : decode cX4_spreadWays 90 = .ok (.getfield 15, 3) := by decide +kernel
theorem dX4_spreadWays_93 : decode cX4_spreadWays 93 = .ok (.iconst 0, 1) := by decide +kernel
theorem dX4_spreadWays_94 : decode cX4_spreadWays 94 = .ok (.aload_n 0, 1) := by decide +kernel
theorem dX4_spreadWays_95 : decode cX4_spreadWays 95 = .ok (.getfield 11, 3) := by decide +kernel
theorem dX4_spreadWays_98 : decode cX4_spreadWays 98 = .ok (.iconst 0, 1) := by decide +kernel
theorem dX4_spreadWays_99 : decode cX4_spreadWays 99 = .ok (.bipush 100, 2) := by decide +kernel
theorem dX4_spreadWays_101 : decode cX4_spreadWays 101 = .ok (.invokestatic 118, 3) := by decide +kernel
theorem dX4_spreadWays_104 : decode cX4_spreadWays 104 = .ok (.return_, 1) := by decide +kernel
theorem dX4_commonDivisor_0 : decode cX4_commonDivisor 0 = .ok (.iload_n 1, 1) := by decide +kernel
theorem dX4_commonDivisor_1 : decode cX4_commonDivisor 1 = .ok (.istore_n 2, 1) := by decide +kernel
theorem dX4_commonDivisor_2 : decode cX4_commonDivisor 2 = .ok (.iload_n 0, 1) := by decide +kernel
theorem dX4_commonDivisor_3 : decode cX4_commonDivisor 3 = .ok (.istore_n 3, 1) := by decide +kernel
theorem dX4_commonDivisor_4 : decode cX4_commonDivisor 4 = .ok (.iconst 0, 1) := by decide +kernel
theorem dX4_commonDivisor_5 : decode cX4_commonDivisor 5 = .ok (.istore 4, 2) := by decide +kernel
theorem dX4_commonDivisor_7 : decode cX4_commonDivisor 7 = .ok (.iload 4, 2) := by decide +kernel
theorem dX4_commonDivisor_9 : decode cX4_commonDivisor 9 = .ok (.bipush 64, 2) := by decide +kernel
theorem dX4_commonDivisor_11 : decode cX4_commonDivisor 11 = .ok (.if_icmp .ge 23, 3) := by decide +kernel
theorem dX4_commonDivisor_14 : decode cX4_commonDivisor 14 = .ok (.iload_n 3, 1) := by decide +kernel
theorem dX4_commonDivisor_15 : decode cX4_commonDivisor 15 = .ok (.ifCond .eq 19, 3) := by decide +kernel
theorem dX4_commonDivisor_18 : decode cX4_commonDivisor 18 = .ok (.iload_n 2, 1) := by decide +kernel
theorem dX4_commonDivisor_19 : decode cX4_commonDivisor 19 = .ok (.iload_n 3, 1) := by decide +kernel
theorem dX4_commonDivisor_20 : decode cX4_commonDivisor 20 = .ok (.irem, 1) := by decide +kernel
theorem dX4_commonDivisor_21 : decode cX4_commonDivisor 21 = .ok (.istore 5, 2) := by decide +kernel
theorem dX4_commonDivisor_23 : decode cX4_commonDivisor 23 = .ok (.iload_n 3, 1) := by decide +kernel
theorem dX4_commonDivisor_24 : decode cX4_commonDivisor 24 = .ok (.istore_n 2, 1) := by decide +kernel
theorem dX4_commonDivisor_25 : decode cX4_commonDivisor 25 = .ok (.iload 5, 2) := by decide +kernel
theorem dX4_commonDivisor_27 : decode cX4_commonDivisor 27 = .ok (.istore_n 3, 1) := by decide +kernel
theorem dX4_commonDivisor_28 : decode cX4_commonDivisor 28 = .ok (.iinc 4 1, 3) := by decide +kernel
theorem dX4_commonDivisor_31 : decode cX4_commonDivisor 31 = .ok (.goto (-24), 3) := by decide +kernel
theorem dX4_commonDivisor_34 : decode cX4_commonDivisor 34 = .ok (.iload_n 2, 1) := by decide +kernel
theorem dX4_commonDivisor_35 : decode cX4_commonDivisor 35 = .ok (.ireturn, 1) := by decide +kernel
theorem dX5_init_0 : decode cX5_init 0 = .ok (.aload_n 0, 1) := by decide +kernel
theorem dX5_init_1 : decode cX5_init 1 = .ok (.invokespecial 3, 3) := by decide +kernel
theorem dX5_init_4 : decode cX5_init 4 = .ok (.aload_n 0, 1) := by decide +kernel
theorem dX5_init_5 : decode cX5_init 5 = .ok (.new 9, 3) := by decide +kernel
theorem dX5_init_8 : decode cX5_init 8 = .ok (.dup, 1) := by decide +kernel
theorem dX5_init_9 : decode cX5_init 9 = .ok (.invokespecial 11, 3) := by decide +kernel
theorem dX5_init_12 : decode cX5_init 12 = .ok (.putfield 12, 3) := by decide +kernel
theorem dX5_init_15 : decode cX5_init 15 = .ok (.aload_n 0, 1) := by decide +kernel
theorem dX5_init_16 : decode cX5_init 16 = .ok (.iconst 5, 1) := by decide +kernel
theorem dX5_init_17 : decode cX5_init 17 = .ok (.newarray .long, 2) := by decide +kernel
theorem dX5_init_19 : decode cX5_init 19 = .ok (.putfield 18, 3) := by decide +kernel
theorem dX5_init_22 : decode cX5_init 22 = .ok (.aload_n 0, 1) := by decide +kernel
theorem dX5_init_23 : decode cX5_init 23 = .ok (.iconst 5, 1) := by decide +kernel
theorem dX5_init_24 : decode cX5_init 24 = .ok (.newarray .long, 2) := by decide +kernel
theorem dX5_init_26 : decode cX5_init 26 = .ok (.putfield 22, 3) := by decide +kernel
theorem dX5_init_29 : decode cX5_init 29 = .ok (.aload_n 0, 1) := by decide +kernel
theorem dX5_init_30 : decode cX5_init 30 = .ok (.new 25, 3) := by decide +kernel
theorem dX5_init_33 : decode cX5_init 33 = .ok (.dup, 1) := by decide +kernel
theorem dX5_init_34 : decode cX5_init 34 = .ok (.aload_n 1, 1) := by decide +kernel
theorem dX5_init_35 : decode cX5_init 35 = .ok (.invokespecial 27, 3) := by decide +kernel
theorem dX5_init_38 : decode cX5_init 38 = .ok (.putfield 30, 3) := by decide +kernel
theorem dX5_init_41 : decode cX5_init 41 = .ok (.aload_n 0, 1) := by decide +kernel
theorem dX5_init_42 : decode cX5_init 42 = .ok (.new 34, 3) := by decide +kernel
theorem dX5_init_45 : decode cX5_init 45 = .ok (.dup, 1) := by decide +kernel
theorem dX5_init_46 : decode cX5_init 46 = .ok (.aload_n 0, 1) := by decide +kernel
theorem dX5_init_47 : decode cX5_init 47 = .ok (.getfield 30, 3) := by decide +kernel
theorem dX5_init_50 : decode cX5_init 50 = .ok (.aload_n 0, 1) := by decide +kernel
theorem dX5_init_51 : decode cX5_init 51 = .ok (.getfield 12, 3) := by decide +kernel
theorem dX5_init_54 : decode cX5_init 54 = .ok (.aload_n 0, 1) := by decide +kernel
theorem dX5_init_55 : decode cX5_init 55 = .ok (.getfield 18, 3) := by decide +kernel
theorem dX5_init_58 : decode cX5_init 58 = .ok (.invokespecial 36, 3) := by decide +kernel
theorem dX5_init_61 : decode cX5_init 61 = .ok (.putfield 39, 3) := by decide +kernel
theorem dX5_init_64 : decode cX5_init 64 = .ok (.return_, 1) := by decide +kernel
theorem dX5_read_0 : decode cX5_read 0 = .ok (.aload_n 0, 1) := by decide +kernel
theorem dX5_read_1 : decode cX5_read 1 = .ok (.getfield 12, 3) := by decide +kernel
theorem dX5_read_4 : decode cX5_read 4 = .ok (.invokevirtual 43, 3) := by decide +kernel
theorem dX5_read_7 : decode cX5_read 7 = .ok (.aload_n 0, 1) := by decide +kernel
theorem dX5_read_8 : decode cX5_read 8 = .ok (.iconst 0, 1) := by decide +kernel
theorem dX5_read_9 : decode cX5_read 9 = .ok (.putfield 46, 3) := by decide +kernel
theorem dX5_read_12 : decode cX5_read 12 = .ok (.aload_n 0, 1) := by decide +kernel
theorem dX5_read_13 : decode cX5_read 13 = .ok (.iconst (-1), 1) := by decide +kernel
theorem dX5_read_14 : decode cX5_read 14 = .ok (.putfield 50, 3) := by decide +kernel
theorem dX5_read_17 : decode cX5_read 17 = .ok (.aload_n 0, 1) := by decide +kernel
theorem dX5_read_18 : decode cX5_read 18 = .ok (.iconst 0, 1) := by decide +kernel
theorem dX5_read_19 : decode cX5_read 19 = .ok (.putfield 53, 3) := by decide +kernel
theorem dX5_read_22 : decode cX5_read 22 = .ok (.aload_n 0, 1) := by decide +kernel
theorem dX5_read_23 : decode cX5_read 23 = .ok (.iconst 0, 1) := by decide +kernel
theorem dX5_read_24 : decode cX5_read 24 = .ok (.putfield 56, 3) := by decide +kernel
theorem dX5_read_27 : decode cX5_read 27 = .ok (.aload_n 0, 1) := by decide +kernel
theorem dX5_read_28 : decode cX5_read 28 = .ok (.iconst 0, 1) := by decide +kernel
theorem dX5_read_29 : decode cX5_read 29 = .ok (.putfield 60, 3) := by decide +kernel
theorem dX5_read_32 : decode cX5_read 32 = .ok (.aload_n 0, 1) := by decide +kernel
theorem dX5_read_33 : decode cX5_read 33 = .ok (.iconst 0, 1) := by decide +kernel
theorem dX5_read_34 : decode cX5_read 34 = .ok (.putfield 63, 3) := by decide +kernel
theorem dX5_read_37 : decode cX5_read 37 = .ok (.aload_n 0, 1) := by decide +kernel
theorem dX5_read_38 : decode cX5_read 38 = .ok (.getfield 30, 3) := by decide +kernel
theorem dX5_read_41 : decode cX5_read 41 = .ok (.iload_n 1, 1) := by decide +kernel
theorem dX5_read_42 : decode cX5_read 42 = .ok (.invokevirtual 66, 3) := by decide +kernel
theorem dX5_read_45 : decode cX5_read 45 = .ok (.iconst 0, 1) := by decide +kernel
theorem dX5_read_46 : decode cX5_read 46 = .ok (.istore_n 2, 1) := by decide +kernel
theorem dX5_read_47 : decode cX5_read 47 = .ok (.iload_n 2, 1) := by decide +kernel
theorem dX5_read_48 : decode cX5_read 48 = .ok (.iload_n 1, 1) := by decide +kernel
theorem dX5_read_49 : decode cX5_read 49 = .ok (.if_icmp .ge 138, 3) := by decide +kernel
theorem dX5_read_52 : decode cX5_read 52 = .ok (.aload_n 0, 1) := by decide +kernel
theorem dX5_read_53 : decode cX5_read 53 = .ok (.getfield 46, 3) := by decide +kernel
theorem dX5_read_56 : decode cX5_read 56 = .ok (.ifCond .ne 131, 3) := by decide +kernel
theorem dX5_read_59 : decode cX5_read 59 = .ok (.aload_n 0, 1) := by decide +kernel
theorem dX5_read_60 : decode cX5_read 60 = .ok (.getfield 30, 3) := by decide +kernel
theorem dX5_read_63 : decode cX5_read 63 = .ok (.getfield 70, 3) := by decide +kernel
theorem dX5_read_66 : decode cX5_read 66 = .ok (.ifCond .eq 121, 3) := by decide +kernel
theorem dX5_read_69 : decode cX5_read 69 = .ok (.aload_n 0, 1) := by decide +kernel
theorem dX5_read_70 : decode cX5_read 70 = .ok (.getfield 30, 3) := by decide +kernel
theorem dX5_read_73 : decode cX5_read 73 = .ok (.getfield 70, 3) := by decide +kernel
theorem dX5_read_76 : decode cX5_read 76 = .ok (.tableswitch 94 256 264 #[52, 59, 94, 94, 66, 94, 73, 80, 87], 52) := by decide +kernel
theorem dX5_read_128 : decode cX5_read 128 = .ok (.aload_n 0, 1) := by decide +kernel
theorem dX5_read_129 : decode cX5_read 129 = .ok (.invokevirtual 73, 3) := by decide +kernel
theorem dX5_read_132 : decode cX5_read 132 = .ok (.goto 43, 3) := by decide +kernel
theorem dX5_read_135 : decode cX5_read 135 = .ok (.aload_n 0, 1) := by decide +kernel
theorem dX5_read_136 : decode cX5_read 136 = .ok (.invokevirtual 76, 3) := by decide +kernel
theorem dX5_read_139 : decode cX5_read 139 = .ok (.goto 36, 3) := by decide +kernel
theorem dX5_read_142 : decode cX5_read 142 = .ok (.aload_n 0, 1) := by decide +kernel
theorem dX5_read_143 : decode cX5_read 143 = .ok (.invokevirtual 79, 3) := by decide +kernel
theorem dX5_read_146 : decode cX5_read 146 = .ok (.goto 29, 3) := by decide +kernel
theorem dX5_read_149 : decode cX5_read 149 = .ok (.aload_n 0, 1) := by decide +kernel
theorem dX5_read_150 : decode cX5_read 150 = .ok (.invokevirtual 82, 3) := by decide +kernel
theorem dX5_read_153 : decode cX5_read 153 = .ok (.goto 22, 3) := by decide +kernel
theorem dX5_read_156 : decode cX5_read 156 = .ok (.aload_n 0, 1) := by decide +kernel
theorem dX5_read_157 : decode cX5_read 157 = .ok (.invokevirtual 85, 3) := by decide +kernel
theorem dX5_read_160 : decode cX5_read 160 = .ok (.goto 15, 3) := by decide +kernel
theorem dX5_read_163 : decode cX5_read 163 = .ok (.aload_n 0, 1) := by decide +kernel
theorem dX5_read_164 : decode cX5_read 164 = .ok (.invokevirtual 88, 3) := by decide +kernel
theorem dX5_read_167 : decode cX5_read 167 = .ok (.goto 8, 3) := by decide +kernel
theorem dX5_read_170 : decode cX5_read 170 = .ok (.aload_n 0, 1) := by decide +kernel
theorem dX5_read_171 : decode cX5_read 171 = .ok (.iconst 2, 1) := by decide +kernel
theorem dX5_read_172 : decode cX5_read 172 = .ok (.invokevirtual 91, 3) := by decide +kernel
theorem dX5_read_175 : decode cX5_read 175 = .ok (.aload_n 0, 1) := by decide +kernel
theorem dX5_read_176 : decode cX5_read 176 = .ok (.bipush 59, 2) := by decide +kernel
theorem dX5_read_178 : decode cX5_read 178 = .ok (.invokevirtual 94, 3) := by decide +kernel
theorem dX5_read_181 : decode cX5_read 181 = .ok (.iinc 2 1, 3) := by decide +kernel
theorem dX5_read_184 : decode cX5_read 184 = .ok (.goto (-137), 3) := by decide +kernel
theorem dX5_read_187 : decode cX5_read 187 = .ok (.return_, 1) := by decide +kernel
theorem dX5_readDeed_0 : decode cX5_readDeed 0 = .ok (.aload_n 0, 1) := by decide +kernel
theorem dX5_readDeed_1 : decode cX5_readDeed 1 = .ok (.aload_n 0, 1) := by decide +kernel
theorem dX5_readDeed_2 : decode cX5_readDeed 2 = .ok (.getfield 12, 3) := by decide +kernel
theorem dX5_readDeed_5 : decode cX5_readDeed 5 = .ok (.getfield 97, 3) := by decide +kernel
theorem dX5_readDeed_8 : decode cX5_readDeed 8 = .ok (.iconst 5, 1) := by decide +kernel
theorem dX5_readDeed_9 : decode cX5_readDeed 9 = .ok (.if_icmp .ge 7, 3) := by decide +kernel
theorem dX5_readDeed_12 : decode cX5_readDeed 12 = .ok (.iconst 1, 1) := by decide +kernel
theorem dX5_readDeed_13 : decode cX5_readDeed 13 = .ok (.goto 4, 3) := by decide +kernel
theorem dX5_readDeed_16 : decode cX5_readDeed 16 = .ok (.iconst 0, 1) := by decide +kernel
theorem dX5_readDeed_17 : decode cX5_readDeed 17 = .ok (.invokevirtual 100, 3) := by decide +kernel
theorem dX5_readDeed_20 : decode cX5_readDeed 20 = .ok (.ifCond .eq 60, 3) := by decide +kernel
theorem dX5_readDeed_23 : decode cX5_readDeed 23 = .ok (.aload_n 0, 1) := by decide +kernel
theorem dX5_readDeed_24 : decode cX5_readDeed 24 = .ok (.aload_n 0, 1) := by decide +kernel
theorem dX5_readDeed_25 : decode cX5_readDeed 25 = .ok (.getfield 18, 3) := by decide +kernel
theorem dX5_readDeed_28 : decode cX5_readDeed 28 = .ok (.aload_n 0, 1) := by decide +kernel
theorem dX5_readDeed_29 : decode cX5_readDeed 29 = .ok (.getfield 12, 3) := by decide +kernel
theorem dX5_readDeed_32 : decode cX5_readDeed 32 = .ok (.getfield 97, 3) := by decide +kernel
theorem dX5_readDeed_35 : decode cX5_readDeed 35 = .ok (.invokevirtual 104, 3) := by decide +kernel
theorem dX5_readDeed_38 : decode cX5_readDeed 38 = .ok (.ifCond .eq 42, 3) := by decide +kernel
theorem dX5_readDeed_41 : decode cX5_readDeed 41 = .ok (.aload_n 0, 1) := by decide +kernel
theorem dX5_readDeed_42 : decode cX5_readDeed 42 = .ok (.getfield 18, 3) := by decide +kernel
theorem dX5_readDeed_45 : decode cX5_readDeed 45 = .ok (.aload_n 0, 1) := by decide +kernel
theorem dX5_readDeed_46 : decode cX5_readDeed 46 = .ok (.getfield 12, 3) := by decide +kernel
theorem dX5_readDeed_49 : decode cX5_readDeed 49 = .ok (.getfield 97, 3) := by decide +kernel
theorem dX5_readDeed_52 : decode cX5_readDeed 52 = .ok (.aload_n 0, 1) := by decide +kernel
theorem dX5_readDeed_53 : decode cX5_readDeed 53 = .ok (.getfield 30, 3) := by decide +kernel
theorem dX5_readDeed_56 : decode cX5_readDeed 56 = .ok (.getfield 108, 3) := by decide +kernel
theorem dX5_readDeed_59 : decode cX5_readDeed 59 = .ok (.lastore, 1) := by decide +kernel
theorem dX5_readDeed_60 : decode cX5_readDeed 60 = .ok (.aload_n 0, 1) := by decide +kernel
theorem dX5_readDeed_61 : decode cX5_readDeed 61 = .ok (.getfield 12, 3) := by decide +kernel
theorem dX5_readDeed_64 : decode cX5_readDeed 64 = .ok (.dup, 1) := by decide +kernel
theorem dX5_readDeed_65 : decode cX5_readDeed 65 = .ok (.getfield 97, 3) := by decide +kernel
theorem dX5_readDeed_68 : decode cX5_readDeed 68 = .ok (.iconst 1, 1) := by decide +kernel
theorem dX5_readDeed_69 : decode cX5_readDeed 69 = .ok (.iadd, 1) := by decide +kernel
theorem dX5_readDeed_70 : decode cX5_readDeed 70 = .ok (.putfield 97, 3) := by decide +kernel
theorem dX5_readDeed_73 : decode cX5_readDeed 73 = .ok (.aload_n 0, 1) := by decide +kernel
theorem dX5_readDeed_74 : decode cX5_readDeed 74 = .ok (.getfield 30, 3) := by decide +kernel
theorem dX5_readDeed_77 : decode cX5_readDeed 77 = .ok (.invokevirtual 112, 3) := by decide +kernel
theorem dX5_readDeed_80 : decode cX5_readDeed 80 = .ok (.return_, 1) := by decide +kernel
theorem dX5_readSoul_0 : decode cX5_readSoul 0 = .ok (.aload_n 0, 1) := by decide +kernel
theorem dX5_readSoul_1 : decode cX5_readSoul 1 = .ok (.aload_n 0, 1) := by decide +kernel
theorem dX5_readSoul_2 : decode cX5_readSoul 2 = .ok (.getfield 12, 3) := by decide +kernel
theorem dX5_readSoul_5 : decode cX5_readSoul 5 = .ok (.getfield 115, 3) := by decide +kernel
theorem dX5_readSoul_8 : decode cX5_readSoul 8 = .ok (.iconst 5, 1) := by decide +kernel
theorem dX5_readSoul_9 : decode cX5_readSoul 9 = .ok (.if_icmp .ge 7, 3) := by decide +kernel
theorem dX5_readSoul_12 : decode cX5_readSoul 12 = .ok (.iconst 1, 1) := by decide +kernel
theorem dX5_readSoul_13 : decode cX5_readSoul 13 = .ok (.goto 4, 3) := by decide +kernel
theorem dX5_readSoul_16 : decode cX5_readSoul 16 = .ok (.iconst 0, 1) := by decide +kernel
theorem dX5_readSoul_17 : decode cX5_readSoul 17 = .ok (.invokevirtual 100, 3) := by decide +kernel
theorem dX5_readSoul_20 : decode cX5_readSoul 20 = .ok (.ifCond .eq 21, 3) := by decide +kernel
theorem dX5_readSoul_23 : decode cX5_readSoul 23 = .ok (.aload_n 0, 1) := by decide +kernel
theorem dX5_readSoul_24 : decode cX5_readSoul 24 = .ok (.aload_n 0, 1) := by decide +kernel
theorem dX5_readSoul_25 : decode cX5_readSoul 25 = .ok (.getfield 22, 3) := by decide +kernel
theorem dX5_readSoul_28 : decode cX5_readSoul 28 = .ok (.aload_n 0, 1) := by decide +kernel
theorem dX5_readSoul_29 : decode cX5_readSoul 29 = .ok (.getfield 12, 3) := by decide +kernel
theorem dX5_readSoul_32 : decode cX5_readSoul 32 = .ok (.getfield 115, 3) := by decide +kernel
theorem dX5_readSoul_35 : decode cX5_readSoul 35 = .ok (.invokevirtual 104, 3) := by decide +kernel
theorem dX5_readSoul_38 : decode cX5_readSoul 38 = .ok (.ifCond .ne 4, 3) := by decide +kernel
theorem dX5_readSoul_41 : decode cX5_readSoul 41 = .ok (.return_, 1) := by decide +kernel
theorem dX5_readSoul_42 : decode cX5_readSoul 42 = .ok (.aload_n 0, 1) := by decide +kernel
theorem dX5_readSoul_43 : decode cX5_readSoul 43 = .ok (.getfield 12, 3) := by decide +kernel
theorem dX5_readSoul_46 : decode cX5_readSoul 46 = .ok (.getfield 115, 3) := by decide +kernel
theorem dX5_readSoul_49 : decode cX5_readSoul 49 = .ok (.istore_n 1, 1) := by decide +kernel
theorem dX5_readSoul_50 : decode cX5_readSoul 50 = .ok (.aload_n 0, 1) := by decide +kernel
theorem dX5_readSoul_51 : decode cX5_readSoul 51 = .ok (.getfield 22, 3) := by decide +kernel
theorem dX5_readSoul_54 : decode cX5_readSoul 54 = .ok (.iload_n 1, 1) := by decide +kernel
theorem dX5_readSoul_55 : decode cX5_readSoul 55 = .ok (.aload_n 0, 1) := by decide +kernel
theorem dX5_readSoul_56 : decode cX5_readSoul 56 = .ok (.getfield 30, 3) := by decide +kernel
theorem dX5_readSoul_59 : decode cX5_readSoul 59 = .ok (.getfield 108, 3) := by decide +kernel
theorem dX5_readSoul_62 : decode cX5_readSoul 62 = .ok (.lastore, 1) := by decide +kernel
theorem dX5_readSoul_63 : decode cX5_readSoul 63 = .ok (.aload_n 0, 1) := by decide +kernel
theorem dX5_readSoul_64 : decode cX5_readSoul 64 = .ok (.getfield 12, 3) := by decide +kernel
theorem dX5_readSoul_67 : decode cX5_readSoul 67 = .ok (.dup, 1) := by decide +kernel
theorem dX5_readSoul_68 : decode cX5_readSoul 68 = .ok (.getfield 115, 3) := by decide +kernel
theorem dX5_readSoul_71 : decode cX5_readSoul 71 = .ok (.iconst 1, 1) := by decide +kernel
theorem dX5_readSoul_72 : decode cX5_readSoul 72 = .ok (.iadd, 1) := by decide +kernel
theorem dX5_readSoul_73 : decode cX5_readSoul 73 = .ok (.putfield 115, 3) := by decide +kernel
theorem dX5_readSoul_76 : decode cX5_readSoul 76 = .ok (.aload_n 0, 1) := by decide +kernel
theorem dX5_readSoul_77 : decode cX5_readSoul 77 = .ok (.getfield 30, 3) := by decide +kernel
theorem dX5_readSoul_80 : decode cX5_readSoul 80 = .ok (.invokevirtual 112, 3) := by decide +kernel
theorem dX5_readSoul_83 : decode cX5_readSoul 83 = .ok (.aload_n 0, 1) := by decide +kernel
theorem dX5_readSoul_84 : decode cX5_readSoul 84 = .ok (.sipush 258, 3) := by decide +kernel
theorem dX5_readSoul_87 : decode cX5_readSoul 87 = .ok (.invokevirtual 94, 3) := by decide +kernel
theorem dX5_readSoul_90 : decode cX5_readSoul 90 = .ok (.aload_n 0, 1) := by decide +kernel
theorem dX5_readSoul_91 : decode cX5_readSoul 91 = .ok (.getfield 12, 3) := by decide +kernel
theorem dX5_readSoul_94 : decode cX5_readSoul 94 = .ok (.getfield 118, 3) := by decide +kernel
theorem dX5_readSoul_97 : decode cX5_readSoul 97 = .ok (.iload_n 1, 1) := by decide +kernel
theorem dX5_readSoul_98 : decode cX5_readSoul 98 = .ok (.aload_n 0, 1) := by decide +kernel
theorem dX5_readSoul_99 : decode cX5_readSoul 99 = .ok (.bipush 99, 2) := by decide +kernel
theorem dX5_readSoul_101 : decode cX5_readSoul 101 = .ok (.invokevirtual 122, 3) := by decide +kernel
theorem dX5_readSoul_104 : decode cX5_readSoul 104 = .ok (.iastore, 1) := by decide +kernel
theorem dX5_readSoul_105 : decode cX5_readSoul 105 = .ok (.aload_n 0, 1) := by decide +kernel
theorem dX5_readSoul_106 : decode cX5_readSoul 106 = .ok (.getfield 46, 3) := by decide +kernel
theorem dX5_readSoul_109 : decode cX5_readSoul 109 = .ok (.ifCond .ne 38, 3) := by decide +kernel
theorem dX5_readSoul_112 : decode cX5_readSoul 112 = .ok (.aload_n 0, 1) := by decide +kernel
theorem dX5_readSoul_113 : decode cX5_readSoul 113 = .ok (.getfield 30, 3) := by decide +kernel
theorem dX5_readSoul_116 : decode cX5_readSoul 116 = .ok (.getfield 70, 3) := by decide +kernel
theorem dX5_readSoul_119 : decode cX5_readSoul 119 = .ok (.sipush 259, 3) := by decide +kernel
theorem dX5_readSoul_122 : decode cX5_readSoul 122 = .ok (.if_icmp .ne 25, 3) := by decide +kernel
theorem dX5_readSoul_125 : decode cX5_readSoul 125 = .ok (.aload_n 0, 1) := by decide +kernel
theorem dX5_readSoul_126 : decode cX5_readSoul 126 = .ok (.getfield 30, 3) := by decide +kernel
theorem dX5_readSoul_129 : decode cX5_readSoul 129 = .ok (.invokevirtual 112, 3) := by decide +kernel
theorem dX5_readSoul_132 : decode cX5_readSoul 132 = .ok (.aload_n 0, 1) := by decide +kernel
theorem dX5_readSoul_133 : decode cX5_readSoul 133 = .ok (.getfield 12, 3) := by decide +kernel
theorem dX5_readSoul_136 : decode cX5_readSoul 136 = .ok (.getfield 126, 3) := by decide +kernel
theorem dX5_readSoul_139 : decode cX5_readSoul 139 = .ok (.iload_n 1, 1) := by decide +kernel
theorem dX5_readSoul_140 : decode cX5_readSoul 140 = .ok (.aload_n 0, 1) := by decide +kernel
theorem dX5_readSoul_141 : decode cX5_readSoul 141 = .ok (.bipush 99, 2) := by decide +kernel
theorem dX5_readSoul_143 : decode cX5_readSoul 143 = .ok (.invokevirtual 122, 3) := by decide +kernel
theorem dX5_readSoul_146 : decode cX5_readSoul 146 = .ok (.iastore, 1) := by decide +kernel
theorem dX5_readSoul_147 : decode cX5_readSoul 147 = .ok (.return_, 1) := by decide +kernel
theorem dX5_readFeud_0 : decode cX5_readFeud 0 = .ok (.aload_n 0, 1) := by decide +kernel
theorem dX5_readFeud_1 : decode cX5_readFeud 1 = .ok (.aload_n 0, 1) := by decide +kernel
theorem dX5_readFeud_2 : decode cX5_readFeud 2 = .ok (.getfield 53, 3) := by decide +kernel
theorem dX5_readFeud_5 : decode cX5_readFeud 5 = .ok (.bipush 10, 2) := by decide +kernel
theorem dX5_readFeud_7 : decode cX5_readFeud 7 = .ok (.if_icmp .ge 7, 3) := by decide +kernel
theorem dX5_readFeud_10 : decode cX5_readFeud 10 = .ok (.iconst 1, 1) := by decide +kernel
theorem dX5_readFeud_11 : decode cX5_readFeud 11 = .ok (.goto 4, 3) := by decide +kernel
theorem dX5_readFeud_14 : decode cX5_readFeud 14 = .ok (.iconst 0, 1) := by decide +kernel
theorem dX5_readFeud_15 : decode cX5_readFeud 15 = .ok (.invokevirtual 100, 3) := by decide +kernel
theorem dX5_readFeud_18 : decode cX5_readFeud 18 = .ok (.ifCond .ne 4, 3) := by decide +kernel
theorem dX5_readFeud_21 : decode cX5_readFeud 21 = .ok (.return_, 1) := by decide +kernel
theorem dX5_readFeud_22 : decode cX5_readFeud 22 = .ok (.aload_n 0, 1) := by decide +kernel
theorem dX5_readFeud_23 : decode cX5_readFeud 23 = .ok (.invokevirtual 129, 3) := by decide +kernel
theorem dX5_readFeud_26 : decode cX5_readFeud 26 = .ok (.istore_n 1, 1) := by decide +kernel
theorem dX5_readFeud_27 : decode cX5_readFeud 27 = .ok (.aload_n 0, 1) := by decide +kernel
theorem dX5_readFeud_28 : decode cX5_readFeud 28 = .ok (.sipush 261, 3) := by decide +kernel
theorem dX5_readFeud_31 : decode cX5_readFeud 31 = .ok (.invokevirtual 94, 3) := by decide +kernel
theorem dX5_readFeud_34 : decode cX5_readFeud 34 = .ok (.aload_n 0, 1) := by decide +kernel
theorem dX5_readFeud_35 : decode cX5_readFeud 35 = .ok (.getfield 46, 3) := by decide +kernel
theorem dX5_readFeud_38 : decode cX5_readFeud 38 = .ok (.ifCond .eq 4, 3) := by decide +kernel
theorem dX5_readFeud_41 : decode cX5_readFeud 41 = .ok (.return_, 1) := by decide +kernel
theorem dX5_readFeud_42 : decode cX5_readFeud 42 = .ok (.aload_n 0, 1) := by decide +kernel
theorem dX5_readFeud_43 : decode cX5_readFeud 43 = .ok (.invokevirtual 133, 3) := by decide +kernel
theorem dX5_readFeud_46 : decode cX5_readFeud 46 = .ok (.istore_n 2, 1) := by decide +kernel
theorem dX5_readFeud_47 : decode cX5_readFeud 47 = .ok (.iload_n 1, 1) := by decide +kernel
theorem dX5_readFeud_48 : decode cX5_readFeud 48 = .ok (.ifCond .lt 7, 3) := by decide +kernel
theorem dX5_readFeud_51 : decode cX5_readFeud 51 = .ok (.iload_n 2, 1) := by decide +kernel
theorem dX5_readFeud_52 : decode cX5_readFeud 52 = .ok (.ifCond .ge 4, 3) := by decide +kernel
theorem dX5_readFeud_55 : decode cX5_readFeud 55 = .ok (.return_, 1) := by decide +kernel
theorem dX5_readFeud_56 : decode cX5_readFeud 56 = .ok (.iload_n 1, 1) := by decide +kernel
theorem dX5_readFeud_57 : decode cX5_readFeud 57 = .ok (.iload_n 2, 1) := by decide +kernel
theorem dX5_readFeud_58 : decode cX5_readFeud 58 = .ok (.if_icmp .eq 19, 3) := by decide +kernel
theorem dX5_readFeud_61 : decode cX5_readFeud 61 = .ok (.aload_n 0, 1) := by decide +kernel
theorem dX5_readFeud_62 : decode cX5_readFeud 62 = .ok (.getfield 12, 3) := by decide +kernel
theorem dX5_readFeud_65 : decode cX5_readFeud 65 = .ok (.getfield 136, 3) := by decide +kernel
theorem dX5_readFeud_68 : decode cX5_readFeud 68 = .ok (.iload_n 1, 1) := by decide +kernel
theorem dX5_readFeud_69 : decode cX5_readFeud 69 = .ok (.iaload, 1) := by decide +kernel
theorem dX5_readFeud_70 : decode cX5_readFeud 70 = .ok (.iconst 1, 1) := by decide +kernel
theorem dX5_readFeud_71 : decode cX5_readFeud 71 = .ok (.iload_n 2, 1) := by decide +kernel
theorem dX5_readFeud_72 : decode cX5_readFeud 72 = .ok (.ishl, 1) := by decide +kernel
theorem dX5_readFeud_73 : decode cX5_readFeud 73 = .ok (.iand, 1) := by decide +kernel
theorem dX5_readFeud_74 : decode cX5_readFeud 74 = .ok (.ifCond .eq 9, 3) := by decide +kernel
theorem dX5_readFeud_77 : decode cX5_readFeud 77 = .ok (.aload_n 0, 1) := by decide +kernel
theorem dX5_readFeud_78 : decode cX5_readFeud 78 = .ok (.iconst 3, 1) := by decide +kernel
theorem dX5_readFeud_79 : decode cX5_readFeud 79 = .ok (.invokevirtual 91, 3) := by decide +kernel
theorem dX5_readFeud_82 : decode cX5_readFeud 82 = .ok (.return_, 1) := by decide +kernel
theorem dX5_readFeud_83 : decode cX5_readFeud 83 = .ok (.aload_n 0, 1) := by decide +kernel
theorem dX5_readFeud_84 : decode cX5_readFeud 84 = .ok (.getfield 12, 3) := by decide +kernel
theorem dX5_readFeud_87 : decode cX5_readFeud 87 = .ok (.getfield 136, 3) := by decide +kernel
theorem dX5_readFeud_90 : decode cX5_readFeud 90 = .ok (.iload_n 1, 1) := by decide +kernel
theorem dX5_readFeud_91 : decode cX5_readFeud 91 = .ok (.dup2, 1) := by decide +kernel
theorem dX5_readFeud_92 : decode cX5_readFeud 92 = .ok (.iaload, 1) := by decide +kernel
theorem dX5_readFeud_93 : decode cX5_readFeud 93 = .ok (.iconst 1, 1) := by decide +kernel
theorem dX5_readFeud_94 : decode cX5_readFeud 94 = .ok (.iload_n 2, 1) := by decide +kernel
theorem dX5_readFeud_95 : decode cX5_readFeud 95 = .ok (.ishl, 1) := by decide +kernel
theorem dX5_readFeud_96 : decode cX5_readFeud 96 = .ok (.ior, 1) := by decide +kernel
theorem dX5_readFeud_97 : decode cX5_readFeud 97 = .ok (.iastore, 1) := by decide +kernel
theorem dX5_readFeud_98 : decode cX5_readFeud 98 = .ok (.aload_n 0, 1) := by decide +kernel
theorem dX5_readFeud_99 : decode cX5_readFeud 99 = .ok (.getfield 12, 3) := by decide +kernel
theorem dX5_readFeud_102 : decode cX5_readFeud 102 = .ok (.getfield 136, 3) := by decide +kernel
theorem dX5_readFeud_105 : decode cX5_readFeud 105 = .ok (.iload_n 2, 1) := by decide +kernel
theorem dX5_readFeud_106 : decode cX5_readFeud 106 = .ok (.dup2, 1) := by decide +kernel
theorem dX5_readFeud_107 : decode cX5_readFeud 107 = .ok (.iaload, 1) := by decide +kernel
theorem dX5_readFeud_108 : decode cX5_readFeud 108 = .ok (.iconst 1, 1) := by decide +kernel
theorem dX5_readFeud_109 : decode cX5_readFeud 109 = .ok (.iload_n 1, 1) := by decide +kernel
theorem dX5_readFeud_110 : decode cX5_readFeud 110 = .ok (.ishl, 1) := by decide +kernel
theorem dX5_readFeud_111 : decode cX5_readFeud 111 = .ok (.ior, 1) := by decide +kernel
theorem dX5_readFeud_112 : decode cX5_readFeud 112 = .ok (.iastore, 1) := by decide +kernel
theorem dX5_readFeud_113 : decode cX5_readFeud 113 = .ok (.aload_n 0, 1) := by decide +kernel
theorem dX5_readFeud_114 : decode cX5_readFeud 114 = .ok (.dup, 1) := by decide +kernel
theorem dX5_readFeud_115 : decode cX5_readFeud 115 = .ok (.getfield 53, 3) := by decide +kernel
theorem dX5_readFeud_118 : decode cX5_readFeud 118 = .ok (.iconst 1, 1) := by decide +kernel
theorem dX5_readFeud_119 : decode cX5_readFeud 119 = .ok (.iadd, 1) := by decide +kernel
theorem dX5_readFeud_120 : decode cX5_readFeud 120 = .ok (.putfield 53, 3) := by decide +kernel
theorem dX5_readFeud_123 : decode cX5_readFeud 123 = .ok (.aload_n 0, 1) := by decide +kernel
theorem dX5_readFeud_124 : decode cX5_readFeud 124 = .ok (.getfield 30, 3) := by decide +kernel
theorem dX5_readFeud_127 : decode cX5_readFeud 127 = .ok (.invokevirtual 112, 3) := by decide +kernel
theorem dX5_readFeud_130 : decode cX5_readFeud 130 = .ok (.return_, 1) := by decide +kernel
theorem dX5_readLoaf_0 : decode cX5_readLoaf 0 = .ok (.aload_n 0, 1) := by decide +kernel
theorem dX5_readLoaf_1 : decode cX5_readLoaf 1 = .ok (.aload_n 0, 1) := by decide +kernel
theorem dX5_readLoaf_2 : decode cX5_readLoaf 2 = .ok (.getfield 56, 3) := by decide +kernel
theorem dX5_readLoaf_5 : decode cX5_readLoaf 5 = .ok (.ifCond .ne 7, 3) := by decide +kernel
theorem dX5_readLoaf_8 : decode cX5_readLoaf 8 = .ok (.iconst 1, 1) := by decide +kernel
theorem dX5_readLoaf_9 : decode cX5_readLoaf 9 = .ok (.goto 4, 3) := by decide +kernel
theorem dX5_readLoaf_12 : decode cX5_readLoaf 12 = .ok (.iconst 0, 1) := by decide +kernel
theorem dX5_readLoaf_13 : decode cX5_readLoaf 13 = .ok (.invokevirtual 100, 3) := by decide +kernel
theorem dX5_readLoaf_16 : decode cX5_readLoaf 16 = .ok (.ifCond .eq 25, 3) := by decide +kernel
theorem dX5_readLoaf_19 : decode cX5_readLoaf 19 = .ok (.aload_n 0, 1) := by decide +kernel
theorem dX5_readLoaf_20 : decode cX5_readLoaf 20 = .ok (.iconst 1, 1) := by decide +kernel
theorem dX5_readLoaf_21 : decode cX5_readLoaf 21 = .ok (.putfield 56, 3) := by decide +kernel
theorem dX5_readLoaf_24 : decode cX5_readLoaf 24 = .ok (.aload_n 0, 1) := by decide +kernel
theorem dX5_readLoaf_25 : decode cX5_readLoaf 25 = .ok (.getfield 39, 3) := by decide +kernel
theorem dX5_readLoaf_28 : decode cX5_readLoaf 28 = .ok (.invokevirtual 139, 3) := by decide +kernel
theorem dX5_readLoaf_31 : decode cX5_readLoaf 31 = .ok (.istore_n 1, 1) := by decide +kernel
theorem dX5_readLoaf_32 : decode cX5_readLoaf 32 = .ok (.iload_n 1, 1) := by decide +kernel
theorem dX5_readLoaf_33 : decode cX5_readLoaf 33 = .ok (.ifCond .eq 8, 3) := by decide +kernel
theorem dX5_readLoaf_36 : decode cX5_readLoaf 36 = .ok (.aload_n 0, 1) := by decide +kernel
theorem dX5_readLoaf_37 : decode cX5_readLoaf 37 = .ok (.iload_n 1, 1) := by decide +kernel
theorem dX5_readLoaf_38 : decode cX5_readLoaf 38 = .ok (.invokevirtual 91, 3) := by decide +kernel
theorem dX5_readLoaf_41 : decode cX5_readLoaf 41 = .ok (.return_, 1) := by decide +kernel
theorem dX5_readHeat_0 : decode cX5_readHeat 0 = .ok (.aload_n 0, 1) := by decide +kernel
theorem dX5_readHeat_1 : decode cX5_readHeat 1 = .ok (.aload_n 0, 1) := by decide +kernel
theorem dX5_readHeat_2 : decode cX5_readHeat 2 = .ok (.getfield 60, 3) := by decide +kernel
theorem dX5_readHeat_5 : decode cX5_readHeat 5 = .ok (.ifCond .ne 7, 3) := by decide +kernel
theorem dX5_readHeat_8 : decode cX5_readHeat 8 = .ok (.iconst 1, 1) := by decide +kernel
theorem dX5_readHeat_9 : decode cX5_readHeat 9 = .ok (.goto 4, 3) := by decide +kernel
theorem dX5_readHeat_12 : decode cX5_readHeat 12 = .ok (.iconst 0, 1) := by decide +kernel
theorem dX5_readHeat_13 : decode cX5_readHeat 13 = .ok (.invokevirtual 100, 3) := by decide +kernel
theorem dX5_readHeat_16 : decode cX5_readHeat 16 = .ok (.ifCond .eq 21, 3) := by decide +kernel
theorem dX5_readHeat_19 : decode cX5_readHeat 19 = .ok (.aload_n 0, 1) := by decide +kernel
theorem dX5_readHeat_20 : decode cX5_readHeat 20 = .ok (.iconst 1, 1) := by decide +kernel
theorem dX5_readHeat_21 : decode cX5_readHeat 21 = .ok (.putfield 60, 3) := by decide +kernel
theorem dX5_readHeat_24 : decode cX5_readHeat 24 = .ok (.aload_n 0, 1) := by decide +kernel
theorem dX5_readHeat_25 : decode cX5_readHeat 25 = .ok (.getfield 12, 3) := by decide +kernel
theorem dX5_readHeat_28 : decode cX5_readHeat 28 = .ok (.aload_n 0, 1) := by decide +kernel
theorem dX5_readHeat_29 : decode cX5_readHeat 29 = .ok (.bipush 9, 2) := by decide +kernel
theorem dX5_readHeat_31 : decode cX5_readHeat 31 = .ok (.invokevirtual 122, 3) := by decide +kernel
theorem dX5_readHeat_34 : decode cX5_readHeat 34 = .ok (.putfield 142, 3) := by decide +kernel
theorem dX5_readHeat_37 : decode cX5_readHeat 37 = .ok (.return_, 1) := by decide +kernel
theorem dX5_readDraw_0 : decode cX5_readDraw 0 = .ok (.aload_n 0, 1) := by decide +kernel
theorem dX5_readDraw_1 : decode cX5_readDraw 1 = .ok (.aload_n 0, 1) := by decide +kernel
theorem dX5_readDraw_2 : decode cX5_readDraw 2 = .ok (.getfield 63, 3) := by decide +kernel
theorem dX5_readDraw_5 : decode cX5_readDraw 5 = .ok (.ifCond .ne 7, 3) := by decide +kernel
theorem dX5_readDraw_8 : decode cX5_readDraw 8 = .ok (.iconst 1, 1) := by decide +kernel
theorem dX5_readDraw_9 : decode cX5_readDraw 9 = .ok (.goto 4, 3) := by decide +kernel
theorem dX5_readDraw_12 : decode cX5_readDraw 12 = .ok (.iconst 0, 1) := by decide +kernel
theorem dX5_readDraw_13 : decode cX5_readDraw 13 = .ok (.invokevirtual 100, 3) := by decide +kernel
theorem dX5_readDraw_16 : decode cX5_readDraw 16 = .ok (.ifCond .eq 22, 3) := by decide +kernel
theorem dX5_readDraw_19 : decode cX5_readDraw 19 = .ok (.aload_n 0, 1) := by decide +kernel
theorem dX5_readDraw_20 : decode cX5_readDraw 20 = .ok (.iconst 1, 1) := by decide +kernel
theorem dX5_readDraw_21 : decode cX5_readDraw 21 = .ok (.putfield 63, 3) := by decide +kernel
theorem dX5_readDraw_24 : decode cX5_readDraw 24 = .ok (.aload_n 0, 1) := by decide +kernel
theorem dX5_readDraw_25 : decode cX5_readDraw 25 = .ok (.getfield 12, 3) := by decide +kernel
theorem dX5_readDraw_28 : decode cX5_readDraw 28 = .ok (.aload_n 0, 1) := by decide +kernel
theorem dX5_readDraw_29 : decode cX5_readDraw 29 = .ok (.sipush 999, 3) := by decide +kernel
theorem dX5_readDraw_32 : decode cX5_readDraw 32 = .ok (.invokevirtual 122, 3) := by decide +kernel
theorem dX5_readDraw_35 : decode cX5_readDraw 35 = .ok (.putfield 147, 3) := by decide +kernel
theorem dX5_readDraw_38 : decode cX5_readDraw 38 = .ok (.return_, 1) := by decide +kernel
theorem dX5_passFirst_0 : decode cX5_passFirst 0 = .ok (.iload_n 1, 1) := by decide +kernel
theorem dX5_passFirst_1 : decode cX5_passFirst 1 = .ok (.ifCond .ne 10, 3) := by decide +kernel
theorem dX5_passFirst_4 : decode cX5_passFirst 4 = .ok (.aload_n 0, 1) := by decide +kernel
theorem dX5_passFirst_5 : decode cX5_passFirst 5 = .ok (.iconst 2, 1) := by decide +kernel
theorem dX5_passFirst_6 : decode cX5_passFirst 6 = .ok (.invokevirtual 91, 3) := by decide +kernel
theorem dX5_passFirst_9 : decode cX5_passFirst 9 = .ok (.iconst 0, 1) := by decide +kernel
theorem dX5_passFirst_10 : decode cX5_passFirst 10 = .ok (.ireturn, 1) := by decide +kernel
theorem dX5_passFirst_11 : decode cX5_passFirst 11 = .ok (.aload_n 0, 1) := by decide +kernel
theorem dX5_passFirst_12 : decode cX5_passFirst 12 = .ok (.getfield 30, 3) := by decide +kernel
theorem dX5_passFirst_15 : decode cX5_passFirst 15 = .ok (.invokevirtual 112, 3) := by decide +kernel
theorem dX5_passFirst_18 : decode cX5_passFirst 18 = .ok (.iconst 1, 1) := by decide +kernel
theorem dX5_passFirst_19 : decode cX5_passFirst 19 = .ok (.ireturn, 1) := by decide +kernel
theorem dX5_pass_0 : decode cX5_pass 0 = .ok (.aload_n 0, 1) := by decide +kernel
theorem dX5_pass_1 : decode cX5_pass 1 = .ok (.getfield 46, 3) := by decide +kernel
theorem dX5_pass_4 : decode cX5_pass 4 = .ok (.ifCond .ne 29, 3) := by decide +kernel
theorem dX5_pass_7 : decode cX5_pass 7 = .ok (.aload_n 0, 1) := by decide +kernel
theorem dX5_pass_8 : decode cX5_pass 8 = .ok (.getfield 30, 3) := by decide +kernel
theorem dX5_pass_11 : decode cX5_pass 11 = .ok (.getfield 70, 3) := by decide +kernel
theorem dX5_pass_14 : decode cX5_pass 14 = .ok (.iload_n 1, 1) := by decide +kernel
theorem dX5_pass_15 : decode cX5_pass 15 = .ok (.if_icmp .ne 13, 3) := by decide +kernel
theorem dX5_pass_18 : decode cX5_pass 18 = .ok (.aload_n 0, 1) := by decide +kernel
theorem dX5_pass_19 : decode cX5_pass 19 = .ok (.getfield 30, 3) := by decide +kernel
theorem dX5_pass_22 : decode cX5_pass 22 = .ok (.invokevirtual 112, 3) := by decide +kernel
theorem dX5_pass_25 : decode cX5_pass 25 = .ok (.goto 8, 3) := by decide +kernel
theorem dX5_pass_28 : decode cX5_pass 28 = .ok (.aload_n 0, 1) := by decide +kernel
theorem dX5_pass_29 : decode cX5_pass 29 = .ok (.iconst 2, 1) := by decide +kernel
theorem dX5_pass_30 : decode cX5_pass 30 = .ok (.invokevirtual 91, 3) := by decide +kernel
theorem dX5_pass_33 : decode cX5_pass 33 = .ok (.return_, 1) := by decide +kernel
theorem dX5_isNewName_0 : decode cX5_isNewName 0 = .ok (.aload_n 0, 1) := by decide +kernel
theorem dX5_isNewName_1 : decode cX5_isNewName 1 = .ok (.getfield 30, 3) := by decide +kernel
theorem dX5_isNewName_4 : decode cX5_isNewName 4 = .ok (.getfield 70, 3) := by decide +kernel
theorem dX5_isNewName_7 : decode cX5_isNewName 7 = .ok (.iconst 3, 1) := by decide +kernel
theorem dX5_isNewName_8 : decode cX5_isNewName 8 = .ok (.if_icmp .eq 11, 3) := by decide +kernel
theorem dX5_isNewName_11 : decode cX5_isNewName 11 = .ok (.aload_n 0, 1) := by decide +kernel
theorem dX5_isNewName_12 : decode cX5_isNewName 12 = .ok (.iconst 2, 1) := by decide +kernel
theorem dX5_isNewName_13 : decode cX5_isNewName 13 = .ok (.invokevirtual 91, 3) := by decide +kernel
theorem dX5_isNewName_16 : decode cX5_isNewName 16 = .ok (.goto 24, 3) := by decide +kernel
theorem dX5_isNewName_19 : decode cX5_isNewName 19 = .ok (.aload_n 1, 1) := by decide +kernel
theorem dX5_isNewName_20 : decode cX5_isNewName 20 = .ok (.iload_n 2, 1) := by decide +kernel
theorem dX5_isNewName_21 : decode cX5_isNewName 21 = .ok (.aload_n 0, 1) := by decide +kernel
theorem dX5_isNewName_22 : decode cX5_isNewName 22 = .ok (.getfield 30, 3) := by decide +kernel
theorem dX5_isNewName_25 : decode cX5_isNewName 25 = .ok (.getfield 108, 3) := by decide +kernel
theorem dX5_isNewName_28 : decode cX5_isNewName 28 = .ok (.invokestatic 150, 3) := by decide +kernel
theorem dX5_isNewName_31 : decode cX5_isNewName 31 = .ok (.iconst (-1), 1) := by decide +kernel
theorem dX5_isNewName_32 : decode cX5_isNewName 32 = .ok (.if_icmp .eq 8, 3) := by decide +kernel
theorem dX5_isNewName_35 : decode cX5_isNewName 35 = .ok (.aload_n 0, 1) := by decide +kernel
theorem dX5_isNewName_36 : decode cX5_isNewName 36 = .ok (.iconst 3, 1) := by decide +kernel
theorem dX5_isNewName_37 : decode cX5_isNewName 37 = .ok (.invokevirtual 91, 3) := by decide +kernel
theorem dX5_isNewName_40 : decode cX5_isNewName 40 = .ok (.aload_n 0, 1) := by decide +kernel
theorem dX5_isNewName_41 : decode cX5_isNewName 41 = .ok (.getfield 46, 3) := by decide +kernel
theorem dX5_isNewName_44 : decode cX5_isNewName 44 = .ok (.ifCond .ne 7, 3) := by decide +kernel
theorem dX5_isNewName_47 : decode cX5_isNewName 47 = .ok (.iconst 1, 1) := by decide +kernel
theorem dX5_isNewName_48 : decode cX5_isNewName 48 = .ok (.goto 4, 3) := by decide +kernel
theorem dX5_isNewName_51 : decode cX5_isNewName 51 = .ok (.iconst 0, 1) := by decide +kernel
theorem dX5_isNewName_52 : decode cX5_isNewName 52 = .ok (.ireturn, 1) := by decide +kernel
theorem dX5_readSoulName_0 : decode cX5_readSoulName 0 = .ok (.aload_n 0, 1) := by decide +kernel
theorem dX5_readSoulName_1 : decode cX5_readSoulName 1 = .ok (.invokevirtual 133, 3) := by decide +kernel
theorem dX5_readSoulName_4 : decode cX5_readSoulName 4 = .ok (.istore_n 1, 1) := by decide +kernel
theorem dX5_readSoulName_5 : decode cX5_readSoulName 5 = .ok (.iload_n 1, 1) := by decide +kernel
theorem dX5_readSoulName_6 : decode cX5_readSoulName 6 = .ok (.iconst (-1), 1) := by decide +kernel
theorem dX5_readSoulName_7 : decode cX5_readSoulName 7 = .ok (.if_icmp .eq 10, 3) := by decide +kernel
theorem dX5_readSoulName_10 : decode cX5_readSoulName 10 = .ok (.aload_n 0, 1) := by decide +kernel
theorem dX5_readSoulName_11 : decode cX5_readSoulName 11 = .ok (.getfield 30, 3) := by decide +kernel
theorem dX5_readSoulName_14 : decode cX5_readSoulName 14 = .ok (.invokevirtual 112, 3) := by decide +kernel
theorem dX5_readSoulName_17 : decode cX5_readSoulName 17 = .ok (.iload_n 1, 1) := by decide +kernel
theorem dX5_readSoulName_18 : decode cX5_readSoulName 18 = .ok (.ireturn, 1) := by decide +kernel
theorem dX5_soulHere_0 : decode cX5_soulHere 0 = .ok (.aload_n 0, 1) := by decide +kernel
theorem dX5_soulHere_1 : decode cX5_soulHere 1 = .ok (.getfield 30, 3) := by decide +kernel
theorem dX5_soulHere_4 : decode cX5_soulHere 4 = .ok (.getfield 70, 3) := by decide +kernel
theorem dX5_soulHere_7 : decode cX5_soulHere 7 = .ok (.iconst 3, 1) := by decide +kernel
theorem dX5_soulHere_8 : decode cX5_soulHere 8 = .ok (.if_icmp .eq 10, 3) := by decide +kernel
theorem dX5_soulHere_11 : decode cX5_soulHere 11 = .ok (.aload_n 0, 1) := by decide +kernel
theorem dX5_soulHere_12 : decode cX5_soulHere 12 = .ok (.iconst 2, 1) := by decide +kernel
theorem dX5_soulHere_13 : decode cX5_soulHere 13 = .ok (.invokevirtual 91, 3) := by decide +kernel
theorem dX5_soulHere_16 : decode cX5_soulHere 16 = .ok (.iconst (-1), 1) := by decide +kernel
theorem dX5_soulHere_17 : decode cX5_soulHere 17 = .ok (.ireturn, 1) := by decide +kernel
theorem dX5_soulHere_18 : decode cX5_soulHere 18 = .ok (.aload_n 0, 1) := by decide +kernel
theorem dX5_soulHere_19 : decode cX5_soulHere 19 = .ok (.getfield 22, 3) := by decide +kernel
theorem dX5_soulHere_22 : decode cX5_soulHere 22 = .ok (.aload_n 0, 1) := by decide +kernel
theorem dX5_soulHere_23 : decode cX5_soulHere 23 = .ok (.getfield 12, 3) := by decide +kernel
theorem dX5_soulHere_26 : decode cX5_soulHere 26 = .ok (.getfield 115, 3) := by decide +kernel
theorem dX5_soulHere_29 : decode cX5_soulHere 29 = .ok (.aload_n 0, 1) := by decide +kernel
theorem dX5_soulHere_30 : decode cX5_soulHere 30 = .ok (.getfield 30, 3) := by decide +kernel
theorem dX5_soulHere_33 : decode cX5_soulHere 33 = .ok (.getfield 108, 3) := by decide +kernel
theorem dX5_soulHere_36 : decode cX5_soulHere 36 = .ok (.invokestatic 150, 3) := by decide +kernel
theorem dX5_soulHere_39 : decode cX5_soulHere 39 = .ok (.istore_n 1, 1) := by decide +kernel
theorem dX5_soulHere_40 : decode cX5_soulHere 40 = .ok (.iload_n 1, 1) := by decide +kernel
theorem dX5_soulHere_41 : decode cX5_soulHere 41 = .ok (.iconst (-1), 1) := by decide +kernel
theorem dX5_soulHere_42 : decode cX5_soulHere 42 = .ok (.if_icmp .ne 8, 3) := by decide +kernel
theorem dX5_soulHere_45 : decode cX5_soulHere 45 = .ok (.aload_n 0, 1) := by decide +kernel
theorem dX5_soulHere_46 : decode cX5_soulHere 46 = .ok (.iconst 5, 1) := by decide +kernel
theorem dX5_soulHere_47 : decode cX5_soulHere 47 = .ok (.invokevirtual 91, 3) := by decide +kernel
theorem dX5_soulHere_50 : decode cX5_soulHere 50 = .ok (.iload_n 1, 1) := by decide +kernel
theorem dX5_soulHere_51 : decode cX5_soulHere 51 = .ok (.ireturn, 1) := by decide +kernel
theorem dX5_readNumber_0 : decode cX5_readNumber 0 = .ok (.aload_n 0, 1) := by decide +kernel
theorem dX5_readNumber_1 : decode cX5_readNumber 1 = .ok (.getfield 46, 3) := by decide +kernel
theorem dX5_readNumber_4 : decode cX5_readNumber 4 = .ok (.ifCond .eq 5, 3) := by decide +kernel
theorem dX5_readNumber_7 : decode cX5_readNumber 7 = .ok (.iconst 0, 1) := by decide +kernel
theorem dX5_readNumber_8 : decode cX5_readNumber 8 = .ok (.ireturn, 1) := by decide +kernel
theorem dX5_readNumber_9 : decode cX5_readNumber 9 = .ok (.aload_n 0, 1) := by decide +kernel
theorem dX5_readNumber_10 : decode cX5_readNumber 10 = .ok (.getfield 30, 3) := by decide +kernel
theorem dX5_readNumber_13 : decode cX5_readNumber 13 = .ok (.getfield 70, 3) := by decide +kernel
theorem dX5_readNumber_16 : decode cX5_readNumber 16 = .ok (.iconst 2, 1) := by decide +kernel
theorem dX5_readNumber_17 : decode cX5_readNumber 17 = .ok (.if_icmp .ne 14, 3) := by decide +kernel
theorem dX5_readNumber_20 : decode cX5_readNumber 20 = .ok (.aload_n 0, 1) := by decide +kernel
theorem dX5_readNumber_21 : decode cX5_readNumber 21 = .ok (.getfield 30, 3) := by decide +kernel
theorem dX5_readNumber_24 : decode cX5_readNumber 24 = .ok (.getfield 154, 3) := by decide +kernel
theorem dX5_readNumber_27 : decode cX5_readNumber 27 = .ok (.iload_n 1, 1) := by decide +kernel
theorem dX5_readNumber_28 : decode cX5_readNumber 28 = .ok (.if_icmp .le 25, 3) := by decide +kernel
theorem dX5_readNumber_31 : decode cX5_readNumber 31 = .ok (.aload_n 0, 1) := by decide +kernel
theorem dX5_readNumber_32 : decode cX5_readNumber 32 = .ok (.aload_n 0, 1) := by decide +kernel
theorem dX5_readNumber_33 : decode cX5_readNumber 33 = .ok (.getfield 30, 3) := by decide +kernel
theorem dX5_readNumber_36 : decode cX5_readNumber 36 = .ok (.getfield 70, 3) := by decide +kernel
theorem dX5_readNumber_39 : decode cX5_readNumber 39 = .ok (.iconst 2, 1) := by decide +kernel
theorem dX5_readNumber_40 : decode cX5_readNumber 40 = .ok (.if_icmp .ne 7, 3) := by decide +kernel
theorem dX5_readNumber_43 : decode cX5_readNumber 43 = .ok (.iconst 4, 1) := by decide +kernel
theorem dX5_readNumber_44 : decode cX5_readNumber 44 = .ok (.goto 4, 3) := by decide +kernel
theorem dX5_readNumber_47 : decode cX5_readNumber 47 = .ok (.iconst 2, 1) := by decide +kernel
theorem dX5_readNumber_48 : decode cX5_readNumber 48 = .ok (.invokevirtual 91, 3) := by decide +kernel
theorem dX5_readNumber_51 : decode cX5_readNumber 51 = .ok (.iconst 0, 1) := by decide +kernel
theorem dX5_readNumber_52 : decode cX5_readNumber 52 = .ok (.ireturn, 1) := by decide +kernel
theorem dX5_readNumber_53 : decode cX5_readNumber 53 = .ok (.aload_n 0, 1) := by decide +kernel
theorem dX5_readNumber_54 : decode cX5_readNumber 54 = .ok (.getfield 30, 3) := by decide +kernel
theorem dX5_readNumber_57 : decode cX5_readNumber 57 = .ok (.getfield 154, 3) := by decide +kernel
theorem dX5_readNumber_60 : decode cX5_readNumber 60 = .ok (.istore_n 2, 1) := by decide +kernel
theorem dX5_readNumber_61 : decode cX5_readNumber 61 = .ok (.aload_n 0, 1) := by decide +kernel
theorem dX5_readNumber_62 : decode cX5_readNumber 62 = .ok (.getfield 30, 3) := by decide +kernel
theorem dX5_readNumber_65 : decode cX5_readNumber 65 = .ok (.invokevirtual 112, 3) := by decide +kernel
theorem dX5_readNumber_68 : decode cX5_readNumber 68 = .ok (.iload_n 2, 1) := by decide +kernel
theorem dX5_readNumber_69 : decode cX5_readNumber 69 = .ok (.ireturn, 1) := by decide +kernel
theorem dX5_fail_0 : decode cX5_fail 0 = .ok (.aload_n 0, 1) := by decide +kernel
theorem dX5_fail_1 : decode cX5_fail 1 = .ok (.getfield 46, 3) := by decide +kernel
theorem dX5_fail_4 : decode cX5_fail 4 = .ok (.ifCond .ne 34, 3) := by decide +kernel
theorem dX5_fail_7 : decode cX5_fail 7 = .ok (.aload_n 0, 1) := by decide +kernel
theorem dX5_fail_8 : decode cX5_fail 8 = .ok (.aload_n 0, 1) := by decide +kernel
theorem dX5_fail_9 : decode cX5_fail 9 = .ok (.getfield 30, 3) := by decide +kernel
theorem dX5_fail_12 : decode cX5_fail 12 = .ok (.getfield 70, 3) := by decide +kernel
theorem dX5_fail_15 : decode cX5_fail 15 = .ok (.iconst 1, 1) := by decide +kernel
theorem dX5_fail_16 : decode cX5_fail 16 = .ok (.if_icmp .ne 7, 3) := by decide +kernel
theorem dX5_fail_19 : decode cX5_fail 19 = .ok (.iconst 1, 1) := by decide +kernel
theorem dX5_fail_20 : decode cX5_fail 20 = .ok (.goto 4, 3) := by decide +kernel
theorem dX5_fail_23 : decode cX5_fail 23 = .ok (.iload_n 1, 1) := by decide +kernel
theorem dX5_fail_24 : decode cX5_fail 24 = .ok (.putfield 46, 3) := by decide +kernel
theorem dX5_fail_27 : decode cX5_fail 27 = .ok (.aload_n 0, 1) := by decide +kernel
theorem dX5_fail_28 : decode cX5_fail 28 = .ok (.aload_n 0, 1) := by decide +kernel
theorem dX5_fail_29 : decode cX5_fail 29 = .ok (.getfield 30, 3) := by decide +kernel
theorem dX5_fail_32 : decode cX5_fail 32 = .ok (.getfield 157, 3) := by decide +kernel
theorem dX5_fail_35 : decode cX5_fail 35 = .ok (.putfield 50, 3) := by decide +kernel
theorem dX5_fail_38 : decode cX5_fail 38 = .ok (.return_, 1) := by decide +kernel
theorem dX5_find_0 : decode cX5_find 0 = .ok (.iconst 0, 1) := by decide +kernel
theorem dX5_find_1 : decode cX5_find 1 = .ok (.istore 4, 2) := by decide +kernel
theorem dX5_find_3 : decode cX5_find 3 = .ok (.iload 4, 2) := by decide +kernel
theorem dX5_find_5 : decode cX5_find 5 = .ok (.iload_n 1, 1) := by decide +kernel
theorem dX5_find_6 : decode cX5_find 6 = .ok (.if_icmp .ge 28, 3) := by decide +kernel
theorem dX5_find_9 : decode cX5_find 9 = .ok (.iload 4, 2) := by decide +kernel
theorem dX5_find_11 : decode cX5_find 11 = .ok (.aload_n 0, 1) := by decide +kernel
theorem dX5_find_12 : decode cX5_find 12 = .ok (.arraylength, 1) := by decide +kernel
theorem dX5_find_13 : decode cX5_find 13 = .ok (.if_icmp .ge 21, 3) := by decide +kernel
theorem dX5_find_16 : decode cX5_find 16 = .ok (.aload_n 0, 1) := by decide +kernel
theorem dX5_find_17 : decode cX5_find 17 = .ok (.iload 4, 2) := by decide +kernel
theorem dX5_find_19 : decode cX5_find 19 = .ok (.laload, 1) := by decide +kernel
theorem dX5_find_20 : decode cX5_find 20 = .ok (.lload_n 2, 1) := by decide +kernel
theorem dX5_find_21 : decode cX5_find 21 = .ok (.lcmp, 1) := by decide +kernel
theorem dX5_find_22 : decode cX5_find 22 = .ok (.ifCond .ne 6, 3) := by decide +kernel
theorem dX5_find_25 : decode cX5_find 25 = .ok (.iload 4, 2) := by decide +kernel
theorem dX5_find_27 : decode cX5_find 27 = .ok (.ireturn, 1) := by decide +kernel
theorem dX5_find_28 : decode cX5_find 28 = .ok (.iinc 4 1, 3) := by decide +kernel
theorem dX5_find_31 : decode cX5_find 31 = .ok (.goto (-28), 3) := by decide +kernel
theorem dX5_find_34 : decode cX5_find 34 = .ok (.iconst (-1), 1) := by decide +kernel
theorem dX5_find_35 : decode cX5_find 35 = .ok (.ireturn, 1) := by decide +kernel
theorem dX6_init_0 : decode cX6_init 0 = .ok (.aload_n 0, 1) := by decide +kernel
theorem dX6_init_1 : decode cX6_init 1 = .ok (.invokespecial 3, 3) := by decide +kernel
theorem dX6_init_4 : decode cX6_init 4 = .ok (.aload_n 0, 1) := by decide +kernel
theorem dX6_init_5 : decode cX6_init 5 = .ok (.bipush 30, 2) := by decide +kernel
theorem dX6_init_7 : decode cX6_init 7 = .ok (.newarray .int, 2) := by decide +kernel
theorem dX6_init_9 : decode cX6_init 9 = .ok (.putfield 11, 3) := by decide +kernel
theorem dX6_init_12 : decode cX6_init 12 = .ok (.aload_n 0, 1) := by decide +kernel
theorem dX6_init_13 : decode cX6_init 13 = .ok (.bipush 30, 2) := by decide +kernel
theorem dX6_init_15 : decode cX6_init 15 = .ok (.newarray .int, 2) := by decide +kernel
theorem dX6_init_17 : decode cX6_init 17 = .ok (.putfield 15, 3) := by decide +kernel
theorem dX6_init_20 : decode cX6_init 20 = .ok (.aload_n 0, 1) := by decide +kernel
theorem dX6_init_21 : decode cX6_init 21 = .ok (.bipush 30, 2) := by decide +kernel
theorem dX6_init_23 : decode cX6_init 23 = .ok (.newarray .int, 2) := by decide +kernel
theorem dX6_init_25 : decode cX6_init 25 = .ok (.putfield 18, 3) := by decide +kernel
theorem dX6_init_28 : decode cX6_init 28 = .ok (.aload_n 0, 1) := by decide +kernel
theorem dX6_init_29 : decode cX6_init 29 = .ok (.bipush 30, 2) := by decide +kernel
theorem dX6_init_31 : decode cX6_init 31 = .ok (.newarray .int, 2) := by decide +kernel
theorem dX6_init_33 : decode cX6_init 33 = .ok (.putfield 21, 3) := by decide +kernel
theorem dX6_init_36 : decode cX6_init 36 = .ok (.aload_n 0, 1) := by decide +kernel
theorem dX6_init_37 : decode cX6_init 37 = .ok (.bipush 30, 2) := by decide +kernel
theorem dX6_init_39 : decode cX6_init 39 = .ok (.newarray .int, 2) := by decide +kernel
theorem dX6_init_41 : decode cX6_init 41 = .ok (.putfield 24, 3) := by decide +kernel
theorem dX6_init_44 : decode cX6_init 44 = .ok (.aload_n 0, 1) := by decide +kernel
theorem dX6_init_45 : decode cX6_init 45 = .ok (.bipush 30, 2) := by decide +kernel
theorem dX6_init_47 : decode cX6_init 47 = .ok (.newarray .int, 2) := by decide +kernel
theorem dX6_init_49 : decode cX6_init 49 = .ok (.putfield 27, 3) := by decide +kernel
theorem dX6_init_52 : decode cX6_init 52 = .ok (.aload_n 0, 1) := by decide +kernel
theorem dX6_init_53 : decode cX6_init 53 = .ok (.bipush 100, 2) := by decide +kernel
theorem dX6_init_55 : decode cX6_init 55 = .ok (.newarray .int, 2) := by decide +kernel
theorem dX6_init_57 : decode cX6_init 57 = .ok (.putfield 30, 3) := by decide +kernel
theorem dX6_init_60 : decode cX6_init 60 = .ok (.aload_n 0, 1) := by decide +kernel
theorem dX6_init_61 : decode cX6_init 61 = .ok (.bipush 10, 2) := by decide +kernel
theorem dX6_init_63 : decode cX6_init 63 = .ok (.newarray .int, 2) := by decide +kernel
theorem dX6_init_65 : decode cX6_init 65 = .ok (.putfield 33, 3) := by decide +kernel
theorem dX6_init_68 : decode cX6_init 68 = .ok (.aload_n 0, 1) := by decide +kernel
theorem dX6_init_69 : decode cX6_init 69 = .ok (.bipush 10, 2) := by decide +kernel
theorem dX6_init_71 : decode cX6_init 71 = .ok (.newarray .int, 2) := by decide +kernel
theorem dX6_init_73 : decode cX6_init 73 = .ok (.putfield 36, 3) := by decide +kernel
theorem dX6_init_76 : decode cX6_init 76 = .ok (.aload_n 0, 1) := by decide +kernel
theorem dX6_init_77 : decode cX6_init 77 = .ok (.bipush 100, 2) := by decide +kernel
theorem dX6_init_79 : decode cX6_init 79 = .ok (.newarray .int, 2) := by decide +kernel
theorem dX6_init_81 : decode cX6_init 81 = .ok (.putfield 39, 3) := by decide +kernel
theorem dX6_init_84 : decode cX6_init 84 = .ok (.aload_n 0, 1) := by decide +kernel
theorem dX6_init_85 : decode cX6_init 85 = .ok (.sipush 1024, 3) := by decide +kernel
theorem dX6_init_88 : decode cX6_init 88 = .ok (.newarray .int, 2) := by decide +kernel
theorem dX6_init_90 : decode cX6_init 90 = .ok (.putfield 42, 3) := by decide +kernel
theorem dX6_init_93 : decode cX6_init 93 = .ok (.aload_n 0, 1) := by decide +kernel
theorem dX6_init_94 : decode cX6_init 94 = .ok (.aload_n 1, 1) := by decide +kernel
theorem dX6_init_95 : decode cX6_init 95 = .ok (.putfield 45, 3) := by decide +kernel
theorem dX6_init_98 : decode cX6_init 98 = .ok (.return_, 1) := by decide +kernel
theorem dX6_clear_0 : decode cX6_clear 0 = .ok (.aload_n 0, 1) := by decide +kernel
theorem dX6_clear_1 : decode cX6_clear 1 = .ok (.iconst 0, 1) := by decide +kernel
theorem dX6_clear_2 : decode cX6_clear 2 = .ok (.putfield 49, 3) := by decide +kernel
theorem dX6_clear_5 : decode cX6_clear 5 = .ok (.return_, 1) := by decide +kernel
theorem dX6_tell_0 : decode cX6_tell 0 = .ok (.iload_n 1, 1) := by decide +kernel
theorem dX6_tell_1 : decode cX6_tell 1 = .ok (.invokestatic 53, 3) := by decide +kernel
theorem dX6_tell_4 : decode cX6_tell 4 = .ok (.ifCond .eq 32, 3) := by decide +kernel
theorem dX6_tell_7 : decode cX6_tell 7 = .ok (.iload_n 2, 1) := by decide +kernel
theorem dX6_tell_8 : decode cX6_tell 8 = .ok (.invokestatic 53, 3) := by decide +kernel
theorem dX6_tell_11 : decode cX6_tell 11 = .ok (.ifCond .eq 25, 3) := by decide +kernel
theorem dX6_tell_14 : decode cX6_tell 14 = .ok (.iload 4, 2) := by decide +kernel
theorem dX6_tell_16 : decode cX6_tell 16 = .ok (.invokestatic 53, 3) := by decide +kernel
theorem dX6_tell_19 : decode cX6_tell 19 = .ok (.ifCond .eq 17, 3) := by decide +kernel
theorem dX6_tell_22 : decode cX6_tell 22 = .ok (.iload_n 3, 1) := by decide +kernel
theorem dX6_tell_23 : decode cX6_tell 23 = .ok (.ifCond .lt 13, 3) := by decide +kernel
theorem dX6_tell_26 : decode cX6_tell 26 = .ok (.iload_n 3, 1) := by decide +kernel
theorem dX6_tell_27 : decode cX6_tell 27 = .ok (.bipush 10, 2) := by decide +kernel
theorem dX6_tell_29 : decode cX6_tell 29 = .ok (.if_icmp .ge 7, 3) := by decide +kernel
theorem dX6_tell_32 : decode cX6_tell 32 = .ok (.iconst 1, 1) := by decide +kernel
theorem dX6_tell_33 : decode cX6_tell 33 = .ok (.goto 4, 3) := by decide +kernel
theorem dX6_tell_36 : decode cX6_tell 36 = .ok (.iconst 0, 1) := by decide +kernel
theorem dX6_tell_37 : decode cX6_tell 37 = .ok (.istore 5, 2) := by decide +kernel
theorem dX6_tell_39 : decode cX6_tell 39 = .ok (.iload 5, 2) := by decide +kernel
theorem dX6_tell_41 : decode cX6_tell 41 = .ok (.ifCond .eq 12, 3) := by decide +kernel
theorem dX6_tell_44 : decode cX6_tell 44 = .ok (.aload_n 0, 1) := by decide +kernel
theorem dX6_tell_45 : decode cX6_tell 45 = .ok (.getfield 49, 3) := by decide +kernel
theorem dX6_tell_48 : decode cX6_tell 48 = .ok (.bipush 30, 2) := by decide +kernel
theorem dX6_tell_50 : decode cX6_tell 50 = .ok (.if_icmp .lt 5, 3) := by decide +kernel
theorem dX6_tell_53 : decode cX6_tell 53 = .ok (.iconst (-1), 1) := by decide +kernel
theorem dX6_tell_54 : decode cX6_tell 54 = .ok (.ireturn, 1) := by decide +kernel
theorem dX6_tell_55 : decode cX6_tell 55 = .ok (.aload_n 0, 1) := by decide +kernel
theorem dX6_tell_56 : decode cX6_tell 56 = .ok (.getfield 11, 3) := by decide +kernel
theorem dX6_tell_59 : decode cX6_tell 59 = .ok (.aload_n 0, 1) := by decide +kernel
theorem dX6_tell_60 : decode cX6_tell 60 = .ok (.getfield 49, 3) := by decide +kernel
theorem dX6_tell_63 : decode cX6_tell 63 = .ok (.iload_n 1, 1) := by decide +kernel
theorem dX6_tell_64 : decode cX6_tell 64 = .ok (.iastore, 1) := by decide +kernel
theorem dX6_tell_65 : decode cX6_tell 65 = .ok (.aload_n 0, 1) := by decide +kernel
theorem dX6_tell_66 : decode cX6_tell 66 = .ok (.getfield 15, 3) := by decide +kernel
theorem dX6_tell_69 : decode cX6_tell 69 = .ok (.aload_n 0, 1) := by decide +kernel
theorem dX6_tell_70 : decode cX6_tell 70 = .ok (.getfield 49, 3) := by decide +kernel
theorem dX6_tell_73 : decode cX6_tell 73 = .ok (.iload_n 2, 1) := by decide +kernel
theorem dX6_tell_74 : decode cX6_tell 74 = .ok (.iastore, 1) := by decide +kernel
theorem dX6_tell_75 : decode cX6_tell 75 = .ok (.aload_n 0, 1) := by decide +kernel
theorem dX6_tell_76 : decode cX6_tell 76 = .ok (.getfield 18, 3) := by decide +kernel
theorem dX6_tell_79 : decode cX6_tell 79 = .ok (.aload_n 0, 1) := by decide +kernel
theorem dX6_tell_80 : decode cX6_tell 80 = .ok (.getfield 49, 3) := by decide +kernel
theorem dX6_tell_83 : decode cX6_tell 83 = .ok (.iload_n 3, 1) := by decide +kernel
theorem dX6_tell_84 : decode cX6_tell 84 = .ok (.iastore, 1) := by decide +kernel
theorem dX6_tell_85 : decode cX6_tell 85 = .ok (.aload_n 0, 1) := by decide +kernel
theorem dX6_tell_86 : decode cX6_tell 86 = .ok (.getfield 21, 3) := by decide +kernel
theorem dX6_tell_89 : decode cX6_tell 89 = .ok (.aload_n 0, 1) := by decide +kernel
theorem dX6_tell_90 : decode cX6_tell 90 = .ok (.getfield 49, 3) := by decide +kernel
theorem dX6_tell_93 : decode cX6_tell 93 = .ok (.iload 4, 2) := by decide +kernel
theorem dX6_tell_95 : decode cX6_tell 95 = .ok (.iastore, 1) := by decide +kernel
theorem dX6_tell_96 : decode cX6_tell 96 = .ok (.aload_n 0, 1) := by decide +kernel
theorem dX6_tell_97 : decode cX6_tell 97 = .ok (.getfield 24, 3) := by decide +kernel
theorem dX6_tell_100 : decode cX6_tell 100 = .ok (.aload_n 0, 1) := by decide +kernel
theorem dX6_tell_101 : decode cX6_tell 101 = .ok (.getfield 49, 3) := by decide +kernel
theorem dX6_tell_104 : decode cX6_tell 104 = .ok (.aload_n 0, 1) := by decide +kernel
theorem dX6_tell_105 : decode cX6_tell 105 = .ok (.getfield 57, 3) := by decide +kernel
theorem dX6_tell_108 : decode cX6_tell 108 = .ok (.iastore, 1) := by decide +kernel
theorem dX6_tell_109 : decode cX6_tell 109 = .ok (.aload_n 0, 1) := by decide +kernel
theorem dX6_tell_110 : decode cX6_tell 110 = .ok (.getfield 27, 3) := by decide +kernel
theorem dX6_tell_113 : decode cX6_tell 113 = .ok (.aload_n 0, 1) := by decide +kernel
theorem dX6_tell_114 : decode cX6_tell 114 = .ok (.getfield 49, 3) := by decide +kernel
theorem dX6_tell_117 : decode cX6_tell 117 = .ok (.iconst (-1), 1) := by decide +kernel
theorem dX6_tell_118 : decode cX6_tell 118 = .ok (.iastore, 1) := by decide +kernel
theorem dX6_tell_119 : decode cX6_tell 119 = .ok (.aload_n 0, 1) := by decide +kernel
theorem dX6_tell_120 : decode cX6_tell 120 = .ok (.dup, 1) := by decide +kernel
theorem dX6_tell_121 : decode cX6_tell 121 = .ok (.getfield 49, 3) := by decide +kernel
theorem dX6_tell_124 : decode cX6_tell 124 = .ok (.iconst 1, 1) := by decide +kernel
theorem dX6_tell_125 : decode cX6_tell 125 = .ok (.iadd, 1) := by decide +kernel
theorem dX6_tell_126 : decode cX6_tell 126 = .ok (.putfield 49, 3) := by decide +kernel
theorem dX6_tell_129 : decode cX6_tell 129 = .ok (.aload_n 0, 1) := by decide +kernel
theorem dX6_tell_130 : decode cX6_tell 130 = .ok (.getfield 49, 3) := by decide +kernel
theorem dX6_tell_133 : decode cX6_tell 133 = .ok (.iconst 1, 1) := by decide +kernel
theorem dX6_tell_134 : decode cX6_tell 134 = .ok (.isub, 1) := by decide +kernel
theorem dX6_tell_135 : decode cX6_tell 135 = .ok (.ireturn, 1) := by decide +kernel
theorem dX6_takeBack_0 : decode cX6_takeBack 0 = .ok (.iload_n 1, 1) := by decide +kernel
theorem dX6_takeBack_1 : decode cX6_takeBack 1 = .ok (.ifCond .lt 21, 3) := by decide +kernel
theorem dX6_takeBack_4 : decode cX6_takeBack 4 = .ok (.iload_n 1, 1) := by decide +kernel
theorem dX6_takeBack_5 : decode cX6_takeBack 5 = .ok (.aload_n 0, 1) := by decide +kernel
theorem dX6_takeBack_6 : decode cX6_takeBack 6 = .ok (.getfield 49, 3) := by decide +kernel
theorem dX6_takeBack_9 : decode cX6_takeBack 9 = .ok (.if_icmp .ge 13, 3) := by decide +kernel
theorem dX6_takeBack_12 : decode cX6_takeBack 12 = .ok (.aload_n 0, 1) := by decide +kernel
theorem dX6_takeBack_13 : decode cX6_takeBack 13 = .ok (.getfield 27, 3) := by decide +kernel
theorem dX6_takeBack_16 : decode cX6_takeBack 16 = .ok (.iload_n 1, 1) := by decide +kernel
theorem dX6_takeBack_17 : decode cX6_takeBack 17 = .ok (.iaload, 1) := by decide +kernel
theorem dX6_takeBack_18 : decode cX6_takeBack 18 = .ok (.iconst (-1), 1) := by decide +kernel
theorem dX6_takeBack_19 : decode cX6_takeBack 19 = .ok (.if_icmp .eq 5, 3) := by decide +kernel
theorem dX6_takeBack_22 : decode cX6_takeBack 22 = .ok (.iconst 0, 1) := by decide +kernel
theorem dX6_takeBack_23 : decode cX6_takeBack 23 = .ok (.ireturn, 1) := by decide +kernel
theorem dX6_takeBack_24 : decode cX6_takeBack 24 = .ok (.aload_n 0, 1) := by decide +kernel
theorem dX6_takeBack_25 : decode cX6_takeBack 25 = .ok (.getfield 27, 3) := by decide +kernel
theorem dX6_takeBack_28 : decode cX6_takeBack 28 = .ok (.iload_n 1, 1) := by decide +kernel
theorem dX6_takeBack_29 : decode cX6_takeBack 29 = .ok (.aload_n 0, 1) := by decide +kernel
theorem dX6_takeBack_30 : decode cX6_takeBack 30 = .ok (.getfield 57, 3) := by decide +kernel
theorem dX6_takeBack_33 : decode cX6_takeBack 33 = .ok (.iastore, 1) := by decide +kernel
theorem dX6_takeBack_34 : decode cX6_takeBack 34 = .ok (.iconst 1, 1) := by decide +kernel
theorem dX6_takeBack_35 : decode cX6_takeBack 35 = .ok (.ireturn, 1) := by decide +kernel
theorem dX6_passTime_0 : decode cX6_passTime 0 = .ok (.iload_n 1, 1) := by decide +kernel
theorem dX6_passTime_1 : decode cX6_passTime 1 = .ok (.ifCond .lt 21, 3) := by decide +kernel
theorem dX6_passTime_4 : decode cX6_passTime 4 = .ok (.iload_n 1, 1) := by decide +kernel
theorem dX6_passTime_5 : decode cX6_passTime 5 = .ok (.sipush 1000, 3) := by decide +kernel
theorem dX6_passTime_8 : decode cX6_passTime 8 = .ok (.if_icmp .gt 14, 3) := by decide +kernel
theorem dX6_passTime_11 : decode cX6_passTime 11 = .ok (.aload_n 0, 1) := by decide +kernel
theorem dX6_passTime_12 : decode cX6_passTime 12 = .ok (.getfield 57, 3) := by decide +kernel
theorem dX6_passTime_15 : decode cX6_passTime 15 = .ok (.iload_n 1, 1) := by decide +kernel
theorem dX6_passTime_16 : decode cX6_passTime 16 = .ok (.iadd, 1) := by decide +kernel
theorem dX6_passTime_17 : decode cX6_passTime 17 = .ok (.ldc 60, 2) := by decide +kernel
theorem dX6_passTime_19 : decode cX6_passTime 19 = .ok (.if_icmp .le 5, 3) := by decide +kernel
theorem dX6_passTime_22 : decode cX6_passTime 22 = .ok (.iconst (-1), 1) := by decide +kernel
theorem dX6_passTime_23 : decode cX6_passTime 23 = .ok (.ireturn, 1) := by decide +kernel
theorem dX6_passTime_24 : decode cX6_passTime 24 = .ok (.aload_n 0, 1) := by decide +kernel
theorem dX6_passTime_25 : decode cX6_passTime 25 = .ok (.dup, 1) := by decide +kernel
theorem dX6_passTime_26 : decode cX6_passTime 26 = .ok (.getfield 57, 3) := by decide +kernel
theorem dX6_passTime_29 : decode cX6_passTime 29 = .ok (.iload_n 1, 1) := by decide +kernel
theorem dX6_passTime_30 : decode cX6_passTime 30 = .ok (.iadd, 1) := by decide +kernel
theorem dX6_passTime_31 : decode cX6_passTime 31 = .ok (.putfield 57, 3) := by decide +kernel
theorem dX6_passTime_34 : decode cX6_passTime 34 = .ok (.aload_n 0, 1) := by decide +kernel
theorem dX6_passTime_35 : decode cX6_passTime 35 = .ok (.getfield 57, 3) := by decide +kernel
theorem dX6_passTime_38 : decode cX6_passTime 38 = .ok (.ireturn, 1) := by decide +kernel
theorem dX6_fittingSets_0 : decode cX6_fittingSets 0 = .ok (.iconst 0, 1) := by decide +kernel
theorem dX6_fittingSets_1 : decode cX6_fittingSets 1 = .ok (.istore_n 2, 1) := by decide +kernel
theorem dX6_fittingSets_2 : decode cX6_fittingSets 2 = .ok (.iconst 0, 1) := by decide +kernel
theorem dX6_fittingSets_3 : decode cX6_fittingSets 3 = .ok (.istore_n 3, 1) := by decide +kernel
theorem dX6_fittingSets_4 : decode cX6_fittingSets 4 = .ok (.iload_n 3, 1) := by decide +kernel
theorem dX6_fittingSets_5 : decode cX6_fittingSets 5 = .ok (.iconst 1, 1) := by decide +kernel
theorem dX6_fittingSets_6 : decode cX6_fittingSets 6 = .ok (.aload_n 0, 1) := by decide +kernel
theorem dX6_fittingSets_7 : decode cX6_fittingSets 7 = .ok (.getfield 45, 3) := by decide +kernel
theorem dX6_fittingSets_10 : decode cX6_fittingSets 10 = .ok (.getfield 61, 3) := by decide +kernel
theorem dX6_fittingSets_13 : decode cX6_fittingSets 13 = .ok (.ishl, 1) := by decide +kernel
theorem dX6_fittingSets_14 : decode cX6_fittingSets 14 = .ok (.if_icmp .ge 24, 3) := by decide +kernel
theorem dX6_fittingSets_17 : decode cX6_fittingSets 17 = .ok (.aload_n 0, 1) := by decide +kernel
theorem dX6_fittingSets_18 : decode cX6_fittingSets 18 = .ok (.iload_n 3, 1) := by decide +kernel
theorem dX6_fittingSets_19 : decode cX6_fittingSets 19 = .ok (.iload_n 1, 1) := by decide +kernel
theorem dX6_fittingSets_20 : decode cX6_fittingSets 20 = .ok (.invokevirtual 66, 3) := by decide +kernel
theorem dX6_fittingSets_23 : decode cX6_fittingSets 23 = .ok (.ifCond .eq 9, 3) := by decide +kernel
theorem dX6_fittingSets_26 : decode cX6_fittingSets 26 = .ok (.iload_n 2, 1) := by decide +kernel
theorem dX6_fittingSets_27 : decode cX6_fittingSets 27 = .ok (.iconst 1, 1) := by decide +kernel
theorem dX6_fittingSets_28 : decode cX6_fittingSets 28 = .ok (.iload_n 3, 1) := by decide +kernel
theorem dX6_fittingSets_29 : decode cX6_fittingSets 29 = .ok (.ishl, 1) := by decide +kernel
theorem dX6_fittingSets_30 : decode cX6_fittingSets 30 = .ok (.ior, 1) := by decide +kernel
theorem dX6_fittingSets_31 : decode cX6_fittingSets 31 = .ok (.istore_n 2, 1) := by decide +kernel
theorem dX6_fittingSets_32 : decode cX6_fittingSets 32 = .ok (.iinc 3 1, 3) := by decide +kernel
theorem dX6_fittingSets_35 : decode cX6_fittingSets 35 = .ok (.goto (-31), 3) := by decide +kernel
theorem dX6_fittingSets_38 : decode cX6_fittingSets 38 = .ok (.iload_n 2, 1) := by decide +kernel
theorem dX6_fittingSets_39 : decode cX6_fittingSets 39 = .ok (.ireturn, 1) := by decide +kernel
theorem dX6_fitsAll_0 : decode cX6_fitsAll 0 = .ok (.iconst 0, 1) := by decide +kernel
theorem dX6_fitsAll_1 : decode cX6_fitsAll 1 = .ok (.istore_n 3, 1) := by decide +kernel
theorem dX6_fitsAll_2 : decode cX6_fitsAll 2 = .ok (.iload_n 3, 1) := by decide +kernel
theorem dX6_fitsAll_3 : decode cX6_fitsAll 3 = .ok (.aload_n 0, 1) := by decide +kernel
theorem dX6_fitsAll_4 : decode cX6_fitsAll 4 = .ok (.getfield 49, 3) := by decide +kernel
theorem dX6_fitsAll_7 : decode cX6_fitsAll 7 = .ok (.if_icmp .ge 92, 3) := by decide +kernel
theorem dX6_fitsAll_10 : decode cX6_fitsAll 10 = .ok (.aload_n 0, 1) := by decide +kernel
theorem dX6_fitsAll_11 : decode cX6_fitsAll 11 = .ok (.getfield 27, 3) := by decide +kernel
theorem dX6_fitsAll_14 : decode cX6_fitsAll 14 = .ok (.iload_n 3, 1) := by decide +kernel
theorem dX6_fitsAll_15 : decode cX6_fitsAll 15 = .ok (.iaload, 1) := by decide +kernel
theorem dX6_fitsAll_16 : decode cX6_fitsAll 16 = .ok (.iconst (-1), 1) := by decide +kernel
theorem dX6_fitsAll_17 : decode cX6_fitsAll 17 = .ok (.if_icmp .eq 17, 3) := by decide +kernel
theorem dX6_fitsAll_20 : decode cX6_fitsAll 20 = .ok (.aload_n 0, 1) := by decide +kernel
theorem dX6_fitsAll_21 : decode cX6_fitsAll 21 = .ok (.getfield 27, 3) := by decide +kernel
theorem dX6_fitsAll_24 : decode cX6_fitsAll 24 = .ok (.iload_n 3, 1) := by decide +kernel
theorem dX6_fitsAll_25 : decode cX6_fitsAll 25 = .ok (.iaload, 1) := by decide +kernel
theorem dX6_fitsAll_26 : decode cX6_fitsAll 26 = .ok (.iload_n 2, 1) := by decide +kernel
theorem dX6_fitsAll_27 : decode cX6_fitsAll 27 = .ok (.if_icmp .gt 7, 3) := by decide +kernel
theorem dX6_fitsAll_30 : decode cX6_fitsAll 30 = .ok (.iconst 1, 1) := by decide +kernel
theorem dX6_fitsAll_31 : decode cX6_fitsAll 31 = .ok (.goto 4, 3) := by decide +kernel
theorem dX6_fitsAll_34 : decode cX6_fitsAll 34 = .ok (.iconst 0, 1) := by decide +kernel
theorem dX6_fitsAll_35 : decode cX6_fitsAll 35 = .ok (.istore 4, 2) := by decide +kernel
theorem dX6_fitsAll_37 : decode cX6_fitsAll 37 = .ok (.aload_n 0, 1) := by decide +kernel
theorem dX6_fitsAll_38 : decode cX6_fitsAll 38 = .ok (.getfield 24, 3) := by decide +kernel
theorem dX6_fitsAll_41 : decode cX6_fitsAll 41 = .ok (.iload_n 3, 1) := by decide +kernel
theorem dX6_fitsAll_42 : decode cX6_fitsAll 42 = .ok (.iaload, 1) := by decide +kernel
theorem dX6_fitsAll_43 : decode cX6_fitsAll 43 = .ok (.iload_n 2, 1) := by decide +kernel
theorem dX6_fitsAll_44 : decode cX6_fitsAll 44 = .ok (.if_icmp .gt 49, 3) := by decide +kernel
theorem dX6_fitsAll_47 : decode cX6_fitsAll 47 = .ok (.iload 4, 2) := by decide +kernel
theorem dX6_fitsAll_49 : decode cX6_fitsAll 49 = .ok (.ifCond .ne 44, 3) := by decide +kernel
theorem dX6_fitsAll_52 : decode cX6_fitsAll 52 = .ok (.aload_n 0, 1) := by decide +kernel
theorem dX6_fitsAll_53 : decode cX6_fitsAll 53 = .ok (.getfield 45, 3) := by decide +kernel
theorem dX6_fitsAll_56 : decode cX6_fitsAll 56 = .ok (.getfield 70, 3) := by decide +kernel
theorem dX6_fitsAll_59 : decode cX6_fitsAll 59 = .ok (.iload_n 1, 1) := by decide +kernel
theorem dX6_fitsAll_60 : decode cX6_fitsAll 60 = .ok (.aload_n 0, 1) := by decide +kernel
theorem dX6_fitsAll_61 : decode cX6_fitsAll 61 = .ok (.getfield 11, 3) := by decide +kernel
theorem dX6_fitsAll_64 : decode cX6_fitsAll 64 = .ok (.iload_n 3, 1) := by decide +kernel
theorem dX6_fitsAll_65 : decode cX6_fitsAll 65 = .ok (.iaload, 1) := by decide +kernel
theorem dX6_fitsAll_66 : decode cX6_fitsAll 66 = .ok (.aload_n 0, 1) := by decide +kernel
theorem dX6_fitsAll_67 : decode cX6_fitsAll 67 = .ok (.getfield 15, 3) := by decide +kernel
theorem dX6_fitsAll_70 : decode cX6_fitsAll 70 = .ok (.iload_n 3, 1) := by decide +kernel
theorem dX6_fitsAll_71 : decode cX6_fitsAll 71 = .ok (.iaload, 1) := by decide +kernel
theorem dX6_fitsAll_72 : decode cX6_fitsAll 72 = .ok (.aload_n 0, 1) := by decide +kernel
theorem dX6_fitsAll_73 : decode cX6_fitsAll 73 = .ok (.getfield 18, 3) := by decide +kernel
theorem dX6_fitsAll_76 : decode cX6_fitsAll 76 = .ok (.iload_n 3, 1) := by decide +kernel
theorem dX6_fitsAll_77 : decode cX6_fitsAll 77 = .ok (.iaload, 1) := by decide +kernel
theorem dX6_fitsAll_78 : decode cX6_fitsAll 78 = .ok (.iconst 0, 1) := by decide +kernel
theorem dX6_fitsAll_79 : decode cX6_fitsAll 79 = .ok (.invokevirtual 74, 3) := by decide +kernel
theorem dX6_fitsAll_82 : decode cX6_fitsAll 82 = .ok (.aload_n 0, 1) := by decide +kernel
theorem dX6_fitsAll_83 : decode cX6_fitsAll 83 = .ok (.getfield 21, 3) := by decide +kernel
theorem dX6_fitsAll_86 : decode cX6_fitsAll 86 = .ok (.iload_n 3, 1) := by decide +kernel
theorem dX6_fitsAll_87 : decode cX6_fitsAll 87 = .ok (.iaload, 1) := by decide +kernel
theorem dX6_fitsAll_88 : decode cX6_fitsAll 88 = .ok (.if_icmp .eq 5, 3) := by decide +kernel
theorem dX6_fitsAll_91 : decode cX6_fitsAll 91 = .ok (.iconst 0, 1) := by decide +kernel
theorem dX6_fitsAll_92 : decode cX6_fitsAll 92 = .ok (.ireturn, 1) := by decide +kernel
theorem dX6_fitsAll_93 : decode cX6_fitsAll 93 = .ok (.iinc 3 1, 3) := by decide +kernel
theorem dX6_fitsAll_96 : decode cX6_fitsAll 96 = .ok (.goto (-94), 3) := by decide +kernel
theorem dX6_fitsAll_99 : decode cX6_fitsAll 99 = .ok (.iconst 1, 1) := by decide +kernel
theorem dX6_fitsAll_100 : decode cX6_fitsAll 100 = .ok (.ireturn, 1) := by decide +kernel
theorem dX6_sureOf_0 : decode cX6_sureOf 0 = .ok (.aload_n 0, 1) := by decide +kernel
theorem dX6_sureOf_1 : decode cX6_sureOf 1 = .ok (.iload_n 2, 1) := by decide +kernel
theorem dX6_sureOf_2 : decode cX6_sureOf 2 = .ok (.invokevirtual 80, 3) := by decide +kernel
theorem dX6_sureOf_5 : decode cX6_sureOf 5 = .ok (.istore_n 3, 1) := by decide +kernel
theorem dX6_sureOf_6 : decode cX6_sureOf 6 = .ok (.iconst 0, 1) := by decide +kernel
theorem dX6_sureOf_7 : decode cX6_sureOf 7 = .ok (.istore 4, 2) := by decide +kernel
theorem dX6_sureOf_9 : decode cX6_sureOf 9 = .ok (.iconst 0, 1) := by decide +kernel
theorem dX6_sureOf_10 : decode cX6_sureOf 10 = .ok (.istore 5, 2) := by decide +kernel
theorem dX6_sureOf_12 : decode cX6_sureOf 12 = .ok (.iload 5, 2) := by decide +kernel
theorem dX6_sureOf_14 : decode cX6_sureOf 14 = .ok (.iconst 1, 1) := by decide +kernel
theorem dX6_sureOf_15 : decode cX6_sureOf 15 = .ok (.aload_n 0, 1) := by decide +kernel
theorem dX6_sureOf_16 : decode cX6_sureOf 16 = .ok (.getfield 45, 3) := by decide +kernel
theorem dX6_sureOf_19 : decode cX6_sureOf 19 = .ok (.getfield 61, 3) := by decide +kernel
theorem dX6_sureOf_22 : decode cX6_sureOf 22 = .ok (.ishl, 1) := by decide +kernel
theorem dX6_sureOf_23 : decode cX6_sureOf 23 = .ok (.if_icmp .ge 27, 3) := by decide +kernel
theorem dX6_sureOf_26 : decode cX6_sureOf 26 = .ok (.iload 5, 2) := by decide +kernel
theorem dX6_sureOf_28 : decode cX6_sureOf 28 = .ok (.iconst 1, 1) := by decide +kernel
theorem dX6_sureOf_29 : decode cX6_sureOf 29 = .ok (.iload_n 1, 1) := by decide +kernel
theorem dX6_sureOf_30 : decode cX6_sureOf 30 = .ok (.ishl, 1) := by decide +kernel
theorem dX6_sureOf_31 : decode cX6_sureOf 31 = .ok (.iand, 1) := by decide +kernel
theorem dX6_sureOf_32 : decode cX6_sureOf 32 = .ok (.ifCond .eq 12, 3) := by decide +kernel
theorem dX6_sureOf_35 : decode cX6_sureOf 35 = .ok (.iload 4, 2) := by decide +kernel
theorem dX6_sureOf_37 : decode cX6_sureOf 37 = .ok (.iconst 1, 1) := by decide +kernel
theorem dX6_sureOf_38 : decode cX6_sureOf 38 = .ok (.iload 5, 2) := by decide +kernel
theorem dX6_sureOf_40 : decode cX6_sureOf 40 = .ok (.ishl, 1) := by decide +kernel
theorem dX6_sureOf_41 : decode cX6_sureOf 41 = .ok (.ior, 1) := by decide +kernel
theorem dX6_sureOf_42 : decode cX6_sureOf 42 = .ok (.istore 4, 2) := by decide +kernel
theorem dX6_sureOf_44 : decode cX6_sureOf 44 = .ok (.iinc 5 1, 3) := by decide +kernel
theorem dX6_sureOf_47 : decode cX6_sureOf 47 = .ok (.goto (-35), 3) := by decide +kernel
theorem dX6_sureOf_50 : decode cX6_sureOf 50 = .ok (.iload_n 3, 1) := by decide +kernel
theorem dX6_sureOf_51 : decode cX6_sureOf 51 = .ok (.ifCond .ne 5, 3) := by decide +kernel
theorem dX6_sureOf_54 : decode cX6_sureOf 54 = .ok (.iconst (-1), 1) := by decide +kernel
theorem dX6_sureOf_55 : decode cX6_sureOf 55 = .ok (.ireturn, 1) := by decide +kernel
theorem dX6_sureOf_56 : decode cX6_sureOf 56 = .ok (.iload_n 3, 1) := by decide +kernel
theorem dX6_sureOf_57 : decode cX6_sureOf 57 = .ok (.iload 4, 2) := by decide +kernel
theorem dX6_sureOf_59 : decode cX6_sureOf 59 = .ok (.iand, 1) := by decide +kernel
theorem dX6_sureOf_60 : decode cX6_sureOf 60 = .ok (.ifCond .ne 5, 3) := by decide +kernel
theorem dX6_sureOf_63 : decode cX6_sureOf 63 = .ok (.iconst 0, 1) := by decide +kernel
theorem dX6_sureOf_64 : decode cX6_sureOf 64 = .ok (.ireturn, 1) := by decide +kernel
theorem dX6_sureOf_65 : decode cX6_sureOf 65 = .ok (.iload_n 3, 1) := by decide +kernel
theorem dX6_sureOf_66 : decode cX6_sureOf 66 = .ok (.iload 4, 2) := by decide +kernel
theorem dX6_sureOf_68 : decode cX6_sureOf 68 = .ok (.iconst (-1), 1) := by decide +kernel
theorem dX6_sureOf_69 : decode cX6_sureOf 69 = .ok (.ixor, 1) := by decide +kernel
theorem dX6_sureOf_70 : decode cX6_sureOf 70 = .ok (.iand, 1) := by decide +kernel
theorem dX6_sureOf_71 : decode cX6_sureOf 71 = .ok (.ifCond .ne 7, 3) := by decide +kernel
theorem dX6_sureOf_74 : decode cX6_sureOf 74 = .ok (.iconst 1, 1) := by decide +kernel
theorem dX6_sureOf_75 : decode cX6_sureOf 75 = .ok (.goto 5, 3) := by decide +kernel
theorem dX6_sureOf_78 : decode cX6_sureOf 78 = .ok (.bipush (-2), 2) := by decide +kernel
theorem dX6_sureOf_80 : decode cX6_sureOf 80 = .ok (.ireturn, 1) := by decide +kernel
theorem dX6_bestAsked_0 : decode cX6_bestAsked 0 = .ok (.aload_n 0, 1) := by decide +kernel
theorem dX6_bestAsked_1 : decode cX6_bestAsked 1 = .ok (.iload 4, 2) := by decide +kernel
theorem dX6_bestAsked_3 : decode cX6_bestAsked 3 = .ok (.invokevirtual 80, 3) := by decide +kernel
theorem dX6_bestAsked_6 : decode cX6_bestAsked 6 = .ok (.istore 5, 2) := by decide +kernel
theorem dX6_bestAsked_8 : decode cX6_bestAsked 8 = .ok (.iload 5, 2) := by decide +kernel
theorem dX6_bestAsked_10 : decode cX6_bestAsked 10 = .ok (.ifCond .ne 5, 3) := by decide +kernel
theorem dX6_bestAsked_13 : decode cX6_bestAsked 13 = .ok (.iconst (-1), 1) := by decide +kernel
theorem dX6_bestAsked_14 : decode cX6_bestAsked 14 = .ok (.ireturn, 1) := by decide +kernel
theorem dX6_bestAsked_15 : decode cX6_bestAsked 15 = .ok (.iconst (-1), 1) := by decide +kernel
theorem dX6_bestAsked_16 : decode cX6_bestAsked 16 = .ok (.istore 6, 2) := by decide +kernel
theorem dX6_bestAsked_18 : decode cX6_bestAsked 18 = .ok (.iconst (-1), 1) := by decide +kernel
theorem dX6_bestAsked_19 : decode cX6_bestAsked 19 = .ok (.istore 7, 2) := by decide +kernel
theorem dX6_bestAsked_21 : decode cX6_bestAsked 21 = .ok (.iconst 0, 1) := by decide +kernel
theorem dX6_bestAsked_22 : decode cX6_bestAsked 22 = .ok (.istore 8, 2) := by decide +kernel
theorem dX6_bestAsked_24 : decode cX6_bestAsked 24 = .ok (.iload 8, 2) := by decide +kernel
theorem dX6_bestAsked_26 : decode cX6_bestAsked 26 = .ok (.bipush 10, 2) := by decide +kernel
theorem dX6_bestAsked_28 : decode cX6_bestAsked 28 = .ok (.if_icmp .ge 42, 3) := by decide +kernel
theorem dX6_bestAsked_31 : decode cX6_bestAsked 31 = .ok (.aload_n 0, 1) := by decide +kernel
theorem dX6_bestAsked_32 : decode cX6_bestAsked 32 = .ok (.iload 5, 2) := by decide +kernel
theorem dX6_bestAsked_34 : decode cX6_bestAsked 34 = .ok (.iload_n 1, 1) := by decide +kernel
theorem dX6_bestAsked_35 : decode cX6_bestAsked 35 = .ok (.iload_n 2, 1) := by decide +kernel
theorem dX6_bestAsked_36 : decode cX6_bestAsked 36 = .ok (.iload 8, 2) := by decide +kernel
theorem dX6_bestAsked_38 : decode cX6_bestAsked 38 = .ok (.invokevirtual 84, 3) := by decide +kernel
theorem dX6_bestAsked_41 : decode cX6_bestAsked 41 = .ok (.istore 9, 2) := by decide +kernel
theorem dX6_bestAsked_43 : decode cX6_bestAsked 43 = .ok (.iload 6, 2) := by decide +kernel
theorem dX6_bestAsked_45 : decode cX6_bestAsked 45 = .ok (.iconst (-1), 1) := by decide +kernel
theorem dX6_bestAsked_46 : decode cX6_bestAsked 46 = .ok (.if_icmp .eq 10, 3) := by decide +kernel
theorem dX6_bestAsked_49 : decode cX6_bestAsked 49 = .ok (.iload 9, 2) := by decide +kernel
theorem dX6_bestAsked_51 : decode cX6_bestAsked 51 = .ok (.iload 7, 2) := by decide +kernel
theorem dX6_bestAsked_53 : decode cX6_bestAsked 53 = .ok (.if_icmp .ge 11, 3) := by decide +kernel
theorem dX6_bestAsked_56 : decode cX6_bestAsked 56 = .ok (.iload 8, 2) := by decide +kernel
theorem dX6_bestAsked_58 : decode cX6_bestAsked 58 = .ok (.istore 6, 2) := by decide +kernel
theorem dX6_bestAsked_60 : decode cX6_bestAsked 60 = .ok (.iload 9, 2) := by decide +kernel
theorem dX6_bestAsked_62 : decode cX6_bestAsked 62 = .ok (.istore 7, 2) := by decide +kernel
theorem dX6_bestAsked_64 : decode cX6_bestAsked 64 = .ok (.iinc 8 1, 3) := by decide +kernel
theorem dX6_bestAsked_67 : decode cX6_bestAsked 67 = .ok (.goto (-43), 3) := by decide +kernel
theorem dX6_bestAsked_70 : decode cX6_bestAsked 70 = .ok (.iload_n 3, 1) := by decide +kernel
theorem dX6_bestAsked_71 : decode cX6_bestAsked 71 = .ok (.ifCond .ne 8, 3) := by decide +kernel
theorem dX6_bestAsked_74 : decode cX6_bestAsked 74 = .ok (.iload 6, 2) := by decide +kernel
theorem dX6_bestAsked_76 : decode cX6_bestAsked 76 = .ok (.goto 5, 3) := by decide +kernel
theorem dX6_bestAsked_79 : decode cX6_bestAsked 79 = .ok (.iload 7, 2) := by decide +kernel
theorem dX6_bestAsked_81 : decode cX6_bestAsked 81 = .ok (.ireturn, 1) := by decide +kernel
theorem dX6_mostLeft_0 : decode cX6_mostLeft 0 = .ok (.aload_n 0, 1) := by decide +kernel
theorem dX6_mostLeft_1 : decode cX6_mostLeft 1 = .ok (.getfield 30, 3) := by decide +kernel
theorem dX6_mostLeft_4 : decode cX6_mostLeft 4 = .ok (.iconst 0, 1) := by decide +kernel
theorem dX6_mostLeft_5 : decode cX6_mostLeft 5 = .ok (.invokestatic 88, 3) := by decide +kernel
theorem dX6_mostLeft_8 : decode cX6_mostLeft 8 = .ok (.iconst 0, 1) := by decide +kernel
theorem dX6_mostLeft_9 : decode cX6_mostLeft 9 = .ok (.istore 5, 2) := by decide +kernel
theorem dX6_mostLeft_11 : decode cX6_mostLeft 11 = .ok (.iconst 0, 1) := by decide +kernel
theorem dX6_mostLeft_12 : decode cX6_mostLeft 12 = .ok (.istore 6, 2) := by decide +kernel
theorem dX6_mostLeft_14 : decode cX6_mostLeft 14 = .ok (.iload 6, 2) := by decide +kernel
theorem dX6_mostLeft_16 : decode cX6_mostLeft 16 = .ok (.iconst 1, 1) := by decide +kernel
theorem dX6_mostLeft_17 : decode cX6_mostLeft 17 = .ok (.aload_n 0, 1) := by decide +kernel
theorem dX6_mostLeft_18 : decode cX6_mostLeft 18 = .ok (.getfield 45, 3) := by decide +kernel
theorem dX6_mostLeft_21 : decode cX6_mostLeft 21 = .ok (.getfield 61, 3) := by decide +kernel
theorem dX6_mostLeft_24 : decode cX6_mostLeft 24 = .ok (.ishl, 1) := by decide +kernel
theorem dX6_mostLeft_25 : decode cX6_mostLeft 25 = .ok (.if_icmp .ge 77, 3) := by decide +kernel
theorem dX6_mostLeft_28 : decode cX6_mostLeft 28 = .ok (.iload_n 1, 1) := by decide +kernel
theorem dX6_mostLeft_29 : decode cX6_mostLeft 29 = .ok (.iconst 1, 1) := by decide +kernel
theorem dX6_mostLeft_30 : decode cX6_mostLeft 30 = .ok (.iload 6, 2) := by decide +kernel
theorem dX6_mostLeft_32 : decode cX6_mostLeft 32 = .ok (.ishl, 1) := by decide +kernel
theorem dX6_mostLeft_33 : decode cX6_mostLeft 33 = .ok (.iand, 1) := by decide +kernel
theorem dX6_mostLeft_34 : decode cX6_mostLeft 34 = .ok (.ifCond .eq 62, 3) := by decide +kernel
theorem dX6_mostLeft_37 : decode cX6_mostLeft 37 = .ok (.aload_n 0, 1) := by decide +kernel
theorem dX6_mostLeft_38 : decode cX6_mostLeft 38 = .ok (.getfield 45, 3) := by decide +kernel
theorem dX6_mostLeft_41 : decode cX6_mostLeft 41 = .ok (.getfield 70, 3) := by decide +kernel
theorem dX6_mostLeft_44 : decode cX6_mostLeft 44 = .ok (.iload 6, 2) := by decide +kernel
theorem dX6_mostLeft_46 : decode cX6_mostLeft 46 = .ok (.iload_n 2, 1) := by decide +kernel
theorem dX6_mostLeft_47 : decode cX6_mostLeft 47 = .ok (.iload_n 3, 1) := by decide +kernel
theorem dX6_mostLeft_48 : decode cX6_mostLeft 48 = .ok (.iload 4, 2) := by decide +kernel
theorem dX6_mostLeft_50 : decode cX6_mostLeft 50 = .ok (.iconst 0, 1) := by decide +kernel
theorem dX6_mostLeft_51 : decode cX6_mostLeft 51 = .ok (.invokevirtual 74, 3) := by decide +kernel
theorem dX6_mostLeft_54 : decode cX6_mostLeft 54 = .ok (.istore 7, 2) := by decide +kernel
theorem dX6_mostLeft_56 : decode cX6_mostLeft 56 = .ok (.iload 7, 2) := by decide +kernel
theorem dX6_mostLeft_58 : decode cX6_mostLeft 58 = .ok (.ifCond .lt 38, 3) := by decide +kernel
theorem dX6_mostLeft_61 : decode cX6_mostLeft 61 = .ok (.iload 7, 2) := by decide +kernel
theorem dX6_mostLeft_63 : decode cX6_mostLeft 63 = .ok (.aload_n 0, 1) := by decide +kernel
theorem dX6_mostLeft_64 : decode cX6_mostLeft 64 = .ok (.getfield 30, 3) := by decide +kernel
theorem dX6_mostLeft_67 : decode cX6_mostLeft 67 = .ok (.arraylength, 1) := by decide +kernel
theorem dX6_mostLeft_68 : decode cX6_mostLeft 68 = .ok (.if_icmp .ge 28, 3) := by decide +kernel
theorem dX6_mostLeft_71 : decode cX6_mostLeft 71 = .ok (.aload_n 0, 1) := by decide +kernel
theorem dX6_mostLeft_72 : decode cX6_mostLeft 72 = .ok (.getfield 30, 3) := by decide +kernel
theorem dX6_mostLeft_75 : decode cX6_mostLeft 75 = .ok (.iload 7, 2) := by decide +kernel
theorem dX6_mostLeft_77 : decode cX6_mostLeft 77 = .ok (.dup2, 1) := by decide +kernel
theorem dX6_mostLeft_78 : decode cX6_mostLeft 78 = .ok (.iaload, 1) := by decide +kernel
theorem dX6_mostLeft_79 : decode cX6_mostLeft 79 = .ok (.iconst 1, 1) := by decide +kernel
theorem dX6_mostLeft_80 : decode cX6_mostLeft 80 = .ok (.iadd, 1) := by decide +kernel
theorem dX6_mostLeft_81 : decode cX6_mostLeft 81 = .ok (.iastore, 1) := by decide +kernel
theorem dX6_mostLeft_82 : decode cX6_mostLeft 82 = .ok (.iload 5, 2) := by decide +kernel
theorem dX6_mostLeft_84 : decode cX6_mostLeft 84 = .ok (.aload_n 0, 1) := by decide +kernel
theorem dX6_mostLeft_85 : decode cX6_mostLeft 85 = .ok (.getfield 30, 3) := by decide +kernel
theorem dX6_mostLeft_88 : decode cX6_mostLeft 88 = .ok (.iload 7, 2) := by decide +kernel
theorem dX6_mostLeft_90 : decode cX6_mostLeft 90 = .ok (.iaload, 1) := by decide +kernel
theorem dX6_mostLeft_91 : decode cX6_mostLeft 91 = .ok (.invokestatic 94, 3) := by decide +kernel
theorem dX6_mostLeft_94 : decode cX6_mostLeft 94 = .ok (.istore 5, 2) := by decide +kernel
theorem dX6_mostLeft_96 : decode cX6_mostLeft 96 = .ok (.iinc 6 1, 3) := by decide +kernel
theorem dX6_mostLeft_99 : decode cX6_mostLeft 99 = .ok (.goto (-85), 3) := by decide +kernel
theorem dX6_mostLeft_102 : decode cX6_mostLeft 102 = .ok (.iload 5, 2) := by decide +kernel
theorem dX6_mostLeft_104 : decode cX6_mostLeft 104 = .ok (.ireturn, 1) := by decide +kernel
theorem dX6_bestCourse_0 : decode cX6_bestCourse 0 = .ok (.aload_n 0, 1) := by decide +kernel
theorem dX6_bestCourse_1 : decode cX6_bestCourse 1 = .ok (.iload_n 2, 1) := by decide +kernel
theorem dX6_bestCourse_2 : decode cX6_bestCourse 2 = .ok (.invokevirtual 80, 3) := by decide +kernel
theorem dX6_bestCourse_5 : decode cX6_bestCourse 5 = .ok (.istore_n 3, 1) := by decide +kernel
theorem dX6_bestCourse_6 : decode cX6_bestCourse 6 = .ok (.iload_n 3, 1) := by decide +kernel
theorem dX6_bestCourse_7 : decode cX6_bestCourse 7 = .ok (.ifCond .ne 5, 3) := by decide +kernel
theorem dX6_bestCourse_10 : decode cX6_bestCourse 10 = .ok (.iconst (-1), 1) := by decide +kernel
theorem dX6_bestCourse_11 : decode cX6_bestCourse 11 = .ok (.ireturn, 1) := by decide +kernel
theorem dX6_bestCourse_12 : decode cX6_bestCourse 12 = .ok (.iload_n 3, 1) := by decide +kernel
theorem dX6_bestCourse_13 : decode cX6_bestCourse 13 = .ok (.invokestatic 100, 3) := by decide +kernel
theorem dX6_bestCourse_16 : decode cX6_bestCourse 16 = .ok (.bipush 10, 2) := by decide +kernel
theorem dX6_bestCourse_18 : decode cX6_bestCourse 18 = .ok (.if_icmp .le 6, 3) := by decide +kernel
theorem dX6_bestCourse_21 : decode cX6_bestCourse 21 = .ok (.bipush (-2), 2) := by decide +kernel
theorem dX6_bestCourse_23 : decode cX6_bestCourse 23 = .ok (.ireturn, 1) := by decide +kernel
theorem dX6_bestCourse_24 : decode cX6_bestCourse 24 = .ok (.aload_n 0, 1) := by decide +kernel
theorem dX6_bestCourse_25 : decode cX6_bestCourse 25 = .ok (.iload_n 3, 1) := by decide +kernel
theorem dX6_bestCourse_26 : decode cX6_bestCourse 26 = .ok (.invokevirtual 105, 3) := by decide +kernel
theorem dX6_bestCourse_29 : decode cX6_bestCourse 29 = .ok (.iconst 1, 1) := by decide +kernel
theorem dX6_bestCourse_30 : decode cX6_bestCourse 30 = .ok (.aload_n 0, 1) := by decide +kernel
theorem dX6_bestCourse_31 : decode cX6_bestCourse 31 = .ok (.getfield 109, 3) := by decide +kernel
theorem dX6_bestCourse_34 : decode cX6_bestCourse 34 = .ok (.ishl, 1) := by decide +kernel
theorem dX6_bestCourse_35 : decode cX6_bestCourse 35 = .ok (.iconst 1, 1) := by decide +kernel
theorem dX6_bestCourse_36 : decode cX6_bestCourse 36 = .ok (.isub, 1) := by decide +kernel
theorem dX6_bestCourse_37 : decode cX6_bestCourse 37 = .ok (.istore 4, 2) := by decide +kernel
theorem dX6_bestCourse_39 : decode cX6_bestCourse 39 = .ok (.aload_n 0, 1) := by decide +kernel
theorem dX6_bestCourse_40 : decode cX6_bestCourse 40 = .ok (.iload 4, 2) := by decide +kernel
theorem dX6_bestCourse_42 : decode cX6_bestCourse 42 = .ok (.iconst 0, 1) := by decide +kernel
theorem dX6_bestCourse_43 : decode cX6_bestCourse 43 = .ok (.invokevirtual 112, 3) := by decide +kernel
theorem dX6_bestCourse_46 : decode cX6_bestCourse 46 = .ok (.istore 5, 2) := by decide +kernel
theorem dX6_bestCourse_48 : decode cX6_bestCourse 48 = .ok (.iload 5, 2) := by decide +kernel
theorem dX6_bestCourse_50 : decode cX6_bestCourse 50 = .ok (.bipush 99, 2) := by decide +kernel
theorem dX6_bestCourse_52 : decode cX6_bestCourse 52 = .ok (.if_icmp .ne 5, 3) := by decide +kernel
theorem dX6_bestCourse_55 : decode cX6_bestCourse 55 = .ok (.iconst (-1), 1) := by decide +kernel
theorem dX6_bestCourse_56 : decode cX6_bestCourse 56 = .ok (.ireturn, 1) := by decide +kernel
theorem dX6_bestCourse_57 : decode cX6_bestCourse 57 = .ok (.iload_n 1, 1) := by decide +kernel
theorem dX6_bestCourse_58 : decode cX6_bestCourse 58 = .ok (.ifCond .ne 8, 3) := by decide +kernel
theorem dX6_bestCourse_61 : decode cX6_bestCourse 61 = .ok (.iload 5, 2) := by decide +kernel
theorem dX6_bestCourse_63 : decode cX6_bestCourse 63 = .ok (.goto 11, 3) := by decide +kernel
theorem dX6_bestCourse_66 : decode cX6_bestCourse 66 = .ok (.aload_n 0, 1) := by decide +kernel
theorem dX6_bestCourse_67 : decode cX6_bestCourse 67 = .ok (.iload 4, 2) := by decide +kernel
theorem dX6_bestCourse_69 : decode cX6_bestCourse 69 = .ok (.iload 5, 2) := by decide +kernel
theorem dX6_bestCourse_71 : decode cX6_bestCourse 71 = .ok (.invokevirtual 115, 3) := by decide +kernel
theorem dX6_bestCourse_74 : decode cX6_bestCourse 74 = .ok (.ireturn, 1) := by decide +kernel
theorem dX6_takeCandidates_0 : decode cX6_takeCandidates 0 = .ok (.aload_n 0, 1) := by decide +kernel
theorem dX6_takeCandidates_1 : decode cX6_takeCandidates 1 = .ok (.iconst 0, 1) := by decide +kernel
theorem dX6_takeCandidates_2 : decode cX6_takeCandidates 2 = .ok (.putfield 109, 3) := by decide +kernel
theorem dX6_takeCandidates_5 : decode cX6_takeCandidates 5 = .ok (.iconst 0, 1) := by decide +kernel
theorem dX6_takeCandidates_6 : decode cX6_takeCandidates 6 = .ok (.istore_n 2, 1) := by decide +kernel
theorem dX6_takeCandidates_7 : decode cX6_takeCandidates 7 = .ok (.iload_n 2, 1) := by decide +kernel
theorem dX6_takeCandidates_8 : decode cX6_takeCandidates 8 = .ok (.iconst 1, 1) := by decide +kernel
theorem dX6_takeCandidates_9 : decode cX6_takeCandidates 9 = .ok (.aload_n 0, 1) := by decide +kernel
theorem dX6_takeCandidates_10 : decode cX6_takeCandidates 10 = .ok (.getfield 45, 3) := by decide +kernel
theorem dX6_takeCandidates_13 : decode cX6_takeCandidates 13 = .ok (.getfield 61, 3) := by decide +kernel
theorem dX6_takeCandidates_16 : decode cX6_takeCandidates 16 = .ok (.ishl, 1) := by decide +kernel
theorem dX6_takeCandidates_17 : decode cX6_takeCandidates 17 = .ok (.if_icmp .ge 46, 3) := by decide +kernel
theorem dX6_takeCandidates_20 : decode cX6_takeCandidates 20 = .ok (.iload_n 1, 1) := by decide +kernel
theorem dX6_takeCandidates_21 : decode cX6_takeCandidates 21 = .ok (.iconst 1, 1) := by decide +kernel
theorem dX6_takeCandidates_22 : decode cX6_takeCandidates 22 = .ok (.iload_n 2, 1) := by decide +kernel
theorem dX6_takeCandidates_23 : decode cX6_takeCandidates 23 = .ok (.ishl, 1) := by decide +kernel
theorem dX6_takeCandidates_24 : decode cX6_takeCandidates 24 = .ok (.iand, 1) := by decide +kernel
theorem dX6_takeCandidates_25 : decode cX6_takeCandidates 25 = .ok (.ifCond .eq 32, 3) := by decide +kernel
theorem dX6_takeCandidates_28 : decode cX6_takeCandidates 28 = .ok (.aload_n 0, 1) := by decide +kernel
theorem dX6_takeCandidates_29 : decode cX6_takeCandidates 29 = .ok (.getfield 109, 3) := by decide +kernel
theorem dX6_takeCandidates_32 : decode cX6_takeCandidates 32 = .ok (.bipush 10, 2) := by decide +kernel
theorem dX6_takeCandidates_34 : decode cX6_takeCandidates 34 = .ok (.if_icmp .ge 23, 3) := by decide +kernel
theorem dX6_takeCandidates_37 : decode cX6_takeCandidates 37 = .ok (.aload_n 0, 1) := by decide +kernel
theorem dX6_takeCandidates_38 : decode cX6_takeCandidates 38 = .ok (.getfield 33, 3) := by decide +kernel
theorem dX6_takeCandidates_41 : decode cX6_takeCandidates 41 = .ok (.aload_n 0, 1) := by decide +kernel
theorem dX6_takeCandidates_42 : decode cX6_takeCandidates 42 = .ok (.getfield 109, 3) := by decide +kernel
theorem dX6_takeCandidates_45 : decode cX6_takeCandidates 45 = .ok (.iload_n 2, 1) := by decide +kernel
theorem dX6_takeCandidates_46 : decode cX6_takeCandidates 46 = .ok (.iastore, 1) := by decide +kernel
theorem dX6_takeCandidates_47 : decode cX6_takeCandidates 47 = .ok (.aload_n 0, 1) := by decide +kernel
theorem dX6_takeCandidates_48 : decode cX6_takeCandidates 48 = .ok (.dup, 1) := by decide +kernel
theorem dX6_takeCandidates_49 : decode cX6_takeCandidates 49 = .ok (.getfield 109, 3) := by decide +kernel
theorem dX6_takeCandidates_52 : decode cX6_takeCandidates 52 = .ok (.iconst 1, 1) := by decide +kernel
theorem dX6_takeCandidates_53 : decode cX6_takeCandidates 53 = .ok (.iadd, 1) := by decide +kernel
theorem dX6_takeCandidates_54 : decode cX6_takeCandidates 54 = .ok (.putfield 109, 3) := by decide +kernel
theorem dX6_takeCandidates_57 : decode cX6_takeCandidates 57 = .ok (.iinc 2 1, 3) := by decide +kernel
theorem dX6_takeCandidates_60 : decode cX6_takeCandidates 60 = .ok (.goto (-53), 3) := by decide +kernel
theorem dX6_takeCandidates_63 : decode cX6_takeCandidates 63 = .ok (.iconst 0, 1) := by decide +kernel
theorem dX6_takeCandidates_64 : decode cX6_takeCandidates 64 = .ok (.istore_n 2, 1) := by decide +kernel
theorem dX6_takeCandidates_65 : decode cX6_takeCandidates 65 = .ok (.iload_n 2, 1) := by decide +kernel
theorem dX6_takeCandidates_66 : decode cX6_takeCandidates 66 = .ok (.bipush 10, 2) := by decide +kernel
theorem dX6_takeCandidates_68 : decode cX6_takeCandidates 68 = .ok (.if_icmp .ge 14, 3) := by decide +kernel
theorem dX6_takeCandidates_71 : decode cX6_takeCandidates 71 = .ok (.aload_n 0, 1) := by decide +kernel
theorem dX6_takeCandidates_72 : decode cX6_takeCandidates 72 = .ok (.iload_n 2, 1) := by decide +kernel
theorem dX6_takeCandidates_73 : decode cX6_takeCandidates 73 = .ok (.invokevirtual 118, 3) := by decide +kernel
theorem dX6_takeCandidates_76 : decode cX6_takeCandidates 76 = .ok (.iinc 2 1, 3) := by decide +kernel
theorem dX6_takeCandidates_79 : decode cX6_takeCandidates 79 = .ok (.goto (-14), 3) := by decide +kernel
theorem dX6_takeCandidates_82 : decode cX6_takeCandidates 82 = .ok (.aload_n 0, 1) := by decide +kernel
theorem dX6_takeCandidates_83 : decode cX6_takeCandidates 83 = .ok (.getfield 42, 3) := by decide +kernel
theorem dX6_takeCandidates_86 : decode cX6_takeCandidates 86 = .ok (.iconst (-1), 1) := by decide +kernel
theorem dX6_takeCandidates_87 : decode cX6_takeCandidates 87 = .ok (.invokestatic 88, 3) := by decide +kernel
theorem dX6_takeCandidates_90 : decode cX6_takeCandidates 90 = .ok (.return_, 1) := by decide +kernel
theorem dX6_takeAlike_0 : decode cX6_takeAlike 0 = .ok (.iconst 0, 1) := by decide +kernel
theorem dX6_takeAlike_1 : decode cX6_takeAlike 1 = .ok (.istore_n 2, 1) := by decide +kernel
theorem dX6_takeAlike_2 : decode cX6_takeAlike 2 = .ok (.iload_n 2, 1) := by decide +kernel
theorem dX6_takeAlike_3 : decode cX6_takeAlike 3 = .ok (.aload_n 0, 1) := by decide +kernel
theorem dX6_takeAlike_4 : decode cX6_takeAlike 4 = .ok (.getfield 109, 3) := by decide +kernel
theorem dX6_takeAlike_7 : decode cX6_takeAlike 7 = .ok (.if_icmp .ge 35, 3) := by decide +kernel
theorem dX6_takeAlike_10 : decode cX6_takeAlike 10 = .ok (.aload_n 0, 1) := by decide +kernel
theorem dX6_takeAlike_11 : decode cX6_takeAlike 11 = .ok (.getfield 36, 3) := by decide +kernel
theorem dX6_takeAlike_14 : decode cX6_takeAlike 14 = .ok (.iload_n 2, 1) := by decide +kernel
theorem dX6_takeAlike_15 : decode cX6_takeAlike 15 = .ok (.aload_n 0, 1) := by decide +kernel
theorem dX6_takeAlike_16 : decode cX6_takeAlike 16 = .ok (.getfield 45, 3) := by decide +kernel
theorem dX6_takeAlike_19 : decode cX6_takeAlike 19 = .ok (.getfield 70, 3) := by decide +kernel
theorem dX6_takeAlike_22 : decode cX6_takeAlike 22 = .ok (.aload_n 0, 1) := by decide +kernel
theorem dX6_takeAlike_23 : decode cX6_takeAlike 23 = .ok (.getfield 33, 3) := by decide +kernel
theorem dX6_takeAlike_26 : decode cX6_takeAlike 26 = .ok (.iload_n 2, 1) := by decide +kernel
theorem dX6_takeAlike_27 : decode cX6_takeAlike 27 = .ok (.iaload, 1) := by decide +kernel
theorem dX6_takeAlike_28 : decode cX6_takeAlike 28 = .ok (.iconst 0, 1) := by decide +kernel
theorem dX6_takeAlike_29 : decode cX6_takeAlike 29 = .ok (.iconst 0, 1) := by decide +kernel
theorem dX6_takeAlike_30 : decode cX6_takeAlike 30 = .ok (.iload_n 1, 1) := by decide +kernel
theorem dX6_takeAlike_31 : decode cX6_takeAlike 31 = .ok (.iconst 0, 1) := by decide +kernel
theorem dX6_takeAlike_32 : decode cX6_takeAlike 32 = .ok (.invokevirtual 74, 3) := by decide +kernel
theorem dX6_takeAlike_35 : decode cX6_takeAlike 35 = .ok (.iastore, 1) := by decide +kernel
theorem dX6_takeAlike_36 : decode cX6_takeAlike 36 = .ok (.iinc 2 1, 3) := by decide +kernel
theorem dX6_takeAlike_39 : decode cX6_takeAlike 39 = .ok (.goto (-37), 3) := by decide +kernel
theorem dX6_takeAlike_42 : decode cX6_takeAlike 42 = .ok (.iconst 0, 1) := by decide +kernel
theorem dX6_takeAlike_43 : decode cX6_takeAlike 43 = .ok (.istore_n 2, 1) := by decide +kernel
theorem dX6_takeAlike_44 : decode cX6_takeAlike 44 = .ok (.iload_n 2, 1) := by decide +kernel
theorem dX6_takeAlike_45 : decode cX6_takeAlike 45 = .ok (.aload_n 0, 1) := by decide +kernel
theorem dX6_takeAlike_46 : decode cX6_takeAlike 46 = .ok (.getfield 109, 3) := by decide +kernel
theorem dX6_takeAlike_49 : decode cX6_takeAlike 49 = .ok (.if_icmp .ge 64, 3) := by decide +kernel
theorem dX6_takeAlike_52 : decode cX6_takeAlike 52 = .ok (.iconst 0, 1) := by decide +kernel
theorem dX6_takeAlike_53 : decode cX6_takeAlike 53 = .ok (.istore_n 3, 1) := by decide +kernel
theorem dX6_takeAlike_54 : decode cX6_takeAlike 54 = .ok (.iconst 0, 1) := by decide +kernel
theorem dX6_takeAlike_55 : decode cX6_takeAlike 55 = .ok (.istore 4, 2) := by decide +kernel
theorem dX6_takeAlike_57 : decode cX6_takeAlike 57 = .ok (.iload 4, 2) := by decide +kernel
theorem dX6_takeAlike_59 : decode cX6_takeAlike 59 = .ok (.aload_n 0, 1) := by decide +kernel
theorem dX6_takeAlike_60 : decode cX6_takeAlike 60 = .ok (.getfield 109, 3) := by decide +kernel
theorem dX6_takeAlike_63 : decode cX6_takeAlike 63 = .ok (.if_icmp .ge 32, 3) := by decide +kernel
theorem dX6_takeAlike_66 : decode cX6_takeAlike 66 = .ok (.aload_n 0, 1) := by decide +kernel
theorem dX6_takeAlike_67 : decode cX6_takeAlike 67 = .ok (.getfield 36, 3) := by decide +kernel
theorem dX6_takeAlike_70 : decode cX6_takeAlike 70 = .ok (.iload_n 2, 1) := by decide +kernel
theorem dX6_takeAlike_71 : decode cX6_takeAlike 71 = .ok (.iaload, 1) := by decide +kernel
theorem dX6_takeAlike_72 : decode cX6_takeAlike 72 = .ok (.aload_n 0, 1) := by decide +kernel
theorem dX6_takeAlike_73 : decode cX6_takeAlike 73 = .ok (.getfield 36, 3) := by decide +kernel
theorem dX6_takeAlike_76 : decode cX6_takeAlike 76 = .ok (.iload 4, 2) := by decide +kernel
theorem dX6_takeAlike_78 : decode cX6_takeAlike 78 = .ok (.iaload, 1) := by decide +kernel
theorem dX6_takeAlike_79 : decode cX6_takeAlike 79 = .ok (.if_icmp .ne 10, 3) := by decide +kernel
theorem dX6_takeAlike_82 : decode cX6_takeAlike 82 = .ok (.iload_n 3, 1) := by decide +kernel
theorem dX6_takeAlike_83 : decode cX6_takeAlike 83 = .ok (.iconst 1, 1) := by decide +kernel
theorem dX6_takeAlike_84 : decode cX6_takeAlike 84 = .ok (.iload 4, 2) := by decide +kernel
theorem dX6_takeAlike_86 : decode cX6_takeAlike 86 = .ok (.ishl, 1) := by decide +kernel
theorem dX6_takeAlike_87 : decode cX6_takeAlike 87 = .ok (.ior, 1) := by decide +kernel
theorem dX6_takeAlike_88 : decode cX6_takeAlike 88 = .ok (.istore_n 3, 1) := by decide +kernel
theorem dX6_takeAlike_89 : decode cX6_takeAlike 89 = .ok (.iinc 4 1, 3) := by decide +kernel
theorem dX6_takeAlike_92 : decode cX6_takeAlike 92 = .ok (.goto (-35), 3) := by decide +kernel
theorem dX6_takeAlike_95 : decode cX6_takeAlike 95 = .ok (.aload_n 0, 1) := by decide +kernel
theorem dX6_takeAlike_96 : decode cX6_takeAlike 96 = .ok (.getfield 39, 3) := by decide +kernel
theorem dX6_takeAlike_99 : decode cX6_takeAlike 99 = .ok (.iload_n 1, 1) := by decide +kernel
theorem dX6_takeAlike_100 : decode cX6_takeAlike 100 = .ok (.bipush 10, 2) := by decide +kernel
theorem dX6_takeAlike_102 : decode cX6_takeAlike 102 = .ok (.imul, 1) := by decide +kernel
theorem dX6_takeAlike_103 : decode cX6_takeAlike 103 = .ok (.iload_n 2, 1) := by decide +kernel
theorem dX6_takeAlike_104 : decode cX6_takeAlike 104 = .ok (.iadd, 1) := by decide +kernel
theorem dX6_takeAlike_105 : decode cX6_takeAlike 105 = .ok (.iload_n 3, 1) := by decide +kernel
theorem dX6_takeAlike_106 : decode cX6_takeAlike 106 = .ok (.iastore, 1) := by decide +kernel
theorem dX6_takeAlike_107 : decode cX6_takeAlike 107 = .ok (.iinc 2 1, 3) := by decide +kernel
theorem dX6_takeAlike_110 : decode cX6_takeAlike 110 = .ok (.goto (-66), 3) := by decide +kernel
theorem dX6_takeAlike_113 : decode cX6_takeAlike 113 = .ok (.return_, 1) := by decide +kernel
theorem dX6_lengthOf_0 : decode cX6_lengthOf 0 = .ok (.iload_n 1, 1) := by decide +kernel
theorem dX6_lengthOf_1 : decode cX6_lengthOf 1 = .ok (.invokestatic 100, 3) := by decide +kernel
theorem dX6_lengthOf_4 : decode cX6_lengthOf 4 = .ok (.iconst 1, 1) := by decide +kernel
theorem dX6_lengthOf_5 : decode cX6_lengthOf 5 = .ok (.if_icmp .gt 5, 3) := by decide +kernel
theorem dX6_lengthOf_8 : decode cX6_lengthOf 8 = .ok (.iconst 0, 1) := by decide +kernel
theorem dX6_lengthOf_9 : decode cX6_lengthOf 9 = .ok (.ireturn, 1) := by decide +kernel
theorem dX6_lengthOf_10 : decode cX6_lengthOf 10 = .ok (.iload_n 1, 1) := by decide +kernel
theorem dX6_lengthOf_11 : decode cX6_lengthOf 11 = .ok (.ifCond .lt 18, 3) := by decide +kernel
theorem dX6_lengthOf_14 : decode cX6_lengthOf 14 = .ok (.iload_n 1, 1) := by decide +kernel
theorem dX6_lengthOf_15 : decode cX6_lengthOf 15 = .ok (.aload_n 0, 1) := by decide +kernel
theorem dX6_lengthOf_16 : decode cX6_lengthOf 16 = .ok (.getfield 42, 3) := by decide +kernel
theorem dX6_lengthOf_19 : decode cX6_lengthOf 19 = .ok (.arraylength, 1) := by decide +kernel
theorem dX6_lengthOf_20 : decode cX6_lengthOf 20 = .ok (.if_icmp .ge 9, 3) := by decide +kernel
theorem dX6_lengthOf_23 : decode cX6_lengthOf 23 = .ok (.iload_n 2, 1) := by decide +kernel
theorem dX6_lengthOf_24 : decode cX6_lengthOf 24 = .ok (.bipush 10, 2) := by decide +kernel
theorem dX6_lengthOf_26 : decode cX6_lengthOf 26 = .ok (.if_icmp .le 6, 3) := by decide +kernel
theorem dX6_lengthOf_29 : decode cX6_lengthOf 29 = .ok (.bipush 99, 2) := by decide +kernel
theorem dX6_lengthOf_31 : decode cX6_lengthOf 31 = .ok (.ireturn, 1) := by decide +kernel
theorem dX6_lengthOf_32 : decode cX6_lengthOf 32 = .ok (.aload_n 0, 1) := by decide +kernel
theorem dX6_lengthOf_33 : decode cX6_lengthOf 33 = .ok (.getfield 42, 3) := by decide +kernel
theorem dX6_lengthOf_36 : decode cX6_lengthOf 36 = .ok (.iload_n 1, 1) := by decide +kernel
theorem dX6_lengthOf_37 : decode cX6_lengthOf 37 = .ok (.iaload, 1) := by decide +kernel
theorem dX6_lengthOf_38 : decode cX6_lengthOf 38 = .ok (.iconst (-1), 1) := by decide +kernel
theorem dX6_lengthOf_39 : decode cX6_lengthOf 39 = .ok (.if_icmp .ne 44, 3) := by decide +kernel
theorem dX6_lengthOf_42 : decode cX6_lengthOf 42 = .ok (.bipush 99, 2) := by decide +kernel
theorem dX6_lengthOf_44 : decode cX6_lengthOf 44 = .ok (.istore_n 3, 1) := by decide +kernel
theorem dX6_lengthOf_45 : decode cX6_lengthOf 45 = .ok (.iconst 0, 1) := by decide +kernel
theorem dX6_lengthOf_46 : decode cX6_lengthOf 46 = .ok (.istore 4, 2) := by decide +kernel
theorem dX6_lengthOf_48 : decode cX6_lengthOf 48 = .ok (.iload 4, 2) := by decide +kernel
theorem dX6_lengthOf_50 : decode cX6_lengthOf 50 = .ok (.bipush 10, 2) := by decide +kernel
theorem dX6_lengthOf_52 : decode cX6_lengthOf 52 = .ok (.if_icmp .ge 24, 3) := by decide +kernel
theorem dX6_lengthOf_55 : decode cX6_lengthOf 55 = .ok (.iload_n 3, 1) := by decide +kernel
theorem dX6_lengthOf_56 : decode cX6_lengthOf 56 = .ok (.iconst 1, 1) := by decide +kernel
theorem dX6_lengthOf_57 : decode cX6_lengthOf 57 = .ok (.aload_n 0, 1) := by decide +kernel
theorem dX6_lengthOf_58 : decode cX6_lengthOf 58 = .ok (.iload_n 1, 1) := by decide +kernel
theorem dX6_lengthOf_59 : decode cX6_lengthOf 59 = .ok (.iload 4, 2) := by decide +kernel
theorem dX6_lengthOf_61 : decode cX6_lengthOf 61 = .ok (.iload_n 2, 1) := by decide +kernel
theorem dX6_lengthOf_62 : decode cX6_lengthOf 62 = .ok (.invokevirtual 121, 3) := by decide +kernel
theorem dX6_lengthOf_65 : decode cX6_lengthOf 65 = .ok (.iadd, 1) := by decide +kernel
theorem dX6_lengthOf_66 : decode cX6_lengthOf 66 = .ok (.invokestatic 125, 3) := by decide +kernel
theorem dX6_lengthOf_69 : decode cX6_lengthOf 69 = .ok (.istore_n 3, 1) := by decide +kernel
theorem dX6_lengthOf_70 : decode cX6_lengthOf 70 = .ok (.iinc 4 1, 3) := by decide +kernel
theorem dX6_lengthOf_73 : decode cX6_lengthOf 73 = .ok (.goto (-25), 3) := by decide +kernel
theorem dX6_lengthOf_76 : decode cX6_lengthOf 76 = .ok (.aload_n 0, 1) := by decide +kernel
theorem dX6_lengthOf_77 : decode cX6_lengthOf 77 = .ok (.getfield 42, 3) := by decide +kernel
theorem dX6_lengthOf_80 : decode cX6_lengthOf 80 = .ok (.iload_n 1, 1) := by decide +kernel
theorem dX6_lengthOf_81 : decode cX6_lengthOf 81 = .ok (.iload_n 3, 1) := by decide +kernel
theorem dX6_lengthOf_82 : decode cX6_lengthOf 82 = .ok (.iastore, 1) := by decide +kernel
theorem dX6_lengthOf_83 : decode cX6_lengthOf 83 = .ok (.aload_n 0, 1) := by decide +kernel
theorem dX6_lengthOf_84 : decode cX6_lengthOf 84 = .ok (.getfield 42, 3) := by decide +kernel
theorem dX6_lengthOf_87 : decode cX6_lengthOf 87 = .ok (.iload_n 1, 1) := by decide +kernel
theorem dX6_lengthOf_88 : decode cX6_lengthOf 88 = .ok (.iaload, 1) := by decide +kernel
theorem dX6_lengthOf_89 : decode cX6_lengthOf 89 = .ok (.ireturn, 1) := by decide +kernel
theorem dX6_lengthBehind_0 : decode cX6_lengthBehind 0 = .ok (.iconst 0, 1) := by decide +kernel
theorem dX6_lengthBehind_1 : decode cX6_lengthBehind 1 = .ok (.istore 4, 2) := by decide +kernel
theorem dX6_lengthBehind_3 : decode cX6_lengthBehind 3 = .ok (.iload_n 1, 1) := by decide +kernel
theorem dX6_lengthBehind_4 : decode cX6_lengthBehind 4 = .ok (.istore 5, 2) := by decide +kernel
theorem dX6_lengthBehind_6 : decode cX6_lengthBehind 6 = .ok (.iconst 0, 1) := by decide +kernel
theorem dX6_lengthBehind_7 : decode cX6_lengthBehind 7 = .ok (.istore 6, 2) := by decide +kernel
theorem dX6_lengthBehind_9 : decode cX6_lengthBehind 9 = .ok (.iload 6, 2) := by decide +kernel
theorem dX6_lengthBehind_11 : decode cX6_lengthBehind 11 = .ok (.aload_n 0, 1) := by decide +kernel
theorem dX6_lengthBehind_12 : decode cX6_lengthBehind 12 = .ok (.getfield 109, 3) := by decide +kernel
theorem dX6_lengthBehind_15 : decode cX6_lengthBehind 15 = .ok (.if_icmp .ge 76, 3) := by decide +kernel
theorem dX6_lengthBehind_18 : decode cX6_lengthBehind 18 = .ok (.iload 5, 2) := by decide +kernel
theorem dX6_lengthBehind_20 : decode cX6_lengthBehind 20 = .ok (.ifCond .eq 71, 3) := by decide +kernel
theorem dX6_lengthBehind_23 : decode cX6_lengthBehind 23 = .ok (.iload 5, 2) := by decide +kernel
theorem dX6_lengthBehind_25 : decode cX6_lengthBehind 25 = .ok (.iconst 1, 1) := by decide +kernel
theorem dX6_lengthBehind_26 : decode cX6_lengthBehind 26 = .ok (.iload 6, 2) := by decide +kernel
theorem dX6_lengthBehind_28 : decode cX6_lengthBehind 28 = .ok (.ishl, 1) := by decide +kernel
theorem dX6_lengthBehind_29 : decode cX6_lengthBehind 29 = .ok (.iand, 1) := by decide +kernel
theorem dX6_lengthBehind_30 : decode cX6_lengthBehind 30 = .ok (.ifCond .eq 55, 3) := by decide +kernel
