theorem dX6_lengthBehind_33 : decode cX6_lengthBehind 33 = .ok (.iload_n 1, 1) := by decide +kernel
theorem dX6_lengthBehind_34 : decode cX6_lengthBehind 34 = .ok (.aload_n 0, 1) := by decide +kernel
theorem dX6_lengthBehind_35 : decode cX6_lengthBehind 35 = .ok (.getfield 39, 3) := by decide +kernel
theorem dX6_lengthBehind_38 : decode cX6_lengthBehind 38 = .ok (.iload_n 2, 1) := by decide +kernel
theorem dX6_lengthBehind_39 : decode cX6_lengthBehind 39 = .ok (.bipush 10, 2) := by decide +kernel
theorem dX6_lengthBehind_41 : decode cX6_lengthBehind 41 = .ok (.imul, 1) := by decide +kernel
theorem dX6_lengthBehind_42 : decode cX6_lengthBehind 42 = .ok (.iload 6, 2) := by decide +kernel
theorem dX6_lengthBehind_44 : decode cX6_lengthBehind 44 = .ok (.iadd, 1) := by decide +kernel
theorem dX6_lengthBehind_45 : decode cX6_lengthBehind 45 = .ok (.iaload, 1) := by decide +kernel
theorem dX6_lengthBehind_46 : decode cX6_lengthBehind 46 = .ok (.iand, 1) := by decide +kernel
theorem dX6_lengthBehind_47 : decode cX6_lengthBehind 47 = .ok (.istore 7, 2) := by decide +kernel
theorem dX6_lengthBehind_49 : decode cX6_lengthBehind 49 = .ok (.iload 5, 2) := by decide +kernel
theorem dX6_lengthBehind_51 : decode cX6_lengthBehind 51 = .ok (.iload 7, 2) := by decide +kernel
theorem dX6_lengthBehind_53 : decode cX6_lengthBehind 53 = .ok (.iconst (-1), 1) := by decide +kernel
theorem dX6_lengthBehind_54 : decode cX6_lengthBehind 54 = .ok (.ixor, 1) := by decide +kernel
theorem dX6_lengthBehind_55 : decode cX6_lengthBehind 55 = .ok (.iand, 1) := by decide +kernel
theorem dX6_lengthBehind_56 : decode cX6_lengthBehind 56 = .ok (.istore 5, 2) := by decide +kernel
theorem dX6_lengthBehind_58 : decode cX6_lengthBehind 58 = .ok (.iload 4, 2) := by decide +kernel
theorem dX6_lengthBehind_60 : decode cX6_lengthBehind 60 = .ok (.iload 7, 2) := by decide +kernel
theorem dX6_lengthBehind_62 : decode cX6_lengthBehind 62 = .ok (.iload_n 1, 1) := by decide +kernel
theorem dX6_lengthBehind_63 : decode cX6_lengthBehind 63 = .ok (.if_icmp .ne 8, 3) := by decide +kernel
theorem dX6_lengthBehind_66 : decode cX6_lengthBehind 66 = .ok (.bipush 99, 2) := by decide +kernel
theorem dX6_lengthBehind_68 : decode cX6_lengthBehind 68 = .ok (.goto 12, 3) := by decide +kernel
theorem dX6_lengthBehind_71 : decode cX6_lengthBehind 71 = .ok (.aload_n 0, 1) := by decide +kernel
theorem dX6_lengthBehind_72 : decode cX6_lengthBehind 72 = .ok (.iload 7, 2) := by decide +kernel
theorem dX6_lengthBehind_74 : decode cX6_lengthBehind 74 = .ok (.iload_n 3, 1) := by decide +kernel
theorem dX6_lengthBehind_75 : decode cX6_lengthBehind 75 = .ok (.iconst 1, 1) := by decide +kernel
theorem dX6_lengthBehind_76 : decode cX6_lengthBehind 76 = .ok (.iadd, 1) := by decide +kernel
theorem dX6_lengthBehind_77 : decode cX6_lengthBehind 77 = .ok (.invokevirtual 112, 3) := by decide +kernel
theorem dX6_lengthBehind_80 : decode cX6_lengthBehind 80 = .ok (.invokestatic 94, 3) := by decide +kernel
theorem dX6_lengthBehind_83 : decode cX6_lengthBehind 83 = .ok (.istore 4, 2) := by decide +kernel
theorem dX6_lengthBehind_85 : decode cX6_lengthBehind 85 = .ok (.iinc 6 1, 3) := by decide +kernel
theorem dX6_lengthBehind_88 : decode cX6_lengthBehind 88 = .ok (.goto (-79), 3) := by decide +kernel
theorem dX6_lengthBehind_91 : decode cX6_lengthBehind 91 = .ok (.iload 4, 2) := by decide +kernel
theorem dX6_lengthBehind_93 : decode cX6_lengthBehind 93 = .ok (.ireturn, 1) := by decide +kernel
theorem dX6_firstHeat_0 : decode cX6_firstHeat 0 = .ok (.iload_n 2, 1) := by decide +kernel
theorem dX6_firstHeat_1 : decode cX6_firstHeat 1 = .ok (.ifCond .ne 5, 3) := by decide +kernel
theorem dX6_firstHeat_4 : decode cX6_firstHeat 4 = .ok (.iconst (-1), 1) := by decide +kernel
theorem dX6_firstHeat_5 : decode cX6_firstHeat 5 = .ok (.ireturn, 1) := by decide +kernel
theorem dX6_firstHeat_6 : decode cX6_firstHeat 6 = .ok (.iconst 0, 1) := by decide +kernel
theorem dX6_firstHeat_7 : decode cX6_firstHeat 7 = .ok (.istore_n 3, 1) := by decide +kernel
theorem dX6_firstHeat_8 : decode cX6_firstHeat 8 = .ok (.iload_n 3, 1) := by decide +kernel
theorem dX6_firstHeat_9 : decode cX6_firstHeat 9 = .ok (.bipush 10, 2) := by decide +kernel
theorem dX6_firstHeat_11 : decode cX6_firstHeat 11 = .ok (.if_icmp .ge 24, 3) := by decide +kernel
theorem dX6_firstHeat_14 : decode cX6_firstHeat 14 = .ok (.iconst 1, 1) := by decide +kernel
theorem dX6_firstHeat_15 : decode cX6_firstHeat 15 = .ok (.aload_n 0, 1) := by decide +kernel
theorem dX6_firstHeat_16 : decode cX6_firstHeat 16 = .ok (.iload_n 1, 1) := by decide +kernel
theorem dX6_firstHeat_17 : decode cX6_firstHeat 17 = .ok (.iload_n 3, 1) := by decide +kernel
theorem dX6_firstHeat_18 : decode cX6_firstHeat 18 = .ok (.iconst 0, 1) := by decide +kernel
theorem dX6_firstHeat_19 : decode cX6_firstHeat 19 = .ok (.invokevirtual 121, 3) := by decide +kernel
theorem dX6_firstHeat_22 : decode cX6_firstHeat 22 = .ok (.iadd, 1) := by decide +kernel
theorem dX6_firstHeat_23 : decode cX6_firstHeat 23 = .ok (.iload_n 2, 1) := by decide +kernel
theorem dX6_firstHeat_24 : decode cX6_firstHeat 24 = .ok (.if_icmp .ne 5, 3) := by decide +kernel
theorem dX6_firstHeat_27 : decode cX6_firstHeat 27 = .ok (.iload_n 3, 1) := by decide +kernel
theorem dX6_firstHeat_28 : decode cX6_firstHeat 28 = .ok (.ireturn, 1) := by decide +kernel
theorem dX6_firstHeat_29 : decode cX6_firstHeat 29 = .ok (.iinc 3 1, 3) := by decide +kernel
theorem dX6_firstHeat_32 : decode cX6_firstHeat 32 = .ok (.goto (-24), 3) := by decide +kernel
theorem dX6_firstHeat_35 : decode cX6_firstHeat 35 = .ok (.iconst (-1), 1) := by decide +kernel
theorem dX6_firstHeat_36 : decode cX6_firstHeat 36 = .ok (.ireturn, 1) := by decide +kernel
theorem dX7_init_0 : decode cX7_init 0 = .ok (.aload_n 0, 1) := by decide +kernel
theorem dX7_init_1 : decode cX7_init 1 = .ok (.invokespecial 1, 3) := by decide +kernel
theorem dX7_init_4 : decode cX7_init 4 = .ok (.aload_n 0, 1) := by decide +kernel
theorem dX7_init_5 : decode cX7_init 5 = .ok (.aload_n 1, 1) := by decide +kernel
theorem dX7_init_6 : decode cX7_init 6 = .ok (.putfield 7, 3) := by decide +kernel
theorem dX7_init_9 : decode cX7_init 9 = .ok (.return_, 1) := by decide +kernel
theorem dX7_begin_0 : decode cX7_begin 0 = .ok (.aload_n 0, 1) := by decide +kernel
theorem dX7_begin_1 : decode cX7_begin 1 = .ok (.iload_n 1, 1) := by decide +kernel
theorem dX7_begin_2 : decode cX7_begin 2 = .ok (.aload_n 0, 1) := by decide +kernel
theorem dX7_begin_3 : decode cX7_begin 3 = .ok (.getfield 7, 3) := by decide +kernel
theorem dX7_begin_6 : decode cX7_begin 6 = .ok (.arraylength, 1) := by decide +kernel
theorem dX7_begin_7 : decode cX7_begin 7 = .ok (.invokestatic 13, 3) := by decide +kernel
theorem dX7_begin_10 : decode cX7_begin 10 = .ok (.putfield 19, 3) := by decide +kernel
theorem dX7_begin_13 : decode cX7_begin 13 = .ok (.aload_n 0, 1) := by decide +kernel
theorem dX7_begin_14 : decode cX7_begin 14 = .ok (.iconst 0, 1) := by decide +kernel
theorem dX7_begin_15 : decode cX7_begin 15 = .ok (.putfield 23, 3) := by decide +kernel
theorem dX7_begin_18 : decode cX7_begin 18 = .ok (.aload_n 0, 1) := by decide +kernel
theorem dX7_begin_19 : decode cX7_begin 19 = .ok (.invokevirtual 26, 3) := by decide +kernel
theorem dX7_begin_22 : decode cX7_begin 22 = .ok (.return_, 1) := by decide +kernel
theorem dX7_advance_0 : decode cX7_advance 0 = .ok (.aload_n 0, 1) := by decide +kernel
theorem dX7_advance_1 : decode cX7_advance 1 = .ok (.getfield 23, 3) := by decide +kernel
theorem dX7_advance_4 : decode cX7_advance 4 = .ok (.aload_n 0, 1) := by decide +kernel
theorem dX7_advance_5 : decode cX7_advance 5 = .ok (.getfield 19, 3) := by decide +kernel
theorem dX7_advance_8 : decode cX7_advance 8 = .ok (.if_icmp .ge 44, 3) := by decide +kernel
theorem dX7_advance_11 : decode cX7_advance 11 = .ok (.aload_n 0, 1) := by decide +kernel
theorem dX7_advance_12 : decode cX7_advance 12 = .ok (.getfield 7, 3) := by decide +kernel
theorem dX7_advance_15 : decode cX7_advance 15 = .ok (.aload_n 0, 1) := by decide +kernel
theorem dX7_advance_16 : decode cX7_advance 16 = .ok (.getfield 23, 3) := by decide +kernel
theorem dX7_advance_19 : decode cX7_advance 19 = .ok (.baload, 1) := by decide +kernel
theorem dX7_advance_20 : decode cX7_advance 20 = .ok (.bipush 32, 2) := by decide +kernel
theorem dX7_advance_22 : decode cX7_advance 22 = .ok (.if_icmp .eq 17, 3) := by decide +kernel
theorem dX7_advance_25 : decode cX7_advance 25 = .ok (.aload_n 0, 1) := by decide +kernel
theorem dX7_advance_26 : decode cX7_advance 26 = .ok (.getfield 7, 3) := by decide +kernel
theorem dX7_advance_29 : decode cX7_advance 29 = .ok (.aload_n 0, 1) := by decide +kernel
theorem dX7_advance_30 : decode cX7_advance 30 = .ok (.getfield 23, 3) := by decide +kernel
theorem dX7_advance_33 : decode cX7_advance 33 = .ok (.baload, 1) := by decide +kernel
theorem dX7_advance_34 : decode cX7_advance 34 = .ok (.bipush 10, 2) := by decide +kernel
theorem dX7_advance_36 : decode cX7_advance 36 = .ok (.if_icmp .ne 16, 3) := by decide +kernel
theorem dX7_advance_39 : decode cX7_advance 39 = .ok (.aload_n 0, 1) := by decide +kernel
theorem dX7_advance_40 : decode cX7_advance 40 = .ok (.dup, 1) := by decide +kernel
theorem dX7_advance_41 : decode cX7_advance 41 = .ok (.getfield 23, 3) := by decide +kernel
theorem dX7_advance_44 : decode cX7_advance 44 = .ok (.iconst 1, 1) := by decide +kernel
theorem dX7_advance_45 : decode cX7_advance 45 = .ok (.iadd, 1) := by decide +kernel
theorem dX7_advance_46 : decode cX7_advance 46 = .ok (.putfield 23, 3) := by decide +kernel
theorem dX7_advance_49 : decode cX7_advance 49 = .ok (.goto (-49), 3) := by decide +kernel
theorem dX7_advance_52 : decode cX7_advance 52 = .ok (.aload_n 0, 1) := by decide +kernel
theorem dX7_advance_53 : decode cX7_advance 53 = .ok (.aload_n 0, 1) := by decide +kernel
theorem dX7_advance_54 : decode cX7_advance 54 = .ok (.getfield 23, 3) := by decide +kernel
theorem dX7_advance_57 : decode cX7_advance 57 = .ok (.putfield 29, 3) := by decide +kernel
theorem dX7_advance_60 : decode cX7_advance 60 = .ok (.aload_n 0, 1) := by decide +kernel
theorem dX7_advance_61 : decode cX7_advance 61 = .ok (.getfield 23, 3) := by decide +kernel
theorem dX7_advance_64 : decode cX7_advance 64 = .ok (.aload_n 0, 1) := by decide +kernel
theorem dX7_advance_65 : decode cX7_advance 65 = .ok (.getfield 19, 3) := by decide +kernel
theorem dX7_advance_68 : decode cX7_advance 68 = .ok (.if_icmp .lt 11, 3) := by decide +kernel
theorem dX7_advance_71 : decode cX7_advance 71 = .ok (.aload_n 0, 1) := by decide +kernel
theorem dX7_advance_72 : decode cX7_advance 72 = .ok (.iconst 0, 1) := by decide +kernel
theorem dX7_advance_73 : decode cX7_advance 73 = .ok (.putfield 32, 3) := by decide +kernel
theorem dX7_advance_76 : decode cX7_advance 76 = .ok (.goto 82, 3) := by decide +kernel
theorem dX7_advance_79 : decode cX7_advance 79 = .ok (.aload_n 0, 1) := by decide +kernel
theorem dX7_advance_80 : decode cX7_advance 80 = .ok (.aload_n 0, 1) := by decide +kernel
theorem dX7_advance_81 : decode cX7_advance 81 = .ok (.getfield 23, 3) := by decide +kernel
theorem dX7_advance_84 : decode cX7_advance 84 = .ok (.invokevirtual 35, 3) := by decide +kernel
theorem dX7_advance_87 : decode cX7_advance 87 = .ok (.ifCond .eq 10, 3) := by decide +kernel
theorem dX7_advance_90 : decode cX7_advance 90 = .ok (.aload_n 0, 1) := by decide +kernel
theorem dX7_advance_91 : decode cX7_advance 91 = .ok (.invokevirtual 39, 3) := by decide +kernel
theorem dX7_advance_94 : decode cX7_advance 94 = .ok (.goto 64, 3) := by decide +kernel
theorem dX7_advance_97 : decode cX7_advance 97 = .ok (.aload_n 0, 1) := by decide +kernel
theorem dX7_advance_98 : decode cX7_advance 98 = .ok (.aload_n 0, 1) := by decide +kernel
theorem dX7_advance_99 : decode cX7_advance 99 = .ok (.getfield 23, 3) := by decide +kernel
theorem dX7_advance_102 : decode cX7_advance 102 = .ok (.invokevirtual 42, 3) := by decide +kernel
theorem dX7_advance_105 : decode cX7_advance 105 = .ok (.ifCond .eq 10, 3) := by decide +kernel
theorem dX7_advance_108 : decode cX7_advance 108 = .ok (.aload_n 0, 1) := by decide +kernel
theorem dX7_advance_109 : decode cX7_advance 109 = .ok (.invokevirtual 45, 3) := by decide +kernel
theorem dX7_advance_112 : decode cX7_advance 112 = .ok (.goto 46, 3) := by decide +kernel
theorem dX7_advance_115 : decode cX7_advance 115 = .ok (.aload_n 0, 1) := by decide +kernel
theorem dX7_advance_116 : decode cX7_advance 116 = .ok (.getfield 7, 3) := by decide +kernel
theorem dX7_advance_119 : decode cX7_advance 119 = .ok (.aload_n 0, 1) := by decide +kernel
theorem dX7_advance_120 : decode cX7_advance 120 = .ok (.getfield 23, 3) := by decide +kernel
theorem dX7_advance_123 : decode cX7_advance 123 = .ok (.baload, 1) := by decide +kernel
theorem dX7_advance_124 : decode cX7_advance 124 = .ok (.sipush 255, 3) := by decide +kernel
theorem dX7_advance_127 : decode cX7_advance 127 = .ok (.iand, 1) := by decide +kernel
theorem dX7_advance_128 : decode cX7_advance 128 = .ok (.istore_n 1, 1) := by decide +kernel
theorem dX7_advance_129 : decode cX7_advance 129 = .ok (.aload_n 0, 1) := by decide +kernel
theorem dX7_advance_130 : decode cX7_advance 130 = .ok (.ldc 48, 2) := by decide +kernel
theorem dX7_advance_132 : decode cX7_advance 132 = .ok (.iload_n 1, 1) := by decide +kernel
theorem dX7_advance_133 : decode cX7_advance 133 = .ok (.i2c, 1) := by decide +kernel
theorem dX7_advance_134 : decode cX7_advance 134 = .ok (.invokevirtual 50, 3) := by decide +kernel
theorem dX7_advance_137 : decode cX7_advance 137 = .ok (.ifCond .lt 7, 3) := by decide +kernel
theorem dX7_advance_140 : decode cX7_advance 140 = .ok (.iload_n 1, 1) := by decide +kernel
theorem dX7_advance_141 : decode cX7_advance 141 = .ok (.goto 4, 3) := by decide +kernel
theorem dX7_advance_144 : decode cX7_advance 144 = .ok (.iconst 1, 1) := by decide +kernel
theorem dX7_advance_145 : decode cX7_advance 145 = .ok (.putfield 32, 3) := by decide +kernel
theorem dX7_advance_148 : decode cX7_advance 148 = .ok (.aload_n 0, 1) := by decide +kernel
theorem dX7_advance_149 : decode cX7_advance 149 = .ok (.dup, 1) := by decide +kernel
theorem dX7_advance_150 : decode cX7_advance 150 = .ok (.getfield 23, 3) := by decide +kernel
theorem dX7_advance_153 : decode cX7_advance 153 = .ok (.iconst 1, 1) := by decide +kernel
theorem dX7_advance_154 : decode cX7_advance 154 = .ok (.iadd, 1) := by decide +kernel
theorem dX7_advance_155 : decode cX7_advance 155 = .ok (.putfield 23, 3) := by decide +kernel
theorem dX7_advance_158 : decode cX7_advance 158 = .ok (.return_, 1) := by decide +kernel
theorem dX7_scanWord_0 : decode cX7_scanWord 0 = .ok (.aload_n 0, 1) := by decide +kernel
theorem dX7_scanWord_1 : decode cX7_scanWord 1 = .ok (.lconst 0, 1) := by decide +kernel
theorem dX7_scanWord_2 : decode cX7_scanWord 2 = .ok (.putfield 56, 3) := by decide +kernel
theorem dX7_scanWord_5 : decode cX7_scanWord 5 = .ok (.aload_n 0, 1) := by decide +kernel
theorem dX7_scanWord_6 : decode cX7_scanWord 6 = .ok (.getfield 23, 3) := by decide +kernel
theorem dX7_scanWord_9 : decode cX7_scanWord 9 = .ok (.aload_n 0, 1) := by decide +kernel
theorem dX7_scanWord_10 : decode cX7_scanWord 10 = .ok (.getfield 19, 3) := by decide +kernel
theorem dX7_scanWord_13 : decode cX7_scanWord 13 = .ok (.if_icmp .ge 49, 3) := by decide +kernel
theorem dX7_scanWord_16 : decode cX7_scanWord 16 = .ok (.aload_n 0, 1) := by decide +kernel
theorem dX7_scanWord_17 : decode cX7_scanWord 17 = .ok (.aload_n 0, 1) := by decide +kernel
theorem dX7_scanWord_18 : decode cX7_scanWord 18 = .ok (.getfield 23, 3) := by decide +kernel
theorem dX7_scanWord_21 : decode cX7_scanWord 21 = .ok (.invokevirtual 35, 3) := by decide +kernel
theorem dX7_scanWord_24 : decode cX7_scanWord 24 = .ok (.ifCond .eq 38, 3) := by decide +kernel
theorem dX7_scanWord_27 : decode cX7_scanWord 27 = .ok (.aload_n 0, 1) := by decide +kernel
theorem dX7_scanWord_28 : decode cX7_scanWord 28 = .ok (.aload_n 0, 1) := by decide +kernel
theorem dX7_scanWord_29 : decode cX7_scanWord 29 = .ok (.getfield 56, 3) := by decide +kernel
theorem dX7_scanWord_32 : decode cX7_scanWord 32 = .ok (.bipush 8, 2) := by decide +kernel
theorem dX7_scanWord_34 : decode cX7_scanWord 34 = .ok (.lshl, 1) := by decide +kernel
theorem dX7_scanWord_35 : decode cX7_scanWord 35 = .ok (.aload_n 0, 1) := by decide +kernel
theorem dX7_scanWord_36 : decode cX7_scanWord 36 = .ok (.getfield 7, 3) := by decide +kernel
theorem dX7_scanWord_39 : decode cX7_scanWord 39 = .ok (.aload_n 0, 1) := by decide +kernel
theorem dX7_scanWord_40 : decode cX7_scanWord 40 = .ok (.getfield 23, 3) := by decide +kernel
theorem dX7_scanWord_43 : decode cX7_scanWord 43 = .ok (.baload, 1) := by decide +kernel
theorem dX7_scanWord_44 : decode cX7_scanWord 44 = .ok (.i2l, 1) := by decide +kernel
theorem dX7_scanWord_45 : decode cX7_scanWord 45 = .ok (.lor, 1) := by decide +kernel
theorem dX7_scanWord_46 : decode cX7_scanWord 46 = .ok (.putfield 56, 3) := by decide +kernel
theorem dX7_scanWord_49 : decode cX7_scanWord 49 = .ok (.aload_n 0, 1) := by decide +kernel
theorem dX7_scanWord_50 : decode cX7_scanWord 50 = .ok (.dup, 1) := by decide +kernel
theorem dX7_scanWord_51 : decode cX7_scanWord 51 = .ok (.getfield 23, 3) := by decide +kernel
theorem dX7_scanWord_54 : decode cX7_scanWord 54 = .ok (.iconst 1, 1) := by decide +kernel
theorem dX7_scanWord_55 : decode cX7_scanWord 55 = .ok (.iadd, 1) := by decide +kernel
theorem dX7_scanWord_56 : decode cX7_scanWord 56 = .ok (.putfield 23, 3) := by decide +kernel
theorem dX7_scanWord_59 : decode cX7_scanWord 59 = .ok (.goto (-54), 3) := by decide +kernel
theorem dX7_scanWord_62 : decode cX7_scanWord 62 = .ok (.aload_n 0, 1) := by decide +kernel
theorem dX7_scanWord_63 : decode cX7_scanWord 63 = .ok (.aload_n 0, 1) := by decide +kernel
theorem dX7_scanWord_64 : decode cX7_scanWord 64 = .ok (.getfield 23, 3) := by decide +kernel
theorem dX7_scanWord_67 : decode cX7_scanWord 67 = .ok (.aload_n 0, 1) := by decide +kernel
theorem dX7_scanWord_68 : decode cX7_scanWord 68 = .ok (.getfield 29, 3) := by decide +kernel
theorem dX7_scanWord_71 : decode cX7_scanWord 71 = .ok (.isub, 1) := by decide +kernel
theorem dX7_scanWord_72 : decode cX7_scanWord 72 = .ok (.bipush 8, 2) := by decide +kernel
theorem dX7_scanWord_74 : decode cX7_scanWord 74 = .ok (.if_icmp .le 7, 3) := by decide +kernel
theorem dX7_scanWord_77 : decode cX7_scanWord 77 = .ok (.iconst 1, 1) := by decide +kernel
theorem dX7_scanWord_78 : decode cX7_scanWord 78 = .ok (.goto 4, 3) := by decide +kernel
theorem dX7_scanWord_81 : decode cX7_scanWord 81 = .ok (.iconst 3, 1) := by decide +kernel
theorem dX7_scanWord_82 : decode cX7_scanWord 82 = .ok (.putfield 32, 3) := by decide +kernel
theorem dX7_scanWord_85 : decode cX7_scanWord 85 = .ok (.iconst 0, 1) := by decide +kernel
theorem dX7_scanWord_86 : decode cX7_scanWord 86 = .ok (.istore_n 1, 1) := by decide +kernel
theorem dX7_scanWord_87 : decode cX7_scanWord 87 = .ok (.iload_n 1, 1) := by decide +kernel
theorem dX7_scanWord_88 : decode cX7_scanWord 88 = .ok (.getstatic 60, 3) := by decide +kernel
theorem dX7_scanWord_91 : decode cX7_scanWord 91 = .ok (.arraylength, 1) := by decide +kernel
theorem dX7_scanWord_92 : decode cX7_scanWord 92 = .ok (.if_icmp .ge 39, 3) := by decide +kernel
theorem dX7_scanWord_95 : decode cX7_scanWord 95 = .ok (.aload_n 0, 1) := by decide +kernel
theorem dX7_scanWord_96 : decode cX7_scanWord 96 = .ok (.getfield 32, 3) := by decide +kernel
theorem dX7_scanWord_99 : decode cX7_scanWord 99 = .ok (.iconst 3, 1) := by decide +kernel
theorem dX7_scanWord_100 : decode cX7_scanWord 100 = .ok (.if_icmp .ne 31, 3) := by decide +kernel
theorem dX7_scanWord_103 : decode cX7_scanWord 103 = .ok (.getstatic 60, 3) := by decide +kernel
theorem dX7_scanWord_106 : decode cX7_scanWord 106 = .ok (.iload_n 1, 1) := by decide +kernel
theorem dX7_scanWord_107 : decode cX7_scanWord 107 = .ok (.laload, 1) := by decide +kernel
theorem dX7_scanWord_108 : decode cX7_scanWord 108 = .ok (.aload_n 0, 1) := by decide +kernel
theorem dX7_scanWord_109 : decode cX7_scanWord 109 = .ok (.getfield 56, 3) := by decide +kernel
theorem dX7_scanWord_112 : decode cX7_scanWord 112 = .ok (.lcmp, 1) := by decide +kernel
theorem dX7_scanWord_113 : decode cX7_scanWord 113 = .ok (.ifCond .ne 12, 3) := by decide +kernel
theorem dX7_scanWord_116 : decode cX7_scanWord 116 = .ok (.aload_n 0, 1) := by decide +kernel
theorem dX7_scanWord_117 : decode cX7_scanWord 117 = .ok (.sipush 256, 3) := by decide +kernel
theorem dX7_scanWord_120 : decode cX7_scanWord 120 = .ok (.iload_n 1, 1) := by decide +kernel
theorem dX7_scanWord_121 : decode cX7_scanWord 121 = .ok (.iadd, 1) := by decide +kernel
theorem dX7_scanWord_122 : decode cX7_scanWord 122 = .ok (.putfield 32, 3) := by decide +kernel
theorem dX7_scanWord_125 : decode cX7_scanWord 125 = .ok (.iinc 1 1, 3) := by decide +kernel
theorem dX7_scanWord_128 : decode cX7_scanWord 128 = .ok (.goto (-41), 3) := by decide +kernel
theorem dX7_scanWord_131 : decode cX7_scanWord 131 = .ok (.return_, 1) := by decide +kernel
theorem dX7_scanNumber_0 : decode cX7_scanNumber 0 = .ok (.aload_n 0, 1) := by decide +kernel
theorem dX7_scanNumber_1 : decode cX7_scanNumber 1 = .ok (.iconst 0, 1) := by decide +kernel
theorem dX7_scanNumber_2 : decode cX7_scanNumber 2 = .ok (.putfield 64, 3) := by decide +kernel
theorem dX7_scanNumber_5 : decode cX7_scanNumber 5 = .ok (.aload_n 0, 1) := by decide +kernel
theorem dX7_scanNumber_6 : decode cX7_scanNumber 6 = .ok (.getfield 23, 3) := by decide +kernel
theorem dX7_scanNumber_9 : decode cX7_scanNumber 9 = .ok (.aload_n 0, 1) := by decide +kernel
theorem dX7_scanNumber_10 : decode cX7_scanNumber 10 = .ok (.getfield 19, 3) := by decide +kernel
theorem dX7_scanNumber_13 : decode cX7_scanNumber 13 = .ok (.if_icmp .ge 51, 3) := by decide +kernel
theorem dX7_scanNumber_16 : decode cX7_scanNumber 16 = .ok (.aload_n 0, 1) := by decide +kernel
theorem dX7_scanNumber_17 : decode cX7_scanNumber 17 = .ok (.aload_n 0, 1) := by decide +kernel
theorem dX7_scanNumber_18 : decode cX7_scanNumber 18 = .ok (.getfield 23, 3) := by decide +kernel
theorem dX7_scanNumber_21 : decode cX7_scanNumber 21 = .ok (.invokevirtual 42, 3) := by decide +kernel
theorem dX7_scanNumber_24 : decode cX7_scanNumber 24 = .ok (.ifCond .eq 40, 3) := by decide +kernel
theorem dX7_scanNumber_27 : decode cX7_scanNumber 27 = .ok (.aload_n 0, 1) := by decide +kernel
theorem dX7_scanNumber_28 : decode cX7_scanNumber 28 = .ok (.aload_n 0, 1) := by decide +kernel
theorem dX7_scanNumber_29 : decode cX7_scanNumber 29 = .ok (.getfield 64, 3) := by decide +kernel
theorem dX7_scanNumber_32 : decode cX7_scanNumber 32 = .ok (.bipush 10, 2) := by decide +kernel
theorem dX7_scanNumber_34 : decode cX7_scanNumber 34 = .ok (.imul, 1) := by decide +kernel
theorem dX7_scanNumber_35 : decode cX7_scanNumber 35 = .ok (.aload_n 0, 1) := by decide +kernel
theorem dX7_scanNumber_36 : decode cX7_scanNumber 36 = .ok (.getfield 7, 3) := by decide +kernel
theorem dX7_scanNumber_39 : decode cX7_scanNumber 39 = .ok (.aload_n 0, 1) := by decide +kernel
theorem dX7_scanNumber_40 : decode cX7_scanNumber 40 = .ok (.getfield 23, 3) := by decide +kernel
theorem dX7_scanNumber_43 : decode cX7_scanNumber 43 = .ok (.baload, 1) := by decide +kernel
theorem dX7_scanNumber_44 : decode cX7_scanNumber 44 = .ok (.iadd, 1) := by decide +kernel
theorem dX7_scanNumber_45 : decode cX7_scanNumber 45 = .ok (.bipush 48, 2) := by decide +kernel
theorem dX7_scanNumber_47 : decode cX7_scanNumber 47 = .ok (.isub, 1) := by decide +kernel
theorem dX7_scanNumber_48 : decode cX7_scanNumber 48 = .ok (.putfield 64, 3) := by decide +kernel
theorem dX7_scanNumber_51 : decode cX7_scanNumber 51 = .ok (.aload_n 0, 1) := by decide +kernel
theorem dX7_scanNumber_52 : decode cX7_scanNumber 52 = .ok (.dup, 1) := by decide +kernel
theorem dX7_scanNumber_53 : decode cX7_scanNumber 53 = .ok (.getfield 23, 3) := by decide +kernel
theorem dX7_scanNumber_56 : decode cX7_scanNumber 56 = .ok (.iconst 1, 1) := by decide +kernel
theorem dX7_scanNumber_57 : decode cX7_scanNumber 57 = .ok (.iadd, 1) := by decide +kernel
theorem dX7_scanNumber_58 : decode cX7_scanNumber 58 = .ok (.putfield 23, 3) := by decide +kernel
theorem dX7_scanNumber_61 : decode cX7_scanNumber 61 = .ok (.goto (-56), 3) := by decide +kernel
theorem dX7_scanNumber_64 : decode cX7_scanNumber 64 = .ok (.aload_n 0, 1) := by decide +kernel
theorem dX7_scanNumber_65 : decode cX7_scanNumber 65 = .ok (.getfield 23, 3) := by decide +kernel
theorem dX7_scanNumber_68 : decode cX7_scanNumber 68 = .ok (.aload_n 0, 1) := by decide +kernel
theorem dX7_scanNumber_69 : decode cX7_scanNumber 69 = .ok (.getfield 29, 3) := by decide +kernel
theorem dX7_scanNumber_72 : decode cX7_scanNumber 72 = .ok (.isub, 1) := by decide +kernel
theorem dX7_scanNumber_73 : decode cX7_scanNumber 73 = .ok (.iconst 4, 1) := by decide +kernel
theorem dX7_scanNumber_74 : decode cX7_scanNumber 74 = .ok (.if_icmp .gt 29, 3) := by decide +kernel
theorem dX7_scanNumber_77 : decode cX7_scanNumber 77 = .ok (.aload_n 0, 1) := by decide +kernel
theorem dX7_scanNumber_78 : decode cX7_scanNumber 78 = .ok (.getfield 23, 3) := by decide +kernel
theorem dX7_scanNumber_81 : decode cX7_scanNumber 81 = .ok (.aload_n 0, 1) := by decide +kernel
theorem dX7_scanNumber_82 : decode cX7_scanNumber 82 = .ok (.getfield 19, 3) := by decide +kernel
theorem dX7_scanNumber_85 : decode cX7_scanNumber 85 = .ok (.if_icmp .ge 14, 3) := by decide +kernel
theorem dX7_scanNumber_88 : decode cX7_scanNumber 88 = .ok (.aload_n 0, 1) := by decide +kernel
theorem dX7_scanNumber_89 : decode cX7_scanNumber 89 = .ok (.aload_n 0, 1) := by decide +kernel
theorem dX7_scanNumber_90 : decode cX7_scanNumber 90 = .ok (.getfield 23, 3) := by decide +kernel
theorem dX7_scanNumber_93 : decode cX7_scanNumber 93 = .ok (.invokevirtual 35, 3) := by decide +kernel
theorem dX7_scanNumber_96 : decode cX7_scanNumber 96 = .ok (.ifCond .ne 7, 3) := by decide +kernel
theorem dX7_scanNumber_99 : decode cX7_scanNumber 99 = .ok (.iconst 1, 1) := by decide +kernel
theorem dX7_scanNumber_100 : decode cX7_scanNumber 100 = .ok (.goto 4, 3) := by decide +kernel
theorem dX7_scanNumber_103 : decode cX7_scanNumber 103 = .ok (.iconst 0, 1) := by decide +kernel
theorem dX7_scanNumber_104 : decode cX7_scanNumber 104 = .ok (.istore_n 1, 1) := by decide +kernel
theorem dX7_scanNumber_105 : decode cX7_scanNumber 105 = .ok (.aload_n 0, 1) := by decide +kernel
theorem dX7_scanNumber_106 : decode cX7_scanNumber 106 = .ok (.iload_n 1, 1) := by decide +kernel
theorem dX7_scanNumber_107 : decode cX7_scanNumber 107 = .ok (.ifCond .eq 7, 3) := by decide +kernel
theorem dX7_scanNumber_110 : decode cX7_scanNumber 110 = .ok (.iconst 2, 1) := by decide +kernel
theorem dX7_scanNumber_111 : decode cX7_scanNumber 111 = .ok (.goto 4, 3) := by decide +kernel
theorem dX7_scanNumber_114 : decode cX7_scanNumber 114 = .ok (.iconst 1, 1) := by decide +kernel
theorem dX7_scanNumber_115 : decode cX7_scanNumber 115 = .ok (.putfield 32, 3) := by decide +kernel
theorem dX7_scanNumber_118 : decode cX7_scanNumber 118 = .ok (.return_, 1) := by decide +kernel
theorem dX7_isLetter_0 : decode cX7_isLetter 0 = .ok (.iload_n 1, 1) := by decide +kernel
theorem dX7_isLetter_1 : decode cX7_isLetter 1 = .ok (.ifCond .lt 37, 3) := by decide +kernel
theorem dX7_isLetter_4 : decode cX7_isLetter 4 = .ok (.iload_n 1, 1) := by decide +kernel
theorem dX7_isLetter_5 : decode cX7_isLetter 5 = .ok (.aload_n 0, 1) := by decide +kernel
theorem dX7_isLetter_6 : decode cX7_isLetter 6 = .ok (.getfield 19, 3) := by decide +kernel
theorem dX7_isLetter_9 : decode cX7_isLetter 9 = .ok (.if_icmp .ge 29, 3) := by decide +kernel
theorem dX7_isLetter_12 : decode cX7_isLetter 12 = .ok (.aload_n 0, 1) := by decide +kernel
theorem dX7_isLetter_13 : decode cX7_isLetter 13 = .ok (.getfield 7, 3) := by decide +kernel
theorem dX7_isLetter_16 : decode cX7_isLetter 16 = .ok (.iload_n 1, 1) := by decide +kernel
theorem dX7_isLetter_17 : decode cX7_isLetter 17 = .ok (.baload, 1) := by decide +kernel
theorem dX7_isLetter_18 : decode cX7_isLetter 18 = .ok (.bipush 97, 2) := by decide +kernel
theorem dX7_isLetter_20 : decode cX7_isLetter 20 = .ok (.if_icmp .lt 18, 3) := by decide +kernel
theorem dX7_isLetter_23 : decode cX7_isLetter 23 = .ok (.aload_n 0, 1) := by decide +kernel
theorem dX7_isLetter_24 : decode cX7_isLetter 24 = .ok (.getfield 7, 3) := by decide +kernel
theorem dX7_isLetter_27 : decode cX7_isLetter 27 = .ok (.iload_n 1, 1) := by decide +kernel
theorem dX7_isLetter_28 : decode cX7_isLetter 28 = .ok (.baload, 1) := by decide +kernel
theorem dX7_isLetter_29 : decode cX7_isLetter 29 = .ok (.bipush 122, 2) := by decide +kernel
theorem dX7_isLetter_31 : decode cX7_isLetter 31 = .ok (.if_icmp .gt 7, 3) := by decide +kernel
theorem dX7_isLetter_34 : decode cX7_isLetter 34 = .ok (.iconst 1, 1) := by decide +kernel
theorem dX7_isLetter_35 : decode cX7_isLetter 35 = .ok (.goto 4, 3) := by decide +kernel
theorem dX7_isLetter_38 : decode cX7_isLetter 38 = .ok (.iconst 0, 1) := by decide +kernel
theorem dX7_isLetter_39 : decode cX7_isLetter 39 = .ok (.ireturn, 1) := by decide +kernel
theorem dX7_isDigit_0 : decode cX7_isDigit 0 = .ok (.iload_n 1, 1) := by decide +kernel
theorem dX7_isDigit_1 : decode cX7_isDigit 1 = .ok (.ifCond .lt 37, 3) := by decide +kernel
theorem dX7_isDigit_4 : decode cX7_isDigit 4 = .ok (.iload_n 1, 1) := by decide +kernel
theorem dX7_isDigit_5 : decode cX7_isDigit 5 = .ok (.aload_n 0, 1) := by decide +kernel
theorem dX7_isDigit_6 : decode cX7_isDigit 6 = .ok (.getfield 19, 3) := by decide +kernel
theorem dX7_isDigit_9 : decode cX7_isDigit 9 = .ok (.if_icmp .ge 29, 3) := by decide +kernel
theorem dX7_isDigit_12 : decode cX7_isDigit 12 = .ok (.aload_n 0, 1) := by decide +kernel
theorem dX7_isDigit_13 : decode cX7_isDigit 13 = .ok (.getfield 7, 3) := by decide +kernel
theorem dX7_isDigit_16 : decode cX7_isDigit 16 = .ok (.iload_n 1, 1) := by decide +kernel
theorem dX7_isDigit_17 : decode cX7_isDigit 17 = .ok (.baload, 1) := by decide +kernel
theorem dX7_isDigit_18 : decode cX7_isDigit 18 = .ok (.bipush 48, 2) := by decide +kernel
theorem dX7_isDigit_20 : decode cX7_isDigit 20 = .ok (.if_icmp .lt 18, 3) := by decide +kernel
theorem dX7_isDigit_23 : decode cX7_isDigit 23 = .ok (.aload_n 0, 1) := by decide +kernel
theorem dX7_isDigit_24 : decode cX7_isDigit 24 = .ok (.getfield 7, 3) := by decide +kernel
theorem dX7_isDigit_27 : decode cX7_isDigit 27 = .ok (.iload_n 1, 1) := by decide +kernel
theorem dX7_isDigit_28 : decode cX7_isDigit 28 = .ok (.baload, 1) := by decide +kernel
theorem dX7_isDigit_29 : decode cX7_isDigit 29 = .ok (.bipush 57, 2) := by decide +kernel
theorem dX7_isDigit_31 : decode cX7_isDigit 31 = .ok (.if_icmp .gt 7, 3) := by decide +kernel
theorem dX7_isDigit_34 : decode cX7_isDigit 34 = .ok (.iconst 1, 1) := by decide +kernel
theorem dX7_isDigit_35 : decode cX7_isDigit 35 = .ok (.goto 4, 3) := by decide +kernel
theorem dX7_isDigit_38 : decode cX7_isDigit 38 = .ok (.iconst 0, 1) := by decide +kernel
theorem dX7_isDigit_39 : decode cX7_isDigit 39 = .ok (.ireturn, 1) := by decide +kernel
theorem dX8_init_0 : decode cX8_init 0 = .ok (.aload_n 0, 1) := by decide +kernel
theorem dX8_init_1 : decode cX8_init 1 = .ok (.invokespecial 3, 3) := by decide +kernel
theorem dX8_init_4 : decode cX8_init 4 = .ok (.aload_n 0, 1) := by decide +kernel
theorem dX8_init_5 : decode cX8_init 5 = .ok (.iconst 5, 1) := by decide +kernel
theorem dX8_init_6 : decode cX8_init 6 = .ok (.newarray .int, 2) := by decide +kernel
theorem dX8_init_8 : decode cX8_init 8 = .ok (.putfield 9, 3) := by decide +kernel
theorem dX8_init_11 : decode cX8_init 11 = .ok (.aload_n 0, 1) := by decide +kernel
theorem dX8_init_12 : decode cX8_init 12 = .ok (.iconst 5, 1) := by decide +kernel
theorem dX8_init_13 : decode cX8_init 13 = .ok (.newarray .int, 2) := by decide +kernel
theorem dX8_init_15 : decode cX8_init 15 = .ok (.putfield 15, 3) := by decide +kernel
theorem dX8_init_18 : decode cX8_init 18 = .ok (.aload_n 0, 1) := by decide +kernel
theorem dX8_init_19 : decode cX8_init 19 = .ok (.iconst 5, 1) := by decide +kernel
theorem dX8_init_20 : decode cX8_init 20 = .ok (.newarray .int, 2) := by decide +kernel
theorem dX8_init_22 : decode cX8_init 22 = .ok (.putfield 18, 3) := by decide +kernel
theorem dX8_init_25 : decode cX8_init 25 = .ok (.aload_n 0, 1) := by decide +kernel
theorem dX8_init_26 : decode cX8_init 26 = .ok (.aload_n 1, 1) := by decide +kernel
theorem dX8_init_27 : decode cX8_init 27 = .ok (.putfield 21, 3) := by decide +kernel
theorem dX8_init_30 : decode cX8_init 30 = .ok (.aload_n 0, 1) := by decide +kernel
theorem dX8_init_31 : decode cX8_init 31 = .ok (.aload_n 2, 1) := by decide +kernel
theorem dX8_init_32 : decode cX8_init 32 = .ok (.putfield 25, 3) := by decide +kernel
theorem dX8_init_35 : decode cX8_init 35 = .ok (.aload_n 0, 1) := by decide +kernel
theorem dX8_init_36 : decode cX8_init 36 = .ok (.aload_n 3, 1) := by decide +kernel
theorem dX8_init_37 : decode cX8_init 37 = .ok (.putfield 29, 3) := by decide +kernel
theorem dX8_init_40 : decode cX8_init 40 = .ok (.return_, 1) := by decide +kernel
theorem dX8_clearLying_0 : decode cX8_clearLying 0 = .ok (.aload_n 0, 1) := by decide +kernel
theorem dX8_clearLying_1 : decode cX8_clearLying 1 = .ok (.iconst 0, 1) := by decide +kernel
theorem dX8_clearLying_2 : decode cX8_clearLying 2 = .ok (.putfield 33, 3) := by decide +kernel
theorem dX8_clearLying_5 : decode cX8_clearLying 5 = .ok (.return_, 1) := by decide +kernel
theorem dX8_lay_0 : decode cX8_lay 0 = .ok (.aload_n 0, 1) := by decide +kernel
theorem dX8_lay_1 : decode cX8_lay 1 = .ok (.aload_n 0, 1) := by decide +kernel
theorem dX8_lay_2 : decode cX8_lay 2 = .ok (.getfield 25, 3) := by decide +kernel
theorem dX8_lay_5 : decode cX8_lay 5 = .ok (.getfield 37, 3) := by decide +kernel
theorem dX8_lay_8 : decode cX8_lay 8 = .ok (.putfield 33, 3) := by decide +kernel
theorem dX8_lay_11 : decode cX8_lay 11 = .ok (.aload_n 1, 1) := by decide +kernel
theorem dX8_lay_12 : decode cX8_lay 12 = .ok (.iconst 0, 1) := by decide +kernel
theorem dX8_lay_13 : decode cX8_lay 13 = .ok (.aload_n 0, 1) := by decide +kernel
theorem dX8_lay_14 : decode cX8_lay 14 = .ok (.getfield 9, 3) := by decide +kernel
theorem dX8_lay_17 : decode cX8_lay 17 = .ok (.iconst 0, 1) := by decide +kernel
theorem dX8_lay_18 : decode cX8_lay 18 = .ok (.iconst 5, 1) := by decide +kernel
theorem dX8_lay_19 : decode cX8_lay 19 = .ok (.invokestatic 42, 3) := by decide +kernel
theorem dX8_lay_22 : decode cX8_lay 22 = .ok (.return_, 1) := by decide +kernel
theorem dX8_gainNow_0 : decode cX8_gainNow 0 = .ok (.aload_n 0, 1) := by decide +kernel
theorem dX8_gainNow_1 : decode cX8_gainNow 1 = .ok (.getfield 21, 3) := by decide +kernel
theorem dX8_gainNow_4 : decode cX8_gainNow 4 = .ok (.invokevirtual 48, 3) := by decide +kernel
theorem dX8_gainNow_7 : decode cX8_gainNow 7 = .ok (.aload_n 0, 1) := by decide +kernel
theorem dX8_gainNow_8 : decode cX8_gainNow 8 = .ok (.getfield 21, 3) := by decide +kernel
theorem dX8_gainNow_11 : decode cX8_gainNow 11 = .ok (.iload_n 1, 1) := by decide +kernel
theorem dX8_gainNow_12 : decode cX8_gainNow 12 = .ok (.invokevirtual 53, 3) := by decide +kernel
theorem dX8_gainNow_15 : decode cX8_gainNow 15 = .ok (.ireturn, 1) := by decide +kernel
theorem dX8_fedNow_0 : decode cX8_fedNow 0 = .ok (.aload_n 0, 1) := by decide +kernel
theorem dX8_fedNow_1 : decode cX8_fedNow 1 = .ok (.getfield 21, 3) := by decide +kernel
theorem dX8_fedNow_4 : decode cX8_fedNow 4 = .ok (.invokevirtual 48, 3) := by decide +kernel
theorem dX8_fedNow_7 : decode cX8_fedNow 7 = .ok (.iconst 0, 1) := by decide +kernel
theorem dX8_fedNow_8 : decode cX8_fedNow 8 = .ok (.istore_n 1, 1) := by decide +kernel
theorem dX8_fedNow_9 : decode cX8_fedNow 9 = .ok (.iconst 0, 1) := by decide +kernel
theorem dX8_fedNow_10 : decode cX8_fedNow 10 = .ok (.istore_n 2, 1) := by decide +kernel
theorem dX8_fedNow_11 : decode cX8_fedNow 11 = .ok (.iload_n 2, 1) := by decide +kernel
theorem dX8_fedNow_12 : decode cX8_fedNow 12 = .ok (.aload_n 0, 1) := by decide +kernel
theorem dX8_fedNow_13 : decode cX8_fedNow 13 = .ok (.getfield 25, 3) := by decide +kernel
theorem dX8_fedNow_16 : decode cX8_fedNow 16 = .ok (.getfield 37, 3) := by decide +kernel
theorem dX8_fedNow_19 : decode cX8_fedNow 19 = .ok (.if_icmp .ge 28, 3) := by decide +kernel
theorem dX8_fedNow_22 : decode cX8_fedNow 22 = .ok (.aload_n 0, 1) := by decide +kernel
theorem dX8_fedNow_23 : decode cX8_fedNow 23 = .ok (.getfield 21, 3) := by decide +kernel
theorem dX8_fedNow_26 : decode cX8_fedNow 26 = .ok (.iconst 1, 1) := by decide +kernel
theorem dX8_fedNow_27 : decode cX8_fedNow 27 = .ok (.iload_n 2, 1) := by decide +kernel
theorem dX8_fedNow_28 : decode cX8_fedNow 28 = .ok (.ishl, 1) := by decide +kernel
theorem dX8_fedNow_29 : decode cX8_fedNow 29 = .ok (.invokevirtual 57, 3) := by decide +kernel
theorem dX8_fedNow_32 : decode cX8_fedNow 32 = .ok (.ifCond .eq 9, 3) := by decide +kernel
theorem dX8_fedNow_35 : decode cX8_fedNow 35 = .ok (.iload_n 1, 1) := by decide +kernel
theorem dX8_fedNow_36 : decode cX8_fedNow 36 = .ok (.iconst 1, 1) := by decide +kernel
theorem dX8_fedNow_37 : decode cX8_fedNow 37 = .ok (.iload_n 2, 1) := by decide +kernel
theorem dX8_fedNow_38 : decode cX8_fedNow 38 = .ok (.ishl, 1) := by decide +kernel
theorem dX8_fedNow_39 : decode cX8_fedNow 39 = .ok (.ior, 1) := by decide +kernel
theorem dX8_fedNow_40 : decode cX8_fedNow 40 = .ok (.istore_n 1, 1) := by decide +kernel
theorem dX8_fedNow_41 : decode cX8_fedNow 41 = .ok (.iinc 2 1, 3) := by decide +kernel
theorem dX8_fedNow_44 : decode cX8_fedNow 44 = .ok (.goto (-33), 3) := by decide +kernel
theorem dX8_fedNow_47 : decode cX8_fedNow 47 = .ok (.iload_n 1, 1) := by decide +kernel
theorem dX8_fedNow_48 : decode cX8_fedNow 48 = .ok (.ireturn, 1) := by decide +kernel
theorem dX8_leastShame_0 : decode cX8_leastShame 0 = .ok (.aload_n 0, 1) := by decide +kernel
theorem dX8_leastShame_1 : decode cX8_leastShame 1 = .ok (.invokevirtual 61, 3) := by decide +kernel
theorem dX8_leastShame_4 : decode cX8_leastShame 4 = .ok (.iload_n 1, 1) := by decide +kernel
theorem dX8_leastShame_5 : decode cX8_leastShame 5 = .ok (.ifCond .lt 16, 3) := by decide +kernel
theorem dX8_leastShame_8 : decode cX8_leastShame 8 = .ok (.iload_n 1, 1) := by decide +kernel
theorem dX8_leastShame_9 : decode cX8_leastShame 9 = .ok (.iconst 1, 1) := by decide +kernel
theorem dX8_leastShame_10 : decode cX8_leastShame 10 = .ok (.aload_n 0, 1) := by decide +kernel
theorem dX8_leastShame_11 : decode cX8_leastShame 11 = .ok (.getfield 25, 3) := by decide +kernel
theorem dX8_leastShame_14 : decode cX8_leastShame 14 = .ok (.getfield 37, 3) := by decide +kernel
theorem dX8_leastShame_17 : decode cX8_leastShame 17 = .ok (.ishl, 1) := by decide +kernel
theorem dX8_leastShame_18 : decode cX8_leastShame 18 = .ok (.if_icmp .lt 5, 3) := by decide +kernel
theorem dX8_leastShame_21 : decode cX8_leastShame 21 = .ok (.iconst (-1), 1) := by decide +kernel
theorem dX8_leastShame_22 : decode cX8_leastShame 22 = .ok (.ireturn, 1) := by decide +kernel
theorem dX8_leastShame_23 : decode cX8_leastShame 23 = .ok (.iconst (-1), 1) := by decide +kernel
theorem dX8_leastShame_24 : decode cX8_leastShame 24 = .ok (.istore_n 2, 1) := by decide +kernel
theorem dX8_leastShame_25 : decode cX8_leastShame 25 = .ok (.aload_n 0, 1) := by decide +kernel
theorem dX8_leastShame_26 : decode cX8_leastShame 26 = .ok (.getfield 21, 3) := by decide +kernel
theorem dX8_leastShame_29 : decode cX8_leastShame 29 = .ok (.invokevirtual 48, 3) := by decide +kernel
theorem dX8_leastShame_32 : decode cX8_leastShame 32 = .ok (.aload_n 0, 1) := by decide +kernel
theorem dX8_leastShame_33 : decode cX8_leastShame 33 = .ok (.getfield 21, 3) := by decide +kernel
theorem dX8_leastShame_36 : decode cX8_leastShame 36 = .ok (.invokevirtual 64, 3) := by decide +kernel
theorem dX8_leastShame_39 : decode cX8_leastShame 39 = .ok (.aload_n 0, 1) := by decide +kernel
theorem dX8_leastShame_40 : decode cX8_leastShame 40 = .ok (.getfield 21, 3) := by decide +kernel
theorem dX8_leastShame_43 : decode cX8_leastShame 43 = .ok (.invokevirtual 67, 3) := by decide +kernel
theorem dX8_leastShame_46 : decode cX8_leastShame 46 = .ok (.istore_n 3, 1) := by decide +kernel
theorem dX8_leastShame_47 : decode cX8_leastShame 47 = .ok (.iload_n 3, 1) := by decide +kernel
theorem dX8_leastShame_48 : decode cX8_leastShame 48 = .ok (.ifCond .le 61, 3) := by decide +kernel
theorem dX8_leastShame_51 : decode cX8_leastShame 51 = .ok (.aload_n 0, 1) := by decide +kernel
theorem dX8_leastShame_52 : decode cX8_leastShame 52 = .ok (.getfield 21, 3) := by decide +kernel
theorem dX8_leastShame_55 : decode cX8_leastShame 55 = .ok (.invokevirtual 71, 3) := by decide +kernel
theorem dX8_leastShame_58 : decode cX8_leastShame 58 = .ok (.istore 4, 2) := by decide +kernel
theorem dX8_leastShame_60 : decode cX8_leastShame 60 = .ok (.iload_n 2, 1) := by decide +kernel
theorem dX8_leastShame_61 : decode cX8_leastShame 61 = .ok (.iconst (-1), 1) := by decide +kernel
theorem dX8_leastShame_62 : decode cX8_leastShame 62 = .ok (.if_icmp .eq 9, 3) := by decide +kernel
theorem dX8_leastShame_65 : decode cX8_leastShame 65 = .ok (.iload 4, 2) := by decide +kernel
theorem dX8_leastShame_67 : decode cX8_leastShame 67 = .ok (.iload_n 2, 1) := by decide +kernel
theorem dX8_leastShame_68 : decode cX8_leastShame 68 = .ok (.if_icmp .ge 28, 3) := by decide +kernel
theorem dX8_leastShame_71 : decode cX8_leastShame 71 = .ok (.aload_n 0, 1) := by decide +kernel
theorem dX8_leastShame_72 : decode cX8_leastShame 72 = .ok (.getfield 21, 3) := by decide +kernel
theorem dX8_leastShame_75 : decode cX8_leastShame 75 = .ok (.iload_n 1, 1) := by decide +kernel
theorem dX8_leastShame_76 : decode cX8_leastShame 76 = .ok (.invokevirtual 57, 3) := by decide +kernel
theorem dX8_leastShame_79 : decode cX8_leastShame 79 = .ok (.ifCond .eq 17, 3) := by decide +kernel
theorem dX8_leastShame_82 : decode cX8_leastShame 82 = .ok (.iload 4, 2) := by decide +kernel
theorem dX8_leastShame_84 : decode cX8_leastShame 84 = .ok (.istore_n 2, 1) := by decide +kernel
theorem dX8_leastShame_85 : decode cX8_leastShame 85 = .ok (.aload_n 0, 1) := by decide +kernel
theorem dX8_leastShame_86 : decode cX8_leastShame 86 = .ok (.aload_n 0, 1) := by decide +kernel
theorem dX8_leastShame_87 : decode cX8_leastShame 87 = .ok (.getfield 21, 3) := by decide +kernel
theorem dX8_leastShame_90 : decode cX8_leastShame 90 = .ok (.getfield 74, 3) := by decide +kernel
theorem dX8_leastShame_93 : decode cX8_leastShame 93 = .ok (.invokevirtual 77, 3) := by decide +kernel
theorem dX8_leastShame_96 : decode cX8_leastShame 96 = .ok (.aload_n 0, 1) := by decide +kernel
theorem dX8_leastShame_97 : decode cX8_leastShame 97 = .ok (.getfield 21, 3) := by decide +kernel
theorem dX8_leastShame_100 : decode cX8_leastShame 100 = .ok (.invokevirtual 81, 3) := by decide +kernel
theorem dX8_leastShame_103 : decode cX8_leastShame 103 = .ok (.iinc 3 (-1), 3) := by decide +kernel
theorem dX8_leastShame_106 : decode cX8_leastShame 106 = .ok (.goto (-59), 3) := by decide +kernel
theorem dX8_leastShame_109 : decode cX8_leastShame 109 = .ok (.iload_n 2, 1) := by decide +kernel
theorem dX8_leastShame_110 : decode cX8_leastShame 110 = .ok (.ireturn, 1) := by decide +kernel
theorem dX8_mostTogether_0 : decode cX8_mostTogether 0 = .ok (.iconst (-1), 1) := by decide +kernel
theorem dX8_mostTogether_1 : decode cX8_mostTogether 1 = .ok (.istore_n 1, 1) := by decide +kernel
theorem dX8_mostTogether_2 : decode cX8_mostTogether 2 = .ok (.aload_n 0, 1) := by decide +kernel
theorem dX8_mostTogether_3 : decode cX8_mostTogether 3 = .ok (.getfield 21, 3) := by decide +kernel
theorem dX8_mostTogether_6 : decode cX8_mostTogether 6 = .ok (.invokevirtual 48, 3) := by decide +kernel
theorem dX8_mostTogether_9 : decode cX8_mostTogether 9 = .ok (.aload_n 0, 1) := by decide +kernel
theorem dX8_mostTogether_10 : decode cX8_mostTogether 10 = .ok (.getfield 21, 3) := by decide +kernel
theorem dX8_mostTogether_13 : decode cX8_mostTogether 13 = .ok (.invokevirtual 64, 3) := by decide +kernel
theorem dX8_mostTogether_16 : decode cX8_mostTogether 16 = .ok (.aload_n 0, 1) := by decide +kernel
theorem dX8_mostTogether_17 : decode cX8_mostTogether 17 = .ok (.getfield 21, 3) := by decide +kernel
theorem dX8_mostTogether_20 : decode cX8_mostTogether 20 = .ok (.invokevirtual 67, 3) := by decide +kernel
theorem dX8_mostTogether_23 : decode cX8_mostTogether 23 = .ok (.istore_n 2, 1) := by decide +kernel
theorem dX8_mostTogether_24 : decode cX8_mostTogether 24 = .ok (.iload_n 2, 1) := by decide +kernel
theorem dX8_mostTogether_25 : decode cX8_mostTogether 25 = .ok (.ifCond .le 42, 3) := by decide +kernel
theorem dX8_mostTogether_28 : decode cX8_mostTogether 28 = .ok (.aload_n 0, 1) := by decide +kernel
theorem dX8_mostTogether_29 : decode cX8_mostTogether 29 = .ok (.getfield 21, 3) := by decide +kernel
theorem dX8_mostTogether_32 : decode cX8_mostTogether 32 = .ok (.invokevirtual 84, 3) := by decide +kernel
theorem dX8_mostTogether_35 : decode cX8_mostTogether 35 = .ok (.istore_n 3, 1) := by decide +kernel
theorem dX8_mostTogether_36 : decode cX8_mostTogether 36 = .ok (.iload_n 3, 1) := by decide +kernel
theorem dX8_mostTogether_37 : decode cX8_mostTogether 37 = .ok (.iload_n 1, 1) := by decide +kernel
theorem dX8_mostTogether_38 : decode cX8_mostTogether 38 = .ok (.if_icmp .le 16, 3) := by decide +kernel
theorem dX8_mostTogether_41 : decode cX8_mostTogether 41 = .ok (.iload_n 3, 1) := by decide +kernel
theorem dX8_mostTogether_42 : decode cX8_mostTogether 42 = .ok (.istore_n 1, 1) := by decide +kernel
theorem dX8_mostTogether_43 : decode cX8_mostTogether 43 = .ok (.aload_n 0, 1) := by decide +kernel
theorem dX8_mostTogether_44 : decode cX8_mostTogether 44 = .ok (.aload_n 0, 1) := by decide +kernel
theorem dX8_mostTogether_45 : decode cX8_mostTogether 45 = .ok (.getfield 21, 3) := by decide +kernel
theorem dX8_mostTogether_48 : decode cX8_mostTogether 48 = .ok (.getfield 74, 3) := by decide +kernel
theorem dX8_mostTogether_51 : decode cX8_mostTogether 51 = .ok (.invokevirtual 77, 3) := by decide +kernel
theorem dX8_mostTogether_54 : decode cX8_mostTogether 54 = .ok (.aload_n 0, 1) := by decide +kernel
theorem dX8_mostTogether_55 : decode cX8_mostTogether 55 = .ok (.getfield 21, 3) := by decide +kernel
theorem dX8_mostTogether_58 : decode cX8_mostTogether 58 = .ok (.invokevirtual 81, 3) := by decide +kernel
theorem dX8_mostTogether_61 : decode cX8_mostTogether 61 = .ok (.iinc 2 (-1), 3) := by decide +kernel
theorem dX8_mostTogether_64 : decode cX8_mostTogether 64 = .ok (.goto (-40), 3) := by decide +kernel
theorem dX8_mostTogether_67 : decode cX8_mostTogether 67 = .ok (.iload_n 1, 1) := by decide +kernel
theorem dX8_mostTogether_68 : decode cX8_mostTogether 68 = .ok (.ireturn, 1) := by decide +kernel
theorem dX8_countSteady_0 : decode cX8_countSteady 0 = .ok (.aload_n 0, 1) := by decide +kernel
theorem dX8_countSteady_1 : decode cX8_countSteady 1 = .ok (.invokevirtual 61, 3) := by decide +kernel
theorem dX8_countSteady_4 : decode cX8_countSteady 4 = .ok (.iconst 0, 1) := by decide +kernel
theorem dX8_countSteady_5 : decode cX8_countSteady 5 = .ok (.istore_n 1, 1) := by decide +kernel
theorem dX8_countSteady_6 : decode cX8_countSteady 6 = .ok (.aload_n 0, 1) := by decide +kernel
theorem dX8_countSteady_7 : decode cX8_countSteady 7 = .ok (.getfield 21, 3) := by decide +kernel
theorem dX8_countSteady_10 : decode cX8_countSteady 10 = .ok (.invokevirtual 48, 3) := by decide +kernel
theorem dX8_countSteady_13 : decode cX8_countSteady 13 = .ok (.aload_n 0, 1) := by decide +kernel
theorem dX8_countSteady_14 : decode cX8_countSteady 14 = .ok (.getfield 21, 3) := by decide +kernel
theorem dX8_countSteady_17 : decode cX8_countSteady 17 = .ok (.invokevirtual 64, 3) := by decide +kernel
theorem dX8_countSteady_20 : decode cX8_countSteady 20 = .ok (.aload_n 0, 1) := by decide +kernel
theorem dX8_countSteady_21 : decode cX8_countSteady 21 = .ok (.getfield 21, 3) := by decide +kernel
theorem dX8_countSteady_24 : decode cX8_countSteady 24 = .ok (.invokevirtual 67, 3) := by decide +kernel
theorem dX8_countSteady_27 : decode cX8_countSteady 27 = .ok (.istore_n 2, 1) := by decide +kernel
theorem dX8_countSteady_28 : decode cX8_countSteady 28 = .ok (.iload_n 2, 1) := by decide +kernel
theorem dX8_countSteady_29 : decode cX8_countSteady 29 = .ok (.ifCond .le 41, 3) := by decide +kernel
theorem dX8_countSteady_32 : decode cX8_countSteady 32 = .ok (.aload_n 0, 1) := by decide +kernel
theorem dX8_countSteady_33 : decode cX8_countSteady 33 = .ok (.invokevirtual 87, 3) := by decide +kernel
theorem dX8_countSteady_36 : decode cX8_countSteady 36 = .ok (.ifCond .eq 21, 3) := by decide +kernel
theorem dX8_countSteady_39 : decode cX8_countSteady 39 = .ok (.iload_n 1, 1) := by decide +kernel
theorem dX8_countSteady_40 : decode cX8_countSteady 40 = .ok (.ifCond .ne 14, 3) := by decide +kernel
theorem dX8_countSteady_43 : decode cX8_countSteady 43 = .ok (.aload_n 0, 1) := by decide +kernel
theorem dX8_countSteady_44 : decode cX8_countSteady 44 = .ok (.aload_n 0, 1) := by decide +kernel
theorem dX8_countSteady_45 : decode cX8_countSteady 45 = .ok (.getfield 21, 3) := by decide +kernel
theorem dX8_countSteady_48 : decode cX8_countSteady 48 = .ok (.getfield 74, 3) := by decide +kernel
theorem dX8_countSteady_51 : decode cX8_countSteady 51 = .ok (.invokevirtual 77, 3) := by decide +kernel
theorem dX8_countSteady_54 : decode cX8_countSteady 54 = .ok (.iinc 1 1, 3) := by decide +kernel
theorem dX8_countSteady_57 : decode cX8_countSteady 57 = .ok (.aload_n 0, 1) := by decide +kernel
theorem dX8_countSteady_58 : decode cX8_countSteady 58 = .ok (.getfield 21, 3) := by decide +kernel
theorem dX8_countSteady_61 : decode cX8_countSteady 61 = .ok (.invokevirtual 81, 3) := by decide +kernel
theorem dX8_countSteady_64 : decode cX8_countSteady 64 = .ok (.iinc 2 (-1), 3) := by decide +kernel
theorem dX8_countSteady_67 : decode cX8_countSteady 67 = .ok (.goto (-39), 3) := by decide +kernel
theorem dX8_countSteady_70 : decode cX8_countSteady 70 = .ok (.iload_n 1, 1) := by decide +kernel
theorem dX8_countSteady_71 : decode cX8_countSteady 71 = .ok (.ireturn, 1) := by decide +kernel
theorem dX8_isSteadyNow_0 : decode cX8_isSteadyNow 0 = .ok (.aload_n 0, 1) := by decide +kernel
theorem dX8_isSteadyNow_1 : decode cX8_isSteadyNow 1 = .ok (.getfield 21, 3) := by decide +kernel
theorem dX8_isSteadyNow_4 : decode cX8_isSteadyNow 4 = .ok (.invokevirtual 48, 3) := by decide +kernel
theorem dX8_isSteadyNow_7 : decode cX8_isSteadyNow 7 = .ok (.aload_n 0, 1) := by decide +kernel
theorem dX8_isSteadyNow_8 : decode cX8_isSteadyNow 8 = .ok (.invokevirtual 87, 3) := by decide +kernel
theorem dX8_isSteadyNow_11 : decode cX8_isSteadyNow 11 = .ok (.ireturn, 1) := by decide +kernel
theorem dX8_noneWouldLeave_0 : decode cX8_noneWouldLeave 0 = .ok (.iconst 0, 1) := by decide +kernel
theorem dX8_noneWouldLeave_1 : decode cX8_noneWouldLeave 1 = .ok (.istore_n 1, 1) := by decide +kernel
theorem dX8_noneWouldLeave_2 : decode cX8_noneWouldLeave 2 = .ok (.iload_n 1, 1) := by decide +kernel
theorem dX8_noneWouldLeave_3 : decode cX8_noneWouldLeave 3 = .ok (.aload_n 0, 1) := by decide +kernel
theorem dX8_noneWouldLeave_4 : decode cX8_noneWouldLeave 4 = .ok (.getfield 25, 3) := by decide +kernel
theorem dX8_noneWouldLeave_7 : decode cX8_noneWouldLeave 7 = .ok (.getfield 37, 3) := by decide +kernel
theorem dX8_noneWouldLeave_10 : decode cX8_noneWouldLeave 10 = .ok (.if_icmp .ge 31, 3) := by decide +kernel
theorem dX8_noneWouldLeave_13 : decode cX8_noneWouldLeave 13 = .ok (.aload_n 0, 1) := by decide +kernel
theorem dX8_noneWouldLeave_14 : decode cX8_noneWouldLeave 14 = .ok (.getfield 21, 3) := by decide +kernel
theorem dX8_noneWouldLeave_17 : decode cX8_noneWouldLeave 17 = .ok (.iload_n 1, 1) := by decide +kernel
theorem dX8_noneWouldLeave_18 : decode cX8_noneWouldLeave 18 = .ok (.invokevirtual 91, 3) := by decide +kernel
theorem dX8_noneWouldLeave_21 : decode cX8_noneWouldLeave 21 = .ok (.aload_n 0, 1) := by decide +kernel
theorem dX8_noneWouldLeave_22 : decode cX8_noneWouldLeave 22 = .ok (.getfield 21, 3) := by decide +kernel
theorem dX8_noneWouldLeave_25 : decode cX8_noneWouldLeave 25 = .ok (.getfield 74, 3) := by decide +kernel
theorem dX8_noneWouldLeave_28 : decode cX8_noneWouldLeave 28 = .ok (.iload_n 1, 1) := by decide +kernel
theorem dX8_noneWouldLeave_29 : decode cX8_noneWouldLeave 29 = .ok (.iaload, 1) := by decide +kernel
theorem dX8_noneWouldLeave_30 : decode cX8_noneWouldLeave 30 = .ok (.if_icmp .eq 5, 3) := by decide +kernel
theorem dX8_noneWouldLeave_33 : decode cX8_noneWouldLeave 33 = .ok (.iconst 0, 1) := by decide +kernel
theorem dX8_noneWouldLeave_34 : decode cX8_noneWouldLeave 34 = .ok (.ireturn, 1) := by decide +kernel
theorem dX8_noneWouldLeave_35 : decode cX8_noneWouldLeave 35 = .ok (.iinc 1 1, 3) := by decide +kernel
theorem dX8_noneWouldLeave_38 : decode cX8_noneWouldLeave 38 = .ok (.goto (-36), 3) := by decide +kernel
theorem dX8_noneWouldLeave_41 : decode cX8_noneWouldLeave 41 = .ok (.iconst 1, 1) := by decide +kernel
theorem dX8_noneWouldLeave_42 : decode cX8_noneWouldLeave 42 = .ok (.ireturn, 1) := by decide +kernel
theorem dX8_roundsToRest_0 : decode cX8_roundsToRest 0 = .ok (.aload_n 0, 1) := by decide +kernel
theorem dX8_roundsToRest_1 : decode cX8_roundsToRest 1 = .ok (.getfield 21, 3) := by decide +kernel
theorem dX8_roundsToRest_4 : decode cX8_roundsToRest 4 = .ok (.invokevirtual 48, 3) := by decide +kernel
theorem dX8_roundsToRest_7 : decode cX8_roundsToRest 7 = .ok (.iconst 0, 1) := by decide +kernel
theorem dX8_roundsToRest_8 : decode cX8_roundsToRest 8 = .ok (.istore_n 1, 1) := by decide +kernel
theorem dX8_roundsToRest_9 : decode cX8_roundsToRest 9 = .ok (.iload_n 1, 1) := by decide +kernel
theorem dX8_roundsToRest_10 : decode cX8_roundsToRest 10 = .ok (.bipush 50, 2) := by decide +kernel
theorem dX8_roundsToRest_12 : decode cX8_roundsToRest 12 = .ok (.if_icmp .gt 29, 3) := by decide +kernel
theorem dX8_roundsToRest_15 : decode cX8_roundsToRest 15 = .ok (.aload_n 0, 1) := by decide +kernel
theorem dX8_roundsToRest_16 : decode cX8_roundsToRest 16 = .ok (.invokevirtual 94, 3) := by decide +kernel
theorem dX8_roundsToRest_19 : decode cX8_roundsToRest 19 = .ok (.ifCond .ne 16, 3) := by decide +kernel
theorem dX8_roundsToRest_22 : decode cX8_roundsToRest 22 = .ok (.aload_n 0, 1) := by decide +kernel
theorem dX8_roundsToRest_23 : decode cX8_roundsToRest 23 = .ok (.aload_n 0, 1) := by decide +kernel
theorem dX8_roundsToRest_24 : decode cX8_roundsToRest 24 = .ok (.getfield 21, 3) := by decide +kernel
theorem dX8_roundsToRest_27 : decode cX8_roundsToRest 27 = .ok (.getfield 74, 3) := by decide +kernel
theorem dX8_roundsToRest_30 : decode cX8_roundsToRest 30 = .ok (.invokevirtual 77, 3) := by decide +kernel
theorem dX8_roundsToRest_33 : decode cX8_roundsToRest 33 = .ok (.iload_n 1, 1) := by decide +kernel
theorem dX8_roundsToRest_34 : decode cX8_roundsToRest 34 = .ok (.ireturn, 1) := by decide +kernel
theorem dX8_roundsToRest_35 : decode cX8_roundsToRest 35 = .ok (.iinc 1 1, 3) := by decide +kernel
theorem dX8_roundsToRest_38 : decode cX8_roundsToRest 38 = .ok (.goto (-29), 3) := by decide +kernel
theorem dX8_roundsToRest_41 : decode cX8_roundsToRest 41 = .ok (.aload_n 0, 1) := by decide +kernel
theorem dX8_roundsToRest_42 : decode cX8_roundsToRest 42 = .ok (.invokevirtual 61, 3) := by decide +kernel
theorem dX8_roundsToRest_45 : decode cX8_roundsToRest 45 = .ok (.iconst (-1), 1) := by decide +kernel
theorem dX8_roundsToRest_46 : decode cX8_roundsToRest 46 = .ok (.ireturn, 1) := by decide +kernel
theorem dX8_changesInRound_0 : decode cX8_changesInRound 0 = .ok (.iconst 0, 1) := by decide +kernel
theorem dX8_changesInRound_1 : decode cX8_changesInRound 1 = .ok (.istore_n 1, 1) := by decide +kernel
theorem dX8_changesInRound_2 : decode cX8_changesInRound 2 = .ok (.iconst 0, 1) := by decide +kernel
theorem dX8_changesInRound_3 : decode cX8_changesInRound 3 = .ok (.istore_n 2, 1) := by decide +kernel
theorem dX8_changesInRound_4 : decode cX8_changesInRound 4 = .ok (.iload_n 2, 1) := by decide +kernel
theorem dX8_changesInRound_5 : decode cX8_changesInRound 5 = .ok (.aload_n 0, 1) := by decide +kernel
theorem dX8_changesInRound_6 : decode cX8_changesInRound 6 = .ok (.getfield 25, 3) := by decide +kernel
theorem dX8_changesInRound_9 : decode cX8_changesInRound 9 = .ok (.getfield 37, 3) := by decide +kernel
theorem dX8_changesInRound_12 : decode cX8_changesInRound 12 = .ok (.if_icmp .ge 42, 3) := by decide +kernel
theorem dX8_changesInRound_15 : decode cX8_changesInRound 15 = .ok (.aload_n 0, 1) := by decide +kernel
theorem dX8_changesInRound_16 : decode cX8_changesInRound 16 = .ok (.getfield 21, 3) := by decide +kernel
theorem dX8_changesInRound_19 : decode cX8_changesInRound 19 = .ok (.iload_n 2, 1) := by decide +kernel
theorem dX8_changesInRound_20 : decode cX8_changesInRound 20 = .ok (.invokevirtual 91, 3) := by decide +kernel
theorem dX8_changesInRound_23 : decode cX8_changesInRound 23 = .ok (.istore_n 3, 1) := by decide +kernel
theorem dX8_changesInRound_24 : decode cX8_changesInRound 24 = .ok (.iload_n 3, 1) := by decide +kernel
theorem dX8_changesInRound_25 : decode cX8_changesInRound 25 = .ok (.aload_n 0, 1) := by decide +kernel
theorem dX8_changesInRound_26 : decode cX8_changesInRound 26 = .ok (.getfield 21, 3) := by decide +kernel
theorem dX8_changesInRound_29 : decode cX8_changesInRound 29 = .ok (.getfield 74, 3) := by decide +kernel
theorem dX8_changesInRound_32 : decode cX8_changesInRound 32 = .ok (.iload_n 2, 1) := by decide +kernel
theorem dX8_changesInRound_33 : decode cX8_changesInRound 33 = .ok (.iaload, 1) := by decide +kernel
theorem dX8_changesInRound_34 : decode cX8_changesInRound 34 = .ok (.if_icmp .eq 14, 3) := by decide +kernel
theorem dX8_changesInRound_37 : decode cX8_changesInRound 37 = .ok (.aload_n 0, 1) := by decide +kernel
theorem dX8_changesInRound_38 : decode cX8_changesInRound 38 = .ok (.getfield 21, 3) := by decide +kernel
theorem dX8_changesInRound_41 : decode cX8_changesInRound 41 = .ok (.iload_n 2, 1) := by decide +kernel
theorem dX8_changesInRound_42 : decode cX8_changesInRound 42 = .ok (.iload_n 3, 1) := by decide +kernel
theorem dX8_changesInRound_43 : decode cX8_changesInRound 43 = .ok (.invokevirtual 97, 3) := by decide +kernel
theorem dX8_changesInRound_46 : decode cX8_changesInRound 46 = .ok (.iconst 1, 1) := by decide +kernel
theorem dX8_changesInRound_47 : decode cX8_changesInRound 47 = .ok (.istore_n 1, 1) := by decide +kernel
theorem dX8_changesInRound_48 : decode cX8_changesInRound 48 = .ok (.iinc 2 1, 3) := by decide +kernel
theorem dX8_changesInRound_51 : decode cX8_changesInRound 51 = .ok (.goto (-47), 3) := by decide +kernel
theorem dX8_changesInRound_54 : decode cX8_changesInRound 54 = .ok (.iload_n 1, 1) := by decide +kernel
theorem dX8_changesInRound_55 : decode cX8_changesInRound 55 = .ok (.ireturn, 1) := by decide +kernel
theorem dX8_fewestSilent_0 : decode cX8_fewestSilent 0 = .ok (.aload_n 0, 1) := by decide +kernel
theorem dX8_fewestSilent_1 : decode cX8_fewestSilent 1 = .ok (.getfield 29, 3) := by decide +kernel
theorem dX8_fewestSilent_4 : decode cX8_fewestSilent 4 = .ok (.invokevirtual 101, 3) := by decide +kernel
theorem dX8_fewestSilent_7 : decode cX8_fewestSilent 7 = .ok (.istore_n 1, 1) := by decide +kernel
theorem dX8_fewestSilent_8 : decode cX8_fewestSilent 8 = .ok (.iload_n 1, 1) := by decide +kernel
theorem dX8_fewestSilent_9 : decode cX8_fewestSilent 9 = .ok (.istore_n 2, 1) := by decide +kernel
theorem dX8_fewestSilent_10 : decode cX8_fewestSilent 10 = .ok (.iconst 0, 1) := by decide +kernel
theorem dX8_fewestSilent_11 : decode cX8_fewestSilent 11 = .ok (.istore_n 3, 1) := by decide +kernel
theorem dX8_fewestSilent_12 : decode cX8_fewestSilent 12 = .ok (.iload_n 3, 1) := by decide +kernel
theorem dX8_fewestSilent_13 : decode cX8_fewestSilent 13 = .ok (.iconst 1, 1) := by decide +kernel
theorem dX8_fewestSilent_14 : decode cX8_fewestSilent 14 = .ok (.aload_n 0, 1) := by decide +kernel
theorem dX8_fewestSilent_15 : decode cX8_fewestSilent 15 = .ok (.getfield 25, 3) := by decide +kernel
theorem dX8_fewestSilent_18 : decode cX8_fewestSilent 18 = .ok (.getfield 37, 3) := by decide +kernel
theorem dX8_fewestSilent_21 : decode cX8_fewestSilent 21 = .ok (.ishl, 1) := by decide +kernel
theorem dX8_fewestSilent_22 : decode cX8_fewestSilent 22 = .ok (.if_icmp .ge 57, 3) := by decide +kernel
theorem dX8_fewestSilent_25 : decode cX8_fewestSilent 25 = .ok (.iload_n 3, 1) := by decide +kernel
theorem dX8_fewestSilent_26 : decode cX8_fewestSilent 26 = .ok (.invokestatic 106, 3) := by decide +kernel
theorem dX8_fewestSilent_29 : decode cX8_fewestSilent 29 = .ok (.iload_n 2, 1) := by decide +kernel
theorem dX8_fewestSilent_30 : decode cX8_fewestSilent 30 = .ok (.invokestatic 106, 3) := by decide +kernel
theorem dX8_fewestSilent_33 : decode cX8_fewestSilent 33 = .ok (.if_icmp .ge 7, 3) := by decide +kernel
theorem dX8_fewestSilent_36 : decode cX8_fewestSilent 36 = .ok (.iconst 1, 1) := by decide +kernel
theorem dX8_fewestSilent_37 : decode cX8_fewestSilent 37 = .ok (.goto 4, 3) := by decide +kernel
theorem dX8_fewestSilent_40 : decode cX8_fewestSilent 40 = .ok (.iconst 0, 1) := by decide +kernel
theorem dX8_fewestSilent_41 : decode cX8_fewestSilent 41 = .ok (.istore 4, 2) := by decide +kernel
theorem dX8_fewestSilent_43 : decode cX8_fewestSilent 43 = .ok (.iload_n 3, 1) := by decide +kernel
theorem dX8_fewestSilent_44 : decode cX8_fewestSilent 44 = .ok (.iload_n 1, 1) := by decide +kernel
theorem dX8_fewestSilent_45 : decode cX8_fewestSilent 45 = .ok (.iconst (-1), 1) := by decide +kernel
theorem dX8_fewestSilent_46 : decode cX8_fewestSilent 46 = .ok (.ixor, 1) := by decide +kernel
theorem dX8_fewestSilent_47 : decode cX8_fewestSilent 47 = .ok (.iand, 1) := by decide +kernel
theorem dX8_fewestSilent_48 : decode cX8_fewestSilent 48 = .ok (.ifCond .ne 25, 3) := by decide +kernel
theorem dX8_fewestSilent_51 : decode cX8_fewestSilent 51 = .ok (.iload 4, 2) := by decide +kernel
theorem dX8_fewestSilent_53 : decode cX8_fewestSilent 53 = .ok (.ifCond .eq 20, 3) := by decide +kernel
theorem dX8_fewestSilent_56 : decode cX8_fewestSilent 56 = .ok (.aload_n 0, 1) := by decide +kernel
theorem dX8_fewestSilent_57 : decode cX8_fewestSilent 57 = .ok (.getfield 29, 3) := by decide +kernel
theorem dX8_fewestSilent_60 : decode cX8_fewestSilent 60 = .ok (.iload_n 1, 1) := by decide +kernel
theorem dX8_fewestSilent_61 : decode cX8_fewestSilent 61 = .ok (.iload_n 3, 1) := by decide +kernel
theorem dX8_fewestSilent_62 : decode cX8_fewestSilent 62 = .ok (.iconst (-1), 1) := by decide +kernel
theorem dX8_fewestSilent_63 : decode cX8_fewestSilent 63 = .ok (.ixor, 1) := by decide +kernel
theorem dX8_fewestSilent_64 : decode cX8_fewestSilent 64 = .ok (.iand, 1) := by decide +kernel
theorem dX8_fewestSilent_65 : decode cX8_fewestSilent 65 = .ok (.invokevirtual 111, 3) := by decide +kernel
theorem dX8_fewestSilent_68 : decode cX8_fewestSilent 68 = .ok (.ifCond .ne 5, 3) := by decide +kernel
theorem dX8_fewestSilent_71 : decode cX8_fewestSilent 71 = .ok (.iload_n 3, 1) := by decide +kernel
theorem dX8_fewestSilent_72 : decode cX8_fewestSilent 72 = .ok (.istore_n 2, 1) := by decide +kernel
theorem dX8_fewestSilent_73 : decode cX8_fewestSilent 73 = .ok (.iinc 3 1, 3) := by decide +kernel
theorem dX8_fewestSilent_76 : decode cX8_fewestSilent 76 = .ok (.goto (-64), 3) := by decide +kernel
theorem dX8_fewestSilent_79 : decode cX8_fewestSilent 79 = .ok (.iload_n 2, 1) := by decide +kernel
theorem dX8_fewestSilent_80 : decode cX8_fewestSilent 80 = .ok (.ireturn, 1) := by decide +kernel
theorem dX8_findSpoiler_0 : decode cX8_findSpoiler 0 = .ok (.iconst (-1), 1) := by decide +kernel
theorem dX8_findSpoiler_1 : decode cX8_findSpoiler 1 = .ok (.istore_n 2, 1) := by decide +kernel
theorem dX8_findSpoiler_2 : decode cX8_findSpoiler 2 = .ok (.iconst (-1), 1) := by decide +kernel
theorem dX8_findSpoiler_3 : decode cX8_findSpoiler 3 = .ok (.istore_n 3, 1) := by decide +kernel
theorem dX8_findSpoiler_4 : decode cX8_findSpoiler 4 = .ok (.aload_n 0, 1) := by decide +kernel
theorem dX8_findSpoiler_5 : decode cX8_findSpoiler 5 = .ok (.getfield 21, 3) := by decide +kernel
theorem dX8_findSpoiler_8 : decode cX8_findSpoiler 8 = .ok (.invokevirtual 48, 3) := by decide +kernel
theorem dX8_findSpoiler_11 : decode cX8_findSpoiler 11 = .ok (.iconst 0, 1) := by decide +kernel
theorem dX8_findSpoiler_12 : decode cX8_findSpoiler 12 = .ok (.istore 4, 2) := by decide +kernel
theorem dX8_findSpoiler_14 : decode cX8_findSpoiler 14 = .ok (.iload 4, 2) := by decide +kernel
theorem dX8_findSpoiler_16 : decode cX8_findSpoiler 16 = .ok (.aload_n 0, 1) := by decide +kernel
theorem dX8_findSpoiler_17 : decode cX8_findSpoiler 17 = .ok (.getfield 25, 3) := by decide +kernel
theorem dX8_findSpoiler_20 : decode cX8_findSpoiler 20 = .ok (.getfield 37, 3) := by decide +kernel
theorem dX8_findSpoiler_23 : decode cX8_findSpoiler 23 = .ok (.if_icmp .ge 69, 3) := by decide +kernel
theorem dX8_findSpoiler_26 : decode cX8_findSpoiler 26 = .ok (.aload_n 0, 1) := by decide +kernel
theorem dX8_findSpoiler_27 : decode cX8_findSpoiler 27 = .ok (.getfield 21, 3) := by decide +kernel
theorem dX8_findSpoiler_30 : decode cX8_findSpoiler 30 = .ok (.getfield 74, 3) := by decide +kernel
theorem dX8_findSpoiler_33 : decode cX8_findSpoiler 33 = .ok (.iload 4, 2) := by decide +kernel
theorem dX8_findSpoiler_35 : decode cX8_findSpoiler 35 = .ok (.iaload, 1) := by decide +kernel
theorem dX8_findSpoiler_36 : decode cX8_findSpoiler 36 = .ok (.istore 5, 2) := by decide +kernel
theorem dX8_findSpoiler_38 : decode cX8_findSpoiler 38 = .ok (.iload 5, 2) := by decide +kernel
theorem dX8_findSpoiler_40 : decode cX8_findSpoiler 40 = .ok (.iconst (-1), 1) := by decide +kernel
theorem dX8_findSpoiler_41 : decode cX8_findSpoiler 41 = .ok (.if_icmp .eq 45, 3) := by decide +kernel
theorem dX8_findSpoiler_44 : decode cX8_findSpoiler 44 = .ok (.aload_n 0, 1) := by decide +kernel
theorem dX8_findSpoiler_45 : decode cX8_findSpoiler 45 = .ok (.getfield 21, 3) := by decide +kernel
theorem dX8_findSpoiler_48 : decode cX8_findSpoiler 48 = .ok (.iload 4, 2) := by decide +kernel
theorem dX8_findSpoiler_50 : decode cX8_findSpoiler 50 = .ok (.iconst (-1), 1) := by decide +kernel
theorem dX8_findSpoiler_51 : decode cX8_findSpoiler 51 = .ok (.invokevirtual 97, 3) := by decide +kernel
theorem dX8_findSpoiler_54 : decode cX8_findSpoiler 54 = .ok (.aload_n 0, 1) := by decide +kernel
theorem dX8_findSpoiler_55 : decode cX8_findSpoiler 55 = .ok (.getfield 21, 3) := by decide +kernel
theorem dX8_findSpoiler_58 : decode cX8_findSpoiler 58 = .ok (.invokevirtual 84, 3) := by decide +kernel
theorem dX8_findSpoiler_61 : decode cX8_findSpoiler 61 = .ok (.istore 6, 2) := by decide +kernel
theorem dX8_findSpoiler_63 : decode cX8_findSpoiler 63 = .ok (.aload_n 0, 1) := by decide +kernel
theorem dX8_findSpoiler_64 : decode cX8_findSpoiler 64 = .ok (.getfield 21, 3) := by decide +kernel
theorem dX8_findSpoiler_67 : decode cX8_findSpoiler 67 = .ok (.iload 4, 2) := by decide +kernel
theorem dX8_findSpoiler_69 : decode cX8_findSpoiler 69 = .ok (.iload 5, 2) := by decide +kernel
theorem dX8_findSpoiler_71 : decode cX8_findSpoiler 71 = .ok (.invokevirtual 97, 3) := by decide +kernel
theorem dX8_findSpoiler_74 : decode cX8_findSpoiler 74 = .ok (.iload 6, 2) := by decide +kernel
theorem dX8_findSpoiler_76 : decode cX8_findSpoiler 76 = .ok (.iload_n 3, 1) := by decide +kernel
theorem dX8_findSpoiler_77 : decode cX8_findSpoiler 77 = .ok (.if_icmp .le 9, 3) := by decide +kernel
theorem dX8_findSpoiler_80 : decode cX8_findSpoiler 80 = .ok (.iload 6, 2) := by decide +kernel
theorem dX8_findSpoiler_82 : decode cX8_findSpoiler 82 = .ok (.istore_n 3, 1) := by decide +kernel
theorem dX8_findSpoiler_83 : decode cX8_findSpoiler 83 = .ok (.iload 4, 2) := by decide +kernel
theorem dX8_findSpoiler_85 : decode cX8_findSpoiler 85 = .ok (.istore_n 2, 1) := by decide +kernel
theorem dX8_findSpoiler_86 : decode cX8_findSpoiler 86 = .ok (.iinc 4 1, 3) := by decide +kernel
theorem dX8_findSpoiler_89 : decode cX8_findSpoiler 89 = .ok (.goto (-75), 3) := by decide +kernel
theorem dX8_findSpoiler_92 : decode cX8_findSpoiler 92 = .ok (.iload_n 1, 1) := by decide +kernel
theorem dX8_findSpoiler_93 : decode cX8_findSpoiler 93 = .ok (.ifCond .ne 7, 3) := by decide +kernel
theorem dX8_findSpoiler_96 : decode cX8_findSpoiler 96 = .ok (.iload_n 2, 1) := by decide +kernel
theorem dX8_findSpoiler_97 : decode cX8_findSpoiler 97 = .ok (.goto 4, 3) := by decide +kernel
theorem dX8_findSpoiler_100 : decode cX8_findSpoiler 100 = .ok (.iload_n 3, 1) := by decide +kernel
theorem dX8_findSpoiler_101 : decode cX8_findSpoiler 101 = .ok (.ireturn, 1) := by decide +kernel
theorem dX8_largestPeace_0 : decode cX8_largestPeace 0 = .ok (.iconst 0, 1) := by decide +kernel
theorem dX8_largestPeace_1 : decode cX8_largestPeace 1 = .ok (.istore_n 1, 1) := by decide +kernel
theorem dX8_largestPeace_2 : decode cX8_largestPeace 2 = .ok (.iconst 0, 1) := by decide +kernel
theorem dX8_largestPeace_3 : decode cX8_largestPeace 3 = .ok (.istore_n 2, 1) := by decide +kernel
theorem dX8_largestPeace_4 : decode cX8_largestPeace 4 = .ok (.iload_n 2, 1) := by decide +kernel
theorem dX8_largestPeace_5 : decode cX8_largestPeace 5 = .ok (.iconst 1, 1) := by decide +kernel
theorem dX8_largestPeace_6 : decode cX8_largestPeace 6 = .ok (.aload_n 0, 1) := by decide +kernel
theorem dX8_largestPeace_7 : decode cX8_largestPeace 7 = .ok (.getfield 25, 3) := by decide +kernel
theorem dX8_largestPeace_10 : decode cX8_largestPeace 10 = .ok (.getfield 37, 3) := by decide +kernel
theorem dX8_largestPeace_13 : decode cX8_largestPeace 13 = .ok (.ishl, 1) := by decide +kernel
theorem dX8_largestPeace_14 : decode cX8_largestPeace 14 = .ok (.if_icmp .ge 33, 3) := by decide +kernel
theorem dX8_largestPeace_17 : decode cX8_largestPeace 17 = .ok (.iload_n 2, 1) := by decide +kernel
theorem dX8_largestPeace_18 : decode cX8_largestPeace 18 = .ok (.invokestatic 106, 3) := by decide +kernel
theorem dX8_largestPeace_21 : decode cX8_largestPeace 21 = .ok (.iload_n 1, 1) := by decide +kernel
theorem dX8_largestPeace_22 : decode cX8_largestPeace 22 = .ok (.invokestatic 106, 3) := by decide +kernel
theorem dX8_largestPeace_25 : decode cX8_largestPeace 25 = .ok (.if_icmp .le 16, 3) := by decide +kernel
theorem dX8_largestPeace_28 : decode cX8_largestPeace 28 = .ok (.aload_n 0, 1) := by decide +kernel
theorem dX8_largestPeace_29 : decode cX8_largestPeace 29 = .ok (.getfield 29, 3) := by decide +kernel
theorem dX8_largestPeace_32 : decode cX8_largestPeace 32 = .ok (.iload_n 2, 1) := by decide +kernel
theorem dX8_largestPeace_33 : decode cX8_largestPeace 33 = .ok (.invokevirtual 111, 3) := by decide +kernel
theorem dX8_largestPeace_36 : decode cX8_largestPeace 36 = .ok (.ifCond .ne 5, 3) := by decide +kernel
theorem dX8_largestPeace_39 : decode cX8_largestPeace 39 = .ok (.iload_n 2, 1) := by decide +kernel
theorem dX8_largestPeace_40 : decode cX8_largestPeace 40 = .ok (.istore_n 1, 1) := by decide +kernel
theorem dX8_largestPeace_41 : decode cX8_largestPeace 41 = .ok (.iinc 2 1, 3) := by decide +kernel
theorem dX8_largestPeace_44 : decode cX8_largestPeace 44 = .ok (.goto (-40), 3) := by decide +kernel
theorem dX8_largestPeace_47 : decode cX8_largestPeace 47 = .ok (.iload_n 1, 1) := by decide +kernel
theorem dX8_largestPeace_48 : decode cX8_largestPeace 48 = .ok (.ireturn, 1) := by decide +kernel
theorem dX8_lookAtLoaves_0 : decode cX8_lookAtLoaves 0 = .ok (.aload_n 0, 1) := by decide +kernel
theorem dX8_lookAtLoaves_1 : decode cX8_lookAtLoaves 1 = .ok (.getfield 21, 3) := by decide +kernel
theorem dX8_lookAtLoaves_4 : decode cX8_lookAtLoaves 4 = .ok (.invokevirtual 48, 3) := by decide +kernel
theorem dX8_lookAtLoaves_7 : decode cX8_lookAtLoaves 7 = .ok (.aload_n 0, 1) := by decide +kernel
theorem dX8_lookAtLoaves_8 : decode cX8_lookAtLoaves 8 = .ok (.getfield 21, 3) := by decide +kernel
theorem dX8_lookAtLoaves_11 : decode cX8_lookAtLoaves 11 = .ok (.getfield 114, 3) := by decide +kernel
theorem dX8_lookAtLoaves_14 : decode cX8_lookAtLoaves 14 = .ok (.invokestatic 106, 3) := by decide +kernel
theorem dX8_lookAtLoaves_17 : decode cX8_lookAtLoaves 17 = .ok (.istore_n 1, 1) := by decide +kernel
theorem dX8_lookAtLoaves_18 : decode cX8_lookAtLoaves 18 = .ok (.iconst 0, 1) := by decide +kernel
theorem dX8_lookAtLoaves_19 : decode cX8_lookAtLoaves 19 = .ok (.istore_n 2, 1) := by decide +kernel
theorem dX8_lookAtLoaves_20 : decode cX8_lookAtLoaves 20 = .ok (.iload_n 2, 1) := by decide +kernel
theorem dX8_lookAtLoaves_21 : decode cX8_lookAtLoaves 21 = .ok (.aload_n 0, 1) := by decide +kernel
theorem dX8_lookAtLoaves_22 : decode cX8_lookAtLoaves 22 = .ok (.getfield 25, 3) := by decide +kernel
theorem dX8_lookAtLoaves_25 : decode cX8_lookAtLoaves 25 = .ok (.getfield 37, 3) := by decide +kernel
theorem dX8_lookAtLoaves_28 : decode cX8_lookAtLoaves 28 = .ok (.if_icmp .ge 24, 3) := by decide +kernel
theorem dX8_lookAtLoaves_31 : decode cX8_lookAtLoaves 31 = .ok (.aload_n 0, 1) := by decide +kernel
theorem dX8_lookAtLoaves_32 : decode cX8_lookAtLoaves 32 = .ok (.getfield 15, 3) := by decide +kernel
theorem dX8_lookAtLoaves_35 : decode cX8_lookAtLoaves 35 = .ok (.iload_n 2, 1) := by decide +kernel
theorem dX8_lookAtLoaves_36 : decode cX8_lookAtLoaves 36 = .ok (.aload_n 0, 1) := by decide +kernel
theorem dX8_lookAtLoaves_37 : decode cX8_lookAtLoaves 37 = .ok (.getfield 21, 3) := by decide +kernel
theorem dX8_lookAtLoaves_40 : decode cX8_lookAtLoaves 40 = .ok (.iload_n 1, 1) := by decide +kernel
theorem dX8_lookAtLoaves_41 : decode cX8_lookAtLoaves 41 = .ok (.iload_n 2, 1) := by decide +kernel
theorem dX8_lookAtLoaves_42 : decode cX8_lookAtLoaves 42 = .ok (.invokevirtual 116, 3) := by decide +kernel
theorem dX8_lookAtLoaves_45 : decode cX8_lookAtLoaves 45 = .ok (.iastore, 1) := by decide +kernel
theorem dX8_lookAtLoaves_46 : decode cX8_lookAtLoaves 46 = .ok (.iinc 2 1, 3) := by decide +kernel
theorem dX8_lookAtLoaves_49 : decode cX8_lookAtLoaves 49 = .ok (.goto (-29), 3) := by decide +kernel
theorem dX8_lookAtLoaves_52 : decode cX8_lookAtLoaves 52 = .ok (.return_, 1) := by decide +kernel
theorem dX8_countAlike_0 : decode cX8_countAlike 0 = .ok (.aload_n 0, 1) := by decide +kernel
theorem dX8_countAlike_1 : decode cX8_countAlike 1 = .ok (.invokevirtual 120, 3) := by decide +kernel
theorem dX8_countAlike_4 : decode cX8_countAlike 4 = .ok (.iconst 0, 1) := by decide +kernel
theorem dX8_countAlike_5 : decode cX8_countAlike 5 = .ok (.istore_n 1, 1) := by decide +kernel
theorem dX8_countAlike_6 : decode cX8_countAlike 6 = .ok (.iconst 0, 1) := by decide +kernel
theorem dX8_countAlike_7 : decode cX8_countAlike 7 = .ok (.istore_n 2, 1) := by decide +kernel
theorem dX8_countAlike_8 : decode cX8_countAlike 8 = .ok (.iload_n 2, 1) := by decide +kernel
theorem dX8_countAlike_9 : decode cX8_countAlike 9 = .ok (.aload_n 0, 1) := by decide +kernel
theorem dX8_countAlike_10 : decode cX8_countAlike 10 = .ok (.getfield 25, 3) := by decide +kernel
theorem dX8_countAlike_13 : decode cX8_countAlike 13 = .ok (.getfield 37, 3) := by decide +kernel
theorem dX8_countAlike_16 : decode cX8_countAlike 16 = .ok (.if_icmp .ge 48, 3) := by decide +kernel
theorem dX8_countAlike_19 : decode cX8_countAlike 19 = .ok (.iload_n 2, 1) := by decide +kernel
theorem dX8_countAlike_20 : decode cX8_countAlike 20 = .ok (.iconst 1, 1) := by decide +kernel
theorem dX8_countAlike_21 : decode cX8_countAlike 21 = .ok (.iadd, 1) := by decide +kernel
theorem dX8_countAlike_22 : decode cX8_countAlike 22 = .ok (.istore_n 3, 1) := by decide +kernel
theorem dX8_countAlike_23 : decode cX8_countAlike 23 = .ok (.iload_n 3, 1) := by decide +kernel
theorem dX8_countAlike_24 : decode cX8_countAlike 24 = .ok (.aload_n 0, 1) := by decide +kernel
theorem dX8_countAlike_25 : decode cX8_countAlike 25 = .ok (.getfield 25, 3) := by decide +kernel
theorem dX8_countAlike_28 : decode cX8_countAlike 28 = .ok (.getfield 37, 3) := by decide +kernel
theorem dX8_countAlike_31 : decode cX8_countAlike 31 = .ok (.if_icmp .ge 27, 3) := by decide +kernel
theorem dX8_countAlike_34 : decode cX8_countAlike 34 = .ok (.aload_n 0, 1) := by decide +kernel
theorem dX8_countAlike_35 : decode cX8_countAlike 35 = .ok (.getfield 15, 3) := by decide +kernel
theorem dX8_countAlike_38 : decode cX8_countAlike 38 = .ok (.iload_n 2, 1) := by decide +kernel
theorem dX8_countAlike_39 : decode cX8_countAlike 39 = .ok (.iaload, 1) := by decide +kernel
theorem dX8_countAlike_40 : decode cX8_countAlike 40 = .ok (.aload_n 0, 1) := by decide +kernel
theorem dX8_countAlike_41 : decode cX8_countAlike 41 = .ok (.getfield 15, 3) := by decide +kernel
theorem dX8_countAlike_44 : decode cX8_countAlike 44 = .ok (.iload_n 3, 1) := by decide +kernel
theorem dX8_countAlike_45 : decode cX8_countAlike 45 = .ok (.iaload, 1) := by decide +kernel
theorem dX8_countAlike_46 : decode cX8_countAlike 46 = .ok (.if_icmp .ne 6, 3) := by decide +kernel
theorem dX8_countAlike_49 : decode cX8_countAlike 49 = .ok (.iinc 1 1, 3) := by decide +kernel
theorem dX8_countAlike_52 : decode cX8_countAlike 52 = .ok (.iinc 3 1, 3) := by decide +kernel
theorem dX8_countAlike_55 : decode cX8_countAlike 55 = .ok (.goto (-32), 3) := by decide +kernel
theorem dX8_countAlike_58 : decode cX8_countAlike 58 = .ok (.iinc 2 1, 3) := by decide +kernel
theorem dX8_countAlike_61 : decode cX8_countAlike 61 = .ok (.goto (-53), 3) := by decide +kernel
theorem dX8_countAlike_64 : decode cX8_countAlike 64 = .ok (.iload_n 1, 1) := by decide +kernel
theorem dX8_countAlike_65 : decode cX8_countAlike 65 = .ok (.ireturn, 1) := by decide +kernel
theorem dX8_bestPairs_0 : decode cX8_bestPairs 0 = .ok (.aload_n 0, 1) := by decide +kernel
theorem dX8_bestPairs_1 : decode cX8_bestPairs 1 = .ok (.invokevirtual 120, 3) := by decide +kernel
theorem dX8_bestPairs_4 : decode cX8_bestPairs 4 = .ok (.aload_n 0, 1) := by decide +kernel
theorem dX8_bestPairs_5 : decode cX8_bestPairs 5 = .ok (.getfield 18, 3) := by decide +kernel
theorem dX8_bestPairs_8 : decode cX8_bestPairs 8 = .ok (.iconst (-1), 1) := by decide +kernel
theorem dX8_bestPairs_9 : decode cX8_bestPairs 9 = .ok (.invokestatic 123, 3) := by decide +kernel
theorem dX8_bestPairs_12 : decode cX8_bestPairs 12 = .ok (.aload_n 0, 1) := by decide +kernel
theorem dX8_bestPairs_13 : decode cX8_bestPairs 13 = .ok (.iconst (-1), 1) := by decide +kernel
theorem dX8_bestPairs_14 : decode cX8_bestPairs 14 = .ok (.putfield 129, 3) := by decide +kernel
theorem dX8_bestPairs_17 : decode cX8_bestPairs 17 = .ok (.aload_n 0, 1) := by decide +kernel
theorem dX8_bestPairs_18 : decode cX8_bestPairs 18 = .ok (.iconst 0, 1) := by decide +kernel
theorem dX8_bestPairs_19 : decode cX8_bestPairs 19 = .ok (.iconst 0, 1) := by decide +kernel
theorem dX8_bestPairs_20 : decode cX8_bestPairs 20 = .ok (.invokevirtual 132, 3) := by decide +kernel
theorem dX8_bestPairs_23 : decode cX8_bestPairs 23 = .ok (.aload_n 0, 1) := by decide +kernel
theorem dX8_bestPairs_24 : decode cX8_bestPairs 24 = .ok (.getfield 129, 3) := by decide +kernel
theorem dX8_bestPairs_27 : decode cX8_bestPairs 27 = .ok (.ireturn, 1) := by decide +kernel
theorem dX8_pairFrom_0 : decode cX8_pairFrom 0 = .ok (.iload_n 1, 1) := by decide +kernel
theorem dX8_pairFrom_1 : decode cX8_pairFrom 1 = .ok (.ifCond .lt 14, 3) := by decide +kernel
theorem dX8_pairFrom_4 : decode cX8_pairFrom 4 = .ok (.iload_n 1, 1) := by decide +kernel
theorem dX8_pairFrom_5 : decode cX8_pairFrom 5 = .ok (.aload_n 0, 1) := by decide +kernel
theorem dX8_pairFrom_6 : decode cX8_pairFrom 6 = .ok (.getfield 25, 3) := by decide +kernel
theorem dX8_pairFrom_9 : decode cX8_pairFrom 9 = .ok (.getfield 37, 3) := by decide +kernel
theorem dX8_pairFrom_12 : decode cX8_pairFrom 12 = .ok (.if_icmp .lt 25, 3) := by decide +kernel
theorem dX8_pairFrom_15 : decode cX8_pairFrom 15 = .ok (.iload_n 2, 1) := by decide +kernel
theorem dX8_pairFrom_16 : decode cX8_pairFrom 16 = .ok (.aload_n 0, 1) := by decide +kernel
theorem dX8_pairFrom_17 : decode cX8_pairFrom 17 = .ok (.getfield 129, 3) := by decide +kernel
theorem dX8_pairFrom_20 : decode cX8_pairFrom 20 = .ok (.if_icmp .le 16, 3) := by decide +kernel
theorem dX8_pairFrom_23 : decode cX8_pairFrom 23 = .ok (.aload_n 0, 1) := by decide +kernel
theorem dX8_pairFrom_24 : decode cX8_pairFrom 24 = .ok (.iload_n 2, 1) := by decide +kernel
theorem dX8_pairFrom_25 : decode cX8_pairFrom 25 = .ok (.putfield 129, 3) := by decide +kernel
theorem dX8_pairFrom_28 : decode cX8_pairFrom 28 = .ok (.aload_n 0, 1) := by decide +kernel
theorem dX8_pairFrom_29 : decode cX8_pairFrom 29 = .ok (.aload_n 0, 1) := by decide +kernel
theorem dX8_pairFrom_30 : decode cX8_pairFrom 30 = .ok (.getfield 18, 3) := by decide +kernel
theorem dX8_pairFrom_33 : decode cX8_pairFrom 33 = .ok (.invokevirtual 77, 3) := by decide +kernel
theorem dX8_pairFrom_36 : decode cX8_pairFrom 36 = .ok (.return_, 1) := by decide +kernel
theorem dX8_pairFrom_37 : decode cX8_pairFrom 37 = .ok (.aload_n 0, 1) := by decide +kernel
theorem dX8_pairFrom_38 : decode cX8_pairFrom 38 = .ok (.iload_n 1, 1) := by decide +kernel
theorem dX8_pairFrom_39 : decode cX8_pairFrom 39 = .ok (.iconst 1, 1) := by decide +kernel
theorem dX8_pairFrom_40 : decode cX8_pairFrom 40 = .ok (.iadd, 1) := by decide +kernel
theorem dX8_pairFrom_41 : decode cX8_pairFrom 41 = .ok (.iload_n 2, 1) := by decide +kernel
theorem dX8_pairFrom_42 : decode cX8_pairFrom 42 = .ok (.invokevirtual 132, 3) := by decide +kernel
theorem dX8_pairFrom_45 : decode cX8_pairFrom 45 = .ok (.aload_n 0, 1) := by decide +kernel
theorem dX8_pairFrom_46 : decode cX8_pairFrom 46 = .ok (.getfield 18, 3) := by decide +kernel
theorem dX8_pairFrom_49 : decode cX8_pairFrom 49 = .ok (.iload_n 1, 1) := by decide +kernel
theorem dX8_pairFrom_50 : decode cX8_pairFrom 50 = .ok (.iaload, 1) := by decide +kernel
theorem dX8_pairFrom_51 : decode cX8_pairFrom 51 = .ok (.iconst (-1), 1) := by decide +kernel
theorem dX8_pairFrom_52 : decode cX8_pairFrom 52 = .ok (.if_icmp .eq 4, 3) := by decide +kernel
theorem dX8_pairFrom_55 : decode cX8_pairFrom 55 = .ok (.return_, 1) := by decide +kernel
theorem dX8_pairFrom_56 : decode cX8_pairFrom 56 = .ok (.iload_n 1, 1) := by decide +kernel
theorem dX8_pairFrom_57 : decode cX8_pairFrom 57 = .ok (.iconst 1, 1) := by decide +kernel
theorem dX8_pairFrom_58 : decode cX8_pairFrom 58 = .ok (.iadd, 1) := by decide +kernel
theorem dX8_pairFrom_59 : decode cX8_pairFrom 59 = .ok (.istore_n 3, 1) := by decide +kernel
theorem dX8_pairFrom_60 : decode cX8_pairFrom 60 = .ok (.iload_n 3, 1) := by decide +kernel
theorem dX8_pairFrom_61 : decode cX8_pairFrom 61 = .ok (.aload_n 0, 1) := by decide +kernel
theorem dX8_pairFrom_62 : decode cX8_pairFrom 62 = .ok (.getfield 25, 3) := by decide +kernel
theorem dX8_pairFrom_65 : decode cX8_pairFrom 65 = .ok (.getfield 37, 3) := by decide +kernel
theorem dX8_pairFrom_68 : decode cX8_pairFrom 68 = .ok (.if_icmp .ge 87, 3) := by decide +kernel
theorem dX8_pairFrom_71 : decode cX8_pairFrom 71 = .ok (.aload_n 0, 1) := by decide +kernel
theorem dX8_pairFrom_72 : decode cX8_pairFrom 72 = .ok (.getfield 18, 3) := by decide +kernel
theorem dX8_pairFrom_75 : decode cX8_pairFrom 75 = .ok (.iload_n 3, 1) := by decide +kernel
theorem dX8_pairFrom_76 : decode cX8_pairFrom 76 = .ok (.iaload, 1) := by decide +kernel
theorem dX8_pairFrom_77 : decode cX8_pairFrom 77 = .ok (.iconst (-1), 1) := by decide +kernel
theorem dX8_pairFrom_78 : decode cX8_pairFrom 78 = .ok (.if_icmp .ne 71, 3) := by decide +kernel
theorem dX8_pairFrom_81 : decode cX8_pairFrom 81 = .ok (.aload_n 0, 1) := by decide +kernel
theorem dX8_pairFrom_82 : decode cX8_pairFrom 82 = .ok (.getfield 29, 3) := by decide +kernel
theorem dX8_pairFrom_85 : decode cX8_pairFrom 85 = .ok (.getfield 135, 3) := by decide +kernel
theorem dX8_pairFrom_88 : decode cX8_pairFrom 88 = .ok (.iload_n 1, 1) := by decide +kernel
theorem dX8_pairFrom_89 : decode cX8_pairFrom 89 = .ok (.iaload, 1) := by decide +kernel
theorem dX8_pairFrom_90 : decode cX8_pairFrom 90 = .ok (.iconst 1, 1) := by decide +kernel
theorem dX8_pairFrom_91 : decode cX8_pairFrom 91 = .ok (.iload_n 3, 1) := by decide +kernel
theorem dX8_pairFrom_92 : decode cX8_pairFrom 92 = .ok (.ishl, 1) := by decide +kernel
theorem dX8_pairFrom_93 : decode cX8_pairFrom 93 = .ok (.iand, 1) := by decide +kernel
theorem dX8_pairFrom_94 : decode cX8_pairFrom 94 = .ok (.ifCond .ne 55, 3) := by decide +kernel
theorem dX8_pairFrom_97 : decode cX8_pairFrom 97 = .ok (.aload_n 0, 1) := by decide +kernel
theorem dX8_pairFrom_98 : decode cX8_pairFrom 98 = .ok (.getfield 18, 3) := by decide +kernel
theorem dX8_pairFrom_101 : decode cX8_pairFrom 101 = .ok (.iload_n 1, 1) := by decide +kernel
theorem dX8_pairFrom_102 : decode cX8_pairFrom 102 = .ok (.iload_n 3, 1) := by decide +kernel
theorem dX8_pairFrom_103 : decode cX8_pairFrom 103 = .ok (.iastore, 1) := by decide +kernel
theorem dX8_pairFrom_104 : decode cX8_pairFrom 104 = .ok (.aload_n 0, 1) := by decide +kernel
theorem dX8_pairFrom_105 : decode cX8_pairFrom 105 = .ok (.getfield 18, 3) := by decide +kernel
theorem dX8_pairFrom_108 : decode cX8_pairFrom 108 = .ok (.iload_n 3, 1) := by decide +kernel
theorem dX8_pairFrom_109 : decode cX8_pairFrom 109 = .ok (.iload_n 1, 1) := by decide +kernel
theorem dX8_pairFrom_110 : decode cX8_pairFrom 110 = .ok (.iastore, 1) := by decide +kernel
theorem dX8_pairFrom_111 : decode cX8_pairFrom 111 = .ok (.aload_n 0, 1) := by decide +kernel
theorem dX8_pairFrom_112 : decode cX8_pairFrom 112 = .ok (.iload_n 1, 1) := by decide +kernel
theorem dX8_pairFrom_113 : decode cX8_pairFrom 113 = .ok (.iconst 1, 1) := by decide +kernel
theorem dX8_pairFrom_114 : decode cX8_pairFrom 114 = .ok (.iadd, 1) := by decide +kernel
theorem dX8_pairFrom_115 : decode cX8_pairFrom 115 = .ok (.iload_n 2, 1) := by decide +kernel
theorem dX8_pairFrom_116 : decode cX8_pairFrom 116 = .ok (.aload_n 0, 1) := by decide +kernel
theorem dX8_pairFrom_117 : decode cX8_pairFrom 117 = .ok (.getfield 15, 3) := by decide +kernel
theorem dX8_pairFrom_120 : decode cX8_pairFrom 120 = .ok (.iload_n 1, 1) := by decide +kernel
theorem dX8_pairFrom_121 : decode cX8_pairFrom 121 = .ok (.iaload, 1) := by decide +kernel
theorem dX8_pairFrom_122 : decode cX8_pairFrom 122 = .ok (.aload_n 0, 1) := by decide +kernel
theorem dX8_pairFrom_123 : decode cX8_pairFrom 123 = .ok (.getfield 15, 3) := by decide +kernel
theorem dX8_pairFrom_126 : decode cX8_pairFrom 126 = .ok (.iload_n 3, 1) := by decide +kernel
theorem dX8_pairFrom_127 : decode cX8_pairFrom 127 = .ok (.iaload, 1) := by decide +kernel
theorem dX8_pairFrom_128 : decode cX8_pairFrom 128 = .ok (.invokestatic 138, 3) := by decide +kernel
theorem dX8_pairFrom_131 : decode cX8_pairFrom 131 = .ok (.iadd, 1) := by decide +kernel
theorem dX8_pairFrom_132 : decode cX8_pairFrom 132 = .ok (.invokevirtual 132, 3) := by decide +kernel
theorem dX8_pairFrom_135 : decode cX8_pairFrom 135 = .ok (.aload_n 0, 1) := by decide +kernel
theorem dX8_pairFrom_136 : decode cX8_pairFrom 136 = .ok (.getfield 18, 3) := by decide +kernel
theorem dX8_pairFrom_139 : decode cX8_pairFrom 139 = .ok (.iload_n 1, 1) := by decide +kernel
theorem dX8_pairFrom_140 : decode cX8_pairFrom 140 = .ok (.iconst (-1), 1) := by decide +kernel
theorem dX8_pairFrom_141 : decode cX8_pairFrom 141 = .ok (.iastore, 1) := by decide +kernel
theorem dX8_pairFrom_142 : decode cX8_pairFrom 142 = .ok (.aload_n 0, 1) := by decide +kernel
theorem dX8_pairFrom_143 : decode cX8_pairFrom 143 = .ok (.getfield 18, 3) := by decide +kernel
theorem dX8_pairFrom_146 : decode cX8_pairFrom 146 = .ok (.iload_n 3, 1) := by decide +kernel
theorem dX8_pairFrom_147 : decode cX8_pairFrom 147 = .ok (.iconst (-1), 1) := by decide +kernel
theorem dX8_pairFrom_148 : decode cX8_pairFrom 148 = .ok (.iastore, 1) := by decide +kernel
theorem dX8_pairFrom_149 : decode cX8_pairFrom 149 = .ok (.iinc 3 1, 3) := by decide +kernel
theorem dX8_pairFrom_152 : decode cX8_pairFrom 152 = .ok (.goto (-92), 3) := by decide +kernel
theorem dX8_pairFrom_155 : decode cX8_pairFrom 155 = .ok (.return_, 1) := by decide +kernel
theorem dX9_init_0 : decode cX9_init 0 = .ok (.aload_n 0, 1) := by decide +kernel
theorem dX9_init_1 : decode cX9_init 1 = .ok (.invokespecial 3, 3) := by decide +kernel
theorem dX9_init_4 : decode cX9_init 4 = .ok (.aload_n 0, 1) := by decide +kernel
theorem dX9_init_5 : decode cX9_init 5 = .ok (.iconst 5, 1) := by decide +kernel
theorem dX9_init_6 : decode cX9_init 6 = .ok (.newarray .int, 2) := by decide +kernel
theorem dX9_init_8 : decode cX9_init 8 = .ok (.putfield 9, 3) := by decide +kernel
theorem dX9_init_11 : decode cX9_init 11 = .ok (.aload_n 0, 1) := by decide +kernel
theorem dX9_init_12 : decode cX9_init 12 = .ok (.iconst 5, 1) := by decide +kernel
theorem dX9_init_13 : decode cX9_init 13 = .ok (.newarray .int, 2) := by decide +kernel
theorem dX9_init_15 : decode cX9_init 15 = .ok (.putfield 15, 3) := by decide +kernel
theorem dX9_init_18 : decode cX9_init 18 = .ok (.aload_n 0, 1) := by decide +kernel
theorem dX9_init_19 : decode cX9_init 19 = .ok (.iconst 5, 1) := by decide +kernel
theorem dX9_init_20 : decode cX9_init 20 = .ok (.newarray .int, 2) := by decide +kernel
theorem dX9_init_22 : decode cX9_init 22 = .ok (.putfield 18, 3) := by decide +kernel
theorem dX9_init_25 : decode cX9_init 25 = .ok (.aload_n 0, 1) := by decide +kernel
theorem dX9_init_26 : decode cX9_init 26 = .ok (.iconst 5, 1) := by decide +kernel
theorem dX9_init_27 : decode cX9_init 27 = .ok (.newarray .int, 2) := by decide +kernel
theorem dX9_init_29 : decode cX9_init 29 = .ok (.putfield 21, 3) := by decide +kernel
theorem dX9_init_32 : decode cX9_init 32 = .ok (.aload_n 0, 1) := by decide +kernel
theorem dX9_init_33 : decode cX9_init 33 = .ok (.iconst 5, 1) := by decide +kernel
theorem dX9_init_34 : decode cX9_init 34 = .ok (.newarray .int, 2) := by decide +kernel
theorem dX9_init_36 : decode cX9_init 36 = .ok (.putfield 24, 3) := by decide +kernel
theorem dX9_init_39 : decode cX9_init 39 = .ok (.aload_n 0, 1) := by decide +kernel
theorem dX9_init_40 : decode cX9_init 40 = .ok (.iconst 5, 1) := by decide +kernel
theorem dX9_init_41 : decode cX9_init 41 = .ok (.newarray .int, 2) := by decide +kernel
theorem dX9_init_43 : decode cX9_init 43 = .ok (.putfield 27, 3) := by decide +kernel
theorem dX9_init_46 : decode cX9_init 46 = .ok (.aload_n 0, 1) := by decide +kernel
theorem dX9_init_47 : decode cX9_init 47 = .ok (.iconst 5, 1) := by decide +kernel
theorem dX9_init_48 : decode cX9_init 48 = .ok (.newarray .int, 2) := by decide +kernel
theorem dX9_init_50 : decode cX9_init 50 = .ok (.putfield 30, 3) := by decide +kernel
theorem dX9_init_53 : decode cX9_init 53 = .ok (.return_, 1) := by decide +kernel
theorem dX9_begin_0 : decode cX9_begin 0 = .ok (.aload_n 0, 1) := by decide +kernel
theorem dX9_begin_1 : decode cX9_begin 1 = .ok (.getfield 9, 3) := by decide +kernel
theorem dX9_begin_4 : decode cX9_begin 4 = .ok (.iconst 0, 1) := by decide +kernel
theorem dX9_begin_5 : decode cX9_begin 5 = .ok (.invokestatic 33, 3) := by decide +kernel
theorem dX9_begin_8 : decode cX9_begin 8 = .ok (.aload_n 0, 1) := by decide +kernel
theorem dX9_begin_9 : decode cX9_begin 9 = .ok (.getfield 15, 3) := by decide +kernel
theorem dX9_begin_12 : decode cX9_begin 12 = .ok (.iconst (-1), 1) := by decide +kernel
theorem dX9_begin_13 : decode cX9_begin 13 = .ok (.invokestatic 33, 3) := by decide +kernel
theorem dX9_begin_16 : decode cX9_begin 16 = .ok (.aload_n 1, 1) := by decide +kernel
theorem dX9_begin_17 : decode cX9_begin 17 = .ok (.getfield 39, 3) := by decide +kernel
theorem dX9_begin_20 : decode cX9_begin 20 = .ok (.iconst 0, 1) := by decide +kernel
theorem dX9_begin_21 : decode cX9_begin 21 = .ok (.aload_n 0, 1) := by decide +kernel
theorem dX9_begin_22 : decode cX9_begin 22 = .ok (.getfield 18, 3) := by decide +kernel
theorem dX9_begin_25 : decode cX9_begin 25 = .ok (.iconst 0, 1) := by decide +kernel
theorem dX9_begin_26 : decode cX9_begin 26 = .ok (.iconst 5, 1) := by decide +kernel
theorem dX9_begin_27 : decode cX9_begin 27 = .ok (.invokestatic 42, 3) := by decide +kernel
theorem dX9_begin_30 : decode cX9_begin 30 = .ok (.aload_n 0, 1) := by decide +kernel
theorem dX9_begin_31 : decode cX9_begin 31 = .ok (.getfield 21, 3) := by decide +kernel
theorem dX9_begin_34 : decode cX9_begin 34 = .ok (.iconst 0, 1) := by decide +kernel
theorem dX9_begin_35 : decode cX9_begin 35 = .ok (.invokestatic 33, 3) := by decide +kernel
theorem dX9_begin_38 : decode cX9_begin 38 = .ok (.aload_n 1, 1) := by decide +kernel
theorem dX9_begin_39 : decode cX9_begin 39 = .ok (.getfield 48, 3) := by decide +kernel
theorem dX9_begin_42 : decode cX9_begin 42 = .ok (.iconst 0, 1) := by decide +kernel
theorem dX9_begin_43 : decode cX9_begin 43 = .ok (.aload_n 0, 1) := by decide +kernel
theorem dX9_begin_44 : decode cX9_begin 44 = .ok (.getfield 24, 3) := by decide +kernel
theorem dX9_begin_47 : decode cX9_begin 47 = .ok (.iconst 0, 1) := by decide +kernel
theorem dX9_begin_48 : decode cX9_begin 48 = .ok (.iconst 5, 1) := by decide +kernel
theorem dX9_begin_49 : decode cX9_begin 49 = .ok (.invokestatic 42, 3) := by decide +kernel
theorem dX9_begin_52 : decode cX9_begin 52 = .ok (.aload_n 0, 1) := by decide +kernel
theorem dX9_begin_53 : decode cX9_begin 53 = .ok (.getfield 27, 3) := by decide +kernel
theorem dX9_begin_56 : decode cX9_begin 56 = .ok (.iconst 0, 1) := by decide +kernel
theorem dX9_begin_57 : decode cX9_begin 57 = .ok (.invokestatic 33, 3) := by decide +kernel
theorem dX9_begin_60 : decode cX9_begin 60 = .ok (.aload_n 0, 1) := by decide +kernel
theorem dX9_begin_61 : decode cX9_begin 61 = .ok (.getfield 30, 3) := by decide +kernel
theorem dX9_begin_64 : decode cX9_begin 64 = .ok (.iconst 0, 1) := by decide +kernel
theorem dX9_begin_65 : decode cX9_begin 65 = .ok (.invokestatic 33, 3) := by decide +kernel
theorem dX9_begin_68 : decode cX9_begin 68 = .ok (.aload_n 0, 1) := by decide +kernel
theorem dX9_begin_69 : decode cX9_begin 69 = .ok (.aload_n 1, 1) := by decide +kernel
theorem dX9_begin_70 : decode cX9_begin 70 = .ok (.getfield 49, 3) := by decide +kernel
theorem dX9_begin_73 : decode cX9_begin 73 = .ok (.putfield 53, 3) := by decide +kernel
theorem dX9_begin_76 : decode cX9_begin 76 = .ok (.aload_n 0, 1) := by decide +kernel
theorem dX9_begin_77 : decode cX9_begin 77 = .ok (.aload_n 1, 1) := by decide +kernel
theorem dX9_begin_78 : decode cX9_begin 78 = .ok (.getfield 54, 3) := by decide +kernel
theorem dX9_begin_81 : decode cX9_begin 81 = .ok (.putfield 57, 3) := by decide +kernel
theorem dX9_begin_84 : decode cX9_begin 84 = .ok (.aload_n 0, 1) := by decide +kernel
theorem dX9_begin_85 : decode cX9_begin 85 = .ok (.iconst 0, 1) := by decide +kernel
theorem dX9_begin_86 : decode cX9_begin 86 = .ok (.putfield 60, 3) := by decide +kernel
theorem dX9_begin_89 : decode cX9_begin 89 = .ok (.return_, 1) := by decide +kernel
theorem dX9_take_0 : decode cX9_take 0 = .ok (.aload_n 1, 1) := by decide +kernel
theorem dX9_take_1 : decode cX9_take 1 = .ok (.getfield 9, 3) := by decide +kernel
theorem dX9_take_4 : decode cX9_take 4 = .ok (.iconst 0, 1) := by decide +kernel
theorem dX9_take_5 : decode cX9_take 5 = .ok (.aload_n 0, 1) := by decide +kernel
theorem dX9_take_6 : decode cX9_take 6 = .ok (.getfield 9, 3) := by decide +kernel
theorem dX9_take_9 : decode cX9_take 9 = .ok (.iconst 0, 1) := by decide +kernel
theorem dX9_take_10 : decode cX9_take 10 = .ok (.iconst 5, 1) := by decide +kernel
theorem dX9_take_11 : decode cX9_take 11 = .ok (.invokestatic 42, 3) := by decide +kernel
theorem dX9_take_14 : decode cX9_take 14 = .ok (.aload_n 1, 1) := by decide +kernel
theorem dX9_take_15 : decode cX9_take 15 = .ok (.getfield 15, 3) := by decide +kernel
theorem dX9_take_18 : decode cX9_take 18 = .ok (.iconst 0, 1) := by decide +kernel
theorem dX9_take_19 : decode cX9_take 19 = .ok (.aload_n 0, 1) := by decide +kernel
theorem dX9_take_20 : decode cX9_take 20 = .ok (.getfield 15, 3) := by decide +kernel
theorem dX9_take_23 : decode cX9_take 23 = .ok (.iconst 0, 1) := by decide +kernel
theorem dX9_take_24 : decode cX9_take 24 = .ok (.iconst 5, 1) := by decide +kernel
theorem dX9_take_25 : decode cX9_take 25 = .ok (.invokestatic 42, 3) := by decide +kernel
theorem dX9_take_28 : decode cX9_take 28 = .ok (.aload_n 1, 1) := by decide +kernel
theorem dX9_take_29 : decode cX9_take 29 = .ok (.getfield 18, 3) := by decide +kernel
theorem dX9_take_32 : decode cX9_take 32 = .ok (.iconst 0, 1) := by decide +kernel
theorem dX9_take_33 : decode cX9_take 33 = .ok (.aload_n 0, 1) := by decide +kernel
theorem dX9_take_34 : decode cX9_take 34 = .ok (.getfield 18, 3) := by decide +kernel
theorem dX9_take_37 : decode cX9_take 37 = .ok (.iconst 0, 1) := by decide +kernel
theorem dX9_take_38 : decode cX9_take 38 = .ok (.iconst 5, 1) := by decide +kernel
theorem dX9_take_39 : decode cX9_take 39 = .ok (.invokestatic 42, 3) := by decide +kernel
theorem dX9_take_42 : decode cX9_take 42 = .ok (.aload_n 1, 1) := by decide +kernel
theorem dX9_take_43 : decode cX9_take 43 = .ok (.getfield 21, 3) := by decide +kernel
theorem dX9_take_46 : decode cX9_take 46 = .ok (.iconst 0, 1) := by decide +kernel
theorem dX9_take_47 : decode cX9_take 47 = .ok (.aload_n 0, 1) := by decide +kernel
theorem dX9_take_48 : decode cX9_take 48 = .ok (.getfield 21, 3) := by decide +kernel
theorem dX9_take_51 : decode cX9_take 51 = .ok (.iconst 0, 1) := by decide +kernel
theorem dX9_take_52 : decode cX9_take 52 = .ok (.iconst 5, 1) := by decide +kernel
theorem dX9_take_53 : decode cX9_take 53 = .ok (.invokestatic 42, 3) := by decide +kernel
theorem dX9_take_56 : decode cX9_take 56 = .ok (.aload_n 1, 1) := by decide +kernel
theorem dX9_take_57 : decode cX9_take 57 = .ok (.getfield 24, 3) := by decide +kernel
theorem dX9_take_60 : decode cX9_take 60 = .ok (.iconst 0, 1) := by decide +kernel
theorem dX9_take_61 : decode cX9_take 61 = .ok (.aload_n 0, 1) := by decide +kernel
theorem dX9_take_62 : decode cX9_take 62 = .ok (.getfield 24, 3) := by decide +kernel
theorem dX9_take_65 : decode cX9_take 65 = .ok (.iconst 0, 1) := by decide +kernel
theorem dX9_take_66 : decode cX9_take 66 = .ok (.iconst 5, 1) := by decide +kernel
theorem dX9_take_67 : decode cX9_take 67 = .ok (.invokestatic 42, 3) := by decide +kernel
theorem dX9_take_70 : decode cX9_take 70 = .ok (.aload_n 1, 1) := by decide +kernel
theorem dX9_take_71 : decode cX9_take 71 = .ok (.getfield 27, 3) := by decide +kernel
theorem dX9_take_74 : decode cX9_take 74 = .ok (.iconst 0, 1) := by decide +kernel
theorem dX9_take_75 : decode cX9_take 75 = .ok (.aload_n 0, 1) := by decide +kernel
theorem dX9_take_76 : decode cX9_take 76 = .ok (.getfield 27, 3) := by decide +kernel
theorem dX9_take_79 : decode cX9_take 79 = .ok (.iconst 0, 1) := by decide +kernel
theorem dX9_take_80 : decode cX9_take 80 = .ok (.iconst 5, 1) := by decide +kernel
theorem dX9_take_81 : decode cX9_take 81 = .ok (.invokestatic 42, 3) := by decide +kernel
theorem dX9_take_84 : decode cX9_take 84 = .ok (.aload_n 1, 1) := by decide +kernel
theorem dX9_take_85 : decode cX9_take 85 = .ok (.getfield 30, 3) := by decide +kernel
theorem dX9_take_88 : decode cX9_take 88 = .ok (.iconst 0, 1) := by decide +kernel
theorem dX9_take_89 : decode cX9_take 89 = .ok (.aload_n 0, 1) := by decide +kernel
theorem dX9_take_90 : decode cX9_take 90 = .ok (.getfield 30, 3) := by decide +kernel
theorem dX9_take_93 : decode cX9_take 93 = .ok (.iconst 0, 1) := by decide +kernel
theorem dX9_take_94 : decode cX9_take 94 = .ok (.iconst 5, 1) := by decide +kernel
theorem dX9_take_95 : decode cX9_take 95 = .ok (.invokestatic 42, 3) := by decide +kernel
theorem dX9_take_98 : decode cX9_take 98 = .ok (.aload_n 0, 1) := by decide +kernel
theorem dX9_take_99 : decode cX9_take 99 = .ok (.aload_n 1, 1) := by decide +kernel
theorem dX9_take_100 : decode cX9_take 100 = .ok (.getfield 53, 3) := by decide +kernel
theorem dX9_take_103 : decode cX9_take 103 = .ok (.putfield 53, 3) := by decide +kernel
theorem dX9_take_106 : decode cX9_take 106 = .ok (.aload_n 0, 1) := by decide +kernel
theorem dX9_take_107 : decode cX9_take 107 = .ok (.aload_n 1, 1) := by decide +kernel
theorem dX9_take_108 : decode cX9_take 108 = .ok (.getfield 57, 3) := by decide +kernel
theorem dX9_take_111 : decode cX9_take 111 = .ok (.putfield 57, 3) := by decide +kernel
theorem dX9_take_114 : decode cX9_take 114 = .ok (.aload_n 0, 1) := by decide +kernel
theorem dX9_take_115 : decode cX9_take 115 = .ok (.aload_n 1, 1) := by decide +kernel
theorem dX9_take_116 : decode cX9_take 116 = .ok (.getfield 60, 3) := by decide +kernel
theorem dX9_take_119 : decode cX9_take 119 = .ok (.putfield 60, 3) := by decide +kernel
theorem dX9_take_122 : decode cX9_take 122 = .ok (.return_, 1) := by decide +kernel
theorem dX9_sayers_0 : decode cX9_sayers 0 = .ok (.iconst 0, 1) := by decide +kernel
theorem dX9_sayers_1 : decode cX9_sayers 1 = .ok (.istore_n 1, 1) := by decide +kernel
theorem dX9_sayers_2 : decode cX9_sayers 2 = .ok (.iconst 0, 1) := by decide +kernel
theorem dX9_sayers_3 : decode cX9_sayers 3 = .ok (.istore_n 2, 1) := by decide +kernel
theorem dX9_sayers_4 : decode cX9_sayers 4 = .ok (.iload_n 2, 1) := by decide +kernel
theorem dX9_sayers_5 : decode cX9_sayers 5 = .ok (.iconst 5, 1) := by decide +kernel
theorem dX9_sayers_6 : decode cX9_sayers 6 = .ok (.if_icmp .ge 25, 3) := by decide +kernel
theorem dX9_sayers_9 : decode cX9_sayers 9 = .ok (.aload_n 0, 1) := by decide +kernel
theorem dX9_sayers_10 : decode cX9_sayers 10 = .ok (.getfield 15, 3) := by decide +kernel
theorem dX9_sayers_13 : decode cX9_sayers 13 = .ok (.iload_n 2, 1) := by decide +kernel
theorem dX9_sayers_14 : decode cX9_sayers 14 = .ok (.iaload, 1) := by decide +kernel
theorem dX9_sayers_15 : decode cX9_sayers 15 = .ok (.iconst (-1), 1) := by decide +kernel
theorem dX9_sayers_16 : decode cX9_sayers 16 = .ok (.if_icmp .eq 9, 3) := by decide +kernel
theorem dX9_sayers_19 : decode cX9_sayers 19 = .ok (.iload_n 1, 1) := by decide +kernel
theorem dX9_sayers_20 : decode cX9_sayers 20 = .ok (.iconst 1, 1) := by decide +kernel
theorem dX9_sayers_21 : decode cX9_sayers 21 = .ok (.iload_n 2, 1) := by decide +kernel
theorem dX9_sayers_22 : decode cX9_sayers 22 = .ok (.ishl, 1) := by decide +kernel
theorem dX9_sayers_23 : decode cX9_sayers 23 = .ok (.ior, 1) := by decide +kernel
theorem dX9_sayers_24 : decode cX9_sayers 24 = .ok (.istore_n 1, 1) := by decide +kernel
theorem dX9_sayers_25 : decode cX9_sayers 25 = .ok (.iinc 2 1, 3) := by decide +kernel
theorem dX9_sayers_28 : decode cX9_sayers 28 = .ok (.goto (-24), 3) := by decide +kernel
theorem dX9_sayers_31 : decode cX9_sayers 31 = .ok (.iload_n 1, 1) := by decide +kernel
theorem dX9_sayers_32 : decode cX9_sayers 32 = .ok (.ireturn, 1) := by decide +kernel
theorem dX9_sayersOf_0 : decode cX9_sayersOf 0 = .ok (.iconst 0, 1) := by decide +kernel
theorem dX9_sayersOf_1 : decode cX9_sayersOf 1 = .ok (.istore_n 2, 1) := by decide +kernel
theorem dX9_sayersOf_2 : decode cX9_sayersOf 2 = .ok (.iconst 0, 1) := by decide +kernel
theorem dX9_sayersOf_3 : decode cX9_sayersOf 3 = .ok (.istore_n 3, 1) := by decide +kernel
theorem dX9_sayersOf_4 : decode cX9_sayersOf 4 = .ok (.iload_n 3, 1) := by decide +kernel
theorem dX9_sayersOf_5 : decode cX9_sayersOf 5 = .ok (.iconst 5, 1) := by decide +kernel
theorem dX9_sayersOf_6 : decode cX9_sayersOf 6 = .ok (.if_icmp .ge 25, 3) := by decide +kernel
theorem dX9_sayersOf_9 : decode cX9_sayersOf 9 = .ok (.aload_n 0, 1) := by decide +kernel
theorem dX9_sayersOf_10 : decode cX9_sayersOf 10 = .ok (.getfield 15, 3) := by decide +kernel
theorem dX9_sayersOf_13 : decode cX9_sayersOf 13 = .ok (.iload_n 3, 1) := by decide +kernel
theorem dX9_sayersOf_14 : decode cX9_sayersOf 14 = .ok (.iaload, 1) := by decide +kernel
theorem dX9_sayersOf_15 : decode cX9_sayersOf 15 = .ok (.iload_n 1, 1) := by decide +kernel
theorem dX9_sayersOf_16 : decode cX9_sayersOf 16 = .ok (.if_icmp .ne 9, 3) := by decide +kernel
theorem dX9_sayersOf_19 : decode cX9_sayersOf 19 = .ok (.iload_n 2, 1) := by decide +kernel
theorem dX9_sayersOf_20 : decode cX9_sayersOf 20 = .ok (.iconst 1, 1) := by decide +kernel
theorem dX9_sayersOf_21 : decode cX9_sayersOf 21 = .ok (.iload_n 3, 1) := by decide +kernel
theorem dX9_sayersOf_22 : decode cX9_sayersOf 22 = .ok (.ishl, 1) := by decide +kernel
theorem dX9_sayersOf_23 : decode cX9_sayersOf 23 = .ok (.ior, 1) := by decide +kernel
theorem dX9_sayersOf_24 : decode cX9_sayersOf 24 = .ok (.istore_n 2, 1) := by decide +kernel
theorem dX9_sayersOf_25 : decode cX9_sayersOf 25 = .ok (.iinc 3 1, 3) := by decide +kernel
theorem dX9_sayersOf_28 : decode cX9_sayersOf 28 = .ok (.goto (-24), 3) := by decide +kernel
theorem dX9_sayersOf_31 : decode cX9_sayersOf 31 = .ok (.iload_n 2, 1) := by decide +kernel
theorem dX9_sayersOf_32 : decode cX9_sayersOf 32 = .ok (.ireturn, 1) := by decide +kernel
theorem dX9_quarrel_0 : decode cX9_quarrel 0 = .ok (.iconst 0, 1) := by decide +kernel
theorem dX9_quarrel_1 : decode cX9_quarrel 1 = .ok (.istore_n 2, 1) := by decide +kernel
theorem dX9_quarrel_2 : decode cX9_quarrel 2 = .ok (.iload_n 2, 1) := by decide +kernel
theorem dX9_quarrel_3 : decode cX9_quarrel 3 = .ok (.iconst 5, 1) := by decide +kernel
theorem dX9_quarrel_4 : decode cX9_quarrel 4 = .ok (.if_icmp .ge 30, 3) := by decide +kernel
theorem dX9_quarrel_7 : decode cX9_quarrel 7 = .ok (.iload_n 1, 1) := by decide +kernel
theorem dX9_quarrel_8 : decode cX9_quarrel 8 = .ok (.iconst 1, 1) := by decide +kernel
theorem dX9_quarrel_9 : decode cX9_quarrel 9 = .ok (.iload_n 2, 1) := by decide +kernel
theorem dX9_quarrel_10 : decode cX9_quarrel 10 = .ok (.ishl, 1) := by decide +kernel
theorem dX9_quarrel_11 : decode cX9_quarrel 11 = .ok (.iand, 1) := by decide +kernel
theorem dX9_quarrel_12 : decode cX9_quarrel 12 = .ok (.ifCond .eq 16, 3) := by decide +kernel
theorem dX9_quarrel_15 : decode cX9_quarrel 15 = .ok (.aload_n 0, 1) := by decide +kernel
theorem dX9_quarrel_16 : decode cX9_quarrel 16 = .ok (.getfield 24, 3) := by decide +kernel
theorem dX9_quarrel_19 : decode cX9_quarrel 19 = .ok (.iload_n 2, 1) := by decide +kernel
theorem dX9_quarrel_20 : decode cX9_quarrel 20 = .ok (.iaload, 1) := by decide +kernel
theorem dX9_quarrel_21 : decode cX9_quarrel 21 = .ok (.iload_n 1, 1) := by decide +kernel
theorem dX9_quarrel_22 : decode cX9_quarrel 22 = .ok (.iand, 1) := by decide +kernel
theorem dX9_quarrel_23 : decode cX9_quarrel 23 = .ok (.ifCond .eq 5, 3) := by decide +kernel
theorem dX9_quarrel_26 : decode cX9_quarrel 26 = .ok (.iconst 1, 1) := by decide +kernel
theorem dX9_quarrel_27 : decode cX9_quarrel 27 = .ok (.ireturn, 1) := by decide +kernel
theorem dX9_quarrel_28 : decode cX9_quarrel 28 = .ok (.iinc 2 1, 3) := by decide +kernel
theorem dX9_quarrel_31 : decode cX9_quarrel 31 = .ok (.goto (-29), 3) := by decide +kernel
theorem dX9_quarrel_34 : decode cX9_quarrel 34 = .ok (.iconst 0, 1) := by decide +kernel
theorem dX9_quarrel_35 : decode cX9_quarrel 35 = .ok (.ireturn, 1) := by decide +kernel
theorem dX9_countFeuds_0 : decode cX9_countFeuds 0 = .ok (.iconst 0, 1) := by decide +kernel
theorem dX9_countFeuds_1 : decode cX9_countFeuds 1 = .ok (.istore_n 1, 1) := by decide +kernel
theorem dX9_countFeuds_2 : decode cX9_countFeuds 2 = .ok (.iconst 0, 1) := by decide +kernel
theorem dX9_countFeuds_3 : decode cX9_countFeuds 3 = .ok (.istore_n 2, 1) := by decide +kernel
theorem dX9_countFeuds_4 : decode cX9_countFeuds 4 = .ok (.iload_n 2, 1) := by decide +kernel
theorem dX9_countFeuds_5 : decode cX9_countFeuds 5 = .ok (.iconst 5, 1) := by decide +kernel
theorem dX9_countFeuds_6 : decode cX9_countFeuds 6 = .ok (.if_icmp .ge 21, 3) := by decide +kernel
theorem dX9_countFeuds_9 : decode cX9_countFeuds 9 = .ok (.iload_n 1, 1) := by decide +kernel
theorem dX9_countFeuds_10 : decode cX9_countFeuds 10 = .ok (.aload_n 0, 1) := by decide +kernel
theorem dX9_countFeuds_11 : decode cX9_countFeuds 11 = .ok (.getfield 24, 3) := by decide +kernel
theorem dX9_countFeuds_14 : decode cX9_countFeuds 14 = .ok (.iload_n 2, 1) := by decide +kernel
theorem dX9_countFeuds_15 : decode cX9_countFeuds 15 = .ok (.iaload, 1) := by decide +kernel
theorem dX9_countFeuds_16 : decode cX9_countFeuds 16 = .ok (.invokestatic 63, 3) := by decide +kernel
theorem dX9_countFeuds_19 : decode cX9_countFeuds 19 = .ok (.iadd, 1) := by decide +kernel
theorem dX9_countFeuds_20 : decode cX9_countFeuds 20 = .ok (.istore_n 1, 1) := by decide +kernel
theorem dX9_countFeuds_21 : decode cX9_countFeuds 21 = .ok (.iinc 2 1, 3) := by decide +kernel
theorem dX9_countFeuds_24 : decode cX9_countFeuds 24 = .ok (.goto (-20), 3) := by decide +kernel
theorem dX9_countFeuds_27 : decode cX9_countFeuds 27 = .ok (.iload_n 1, 1) := by decide +kernel
theorem dX9_countFeuds_28 : decode cX9_countFeuds 28 = .ok (.iconst 2, 1) := by decide +kernel
theorem dX9_countFeuds_29 : decode cX9_countFeuds 29 = .ok (.idiv, 1) := by decide +kernel
theorem dX9_countFeuds_30 : decode cX9_countFeuds 30 = .ok (.ireturn, 1) := by decide +kernel
theorem dX9_endWeekOf_0 : decode cX9_endWeekOf 0 = .ok (.iload_n 1, 1) := by decide +kernel
theorem dX9_endWeekOf_1 : decode cX9_endWeekOf 1 = .ok (.ifCond .lt 8, 3) := by decide +kernel
theorem dX9_endWeekOf_4 : decode cX9_endWeekOf 4 = .ok (.iload_n 1, 1) := by decide +kernel
theorem dX9_endWeekOf_5 : decode cX9_endWeekOf 5 = .ok (.iconst 5, 1) := by decide +kernel
theorem dX9_endWeekOf_6 : decode cX9_endWeekOf 6 = .ok (.if_icmp .lt 4, 3) := by decide +kernel
theorem dX9_endWeekOf_9 : decode cX9_endWeekOf 9 = .ok (.return_, 1) := by decide +kernel
theorem dX9_endWeekOf_10 : decode cX9_endWeekOf 10 = .ok (.iload_n 3, 1) := by decide +kernel
theorem dX9_endWeekOf_11 : decode cX9_endWeekOf 11 = .ok (.ifCond .eq 13, 3) := by decide +kernel
theorem dX9_endWeekOf_14 : decode cX9_endWeekOf 14 = .ok (.aload_n 0, 1) := by decide +kernel
theorem dX9_endWeekOf_15 : decode cX9_endWeekOf 15 = .ok (.getfield 27, 3) := by decide +kernel
theorem dX9_endWeekOf_18 : decode cX9_endWeekOf 18 = .ok (.iload_n 1, 1) := by decide +kernel
theorem dX9_endWeekOf_19 : decode cX9_endWeekOf 19 = .ok (.dup2, 1) := by decide +kernel
theorem dX9_endWeekOf_20 : decode cX9_endWeekOf 20 = .ok (.iaload, 1) := by decide +kernel
theorem dX9_endWeekOf_21 : decode cX9_endWeekOf 21 = .ok (.iconst 1, 1) := by decide +kernel
theorem dX9_endWeekOf_22 : decode cX9_endWeekOf 22 = .ok (.iadd, 1) := by decide +kernel
theorem dX9_endWeekOf_23 : decode cX9_endWeekOf 23 = .ok (.iastore, 1) := by decide +kernel
theorem dX9_endWeekOf_24 : decode cX9_endWeekOf 24 = .ok (.aload_n 0, 1) := by decide +kernel
theorem dX9_endWeekOf_25 : decode cX9_endWeekOf 25 = .ok (.getfield 15, 3) := by decide +kernel
theorem dX9_endWeekOf_28 : decode cX9_endWeekOf 28 = .ok (.iload_n 1, 1) := by decide +kernel
theorem dX9_endWeekOf_29 : decode cX9_endWeekOf 29 = .ok (.iaload, 1) := by decide +kernel
theorem dX9_endWeekOf_30 : decode cX9_endWeekOf 30 = .ok (.iconst (-1), 1) := by decide +kernel
theorem dX9_endWeekOf_31 : decode cX9_endWeekOf 31 = .ok (.if_icmp .eq 23, 3) := by decide +kernel
theorem dX9_endWeekOf_34 : decode cX9_endWeekOf 34 = .ok (.aload_n 0, 1) := by decide +kernel
theorem dX9_endWeekOf_35 : decode cX9_endWeekOf 35 = .ok (.getfield 15, 3) := by decide +kernel
theorem dX9_endWeekOf_38 : decode cX9_endWeekOf 38 = .ok (.iload_n 1, 1) := by decide +kernel
theorem dX9_endWeekOf_39 : decode cX9_endWeekOf 39 = .ok (.iaload, 1) := by decide +kernel
theorem dX9_endWeekOf_40 : decode cX9_endWeekOf 40 = .ok (.iload_n 1, 1) := by decide +kernel
theorem dX9_endWeekOf_41 : decode cX9_endWeekOf 41 = .ok (.if_icmp .eq 13, 3) := by decide +kernel
theorem dX9_endWeekOf_44 : decode cX9_endWeekOf 44 = .ok (.aload_n 0, 1) := by decide +kernel
theorem dX9_endWeekOf_45 : decode cX9_endWeekOf 45 = .ok (.getfield 30, 3) := by decide +kernel
theorem dX9_endWeekOf_48 : decode cX9_endWeekOf 48 = .ok (.iload_n 1, 1) := by decide +kernel
theorem dX9_endWeekOf_49 : decode cX9_endWeekOf 49 = .ok (.dup2, 1) := by decide +kernel
theorem dX9_endWeekOf_50 : decode cX9_endWeekOf 50 = .ok (.iaload, 1) := by decide +kernel
theorem dX9_endWeekOf_51 : decode cX9_endWeekOf 51 = .ok (.iconst 1, 1) := by decide +kernel
theorem dX9_endWeekOf_52 : decode cX9_endWeekOf 52 = .ok (.iadd, 1) := by decide +kernel
theorem dX9_endWeekOf_53 : decode cX9_endWeekOf 53 = .ok (.iastore, 1) := by decide +kernel
theorem dX9_endWeekOf_54 : decode cX9_endWeekOf 54 = .ok (.aload_n 0, 1) := by decide +kernel
theorem dX9_endWeekOf_55 : decode cX9_endWeekOf 55 = .ok (.getfield 21, 3) := by decide +kernel
theorem dX9_endWeekOf_58 : decode cX9_endWeekOf 58 = .ok (.iload_n 1, 1) := by decide +kernel
theorem dX9_endWeekOf_59 : decode cX9_endWeekOf 59 = .ok (.iload_n 2, 1) := by decide +kernel
theorem dX9_endWeekOf_60 : decode cX9_endWeekOf 60 = .ok (.iastore, 1) := by decide +kernel
theorem dX9_endWeekOf_61 : decode cX9_endWeekOf 61 = .ok (.aload_n 0, 1) := by decide +kernel
theorem dX9_endWeekOf_62 : decode cX9_endWeekOf 62 = .ok (.getfield 18, 3) := by decide +kernel
theorem dX9_endWeekOf_65 : decode cX9_endWeekOf 65 = .ok (.iload_n 1, 1) := by decide +kernel
theorem dX9_endWeekOf_66 : decode cX9_endWeekOf 66 = .ok (.bipush 99, 2) := by decide +kernel
theorem dX9_endWeekOf_68 : decode cX9_endWeekOf 68 = .ok (.aload_n 0, 1) := by decide +kernel
theorem dX9_endWeekOf_69 : decode cX9_endWeekOf 69 = .ok (.getfield 18, 3) := by decide +kernel
theorem dX9_endWeekOf_72 : decode cX9_endWeekOf 72 = .ok (.iload_n 1, 1) := by decide +kernel
theorem dX9_endWeekOf_73 : decode cX9_endWeekOf 73 = .ok (.iaload, 1) := by decide +kernel
theorem dX9_endWeekOf_74 : decode cX9_endWeekOf 74 = .ok (.iconst 1, 1) := by decide +kernel
theorem dX9_endWeekOf_75 : decode cX9_endWeekOf 75 = .ok (.iadd, 1) := by decide +kernel
theorem dX9_endWeekOf_76 : decode cX9_endWeekOf 76 = .ok (.invokestatic 69, 3) := by decide +kernel
theorem dX9_endWeekOf_79 : decode cX9_endWeekOf 79 = .ok (.iastore, 1) := by decide +kernel
theorem dX9_endWeekOf_80 : decode cX9_endWeekOf 80 = .ok (.return_, 1) := by decide +kernel
theorem dX9_beginWeek_0 : decode cX9_beginWeek 0 = .ok (.aload_n 0, 1) := by decide +kernel
theorem dX9_beginWeek_1 : decode cX9_beginWeek 1 = .ok (.getfield 9, 3) := by decide +kernel
theorem dX9_beginWeek_4 : decode cX9_beginWeek 4 = .ok (.iconst 0, 1) := by decide +kernel
theorem dX9_beginWeek_5 : decode cX9_beginWeek 5 = .ok (.invokestatic 33, 3) := by decide +kernel
theorem dX9_beginWeek_8 : decode cX9_beginWeek 8 = .ok (.aload_n 0, 1) := by decide +kernel
theorem dX9_beginWeek_9 : decode cX9_beginWeek 9 = .ok (.getfield 15, 3) := by decide +kernel
theorem dX9_beginWeek_12 : decode cX9_beginWeek 12 = .ok (.iconst (-1), 1) := by decide +kernel
theorem dX9_beginWeek_13 : decode cX9_beginWeek 13 = .ok (.invokestatic 33, 3) := by decide +kernel
theorem dX9_beginWeek_16 : decode cX9_beginWeek 16 = .ok (.aload_n 0, 1) := by decide +kernel
theorem dX9_beginWeek_17 : decode cX9_beginWeek 17 = .ok (.aload_n 0, 1) := by decide +kernel
theorem dX9_beginWeek_18 : decode cX9_beginWeek 18 = .ok (.getfield 57, 3) := by decide +kernel
theorem dX9_beginWeek_21 : decode cX9_beginWeek 21 = .ok (.invokestatic 75, 3) := by decide +kernel
theorem dX9_beginWeek_24 : decode cX9_beginWeek 24 = .ok (.putfield 57, 3) := by decide +kernel
theorem dX9_beginWeek_27 : decode cX9_beginWeek 27 = .ok (.aload_n 0, 1) := by decide +kernel
theorem dX9_beginWeek_28 : decode cX9_beginWeek 28 = .ok (.aload_n 0, 1) := by decide +kernel
theorem dX9_beginWeek_29 : decode cX9_beginWeek 29 = .ok (.getfield 57, 3) := by decide +kernel
theorem dX9_beginWeek_32 : decode cX9_beginWeek 32 = .ok (.invokestatic 78, 3) := by decide +kernel
theorem dX9_beginWeek_35 : decode cX9_beginWeek 35 = .ok (.putfield 53, 3) := by decide +kernel
theorem dX9_beginWeek_38 : decode cX9_beginWeek 38 = .ok (.aload_n 0, 1) := by decide +kernel
theorem dX9_beginWeek_39 : decode cX9_beginWeek 39 = .ok (.dup, 1) := by decide +kernel
theorem dX9_beginWeek_40 : decode cX9_beginWeek 40 = .ok (.getfield 60, 3) := by decide +kernel
theorem dX9_beginWeek_43 : decode cX9_beginWeek 43 = .ok (.iconst 1, 1) := by decide +kernel
theorem dX9_beginWeek_44 : decode cX9_beginWeek 44 = .ok (.iadd, 1) := by decide +kernel
theorem dX9_beginWeek_45 : decode cX9_beginWeek 45 = .ok (.putfield 60, 3) := by decide +kernel
theorem dX9_beginWeek_48 : decode cX9_beginWeek 48 = .ok (.return_, 1) := by decide +kernel
theorem dX9_seedBehind_0 : decode cX9_seedBehind 0 = .ok (.iload_n 0, 1) := by decide +kernel
theorem dX9_seedBehind_1 : decode cX9_seedBehind 1 = .ok (.sipush 137, 3) := by decide +kernel
theorem dX9_seedBehind_4 : decode cX9_seedBehind 4 = .ok (.imul, 1) := by decide +kernel
theorem dX9_seedBehind_5 : decode cX9_seedBehind 5 = .ok (.bipush 71, 2) := by decide +kernel
theorem dX9_seedBehind_7 : decode cX9_seedBehind 7 = .ok (.iadd, 1) := by decide +kernel
theorem dX9_seedBehind_8 : decode cX9_seedBehind 8 = .ok (.sipush 1000, 3) := by decide +kernel
theorem dX9_seedBehind_11 : decode cX9_seedBehind 11 = .ok (.irem, 1) := by decide +kernel
theorem dX9_seedBehind_12 : decode cX9_seedBehind 12 = .ok (.ireturn, 1) := by decide +kernel
theorem dX9_heatOf_0 : decode cX9_heatOf 0 = .ok (.iload_n 0, 1) := by decide +kernel
theorem dX9_heatOf_1 : decode cX9_heatOf 1 = .ok (.bipush 10, 2) := by decide +kernel
theorem dX9_heatOf_3 : decode cX9_heatOf 3 = .ok (.irem, 1) := by decide +kernel
theorem dX9_heatOf_4 : decode cX9_heatOf 4 = .ok (.ireturn, 1) := by decide +kernel
theorem dX10_init_0 : decode cX10_init 0 = .ok (.aload_n 0, 1) := by decide +kernel
theorem dX10_init_1 : decode cX10_init 1 = .ok (.invokespecial 3, 3) := by decide +kernel
theorem dX10_init_4 : decode cX10_init 4 = .ok (.aload_n 0, 1) := by decide +kernel
theorem dX10_init_5 : decode cX10_init 5 = .ok (.iconst 5, 1) := by decide +kernel
theorem dX10_init_6 : decode cX10_init 6 = .ok (.newarray .int, 2) := by decide +kernel
theorem dX10_init_8 : decode cX10_init 8 = .ok (.putfield 9, 3) := by decide +kernel
theorem dX10_init_11 : decode cX10_init 11 = .ok (.aload_n 0, 1) := by decide +kernel
theorem dX10_init_12 : decode cX10_init 12 = .ok (.iconst 5, 1) := by decide +kernel
theorem dX10_init_13 : decode cX10_init 13 = .ok (.newarray .int, 2) := by decide +kernel
theorem dX10_init_15 : decode cX10_init 15 = .ok (.putfield 15, 3) := by decide +kernel
theorem dX10_init_18 : decode cX10_init 18 = .ok (.aload_n 0, 1) := by decide +kernel
theorem dX10_init_19 : decode cX10_init 19 = .ok (.iconst 5, 1) := by decide +kernel
theorem dX10_init_20 : decode cX10_init 20 = .ok (.newarray .int, 2) := by decide +kernel
theorem dX10_init_22 : decode cX10_init 22 = .ok (.putfield 18, 3) := by decide +kernel
theorem dX10_init_25 : decode cX10_init 25 = .ok (.aload_n 0, 1) := by decide +kernel
theorem dX10_init_26 : decode cX10_init 26 = .ok (.new 21, 3) := by decide +kernel
theorem dX10_init_29 : decode cX10_init 29 = .ok (.dup, 1) := by decide +kernel
theorem dX10_init_30 : decode cX10_init 30 = .ok (.invokespecial 23, 3) := by decide +kernel
theorem dX10_init_33 : decode cX10_init 33 = .ok (.putfield 24, 3) := by decide +kernel
theorem dX10_init_36 : decode cX10_init 36 = .ok (.return_, 1) := by decide +kernel
theorem dX10_clear_0 : decode cX10_clear 0 = .ok (.aload_n 0, 1) := by decide +kernel
theorem dX10_clear_1 : decode cX10_clear 1 = .ok (.iconst 0, 1) := by decide +kernel
theorem dX10_clear_2 : decode cX10_clear 2 = .ok (.putfield 28, 3) := by decide +kernel
theorem dX10_clear_5 : decode cX10_clear 5 = .ok (.aload_n 0, 1) := by decide +kernel
theorem dX10_clear_6 : decode cX10_clear 6 = .ok (.iconst 0, 1) := by decide +kernel
theorem dX10_clear_7 : decode cX10_clear 7 = .ok (.putfield 32, 3) := by decide +kernel
theorem dX10_clear_10 : decode cX10_clear 10 = .ok (.aload_n 0, 1) := by decide +kernel
theorem dX10_clear_11 : decode cX10_clear 11 = .ok (.iconst 0, 1) := by decide +kernel
theorem dX10_clear_12 : decode cX10_clear 12 = .ok (.putfield 35, 3) := by decide +kernel
theorem dX10_clear_15 : decode cX10_clear 15 = .ok (.aload_n 0, 1) := by decide +kernel
theorem dX10_clear_16 : decode cX10_clear 16 = .ok (.iconst 0, 1) := by decide +kernel
theorem dX10_clear_17 : decode cX10_clear 17 = .ok (.putfield 38, 3) := by decide +kernel
theorem dX10_clear_20 : decode cX10_clear 20 = .ok (.aload_n 0, 1) := by decide +kernel
theorem dX10_clear_21 : decode cX10_clear 21 = .ok (.getfield 9, 3) := by decide +kernel
theorem dX10_clear_24 : decode cX10_clear 24 = .ok (.iconst 0, 1) := by decide +kernel
theorem dX10_clear_25 : decode cX10_clear 25 = .ok (.invokestatic 41, 3) := by decide +kernel
theorem dX10_clear_28 : decode cX10_clear 28 = .ok (.aload_n 0, 1) := by decide +kernel
theorem dX10_clear_29 : decode cX10_clear 29 = .ok (.getfield 15, 3) := by decide +kernel
theorem dX10_clear_32 : decode cX10_clear 32 = .ok (.iconst 0, 1) := by decide +kernel
theorem dX10_clear_33 : decode cX10_clear 33 = .ok (.invokestatic 41, 3) := by decide +kernel
theorem dX10_clear_36 : decode cX10_clear 36 = .ok (.aload_n 0, 1) := by decide +kernel
theorem dX10_clear_37 : decode cX10_clear 37 = .ok (.getfield 18, 3) := by decide +kernel
theorem dX10_clear_40 : decode cX10_clear 40 = .ok (.iconst 0, 1) := by decide +kernel
theorem dX10_clear_41 : decode cX10_clear 41 = .ok (.invokestatic 41, 3) := by decide +kernel
theorem dX10_clear_44 : decode cX10_clear 44 = .ok (.aload_n 0, 1) := by decide +kernel
theorem dX10_clear_45 : decode cX10_clear 45 = .ok (.getfield 24, 3) := by decide +kernel
theorem dX10_clear_48 : decode cX10_clear 48 = .ok (.invokevirtual 47, 3) := by decide +kernel
theorem dX10_clear_51 : decode cX10_clear 51 = .ok (.return_, 1) := by decide +kernel
theorem dX10_take_0 : decode cX10_take 0 = .ok (.aload_n 0, 1) := by decide +kernel
theorem dX10_take_1 : decode cX10_take 1 = .ok (.aload_n 1, 1) := by decide +kernel
theorem dX10_take_2 : decode cX10_take 2 = .ok (.getfield 28, 3) := by decide +kernel
theorem dX10_take_5 : decode cX10_take 5 = .ok (.putfield 28, 3) := by decide +kernel
theorem dX10_take_8 : decode cX10_take 8 = .ok (.aload_n 0, 1) := by decide +kernel
theorem dX10_take_9 : decode cX10_take 9 = .ok (.aload_n 1, 1) := by decide +kernel
theorem dX10_take_10 : decode cX10_take 10 = .ok (.getfield 32, 3) := by decide +kernel
theorem dX10_take_13 : decode cX10_take 13 = .ok (.putfield 32, 3) := by decide +kernel
theorem dX10_take_16 : decode cX10_take 16 = .ok (.aload_n 0, 1) := by decide +kernel
theorem dX10_take_17 : decode cX10_take 17 = .ok (.aload_n 1, 1) := by decide +kernel
theorem dX10_take_18 : decode cX10_take 18 = .ok (.getfield 35, 3) := by decide +kernel
theorem dX10_take_21 : decode cX10_take 21 = .ok (.putfield 35, 3) := by decide +kernel
theorem dX10_take_24 : decode cX10_take 24 = .ok (.aload_n 0, 1) := by decide +kernel
theorem dX10_take_25 : decode cX10_take 25 = .ok (.aload_n 1, 1) := by decide +kernel
theorem dX10_take_26 : decode cX10_take 26 = .ok (.getfield 38, 3) := by decide +kernel
theorem dX10_take_29 : decode cX10_take 29 = .ok (.putfield 38, 3) := by decide +kernel
theorem dX10_take_32 : decode cX10_take 32 = .ok (.aload_n 1, 1) := by decide +kernel
theorem dX10_take_33 : decode cX10_take 33 = .ok (.getfield 9, 3) := by decide +kernel
theorem dX10_take_36 : decode cX10_take 36 = .ok (.iconst 0, 1) := by decide +kernel
theorem dX10_take_37 : decode cX10_take 37 = .ok (.aload_n 0, 1) := by decide +kernel
theorem dX10_take_38 : decode cX10_take 38 = .ok (.getfield 9, 3) := by decide +kernel
theorem dX10_take_41 : decode cX10_take 41 = .ok (.iconst 0, 1) := by decide +kernel
theorem dX10_take_42 : decode cX10_take 42 = .ok (.iconst 5, 1) := by decide +kernel
theorem dX10_take_43 : decode cX10_take 43 = .ok (.invokestatic 50, 3) := by decide +kernel
theorem dX10_take_46 : decode cX10_take 46 = .ok (.aload_n 1, 1) := by decide +kernel
theorem dX10_take_47 : decode cX10_take 47 = .ok (.getfield 15, 3) := by decide +kernel
theorem dX10_take_50 : decode cX10_take 50 = .ok (.iconst 0, 1) := by decide +kernel
theorem dX10_take_51 : decode cX10_take 51 = .ok (.aload_n 0, 1) := by decide +kernel
theorem dX10_take_52 : decode cX10_take 52 = .ok (.getfield 15, 3) := by decide +kernel
theorem dX10_take_55 : decode cX10_take 55 = .ok (.iconst 0, 1) := by decide +kernel
theorem dX10_take_56 : decode cX10_take 56 = .ok (.iconst 5, 1) := by decide +kernel
theorem dX10_take_57 : decode cX10_take 57 = .ok (.invokestatic 50, 3) := by decide +kernel
theorem dX10_take_60 : decode cX10_take 60 = .ok (.aload_n 1, 1) := by decide +kernel
theorem dX10_take_61 : decode cX10_take 61 = .ok (.getfield 18, 3) := by decide +kernel
theorem dX10_take_64 : decode cX10_take 64 = .ok (.iconst 0, 1) := by decide +kernel
theorem dX10_take_65 : decode cX10_take 65 = .ok (.aload_n 0, 1) := by decide +kernel
theorem dX10_take_66 : decode cX10_take 66 = .ok (.getfield 18, 3) := by decide +kernel
theorem dX10_take_69 : decode cX10_take 69 = .ok (.iconst 0, 1) := by decide +kernel
theorem dX10_take_70 : decode cX10_take 70 = .ok (.iconst 5, 1) := by decide +kernel
theorem dX10_take_71 : decode cX10_take 71 = .ok (.invokestatic 50, 3) := by decide +kernel
theorem dX10_take_74 : decode cX10_take 74 = .ok (.aload_n 0, 1) := by decide +kernel
theorem dX10_take_75 : decode cX10_take 75 = .ok (.getfield 24, 3) := by decide +kernel
theorem dX10_take_78 : decode cX10_take 78 = .ok (.aload_n 1, 1) := by decide +kernel
theorem dX10_take_79 : decode cX10_take 79 = .ok (.getfield 24, 3) := by decide +kernel
theorem dX10_take_82 : decode cX10_take 82 = .ok (.invokevirtual 56, 3) := by decide +kernel
theorem dX10_take_85 : decode cX10_take 85 = .ok (.return_, 1) := by decide +kernel
theorem dX11_init_0 : decode cX11_init 0 = .ok (.aload_n 0, 1) := by decide +kernel
theorem dX11_init_1 : decode cX11_init 1 = .ok (.invokespecial 1, 3) := by decide +kernel
theorem dX11_init_4 : decode cX11_init 4 = .ok (.aload_n 0, 1) := by decide +kernel
theorem dX11_init_5 : decode cX11_init 5 = .ok (.sipush 1600, 3) := by decide +kernel
theorem dX11_init_8 : decode cX11_init 8 = .ok (.newarray .byte, 2) := by decide +kernel
theorem dX11_init_10 : decode cX11_init 10 = .ok (.putfield 9, 3) := by decide +kernel
theorem dX11_init_13 : decode cX11_init 13 = .ok (.aload_n 0, 1) := by decide +kernel
theorem dX11_init_14 : decode cX11_init 14 = .ok (.new 13, 3) := by decide +kernel
theorem dX11_init_17 : decode cX11_init 17 = .ok (.dup, 1) := by decide +kernel
theorem dX11_init_18 : decode cX11_init 18 = .ok (.aload_n 0, 1) := by decide +kernel
theorem dX11_init_19 : decode cX11_init 19 = .ok (.getfield 9, 3) := by decide +kernel
theorem dX11_init_22 : decode cX11_init 22 = .ok (.invokespecial 15, 3) := by decide +kernel
theorem dX11_init_25 : decode cX11_init 25 = .ok (.putfield 18, 3) := by decide +kernel
theorem dX11_init_28 : decode cX11_init 28 = .ok (.aload_n 0, 1) := by decide +kernel
theorem dX11_init_29 : decode cX11_init 29 = .ok (.iconst (-1), 1) := by decide +kernel
theorem dX11_init_30 : decode cX11_init 30 = .ok (.putfield 22, 3) := by decide +kernel
theorem dX11_init_33 : decode cX11_init 33 = .ok (.aload_n 0, 1) := by decide +kernel
theorem dX11_init_34 : decode cX11_init 34 = .ok (.new 26, 3) := by decide +kernel
theorem dX11_init_37 : decode cX11_init 37 = .ok (.dup, 1) := by decide +kernel
theorem dX11_init_38 : decode cX11_init 38 = .ok (.invokespecial 28, 3) := by decide +kernel
theorem dX11_init_41 : decode cX11_init 41 = .ok (.putfield 29, 3) := by decide +kernel
theorem dX11_init_44 : decode cX11_init 44 = .ok (.aload_n 0, 1) := by decide +kernel
theorem dX11_init_45 : decode cX11_init 45 = .ok (.new 33, 3) := by decide +kernel
theorem dX11_init_48 : decode cX11_init 48 = .ok (.dup, 1) := by decide +kernel
theorem dX11_init_49 : decode cX11_init 49 = .ok (.invokespecial 35, 3) := by decide +kernel
theorem dX11_init_52 : decode cX11_init 52 = .ok (.putfield 36, 3) := by decide +kernel
theorem dX11_init_55 : decode cX11_init 55 = .ok (.aload_n 0, 1) := by decide +kernel
theorem dX11_init_56 : decode cX11_init 56 = .ok (.new 40, 3) := by decide +kernel
theorem dX11_init_59 : decode cX11_init 59 = .ok (.dup, 1) := by decide +kernel
theorem dX11_init_60 : decode cX11_init 60 = .ok (.invokespecial 42, 3) := by decide +kernel
theorem dX11_init_63 : decode cX11_init 63 = .ok (.putfield 43, 3) := by decide +kernel
theorem dX11_init_66 : decode cX11_init 66 = .ok (.aload_n 0, 1) := by decide +kernel
theorem dX11_init_67 : decode cX11_init 67 = .ok (.iconst 3, 1) := by decide +kernel
theorem dX11_init_68 : decode cX11_init 68 = .ok (.anewarray 33, 3) := by decide +kernel
theorem dX11_init_71 : decode cX11_init 71 = .ok (.putfield 47, 3) := by decide +kernel
theorem dX11_init_74 : decode cX11_init 74 = .ok (.aload_n 0, 1) := by decide +kernel
theorem dX11_init_75 : decode cX11_init 75 = .ok (.iconst 3, 1) := by decide +kernel
theorem dX11_init_76 : decode cX11_init 76 = .ok (.newarray .boolean, 2) := by decide +kernel
theorem dX11_init_78 : decode cX11_init 78 = .ok (.putfield 51, 3) := by decide +kernel
theorem dX11_init_81 : decode cX11_init 81 = .ok (.aload_n 0, 1) := by decide +kernel
theorem dX11_init_82 : decode cX11_init 82 = .ok (.new 55, 3) := by decide +kernel
theorem dX11_init_85 : decode cX11_init 85 = .ok (.dup, 1) := by decide +kernel
theorem dX11_init_86 : decode cX11_init 86 = .ok (.aload_n 0, 1) := by decide +kernel
theorem dX11_init_87 : decode cX11_init 87 = .ok (.getfield 29, 3) := by decide +kernel
theorem dX11_init_90 : decode cX11_init 90 = .ok (.aload_n 0, 1) := by decide +kernel
theorem dX11_init_91 : decode cX11_init 91 = .ok (.getfield 36, 3) := by decide +kernel
theorem dX11_init_94 : decode cX11_init 94 = .ok (.invokespecial 57, 3) := by decide +kernel
theorem dX11_init_97 : decode cX11_init 97 = .ok (.putfield 60, 3) := by decide +kernel
theorem dX11_init_100 : decode cX11_init 100 = .ok (.aload_n 0, 1) := by decide +kernel
theorem dX11_init_101 : decode cX11_init 101 = .ok (.new 64, 3) := by decide +kernel
theorem dX11_init_104 : decode cX11_init 104 = .ok (.dup, 1) := by decide +kernel
theorem dX11_init_105 : decode cX11_init 105 = .ok (.aload_n 0, 1) := by decide +kernel
theorem dX11_init_106 : decode cX11_init 106 = .ok (.getfield 60, 3) := by decide +kernel
theorem dX11_init_109 : decode cX11_init 109 = .ok (.aload_n 0, 1) := by decide +kernel
theorem dX11_init_110 : decode cX11_init 110 = .ok (.getfield 29, 3) := by decide +kernel
theorem dX11_init_113 : decode cX11_init 113 = .ok (.aload_n 0, 1) := by decide +kernel
theorem dX11_init_114 : decode cX11_init 114 = .ok (.getfield 36, 3) := by decide +kernel
theorem dX11_init_117 : decode cX11_init 117 = .ok (.invokespecial 66, 3) := by decide +kernel
theorem dX11_init_120 : decode cX11_init 120 = .ok (.putfield 69, 3) := by decide +kernel
theorem dX11_init_123 : decode cX11_init 123 = .ok (.aload_n 0, 1) := by decide +kernel
theorem dX11_init_124 : decode cX11_init 124 = .ok (.new 73, 3) := by decide +kernel
theorem dX11_init_127 : decode cX11_init 127 = .ok (.dup, 1) := by decide +kernel
theorem dX11_init_128 : decode cX11_init 128 = .ok (.aload_n 0, 1) := by decide +kernel
theorem dX11_init_129 : decode cX11_init 129 = .ok (.getfield 29, 3) := by decide +kernel
theorem dX11_init_132 : decode cX11_init 132 = .ok (.aload_n 0, 1) := by decide +kernel
theorem dX11_init_133 : decode cX11_init 133 = .ok (.getfield 36, 3) := by decide +kernel
theorem dX11_init_136 : decode cX11_init 136 = .ok (.invokespecial 75, 3) := by decide +kernel
theorem dX11_init_139 : decode cX11_init 139 = .ok (.putfield 76, 3) := by decide +kernel
theorem dX11_init_142 : decode cX11_init 142 = .ok (.aload_n 0, 1) := by decide +kernel
theorem dX11_init_143 : decode cX11_init 143 = .ok (.new 80, 3) := by decide +kernel
theorem dX11_init_146 : decode cX11_init 146 = .ok (.dup, 1) := by decide +kernel
theorem dX11_init_147 : decode cX11_init 147 = .ok (.aload_n 0, 1) := by decide +kernel
theorem dX11_init_148 : decode cX11_init 148 = .ok (.getfield 29, 3) := by decide +kernel
theorem dX11_init_151 : decode cX11_init 151 = .ok (.invokespecial 82, 3) := by decide +kernel
theorem dX11_init_154 : decode cX11_init 154 = .ok (.putfield 85, 3) := by decide +kernel
theorem dX11_init_157 : decode cX11_init 157 = .ok (.iconst 0, 1) := by decide +kernel
theorem dX11_init_158 : decode cX11_init 158 = .ok (.istore_n 1, 1) := by decide +kernel
theorem dX11_init_159 : decode cX11_init 159 = .ok (.iload_n 1, 1) := by decide +kernel
theorem dX11_init_160 : decode cX11_init 160 = .ok (.iconst 3, 1) := by decide +kernel
theorem dX11_init_161 : decode cX11_init 161 = .ok (.if_icmp .ge 22, 3) := by decide +kernel
theorem dX11_init_164 : decode cX11_init 164 = .ok (.aload_n 0, 1) := by decide +kernel
theorem dX11_init_165 : decode cX11_init 165 = .ok (.getfield 47, 3) := by decide +kernel
theorem dX11_init_168 : decode cX11_init 168 = .ok (.iload_n 1, 1) := by decide +kernel
theorem dX11_init_169 : decode cX11_init 169 = .ok (.new 33, 3) := by decide +kernel
theorem dX11_init_172 : decode cX11_init 172 = .ok (.dup, 1) := by decide +kernel
theorem dX11_init_173 : decode cX11_init 173 = .ok (.invokespecial 35, 3) := by decide +kernel
theorem dX11_init_176 : decode cX11_init 176 = .ok (.aastore, 1) := by decide +kernel
theorem dX11_init_177 : decode cX11_init 177 = .ok (.iinc 1 1, 3) := by decide +kernel
theorem dX11_init_180 : decode cX11_init 180 = .ok (.goto (-21), 3) := by decide +kernel
theorem dX11_init_183 : decode cX11_init 183 = .ok (.aload_n 0, 1) := by decide +kernel
theorem dX11_init_184 : decode cX11_init 184 = .ok (.invokevirtual 89, 3) := by decide +kernel
theorem dX11_init_187 : decode cX11_init 187 = .ok (.return_, 1) := by decide +kernel
theorem dX11_feed_0 : decode cX11_feed 0 = .ok (.aload_n 0, 1) := by decide +kernel
theorem dX11_feed_1 : decode cX11_feed 1 = .ok (.getfield 92, 3) := by decide +kernel
theorem dX11_feed_4 : decode cX11_feed 4 = .ok (.bipush 20, 2) := by decide +kernel
theorem dX11_feed_6 : decode cX11_feed 6 = .ok (.iadd, 1) := by decide +kernel
theorem dX11_feed_7 : decode cX11_feed 7 = .ok (.sipush 1600, 3) := by decide +kernel
theorem dX11_feed_10 : decode cX11_feed 10 = .ok (.if_icmp .le 5, 3) := by decide +kernel
theorem dX11_feed_13 : decode cX11_feed 13 = .ok (.iconst (-1), 1) := by decide +kernel
theorem dX11_feed_14 : decode cX11_feed 14 = .ok (.ireturn, 1) := by decide +kernel
theorem dX11_feed_15 : decode cX11_feed 15 = .ok (.aload_n 0, 1) := by decide +kernel
theorem dX11_feed_16 : decode cX11_feed 16 = .ok (.iload_n 1, 1) := by decide +kernel
theorem dX11_feed_17 : decode cX11_feed 17 = .ok (.invokevirtual 95, 3) := by decide +kernel
theorem dX11_feed_20 : decode cX11_feed 20 = .ok (.aload_n 0, 1) := by decide +kernel
theorem dX11_feed_21 : decode cX11_feed 21 = .ok (.iload_n 2, 1) := by decide +kernel
theorem dX11_feed_22 : decode cX11_feed 22 = .ok (.invokevirtual 95, 3) := by decide +kernel
theorem dX11_feed_25 : decode cX11_feed 25 = .ok (.aload_n 0, 1) := by decide +kernel
theorem dX11_feed_26 : decode cX11_feed 26 = .ok (.iload_n 3, 1) := by decide +kernel
theorem dX11_feed_27 : decode cX11_feed 27 = .ok (.invokevirtual 95, 3) := by decide +kernel
theorem dX11_feed_30 : decode cX11_feed 30 = .ok (.aload_n 0, 1) := by decide +kernel
theorem dX11_feed_31 : decode cX11_feed 31 = .ok (.iload 4, 2) := by decide +kernel
theorem dX11_feed_33 : decode cX11_feed 33 = .ok (.invokevirtual 95, 3) := by decide +kernel
theorem dX11_feed_36 : decode cX11_feed 36 = .ok (.aload_n 0, 1) := by decide +kernel
theorem dX11_feed_37 : decode cX11_feed 37 = .ok (.iload 5, 2) := by decide +kernel
theorem dX11_feed_39 : decode cX11_feed 39 = .ok (.invokevirtual 95, 3) := by decide +kernel
theorem dX11_feed_42 : decode cX11_feed 42 = .ok (.aload_n 0, 1) := by decide +kernel
theorem dX11_feed_43 : decode cX11_feed 43 = .ok (.getfield 92, 3) := by decide +kernel
theorem dX11_feed_46 : decode cX11_feed 46 = .ok (.ireturn, 1) := by decide +kernel
theorem dX11_end_0 : decode cX11_end 0 = .ok (.iload_n 1, 1) := by decide +kernel
theorem dX11_end_1 : decode cX11_end 1 = .ok (.ifCond .lt 11, 3) := by decide +kernel
theorem dX11_end_4 : decode cX11_end 4 = .ok (.iload_n 1, 1) := by decide +kernel
theorem dX11_end_5 : decode cX11_end 5 = .ok (.aload_n 0, 1) := by decide +kernel
theorem dX11_end_6 : decode cX11_end 6 = .ok (.getfield 92, 3) := by decide +kernel
theorem dX11_end_9 : decode cX11_end 9 = .ok (.if_icmp .le 5, 3) := by decide +kernel
theorem dX11_end_12 : decode cX11_end 12 = .ok (.iconst (-1), 1) := by decide +kernel
theorem dX11_end_13 : decode cX11_end 13 = .ok (.ireturn, 1) := by decide +kernel
theorem dX11_end_14 : decode cX11_end 14 = .ok (.aload_n 0, 1) := by decide +kernel
theorem dX11_end_15 : decode cX11_end 15 = .ok (.iload_n 1, 1) := by decide +kernel
theorem dX11_end_16 : decode cX11_end 16 = .ok (.putfield 92, 3) := by decide +kernel
theorem dX11_end_19 : decode cX11_end 19 = .ok (.iload_n 1, 1) := by decide +kernel
theorem dX11_end_20 : decode cX11_end 20 = .ok (.ireturn, 1) := by decide +kernel
theorem dX11_village_0 : decode cX11_village 0 = .ok (.aload_n 0, 1) := by decide +kernel
theorem dX11_village_1 : decode cX11_village 1 = .ok (.getfield 18, 3) := by decide +kernel
theorem dX11_village_4 : decode cX11_village 4 = .ok (.aload_n 0, 1) := by decide +kernel
theorem dX11_village_5 : decode cX11_village 5 = .ok (.getfield 92, 3) := by decide +kernel
theorem dX11_village_8 : decode cX11_village 8 = .ok (.invokevirtual 99, 3) := by decide +kernel
theorem dX11_village_11 : decode cX11_village 11 = .ok (.aload_n 0, 1) := by decide +kernel
theorem dX11_village_12 : decode cX11_village 12 = .ok (.iconst 0, 1) := by decide +kernel
theorem dX11_village_13 : decode cX11_village 13 = .ok (.putfield 92, 3) := by decide +kernel
theorem dX11_village_16 : decode cX11_village 16 = .ok (.aload_n 0, 1) := by decide +kernel
theorem dX11_village_17 : decode cX11_village 17 = .ok (.aload_n 0, 1) := by decide +kernel
theorem dX11_village_18 : decode cX11_village 18 = .ok (.getfield 18, 3) := by decide +kernel
theorem dX11_village_21 : decode cX11_village 21 = .ok (.getfield 102, 3) := by decide +kernel
theorem dX11_village_24 : decode cX11_village 24 = .ok (.putfield 105, 3) := by decide +kernel
theorem dX11_village_27 : decode cX11_village 27 = .ok (.aload_n 0, 1) := by decide +kernel
theorem dX11_village_28 : decode cX11_village 28 = .ok (.aload_n 0, 1) := by decide +kernel
theorem dX11_village_29 : decode cX11_village 29 = .ok (.getfield 18, 3) := by decide +kernel
theorem dX11_village_32 : decode cX11_village 32 = .ok (.getfield 108, 3) := by decide +kernel
theorem dX11_village_35 : decode cX11_village 35 = .ok (.putfield 22, 3) := by decide +kernel
theorem dX11_village_38 : decode cX11_village 38 = .ok (.aload_n 0, 1) := by decide +kernel
theorem dX11_village_39 : decode cX11_village 39 = .ok (.getfield 105, 3) := by decide +kernel
theorem dX11_village_42 : decode cX11_village 42 = .ok (.ifCond .eq 5, 3) := by decide +kernel
theorem dX11_village_45 : decode cX11_village 45 = .ok (.iconst (-1), 1) := by decide +kernel
theorem dX11_village_46 : decode cX11_village 46 = .ok (.ireturn, 1) := by decide +kernel
theorem dX11_village_47 : decode cX11_village 47 = .ok (.aload_n 0, 1) := by decide +kernel
theorem dX11_village_48 : decode cX11_village 48 = .ok (.getfield 29, 3) := by decide +kernel
theorem dX11_village_51 : decode cX11_village 51 = .ok (.aload_n 0, 1) := by decide +kernel
theorem dX11_village_52 : decode cX11_village 52 = .ok (.getfield 18, 3) := by decide +kernel
theorem dX11_village_55 : decode cX11_village 55 = .ok (.getfield 111, 3) := by decide +kernel
theorem dX11_village_58 : decode cX11_village 58 = .ok (.invokevirtual 114, 3) := by decide +kernel
theorem dX11_village_61 : decode cX11_village 61 = .ok (.aload_n 0, 1) := by decide +kernel
theorem dX11_village_62 : decode cX11_village 62 = .ok (.invokevirtual 89, 3) := by decide +kernel
theorem dX11_village_65 : decode cX11_village 65 = .ok (.aload_n 0, 1) := by decide +kernel
theorem dX11_village_66 : decode cX11_village 66 = .ok (.getfield 29, 3) := by decide +kernel
theorem dX11_village_69 : decode cX11_village 69 = .ok (.getfield 117, 3) := by decide +kernel
theorem dX11_village_72 : decode cX11_village 72 = .ok (.ireturn, 1) := by decide +kernel
theorem dX11_fault_0 : decode cX11_fault 0 = .ok (.iload_n 1, 1) := by decide +kernel
theorem dX11_fault_1 : decode cX11_fault 1 = .ok (.ifCond .ne 8, 3) := by decide +kernel
theorem dX11_fault_4 : decode cX11_fault 4 = .ok (.aload_n 0, 1) := by decide +kernel
theorem dX11_fault_5 : decode cX11_fault 5 = .ok (.getfield 105, 3) := by decide +kernel
theorem dX11_fault_8 : decode cX11_fault 8 = .ok (.ireturn, 1) := by decide +kernel
theorem dX11_fault_9 : decode cX11_fault 9 = .ok (.iload_n 1, 1) := by decide +kernel
theorem dX11_fault_10 : decode cX11_fault 10 = .ok (.iconst 1, 1) := by decide +kernel
theorem dX11_fault_11 : decode cX11_fault 11 = .ok (.if_icmp .ne 10, 3) := by decide +kernel
theorem dX11_fault_14 : decode cX11_fault 14 = .ok (.aload_n 0, 1) := by decide +kernel
theorem dX11_fault_15 : decode cX11_fault 15 = .ok (.getfield 22, 3) := by decide +kernel
theorem dX11_fault_18 : decode cX11_fault 18 = .ok (.goto 4, 3) := by decide +kernel
theorem dX11_fault_21 : decode cX11_fault 21 = .ok (.iconst (-1), 1) := by decide +kernel
theorem dX11_fault_22 : decode cX11_fault 22 = .ok (.ireturn, 1) := by decide +kernel
theorem dX11_soul_0 : decode cX11_soul 0 = .ok (.aload_n 0, 1) := by decide +kernel
theorem dX11_soul_1 : decode cX11_soul 1 = .ok (.iload_n 1, 1) := by decide +kernel
theorem dX11_soul_2 : decode cX11_soul 2 = .ok (.invokevirtual 120, 3) := by decide +kernel
theorem dX11_soul_5 : decode cX11_soul 5 = .ok (.ifCond .ne 6, 3) := by decide +kernel
theorem dX11_soul_8 : decode cX11_soul 8 = .ok (.bipush (-2), 2) := by decide +kernel
theorem dX11_soul_10 : decode cX11_soul 10 = .ok (.ireturn, 1) := by decide +kernel
theorem dX11_soul_11 : decode cX11_soul 11 = .ok (.iload_n 2, 1) := by decide +kernel
theorem dX11_soul_12 : decode cX11_soul 12 = .ok (.tableswitch 154 0 9 #[56, 66, 76, 86, 96, 106, 115, 124, 134, 144], 56) := by decide +kernel
theorem dX11_soul_68 : decode cX11_soul 68 = .ok (.aload_n 0, 1) := by decide +kernel
theorem dX11_soul_69 : decode cX11_soul 69 = .ok (.getfield 29, 3) := by decide +kernel
theorem dX11_soul_72 : decode cX11_soul 72 = .ok (.getfield 124, 3) := by decide +kernel
theorem dX11_soul_75 : decode cX11_soul 75 = .ok (.iload_n 1, 1) := by decide +kernel
theorem dX11_soul_76 : decode cX11_soul 76 = .ok (.iaload, 1) := by decide +kernel
theorem dX11_soul_77 : decode cX11_soul 77 = .ok (.ireturn, 1) := by decide +kernel
theorem dX11_soul_78 : decode cX11_soul 78 = .ok (.aload_n 0, 1) := by decide +kernel
theorem dX11_soul_79 : decode cX11_soul 79 = .ok (.getfield 36, 3) := by decide +kernel
theorem dX11_soul_82 : decode cX11_soul 82 = .ok (.getfield 128, 3) := by decide +kernel
theorem dX11_soul_85 : decode cX11_soul 85 = .ok (.iload_n 1, 1) := by decide +kernel
theorem dX11_soul_86 : decode cX11_soul 86 = .ok (.iaload, 1) := by decide +kernel
theorem dX11_soul_87 : decode cX11_soul 87 = .ok (.ireturn, 1) := by decide +kernel
theorem dX11_soul_88 : decode cX11_soul 88 = .ok (.aload_n 0, 1) := by decide +kernel
theorem dX11_soul_89 : decode cX11_soul 89 = .ok (.getfield 36, 3) := by decide +kernel
theorem dX11_soul_92 : decode cX11_soul 92 = .ok (.getfield 131, 3) := by decide +kernel
theorem dX11_soul_95 : decode cX11_soul 95 = .ok (.iload_n 1, 1) := by decide +kernel
theorem dX11_soul_96 : decode cX11_soul 96 = .ok (.iaload, 1) := by decide +kernel
theorem dX11_soul_97 : decode cX11_soul 97 = .ok (.ireturn, 1) := by decide +kernel
theorem dX11_soul_98 : decode cX11_soul 98 = .ok (.aload_n 0, 1) := by decide +kernel
theorem dX11_soul_99 : decode cX11_soul 99 = .ok (.getfield 36, 3) := by decide +kernel
theorem dX11_soul_102 : decode cX11_soul 102 = .ok (.getfield 134, 3) := by decide +kernel
theorem dX11_soul_105 : decode cX11_soul 105 = .ok (.iload_n 1, 1) := by decide +kernel
theorem dX11_soul_106 : decode cX11_soul 106 = .ok (.iaload, 1) := by decide +kernel
theorem dX11_soul_107 : decode cX11_soul 107 = .ok (.ireturn, 1) := by decide +kernel
theorem dX11_soul_108 : decode cX11_soul 108 = .ok (.aload_n 0, 1) := by decide +kernel
theorem dX11_soul_109 : decode cX11_soul 109 = .ok (.getfield 36, 3) := by decide +kernel
theorem dX11_soul_112 : decode cX11_soul 112 = .ok (.getfield 137, 3) := by decide +kernel
theorem dX11_soul_115 : decode cX11_soul 115 = .ok (.iload_n 1, 1) := by decide +kernel
theorem dX11_soul_116 : decode cX11_soul 116 = .ok (.iaload, 1) := by decide +kernel
theorem dX11_soul_117 : decode cX11_soul 117 = .ok (.ireturn, 1) := by decide +kernel
theorem dX11_soul_118 : decode cX11_soul 118 = .ok (.aload_n 0, 1) := by decide +kernel
theorem dX11_soul_119 : decode cX11_soul 119 = .ok (.getfield 76, 3) := by decide +kernel
theorem dX11_soul_122 : decode cX11_soul 122 = .ok (.iload_n 1, 1) := by decide +kernel
theorem dX11_soul_123 : decode cX11_soul 123 = .ok (.invokevirtual 140, 3) := by decide +kernel
theorem dX11_soul_126 : decode cX11_soul 126 = .ok (.ireturn, 1) := by decide +kernel
theorem dX11_soul_127 : decode cX11_soul 127 = .ok (.aload_n 0, 1) := by decide +kernel
theorem dX11_soul_128 : decode cX11_soul 128 = .ok (.getfield 69, 3) := by decide +kernel
theorem dX11_soul_131 : decode cX11_soul 131 = .ok (.iload_n 1, 1) := by decide +kernel
theorem dX11_soul_132 : decode cX11_soul 132 = .ok (.invokevirtual 144, 3) := by decide +kernel
theorem dX11_soul_135 : decode cX11_soul 135 = .ok (.ireturn, 1) := by decide +kernel
theorem dX11_soul_136 : decode cX11_soul 136 = .ok (.aload_n 0, 1) := by decide +kernel
theorem dX11_soul_137 : decode cX11_soul 137 = .ok (.getfield 36, 3) := by decide +kernel
theorem dX11_soul_140 : decode cX11_soul 140 = .ok (.getfield 147, 3) := by decide +kernel
theorem dX11_soul_143 : decode cX11_soul 143 = .ok (.iload_n 1, 1) := by decide +kernel
theorem dX11_soul_144 : decode cX11_soul 144 = .ok (.iaload, 1) := by decide +kernel
theorem dX11_soul_145 : decode cX11_soul 145 = .ok (.ireturn, 1) := by decide +kernel
theorem dX11_soul_146 : decode cX11_soul 146 = .ok (.aload_n 0, 1) := by decide +kernel
theorem dX11_soul_147 : decode cX11_soul 147 = .ok (.getfield 36, 3) := by decide +kernel
theorem dX11_soul_150 : decode cX11_soul 150 = .ok (.getfield 150, 3) := by decide +kernel
theorem dX11_soul_153 : decode cX11_soul 153 = .ok (.iload_n 1, 1) := by decide +kernel
theorem dX11_soul_154 : decode cX11_soul 154 = .ok (.iaload, 1) := by decide +kernel
theorem dX11_soul_155 : decode cX11_soul 155 = .ok (.ireturn, 1) := by decide +kernel
theorem dX11_soul_156 : decode cX11_soul 156 = .ok (.aload_n 0, 1) := by decide +kernel
theorem dX11_soul_157 : decode cX11_soul 157 = .ok (.getfield 36, 3) := by decide +kernel
theorem dX11_soul_160 : decode cX11_soul 160 = .ok (.getfield 153, 3) := by decide +kernel
theorem dX11_soul_163 : decode cX11_soul 163 = .ok (.iload_n 1, 1) := by decide +kernel
theorem dX11_soul_164 : decode cX11_soul 164 = .ok (.iaload, 1) := by decide +kernel
theorem dX11_soul_165 : decode cX11_soul 165 = .ok (.ireturn, 1) := by decide +kernel
theorem dX11_soul_166 : decode cX11_soul 166 = .ok (.bipush (-2), 2) := by decide +kernel
theorem dX11_soul_168 : decode cX11_soul 168 = .ok (.ireturn, 1) := by decide +kernel
theorem dX11_does_0 : decode cX11_does 0 = .ok (.aload_n 0, 1) := by decide +kernel
theorem dX11_does_1 : decode cX11_does 1 = .ok (.iload_n 1, 1) := by decide +kernel
theorem dX11_does_2 : decode cX11_does 2 = .ok (.invokevirtual 120, 3) := by decide +kernel
theorem dX11_does_5 : decode cX11_does 5 = .ok (.ifCond .eq 11, 3) := by decide +kernel
theorem dX11_does_8 : decode cX11_does 8 = .ok (.aload_n 0, 1) := by decide +kernel
theorem dX11_does_9 : decode cX11_does 9 = .ok (.iload_n 2, 1) := by decide +kernel
theorem dX11_does_10 : decode cX11_does 10 = .ok (.invokevirtual 156, 3) := by decide +kernel
theorem dX11_does_13 : decode cX11_does 13 = .ok (.ifCond .ne 5, 3) := by decide +kernel
theorem dX11_does_16 : decode cX11_does 16 = .ok (.iconst (-1), 1) := by decide +kernel
theorem dX11_does_17 : decode cX11_does 17 = .ok (.ireturn, 1) := by decide +kernel
theorem dX11_does_18 : decode cX11_does 18 = .ok (.aload_n 0, 1) := by decide +kernel
theorem dX11_does_19 : decode cX11_does 19 = .ok (.getfield 36, 3) := by decide +kernel
theorem dX11_does_22 : decode cX11_does 22 = .ok (.getfield 128, 3) := by decide +kernel
theorem dX11_does_25 : decode cX11_does 25 = .ok (.iload_n 1, 1) := by decide +kernel
theorem dX11_does_26 : decode cX11_does 26 = .ok (.dup2, 1) := by decide +kernel
theorem dX11_does_27 : decode cX11_does 27 = .ok (.iaload, 1) := by decide +kernel
theorem dX11_does_28 : decode cX11_does 28 = .ok (.iconst 1, 1) := by decide +kernel
theorem dX11_does_29 : decode cX11_does 29 = .ok (.iload_n 2, 1) := by decide +kernel
theorem dX11_does_30 : decode cX11_does 30 = .ok (.ishl, 1) := by decide +kernel
theorem dX11_does_31 : decode cX11_does 31 = .ok (.ixor, 1) := by decide +kernel
theorem dX11_does_32 : decode cX11_does 32 = .ok (.iastore, 1) := by decide +kernel
theorem dX11_does_33 : decode cX11_does 33 = .ok (.aload_n 0, 1) := by decide +kernel
theorem dX11_does_34 : decode cX11_does 34 = .ok (.getfield 43, 3) := by decide +kernel
theorem dX11_does_37 : decode cX11_does 37 = .ok (.aload_n 0, 1) := by decide +kernel
theorem dX11_does_38 : decode cX11_does 38 = .ok (.getfield 36, 3) := by decide +kernel
theorem dX11_does_41 : decode cX11_does 41 = .ok (.invokevirtual 159, 3) := by decide +kernel
theorem dX11_does_44 : decode cX11_does 44 = .ok (.aload_n 0, 1) := by decide +kernel
theorem dX11_does_45 : decode cX11_does 45 = .ok (.getfield 36, 3) := by decide +kernel
theorem dX11_does_48 : decode cX11_does 48 = .ok (.getfield 128, 3) := by decide +kernel
theorem dX11_does_51 : decode cX11_does 51 = .ok (.iload_n 1, 1) := by decide +kernel
theorem dX11_does_52 : decode cX11_does 52 = .ok (.iaload, 1) := by decide +kernel
theorem dX11_does_53 : decode cX11_does 53 = .ok (.ireturn, 1) := by decide +kernel
theorem dX11_says_0 : decode cX11_says 0 = .ok (.aload_n 0, 1) := by decide +kernel
theorem dX11_says_1 : decode cX11_says 1 = .ok (.iload_n 1, 1) := by decide +kernel
theorem dX11_says_2 : decode cX11_says 2 = .ok (.invokevirtual 120, 3) := by decide +kernel
theorem dX11_says_5 : decode cX11_says 5 = .ok (.ifCond .eq 16, 3) := by decide +kernel
theorem dX11_says_8 : decode cX11_says 8 = .ok (.iload_n 2, 1) := by decide +kernel
theorem dX11_says_9 : decode cX11_says 9 = .ok (.iconst (-1), 1) := by decide +kernel
theorem dX11_says_10 : decode cX11_says 10 = .ok (.if_icmp .eq 13, 3) := by decide +kernel
theorem dX11_says_13 : decode cX11_says 13 = .ok (.aload_n 0, 1) := by decide +kernel
theorem dX11_says_14 : decode cX11_says 14 = .ok (.iload_n 2, 1) := by decide +kernel
theorem dX11_says_15 : decode cX11_says 15 = .ok (.invokevirtual 120, 3) := by decide +kernel
theorem dX11_says_18 : decode cX11_says 18 = .ok (.ifCond .ne 5, 3) := by decide +kernel
theorem dX11_says_21 : decode cX11_says 21 = .ok (.iconst (-1), 1) := by decide +kernel
theorem dX11_says_22 : decode cX11_says 22 = .ok (.ireturn, 1) := by decide +kernel
theorem dX11_says_23 : decode cX11_says 23 = .ok (.aload_n 0, 1) := by decide +kernel
theorem dX11_says_24 : decode cX11_says 24 = .ok (.getfield 36, 3) := by decide +kernel
theorem dX11_says_27 : decode cX11_says 27 = .ok (.getfield 131, 3) := by decide +kernel
theorem dX11_says_30 : decode cX11_says 30 = .ok (.iload_n 1, 1) := by decide +kernel
theorem dX11_says_31 : decode cX11_says 31 = .ok (.iload_n 2, 1) := by decide +kernel
theorem dX11_says_32 : decode cX11_says 32 = .ok (.iastore, 1) := by decide +kernel
theorem dX11_says_33 : decode cX11_says 33 = .ok (.aload_n 0, 1) := by decide +kernel
theorem dX11_says_34 : decode cX11_says 34 = .ok (.getfield 43, 3) := by decide +kernel
theorem dX11_says_37 : decode cX11_says 37 = .ok (.aload_n 0, 1) := by decide +kernel
theorem dX11_says_38 : decode cX11_says 38 = .ok (.getfield 36, 3) := by decide +kernel
theorem dX11_says_41 : decode cX11_says 41 = .ok (.invokevirtual 159, 3) := by decide +kernel
theorem dX11_says_44 : decode cX11_says 44 = .ok (.iload_n 2, 1) := by decide +kernel
theorem dX11_says_45 : decode cX11_says 45 = .ok (.iconst (-1), 1) := by decide +kernel
theorem dX11_says_46 : decode cX11_says 46 = .ok (.if_icmp .ne 7, 3) := by decide +kernel
theorem dX11_says_49 : decode cX11_says 49 = .ok (.iconst 0, 1) := by decide +kernel
theorem dX11_says_50 : decode cX11_says 50 = .ok (.goto 14, 3) := by decide +kernel
theorem dX11_says_53 : decode cX11_says 53 = .ok (.aload_n 0, 1) := by decide +kernel
theorem dX11_says_54 : decode cX11_says 54 = .ok (.getfield 36, 3) := by decide +kernel
theorem dX11_says_57 : decode cX11_says 57 = .ok (.iload_n 2, 1) := by decide +kernel
theorem dX11_says_58 : decode cX11_says 58 = .ok (.invokevirtual 163, 3) := by decide +kernel
theorem dX11_says_61 : decode cX11_says 61 = .ok (.invokestatic 166, 3) := by decide +kernel
theorem dX11_says_64 : decode cX11_says 64 = .ok (.ireturn, 1) := by decide +kernel
theorem dX11_feud_0 : decode cX11_feud 0 = .ok (.aload_n 0, 1) := by decide +kernel
theorem dX11_feud_1 : decode cX11_feud 1 = .ok (.iload_n 1, 1) := by decide +kernel
theorem dX11_feud_2 : decode cX11_feud 2 = .ok (.invokevirtual 120, 3) := by decide +kernel
theorem dX11_feud_5 : decode cX11_feud 5 = .ok (.ifCond .eq 16, 3) := by decide +kernel
theorem dX11_feud_8 : decode cX11_feud 8 = .ok (.aload_n 0, 1) := by decide +kernel
theorem dX11_feud_9 : decode cX11_feud 9 = .ok (.iload_n 2, 1) := by decide +kernel
theorem dX11_feud_10 : decode cX11_feud 10 = .ok (.invokevirtual 120, 3) := by decide +kernel
theorem dX11_feud_13 : decode cX11_feud 13 = .ok (.ifCond .eq 8, 3) := by decide +kernel
theorem dX11_feud_16 : decode cX11_feud 16 = .ok (.iload_n 1, 1) := by decide +kernel
theorem dX11_feud_17 : decode cX11_feud 17 = .ok (.iload_n 2, 1) := by decide +kernel
theorem dX11_feud_18 : decode cX11_feud 18 = .ok (.if_icmp .ne 5, 3) := by decide +kernel
theorem dX11_feud_21 : decode cX11_feud 21 = .ok (.iconst (-1), 1) := by decide +kernel
theorem dX11_feud_22 : decode cX11_feud 22 = .ok (.ireturn, 1) := by decide +kernel
theorem dX11_feud_23 : decode cX11_feud 23 = .ok (.aload_n 0, 1) := by decide +kernel
theorem dX11_feud_24 : decode cX11_feud 24 = .ok (.getfield 36, 3) := by decide +kernel
theorem dX11_feud_27 : decode cX11_feud 27 = .ok (.getfield 153, 3) := by decide +kernel
theorem dX11_feud_30 : decode cX11_feud 30 = .ok (.iload_n 1, 1) := by decide +kernel
theorem dX11_feud_31 : decode cX11_feud 31 = .ok (.dup2, 1) := by decide +kernel
theorem dX11_feud_32 : decode cX11_feud 32 = .ok (.iaload, 1) := by decide +kernel
theorem dX11_feud_33 : decode cX11_feud 33 = .ok (.iconst 1, 1) := by decide +kernel
theorem dX11_feud_34 : decode cX11_feud 34 = .ok (.iload_n 2, 1) := by decide +kernel
theorem dX11_feud_35 : decode cX11_feud 35 = .ok (.ishl, 1) := by decide +kernel
theorem dX11_feud_36 : decode cX11_feud 36 = .ok (.ixor, 1) := by decide +kernel
theorem dX11_feud_37 : decode cX11_feud 37 = .ok (.iastore, 1) := by decide +kernel
theorem dX11_feud_38 : decode cX11_feud 38 = .ok (.aload_n 0, 1) := by decide +kernel
theorem dX11_feud_39 : decode cX11_feud 39 = .ok (.getfield 36, 3) := by decide +kernel
theorem dX11_feud_42 : decode cX11_feud 42 = .ok (.getfield 153, 3) := by decide +kernel
theorem dX11_feud_45 : decode cX11_feud 45 = .ok (.iload_n 2, 1) := by decide +kernel
theorem dX11_feud_46 : decode cX11_feud 46 = .ok (.dup2, 1) := by decide +kernel
theorem dX11_feud_47 : decode cX11_feud 47 = .ok (.iaload, 1) := by decide +kernel
theorem dX11_feud_48 : decode cX11_feud 48 = .ok (.iconst 1, 1) := by decide +kernel
theorem dX11_feud_49 : decode cX11_feud 49 = .ok (.iload_n 1, 1) := by decide +kernel
theorem dX11_feud_50 : decode cX11_feud 50 = .ok (.ishl, 1) := by decide +kernel
theorem dX11_feud_51 : decode cX11_feud 51 = .ok (.ixor, 1) := by decide +kernel
theorem dX11_feud_52 : decode cX11_feud 52 = .ok (.iastore, 1) := by decide +kernel
theorem dX11_feud_53 : decode cX11_feud 53 = .ok (.aload_n 0, 1) := by decide +kernel
theorem dX11_feud_54 : decode cX11_feud 54 = .ok (.getfield 43, 3) := by decide +kernel
theorem dX11_feud_57 : decode cX11_feud 57 = .ok (.aload_n 0, 1) := by decide +kernel
theorem dX11_feud_58 : decode cX11_feud 58 = .ok (.getfield 36, 3) := by decide +kernel
theorem dX11_feud_61 : decode cX11_feud 61 = .ok (.invokevirtual 159, 3) := by decide +kernel
theorem dX11_feud_64 : decode cX11_feud 64 = .ok (.aload_n 0, 1) := by decide +kernel
theorem dX11_feud_65 : decode cX11_feud 65 = .ok (.getfield 36, 3) := by decide +kernel
theorem dX11_feud_68 : decode cX11_feud 68 = .ok (.getfield 153, 3) := by decide +kernel
theorem dX11_feud_71 : decode cX11_feud 71 = .ok (.iload_n 1, 1) := by decide +kernel
theorem dX11_feud_72 : decode cX11_feud 72 = .ok (.iaload, 1) := by decide +kernel
theorem dX11_feud_73 : decode cX11_feud 73 = .ok (.iload_n 2, 1) := by decide +kernel
theorem dX11_feud_74 : decode cX11_feud 74 = .ok (.ishr, 1) := by decide +kernel
theorem dX11_feud_75 : decode cX11_feud 75 = .ok (.iconst 1, 1) := by decide +kernel
theorem dX11_feud_76 : decode cX11_feud 76 = .ok (.iand, 1) := by decide +kernel
theorem dX11_feud_77 : decode cX11_feud 77 = .ok (.ireturn, 1) := by decide +kernel
theorem dX11_bread_0 : decode cX11_bread 0 = .ok (.aload_n 0, 1) := by decide +kernel
theorem dX11_bread_1 : decode cX11_bread 1 = .ok (.getfield 36, 3) := by decide +kernel
theorem dX11_bread_4 : decode cX11_bread 4 = .ok (.getfield 171, 3) := by decide +kernel
theorem dX11_bread_7 : decode cX11_bread 7 = .ok (.sipush 999, 3) := by decide +kernel
theorem dX11_bread_10 : decode cX11_bread 10 = .ok (.if_icmp .lt 5, 3) := by decide +kernel
theorem dX11_bread_13 : decode cX11_bread 13 = .ok (.iconst (-1), 1) := by decide +kernel
theorem dX11_bread_14 : decode cX11_bread 14 = .ok (.ireturn, 1) := by decide +kernel
theorem dX11_bread_15 : decode cX11_bread 15 = .ok (.aload_n 0, 1) := by decide +kernel
theorem dX11_bread_16 : decode cX11_bread 16 = .ok (.getfield 69, 3) := by decide +kernel
theorem dX11_bread_19 : decode cX11_bread 19 = .ok (.invokevirtual 174, 3) := by decide +kernel
theorem dX11_bread_22 : decode cX11_bread 22 = .ok (.istore_n 1, 1) := by decide +kernel
theorem dX11_bread_23 : decode cX11_bread 23 = .ok (.aload_n 0, 1) := by decide +kernel
theorem dX11_bread_24 : decode cX11_bread 24 = .ok (.getfield 36, 3) := by decide +kernel
theorem dX11_bread_27 : decode cX11_bread 27 = .ok (.invokevirtual 178, 3) := by decide +kernel
theorem dX11_bread_30 : decode cX11_bread 30 = .ok (.invokestatic 166, 3) := by decide +kernel
theorem dX11_bread_33 : decode cX11_bread 33 = .ok (.istore_n 2, 1) := by decide +kernel
theorem dX11_bread_34 : decode cX11_bread 34 = .ok (.iconst 0, 1) := by decide +kernel
theorem dX11_bread_35 : decode cX11_bread 35 = .ok (.istore_n 3, 1) := by decide +kernel
theorem dX11_bread_36 : decode cX11_bread 36 = .ok (.iload_n 3, 1) := by decide +kernel
theorem dX11_bread_37 : decode cX11_bread 37 = .ok (.aload_n 0, 1) := by decide +kernel
theorem dX11_bread_38 : decode cX11_bread 38 = .ok (.getfield 29, 3) := by decide +kernel
theorem dX11_bread_41 : decode cX11_bread 41 = .ok (.getfield 117, 3) := by decide +kernel
theorem dX11_bread_44 : decode cX11_bread 44 = .ok (.if_icmp .ge 59, 3) := by decide +kernel
theorem dX11_bread_47 : decode cX11_bread 47 = .ok (.aload_n 0, 1) := by decide +kernel
theorem dX11_bread_48 : decode cX11_bread 48 = .ok (.getfield 76, 3) := by decide +kernel
theorem dX11_bread_51 : decode cX11_bread 51 = .ok (.iload_n 3, 1) := by decide +kernel
theorem dX11_bread_52 : decode cX11_bread 52 = .ok (.aload_n 0, 1) := by decide +kernel
theorem dX11_bread_53 : decode cX11_bread 53 = .ok (.getfield 36, 3) := by decide +kernel
theorem dX11_bread_56 : decode cX11_bread 56 = .ok (.getfield 128, 3) := by decide +kernel
theorem dX11_bread_59 : decode cX11_bread 59 = .ok (.iload_n 3, 1) := by decide +kernel
theorem dX11_bread_60 : decode cX11_bread 60 = .ok (.iaload, 1) := by decide +kernel
theorem dX11_bread_61 : decode cX11_bread 61 = .ok (.aload_n 0, 1) := by decide +kernel
theorem dX11_bread_62 : decode cX11_bread 62 = .ok (.getfield 36, 3) := by decide +kernel
theorem dX11_bread_65 : decode cX11_bread 65 = .ok (.getfield 181, 3) := by decide +kernel
theorem dX11_bread_68 : decode cX11_bread 68 = .ok (.iload_n 2, 1) := by decide +kernel
theorem dX11_bread_69 : decode cX11_bread 69 = .ok (.invokevirtual 184, 3) := by decide +kernel
theorem dX11_bread_72 : decode cX11_bread 72 = .ok (.istore 4, 2) := by decide +kernel
theorem dX11_bread_74 : decode cX11_bread 74 = .ok (.aload_n 0, 1) := by decide +kernel
theorem dX11_bread_75 : decode cX11_bread 75 = .ok (.getfield 36, 3) := by decide +kernel
theorem dX11_bread_78 : decode cX11_bread 78 = .ok (.iload_n 3, 1) := by decide +kernel
theorem dX11_bread_79 : decode cX11_bread 79 = .ok (.iload 4, 2) := by decide +kernel
theorem dX11_bread_81 : decode cX11_bread 81 = .ok (.iload_n 1, 1) := by decide +kernel
theorem dX11_bread_82 : decode cX11_bread 82 = .ok (.iconst 1, 1) := by decide +kernel
theorem dX11_bread_83 : decode cX11_bread 83 = .ok (.iload_n 3, 1) := by decide +kernel
theorem dX11_bread_84 : decode cX11_bread 84 = .ok (.ishl, 1) := by decide +kernel
theorem dX11_bread_85 : decode cX11_bread 85 = .ok (.iand, 1) := by decide +kernel
theorem dX11_bread_86 : decode cX11_bread 86 = .ok (.ifCond .eq 7, 3) := by decide +kernel
theorem dX11_bread_89 : decode cX11_bread 89 = .ok (.iconst 1, 1) := by decide +kernel
theorem dX11_bread_90 : decode cX11_bread 90 = .ok (.goto 4, 3) := by decide +kernel
theorem dX11_bread_93 : decode cX11_bread 93 = .ok (.iconst 0, 1) := by decide +kernel
theorem dX11_bread_94 : decode cX11_bread 94 = .ok (.invokevirtual 188, 3) := by decide +kernel
theorem dX11_bread_97 : decode cX11_bread 97 = .ok (.iinc 3 1, 3) := by decide +kernel
theorem dX11_bread_100 : decode cX11_bread 100 = .ok (.goto (-64), 3) := by decide +kernel
theorem dX11_bread_103 : decode cX11_bread 103 = .ok (.aload_n 0, 1) := by decide +kernel
theorem dX11_bread_104 : decode cX11_bread 104 = .ok (.getfield 36, 3) := by decide +kernel
theorem dX11_bread_107 : decode cX11_bread 107 = .ok (.invokevirtual 192, 3) := by decide +kernel
theorem dX11_bread_110 : decode cX11_bread 110 = .ok (.aload_n 0, 1) := by decide +kernel
theorem dX11_bread_111 : decode cX11_bread 111 = .ok (.getfield 43, 3) := by decide +kernel
theorem dX11_bread_114 : decode cX11_bread 114 = .ok (.aload_n 0, 1) := by decide +kernel
theorem dX11_bread_115 : decode cX11_bread 115 = .ok (.getfield 36, 3) := by decide +kernel
theorem dX11_bread_118 : decode cX11_bread 118 = .ok (.invokevirtual 159, 3) := by decide +kernel
theorem dX11_bread_121 : decode cX11_bread 121 = .ok (.iload_n 1, 1) := by decide +kernel
theorem dX11_bread_122 : decode cX11_bread 122 = .ok (.ireturn, 1) := by decide +kernel
theorem dX11_undo_0 : decode cX11_undo 0 = .ok (.aload_n 0, 1) := by decide +kernel
theorem dX11_undo_1 : decode cX11_undo 1 = .ok (.getfield 43, 3) := by decide +kernel
theorem dX11_undo_4 : decode cX11_undo 4 = .ok (.aload_n 0, 1) := by decide +kernel
theorem dX11_undo_5 : decode cX11_undo 5 = .ok (.getfield 36, 3) := by decide +kernel
theorem dX11_undo_8 : decode cX11_undo 8 = .ok (.invokevirtual 195, 3) := by decide +kernel
theorem dX11_undo_11 : decode cX11_undo 11 = .ok (.ireturn, 1) := by decide +kernel
theorem dX11_redo_0 : decode cX11_redo 0 = .ok (.aload_n 0, 1) := by decide +kernel
theorem dX11_redo_1 : decode cX11_redo 1 = .ok (.getfield 43, 3) := by decide +kernel
theorem dX11_redo_4 : decode cX11_redo 4 = .ok (.aload_n 0, 1) := by decide +kernel
theorem dX11_redo_5 : decode cX11_redo 5 = .ok (.getfield 36, 3) := by decide +kernel
theorem dX11_redo_8 : decode cX11_redo 8 = .ok (.invokevirtual 199, 3) := by decide +kernel
theorem dX11_redo_11 : decode cX11_redo 11 = .ok (.ireturn, 1) := by decide +kernel
theorem dX11_stone_0 : decode cX11_stone 0 = .ok (.aload_n 0, 1) := by decide +kernel
theorem dX11_stone_1 : decode cX11_stone 1 = .ok (.getfield 36, 3) := by decide +kernel
theorem dX11_stone_4 : decode cX11_stone 4 = .ok (.aload_n 0, 1) := by decide +kernel
theorem dX11_stone_5 : decode cX11_stone 5 = .ok (.getfield 36, 3) := by decide +kernel
theorem dX11_stone_8 : decode cX11_stone 8 = .ok (.invokevirtual 178, 3) := by decide +kernel
theorem dX11_stone_11 : decode cX11_stone 11 = .ok (.invokevirtual 202, 3) := by decide +kernel
theorem dX11_stone_14 : decode cX11_stone 14 = .ok (.ireturn, 1) := by decide +kernel
theorem dX11_fed_0 : decode cX11_fed 0 = .ok (.aload_n 0, 1) := by decide +kernel
theorem dX11_fed_1 : decode cX11_fed 1 = .ok (.getfield 69, 3) := by decide +kernel
theorem dX11_fed_4 : decode cX11_fed 4 = .ok (.invokevirtual 174, 3) := by decide +kernel
theorem dX11_fed_7 : decode cX11_fed 7 = .ok (.ireturn, 1) := by decide +kernel
theorem dX11_feeds_0 : decode cX11_feeds 0 = .ok (.aload_n 0, 1) := by decide +kernel
theorem dX11_feeds_1 : decode cX11_feeds 1 = .ok (.getfield 69, 3) := by decide +kernel
theorem dX11_feeds_4 : decode cX11_feeds 4 = .ok (.iload_n 1, 1) := by decide +kernel
theorem dX11_feeds_5 : decode cX11_feeds 5 = .ok (.invokevirtual 205, 3) := by decide +kernel
theorem dX11_feeds_8 : decode cX11_feeds 8 = .ok (.ireturn, 1) := by decide +kernel
theorem dX11_richest_0 : decode cX11_richest 0 = .ok (.aload_n 0, 1) := by decide +kernel
theorem dX11_richest_1 : decode cX11_richest 1 = .ok (.getfield 69, 3) := by decide +kernel
theorem dX11_richest_4 : decode cX11_richest 4 = .ok (.invokevirtual 208, 3) := by decide +kernel
theorem dX11_richest_7 : decode cX11_richest 7 = .ok (.ireturn, 1) := by decide +kernel
theorem dX11_steady_0 : decode cX11_steady 0 = .ok (.aload_n 0, 1) := by decide +kernel
theorem dX11_steady_1 : decode cX11_steady 1 = .ok (.getfield 69, 3) := by decide +kernel
theorem dX11_steady_4 : decode cX11_steady 4 = .ok (.invokevirtual 211, 3) := by decide +kernel
theorem dX11_steady_7 : decode cX11_steady 7 = .ok (.ireturn, 1) := by decide +kernel
theorem dX11_isSteady_0 : decode cX11_isSteady 0 = .ok (.aload_n 0, 1) := by decide +kernel
theorem dX11_isSteady_1 : decode cX11_isSteady 1 = .ok (.getfield 69, 3) := by decide +kernel
theorem dX11_isSteady_4 : decode cX11_isSteady 4 = .ok (.invokevirtual 214, 3) := by decide +kernel
theorem dX11_isSteady_7 : decode cX11_isSteady 7 = .ok (.ireturn, 1) := by decide +kernel
theorem dX11_rest_0 : decode cX11_rest 0 = .ok (.aload_n 0, 1) := by decide +kernel
theorem dX11_rest_1 : decode cX11_rest 1 = .ok (.getfield 69, 3) := by decide +kernel
theorem dX11_rest_4 : decode cX11_rest 4 = .ok (.invokevirtual 218, 3) := by decide +kernel
theorem dX11_rest_7 : decode cX11_rest 7 = .ok (.ireturn, 1) := by decide +kernel
theorem dX11_silent_0 : decode cX11_silent 0 = .ok (.aload_n 0, 1) := by decide +kernel
theorem dX11_silent_1 : decode cX11_silent 1 = .ok (.getfield 69, 3) := by decide +kernel
theorem dX11_silent_4 : decode cX11_silent 4 = .ok (.invokevirtual 221, 3) := by decide +kernel
theorem dX11_silent_7 : decode cX11_silent 7 = .ok (.ireturn, 1) := by decide +kernel
theorem dX11_spoiler_0 : decode cX11_spoiler 0 = .ok (.iload_n 1, 1) := by decide +kernel
theorem dX11_spoiler_1 : decode cX11_spoiler 1 = .ok (.ifCond .eq 8, 3) := by decide +kernel
theorem dX11_spoiler_4 : decode cX11_spoiler 4 = .ok (.iload_n 1, 1) := by decide +kernel
theorem dX11_spoiler_5 : decode cX11_spoiler 5 = .ok (.iconst 1, 1) := by decide +kernel
theorem dX11_spoiler_6 : decode cX11_spoiler 6 = .ok (.if_icmp .ne 14, 3) := by decide +kernel
theorem dX11_spoiler_9 : decode cX11_spoiler 9 = .ok (.aload_n 0, 1) := by decide +kernel
theorem dX11_spoiler_10 : decode cX11_spoiler 10 = .ok (.getfield 69, 3) := by decide +kernel
theorem dX11_spoiler_13 : decode cX11_spoiler 13 = .ok (.iload_n 1, 1) := by decide +kernel
theorem dX11_spoiler_14 : decode cX11_spoiler 14 = .ok (.invokevirtual 224, 3) := by decide +kernel
theorem dX11_spoiler_17 : decode cX11_spoiler 17 = .ok (.goto 4, 3) := by decide +kernel
theorem dX11_spoiler_20 : decode cX11_spoiler 20 = .ok (.iconst (-1), 1) := by decide +kernel
theorem dX11_spoiler_21 : decode cX11_spoiler 21 = .ok (.ireturn, 1) := by decide +kernel
theorem dX11_claims_0 : decode cX11_claims 0 = .ok (.aload_n 0, 1) := by decide +kernel
theorem dX11_claims_1 : decode cX11_claims 1 = .ok (.iload_n 1, 1) := by decide +kernel
theorem dX11_claims_2 : decode cX11_claims 2 = .ok (.invokevirtual 120, 3) := by decide +kernel
theorem dX11_claims_5 : decode cX11_claims 5 = .ok (.ifCond .eq 14, 3) := by decide +kernel
theorem dX11_claims_8 : decode cX11_claims 8 = .ok (.aload_n 0, 1) := by decide +kernel
theorem dX11_claims_9 : decode cX11_claims 9 = .ok (.getfield 36, 3) := by decide +kernel
theorem dX11_claims_12 : decode cX11_claims 12 = .ok (.iload_n 1, 1) := by decide +kernel
theorem dX11_claims_13 : decode cX11_claims 13 = .ok (.invokevirtual 163, 3) := by decide +kernel
theorem dX11_claims_16 : decode cX11_claims 16 = .ok (.goto 4, 3) := by decide +kernel
theorem dX11_claims_19 : decode cX11_claims 19 = .ok (.iconst (-1), 1) := by decide +kernel
theorem dX11_claims_20 : decode cX11_claims 20 = .ok (.ireturn, 1) := by decide +kernel
theorem dX11_peace_0 : decode cX11_peace 0 = .ok (.iload_n 1, 1) := by decide +kernel
theorem dX11_peace_1 : decode cX11_peace 1 = .ok (.ifCond .eq 10, 3) := by decide +kernel
theorem dX11_peace_4 : decode cX11_peace 4 = .ok (.iload_n 1, 1) := by decide +kernel
theorem dX11_peace_5 : decode cX11_peace 5 = .ok (.iconst 1, 1) := by decide +kernel
theorem dX11_peace_6 : decode cX11_peace 6 = .ok (.if_icmp .eq 5, 3) := by decide +kernel
theorem dX11_peace_9 : decode cX11_peace 9 = .ok (.iconst (-1), 1) := by decide +kernel
theorem dX11_peace_10 : decode cX11_peace 10 = .ok (.ireturn, 1) := by decide +kernel
theorem dX11_peace_11 : decode cX11_peace 11 = .ok (.aload_n 0, 1) := by decide +kernel
theorem dX11_peace_12 : decode cX11_peace 12 = .ok (.getfield 69, 3) := by decide +kernel
theorem dX11_peace_15 : decode cX11_peace 15 = .ok (.invokevirtual 227, 3) := by decide +kernel
theorem dX11_peace_18 : decode cX11_peace 18 = .ok (.istore_n 2, 1) := by decide +kernel
theorem dX11_peace_19 : decode cX11_peace 19 = .ok (.iload_n 1, 1) := by decide +kernel
theorem dX11_peace_20 : decode cX11_peace 20 = .ok (.ifCond .ne 10, 3) := by decide +kernel
theorem dX11_peace_23 : decode cX11_peace 23 = .ok (.iload_n 2, 1) := by decide +kernel
theorem dX11_peace_24 : decode cX11_peace 24 = .ok (.invokestatic 166, 3) := by decide +kernel
theorem dX11_peace_27 : decode cX11_peace 27 = .ok (.goto 4, 3) := by decide +kernel
theorem dX11_peace_30 : decode cX11_peace 30 = .ok (.iload_n 2, 1) := by decide +kernel
theorem dX11_peace_31 : decode cX11_peace 31 = .ok (.ireturn, 1) := by decide +kernel
theorem dX11_pairs_0 : decode cX11_pairs 0 = .ok (.aload_n 0, 1) := by decide +kernel
theorem dX11_pairs_1 : decode cX11_pairs 1 = .ok (.getfield 69, 3) := by decide +kernel
theorem dX11_pairs_4 : decode cX11_pairs 4 = .ok (.invokevirtual 230, 3) := by decide +kernel
theorem dX11_pairs_7 : decode cX11_pairs 7 = .ok (.ireturn, 1) := by decide +kernel
theorem dX11_alike_0 : decode cX11_alike 0 = .ok (.aload_n 0, 1) := by decide +kernel
theorem dX11_alike_1 : decode cX11_alike 1 = .ok (.getfield 69, 3) := by decide +kernel
theorem dX11_alike_4 : decode cX11_alike 4 = .ok (.invokevirtual 233, 3) := by decide +kernel
theorem dX11_alike_7 : decode cX11_alike 7 = .ok (.ireturn, 1) := by decide +kernel
theorem dX11_makes_0 : decode cX11_makes 0 = .ok (.aload_n 0, 1) := by decide +kernel
theorem dX11_makes_1 : decode cX11_makes 1 = .ok (.iload_n 1, 1) := by decide +kernel
theorem dX11_makes_2 : decode cX11_makes 2 = .ok (.invokevirtual 120, 3) := by decide +kernel
theorem dX11_makes_5 : decode cX11_makes 5 = .ok (.ifCond .eq 15, 3) := by decide +kernel
theorem dX11_makes_8 : decode cX11_makes 8 = .ok (.aload_n 0, 1) := by decide +kernel
theorem dX11_makes_9 : decode cX11_makes 9 = .ok (.getfield 76, 3) := by decide +kernel
theorem dX11_makes_12 : decode cX11_makes 12 = .ok (.iload_n 1, 1) := by decide +kernel
theorem dX11_makes_13 : decode cX11_makes 13 = .ok (.iload_n 2, 1) := by decide +kernel
theorem dX11_makes_14 : decode cX11_makes 14 = .ok (.invokevirtual 236, 3) := by decide +kernel
theorem dX11_makes_17 : decode cX11_makes 17 = .ok (.goto 4, 3) := by decide +kernel
theorem dX11_makes_20 : decode cX11_makes 20 = .ok (.iconst 0, 1) := by decide +kernel
theorem dX11_makes_21 : decode cX11_makes 21 = .ok (.ireturn, 1) := by decide +kernel
theorem dX11_wants_0 : decode cX11_wants 0 = .ok (.aload_n 0, 1) := by decide +kernel
theorem dX11_wants_1 : decode cX11_wants 1 = .ok (.iload_n 1, 1) := by decide +kernel
theorem dX11_wants_2 : decode cX11_wants 2 = .ok (.invokevirtual 120, 3) := by decide +kernel
theorem dX11_wants_5 : decode cX11_wants 5 = .ok (.ifCond .eq 12, 3) := by decide +kernel
theorem dX11_wants_8 : decode cX11_wants 8 = .ok (.iload_n 3, 1) := by decide +kernel
theorem dX11_wants_9 : decode cX11_wants 9 = .ok (.ifCond .eq 10, 3) := by decide +kernel
theorem dX11_wants_12 : decode cX11_wants 12 = .ok (.iload_n 3, 1) := by decide +kernel
theorem dX11_wants_13 : decode cX11_wants 13 = .ok (.iconst 1, 1) := by decide +kernel
theorem dX11_wants_14 : decode cX11_wants 14 = .ok (.if_icmp .eq 5, 3) := by decide +kernel
theorem dX11_wants_17 : decode cX11_wants 17 = .ok (.iconst (-1), 1) := by decide +kernel
theorem dX11_wants_18 : decode cX11_wants 18 = .ok (.ireturn, 1) := by decide +kernel
theorem dX11_wants_19 : decode cX11_wants 19 = .ok (.aload_n 0, 1) := by decide +kernel
theorem dX11_wants_20 : decode cX11_wants 20 = .ok (.getfield 76, 3) := by decide +kernel
theorem dX11_wants_23 : decode cX11_wants 23 = .ok (.iload_n 1, 1) := by decide +kernel
theorem dX11_wants_24 : decode cX11_wants 24 = .ok (.iload_n 2, 1) := by decide +kernel
theorem dX11_wants_25 : decode cX11_wants 25 = .ok (.invokevirtual 240, 3) := by decide +kernel
theorem dX11_wants_28 : decode cX11_wants 28 = .ok (.istore 4, 2) := by decide +kernel
theorem dX11_wants_30 : decode cX11_wants 30 = .ok (.iload 4, 2) := by decide +kernel
theorem dX11_wants_32 : decode cX11_wants 32 = .ok (.iconst (-1), 1) := by decide +kernel
theorem dX11_wants_33 : decode cX11_wants 33 = .ok (.if_icmp .eq 8, 3) := by decide +kernel
theorem dX11_wants_36 : decode cX11_wants 36 = .ok (.iload_n 3, 1) := by decide +kernel
theorem dX11_wants_37 : decode cX11_wants 37 = .ok (.iconst 1, 1) := by decide +kernel
theorem dX11_wants_38 : decode cX11_wants 38 = .ok (.if_icmp .ne 8, 3) := by decide +kernel
theorem dX11_wants_41 : decode cX11_wants 41 = .ok (.iload 4, 2) := by decide +kernel
theorem dX11_wants_43 : decode cX11_wants 43 = .ok (.goto 8, 3) := by decide +kernel
theorem dX11_wants_46 : decode cX11_wants 46 = .ok (.iload 4, 2) := by decide +kernel
theorem dX11_wants_48 : decode cX11_wants 48 = .ok (.invokestatic 166, 3) := by decide +kernel
theorem dX11_wants_51 : decode cX11_wants 51 = .ok (.ireturn, 1) := by decide +kernel
theorem dX11_warm_0 : decode cX11_warm 0 = .ok (.aload_n 0, 1) := by decide +kernel
theorem dX11_warm_1 : decode cX11_warm 1 = .ok (.iload_n 1, 1) := by decide +kernel
theorem dX11_warm_2 : decode cX11_warm 2 = .ok (.invokevirtual 120, 3) := by decide +kernel
theorem dX11_warm_5 : decode cX11_warm 5 = .ok (.ifCond .eq 15, 3) := by decide +kernel
theorem dX11_warm_8 : decode cX11_warm 8 = .ok (.aload_n 0, 1) := by decide +kernel
theorem dX11_warm_9 : decode cX11_warm 9 = .ok (.getfield 76, 3) := by decide +kernel
theorem dX11_warm_12 : decode cX11_warm 12 = .ok (.iload_n 1, 1) := by decide +kernel
theorem dX11_warm_13 : decode cX11_warm 13 = .ok (.iload_n 2, 1) := by decide +kernel
theorem dX11_warm_14 : decode cX11_warm 14 = .ok (.invokevirtual 243, 3) := by decide +kernel
theorem dX11_warm_17 : decode cX11_warm 17 = .ok (.goto 4, 3) := by decide +kernel
theorem dX11_warm_20 : decode cX11_warm 20 = .ok (.iconst (-1), 1) := by decide +kernel
theorem dX11_warm_21 : decode cX11_warm 21 = .ok (.ireturn, 1) := by decide +kernel
theorem dX11_will_0 : decode cX11_will 0 = .ok (.aload_n 0, 1) := by decide +kernel
theorem dX11_will_1 : decode cX11_will 1 = .ok (.iload_n 1, 1) := by decide +kernel
theorem dX11_will_2 : decode cX11_will 2 = .ok (.invokevirtual 120, 3) := by decide +kernel
theorem dX11_will_5 : decode cX11_will 5 = .ok (.ifCond .eq 13, 3) := by decide +kernel
theorem dX11_will_8 : decode cX11_will 8 = .ok (.iload_n 2, 1) := by decide +kernel
theorem dX11_will_9 : decode cX11_will 9 = .ok (.ifCond .lt 9, 3) := by decide +kernel
theorem dX11_will_12 : decode cX11_will 12 = .ok (.iload_n 2, 1) := by decide +kernel
theorem dX11_will_13 : decode cX11_will 13 = .ok (.bipush 60, 2) := by decide +kernel
theorem dX11_will_15 : decode cX11_will 15 = .ok (.if_icmp .le 5, 3) := by decide +kernel
theorem dX11_will_18 : decode cX11_will 18 = .ok (.iconst (-1), 1) := by decide +kernel
theorem dX11_will_19 : decode cX11_will 19 = .ok (.ireturn, 1) := by decide +kernel
theorem dX11_will_20 : decode cX11_will 20 = .ok (.aload_n 0, 1) := by decide +kernel
theorem dX11_will_21 : decode cX11_will 21 = .ok (.getfield 76, 3) := by decide +kernel
theorem dX11_will_24 : decode cX11_will 24 = .ok (.iload_n 1, 1) := by decide +kernel
theorem dX11_will_25 : decode cX11_will 25 = .ok (.iload_n 2, 1) := by decide +kernel
theorem dX11_will_26 : decode cX11_will 26 = .ok (.invokevirtual 246, 3) := by decide +kernel
theorem dX11_will_29 : decode cX11_will 29 = .ok (.ireturn, 1) := by decide +kernel
theorem dX11_odds_0 : decode cX11_odds 0 = .ok (.aload_n 0, 1) := by decide +kernel
theorem dX11_odds_1 : decode cX11_odds 1 = .ok (.iload_n 1, 1) := by decide +kernel
theorem dX11_odds_2 : decode cX11_odds 2 = .ok (.invokevirtual 120, 3) := by decide +kernel
theorem dX11_odds_5 : decode cX11_odds 5 = .ok (.ifCond .eq 24, 3) := by decide +kernel
theorem dX11_odds_8 : decode cX11_odds 8 = .ok (.iload_n 2, 1) := by decide +kernel
theorem dX11_odds_9 : decode cX11_odds 9 = .ok (.ifCond .lt 20, 3) := by decide +kernel
theorem dX11_odds_12 : decode cX11_odds 12 = .ok (.iload_n 2, 1) := by decide +kernel
theorem dX11_odds_13 : decode cX11_odds 13 = .ok (.bipush 6, 2) := by decide +kernel
theorem dX11_odds_15 : decode cX11_odds 15 = .ok (.if_icmp .gt 14, 3) := by decide +kernel
theorem dX11_odds_18 : decode cX11_odds 18 = .ok (.iload 4, 2) := by decide +kernel
theorem dX11_odds_20 : decode cX11_odds 20 = .ok (.ifCond .eq 11, 3) := by decide +kernel
theorem dX11_odds_23 : decode cX11_odds 23 = .ok (.iload 4, 2) := by decide +kernel
theorem dX11_odds_25 : decode cX11_odds 25 = .ok (.iconst 1, 1) := by decide +kernel
theorem dX11_odds_26 : decode cX11_odds 26 = .ok (.if_icmp .eq 5, 3) := by decide +kernel
theorem dX11_odds_29 : decode cX11_odds 29 = .ok (.iconst (-1), 1) := by decide +kernel
theorem dX11_odds_30 : decode cX11_odds 30 = .ok (.ireturn, 1) := by decide +kernel
theorem dX11_odds_31 : decode cX11_odds 31 = .ok (.aload_n 0, 1) := by decide +kernel
theorem dX11_odds_32 : decode cX11_odds 32 = .ok (.getfield 76, 3) := by decide +kernel
theorem dX11_odds_35 : decode cX11_odds 35 = .ok (.iload_n 1, 1) := by decide +kernel
theorem dX11_odds_36 : decode cX11_odds 36 = .ok (.iload_n 2, 1) := by decide +kernel
theorem dX11_odds_37 : decode cX11_odds 37 = .ok (.iload_n 3, 1) := by decide +kernel
theorem dX11_odds_38 : decode cX11_odds 38 = .ok (.iload 4, 2) := by decide +kernel
theorem dX11_odds_40 : decode cX11_odds 40 = .ok (.invokevirtual 249, 3) := by decide +kernel
theorem dX11_odds_43 : decode cX11_odds 43 = .ok (.ireturn, 1) := by decide +kernel
theorem dX11_soonest_0 : decode cX11_soonest 0 = .ok (.aload_n 0, 1) := by decide +kernel
theorem dX11_soonest_1 : decode cX11_soonest 1 = .ok (.iload_n 1, 1) := by decide +kernel
theorem dX11_soonest_2 : decode cX11_soonest 2 = .ok (.invokevirtual 120, 3) := by decide +kernel
theorem dX11_soonest_5 : decode cX11_soonest 5 = .ok (.ifCond .eq 15, 3) := by decide +kernel
theorem dX11_soonest_8 : decode cX11_soonest 8 = .ok (.aload_n 0, 1) := by decide +kernel
theorem dX11_soonest_9 : decode cX11_soonest 9 = .ok (.getfield 76, 3) := by decide +kernel
theorem dX11_soonest_12 : decode cX11_soonest 12 = .ok (.iload_n 1, 1) := by decide +kernel
theorem dX11_soonest_13 : decode cX11_soonest 13 = .ok (.iload_n 2, 1) := by decide +kernel
theorem dX11_soonest_14 : decode cX11_soonest 14 = .ok (.invokevirtual 252, 3) := by decide +kernel
theorem dX11_soonest_17 : decode cX11_soonest 17 = .ok (.goto 4, 3) := by decide +kernel
theorem dX11_soonest_20 : decode cX11_soonest 20 = .ok (.iconst (-1), 1) := by decide +kernel
theorem dX11_soonest_21 : decode cX11_soonest 21 = .ok (.ireturn, 1) := by decide +kernel
theorem dX11_lies_0 : decode cX11_lies 0 = .ok (.iload_n 1, 1) := by decide +kernel
theorem dX11_lies_1 : decode cX11_lies 1 = .ok (.ifCond .lt 26, 3) := by decide +kernel
theorem dX11_lies_4 : decode cX11_lies 4 = .ok (.iload_n 1, 1) := by decide +kernel
theorem dX11_lies_5 : decode cX11_lies 5 = .ok (.aload_n 0, 1) := by decide +kernel
theorem dX11_lies_6 : decode cX11_lies 6 = .ok (.getfield 69, 3) := by decide +kernel
theorem dX11_lies_9 : decode cX11_lies 9 = .ok (.getfield 255, 3) := by decide +kernel
theorem dX11_lies_12 : decode cX11_lies 12 = .ok (.if_icmp .ge 15, 3) := by decide +kernel
theorem dX11_lies_15 : decode cX11_lies 15 = .ok (.aload_n 0, 1) := by decide +kernel
theorem dX11_lies_16 : decode cX11_lies 16 = .ok (.getfield 69, 3) := by decide +kernel
theorem dX11_lies_19 : decode cX11_lies 19 = .ok (.getfield 258, 3) := by decide +kernel
theorem dX11_lies_22 : decode cX11_lies 22 = .ok (.iload_n 1, 1) := by decide +kernel
theorem dX11_lies_23 : decode cX11_lies 23 = .ok (.iaload, 1) := by decide +kernel
theorem dX11_lies_24 : decode cX11_lies 24 = .ok (.goto 5, 3) := by decide +kernel
theorem dX11_lies_27 : decode cX11_lies 27 = .ok (.bipush (-2), 2) := by decide +kernel
theorem dX11_lies_29 : decode cX11_lies 29 = .ok (.ireturn, 1) := by decide +kernel
theorem dX11_report_0 : decode cX11_report 0 = .ok (.aload_n 0, 1) := by decide +kernel
theorem dX11_report_1 : decode cX11_report 1 = .ok (.getfield 85, 3) := by decide +kernel
theorem dX11_report_4 : decode cX11_report 4 = .ok (.iload_n 1, 1) := by decide +kernel
theorem dX11_report_5 : decode cX11_report 5 = .ok (.iload_n 2, 1) := by decide +kernel
theorem dX11_report_6 : decode cX11_report 6 = .ok (.iload_n 3, 1) := by decide +kernel
theorem dX11_report_7 : decode cX11_report 7 = .ok (.iload 4, 2) := by decide +kernel
theorem dX11_report_9 : decode cX11_report 9 = .ok (.invokevirtual 261, 3) := by decide +kernel
theorem dX11_report_12 : decode cX11_report 12 = .ok (.ireturn, 1) := by decide +kernel
theorem dX11_untell_0 : decode cX11_untell 0 = .ok (.aload_n 0, 1) := by decide +kernel
theorem dX11_untell_1 : decode cX11_untell 1 = .ok (.getfield 85, 3) := by decide +kernel
theorem dX11_untell_4 : decode cX11_untell 4 = .ok (.iload_n 1, 1) := by decide +kernel
theorem dX11_untell_5 : decode cX11_untell 5 = .ok (.invokevirtual 264, 3) := by decide +kernel
theorem dX11_untell_8 : decode cX11_untell 8 = .ok (.ireturn, 1) := by decide +kernel
theorem dX11_later_0 : decode cX11_later 0 = .ok (.aload_n 0, 1) := by decide +kernel
theorem dX11_later_1 : decode cX11_later 1 = .ok (.getfield 85, 3) := by decide +kernel
theorem dX11_later_4 : decode cX11_later 4 = .ok (.iload_n 1, 1) := by decide +kernel
theorem dX11_later_5 : decode cX11_later 5 = .ok (.invokevirtual 267, 3) := by decide +kernel
theorem dX11_later_8 : decode cX11_later 8 = .ok (.ireturn, 1) := by decide +kernel
theorem dX11_fit_0 : decode cX11_fit 0 = .ok (.aload_n 0, 1) := by decide +kernel
theorem dX11_fit_1 : decode cX11_fit 1 = .ok (.getfield 85, 3) := by decide +kernel
theorem dX11_fit_4 : decode cX11_fit 4 = .ok (.iload_n 1, 1) := by decide +kernel
theorem dX11_fit_5 : decode cX11_fit 5 = .ok (.invokevirtual 270, 3) := by decide +kernel
theorem dX11_fit_8 : decode cX11_fit 8 = .ok (.invokestatic 166, 3) := by decide +kernel
theorem dX11_fit_11 : decode cX11_fit 11 = .ok (.ireturn, 1) := by decide +kernel
theorem dX11_sets_0 : decode cX11_sets 0 = .ok (.aload_n 0, 1) := by decide +kernel
theorem dX11_sets_1 : decode cX11_sets 1 = .ok (.getfield 85, 3) := by decide +kernel
theorem dX11_sets_4 : decode cX11_sets 4 = .ok (.iload_n 1, 1) := by decide +kernel
theorem dX11_sets_5 : decode cX11_sets 5 = .ok (.invokevirtual 270, 3) := by decide +kernel
theorem dX11_sets_8 : decode cX11_sets 8 = .ok (.ireturn, 1) := by decide +kernel
theorem dX11_sure_0 : decode cX11_sure 0 = .ok (.aload_n 0, 1) := by decide +kernel
theorem dX11_sure_1 : decode cX11_sure 1 = .ok (.iload_n 1, 1) := by decide +kernel
theorem dX11_sure_2 : decode cX11_sure 2 = .ok (.invokevirtual 156, 3) := by decide +kernel
theorem dX11_sure_5 : decode cX11_sure 5 = .ok (.ifCond .eq 15, 3) := by decide +kernel
theorem dX11_sure_8 : decode cX11_sure 8 = .ok (.aload_n 0, 1) := by decide +kernel
theorem dX11_sure_9 : decode cX11_sure 9 = .ok (.getfield 85, 3) := by decide +kernel
theorem dX11_sure_12 : decode cX11_sure 12 = .ok (.iload_n 1, 1) := by decide +kernel
theorem dX11_sure_13 : decode cX11_sure 13 = .ok (.iload_n 2, 1) := by decide +kernel
theorem dX11_sure_14 : decode cX11_sure 14 = .ok (.invokevirtual 273, 3) := by decide +kernel
theorem dX11_sure_17 : decode cX11_sure 17 = .ok (.goto 4, 3) := by decide +kernel
theorem dX11_sure_20 : decode cX11_sure 20 = .ok (.iconst (-1), 1) := by decide +kernel
theorem dX11_sure_21 : decode cX11_sure 21 = .ok (.ireturn, 1) := by decide +kernel
theorem dX11_ask_0 : decode cX11_ask 0 = .ok (.iload_n 1, 1) := by decide +kernel
theorem dX11_ask_1 : decode cX11_ask 1 = .ok (.invokestatic 276, 3) := by decide +kernel
theorem dX11_ask_4 : decode cX11_ask 4 = .ok (.ifCond .eq 19, 3) := by decide +kernel
theorem dX11_ask_7 : decode cX11_ask 7 = .ok (.iload_n 2, 1) := by decide +kernel
theorem dX11_ask_8 : decode cX11_ask 8 = .ok (.invokestatic 276, 3) := by decide +kernel
theorem dX11_ask_11 : decode cX11_ask 11 = .ok (.ifCond .eq 12, 3) := by decide +kernel
theorem dX11_ask_14 : decode cX11_ask 14 = .ok (.iload_n 3, 1) := by decide +kernel
theorem dX11_ask_15 : decode cX11_ask 15 = .ok (.ifCond .eq 10, 3) := by decide +kernel
theorem dX11_ask_18 : decode cX11_ask 18 = .ok (.iload_n 3, 1) := by decide +kernel
theorem dX11_ask_19 : decode cX11_ask 19 = .ok (.iconst 1, 1) := by decide +kernel
theorem dX11_ask_20 : decode cX11_ask 20 = .ok (.if_icmp .eq 5, 3) := by decide +kernel
theorem dX11_ask_23 : decode cX11_ask 23 = .ok (.iconst (-1), 1) := by decide +kernel
theorem dX11_ask_24 : decode cX11_ask 24 = .ok (.ireturn, 1) := by decide +kernel
theorem dX11_ask_25 : decode cX11_ask 25 = .ok (.aload_n 0, 1) := by decide +kernel
theorem dX11_ask_26 : decode cX11_ask 26 = .ok (.getfield 85, 3) := by decide +kernel
theorem dX11_ask_29 : decode cX11_ask 29 = .ok (.iload_n 1, 1) := by decide +kernel
theorem dX11_ask_30 : decode cX11_ask 30 = .ok (.iload_n 2, 1) := by decide +kernel
theorem dX11_ask_31 : decode cX11_ask 31 = .ok (.iload_n 3, 1) := by decide +kernel
theorem dX11_ask_32 : decode cX11_ask 32 = .ok (.iload 4, 2) := by decide +kernel
theorem dX11_ask_34 : decode cX11_ask 34 = .ok (.invokevirtual 279, 3) := by decide +kernel
theorem dX11_ask_37 : decode cX11_ask 37 = .ok (.ireturn, 1) := by decide +kernel
theorem dX11_course_0 : decode cX11_course 0 = .ok (.iload_n 1, 1) := by decide +kernel
theorem dX11_course_1 : decode cX11_course 1 = .ok (.ifCond .eq 8, 3) := by decide +kernel
theorem dX11_course_4 : decode cX11_course 4 = .ok (.iload_n 1, 1) := by decide +kernel
theorem dX11_course_5 : decode cX11_course 5 = .ok (.iconst 1, 1) := by decide +kernel
theorem dX11_course_6 : decode cX11_course 6 = .ok (.if_icmp .ne 15, 3) := by decide +kernel
theorem dX11_course_9 : decode cX11_course 9 = .ok (.aload_n 0, 1) := by decide +kernel
theorem dX11_course_10 : decode cX11_course 10 = .ok (.getfield 85, 3) := by decide +kernel
theorem dX11_course_13 : decode cX11_course 13 = .ok (.iload_n 1, 1) := by decide +kernel
theorem dX11_course_14 : decode cX11_course 14 = .ok (.iload_n 2, 1) := by decide +kernel
theorem dX11_course_15 : decode cX11_course 15 = .ok (.invokevirtual 282, 3) := by decide +kernel
theorem dX11_course_18 : decode cX11_course 18 = .ok (.goto 4, 3) := by decide +kernel
theorem dX11_course_21 : decode cX11_course 21 = .ok (.iconst (-1), 1) := by decide +kernel
theorem dX11_course_22 : decode cX11_course 22 = .ok (.ireturn, 1) := by decide +kernel
theorem dX11_image_0 : decode cX11_image 0 = .ok (.iload_n 1, 1) := by decide +kernel
theorem dX11_image_1 : decode cX11_image 1 = .ok (.invokestatic 285, 3) := by decide +kernel
theorem dX11_image_4 : decode cX11_image 4 = .ok (.ifCond .ne 5, 3) := by decide +kernel
theorem dX11_image_7 : decode cX11_image 7 = .ok (.iconst (-1), 1) := by decide +kernel
theorem dX11_image_8 : decode cX11_image 8 = .ok (.ireturn, 1) := by decide +kernel
theorem dX11_image_9 : decode cX11_image 9 = .ok (.aload_n 0, 1) := by decide +kernel
theorem dX11_image_10 : decode cX11_image 10 = .ok (.getfield 47, 3) := by decide +kernel
theorem dX11_image_13 : decode cX11_image 13 = .ok (.iload_n 1, 1) := by decide +kernel
theorem dX11_image_14 : decode cX11_image 14 = .ok (.aaload, 1) := by decide +kernel
theorem dX11_image_15 : decode cX11_image 15 = .ok (.aload_n 0, 1) := by decide +kernel
theorem dX11_image_16 : decode cX11_image 16 = .ok (.getfield 36, 3) := by decide +kernel
theorem dX11_image_19 : decode cX11_image 19 = .ok (.invokevirtual 288, 3) := by decide +kernel
theorem dX11_image_22 : decode cX11_image 22 = .ok (.aload_n 0, 1) := by decide +kernel
theorem dX11_image_23 : decode cX11_image 23 = .ok (.getfield 51, 3) := by decide +kernel
theorem dX11_image_26 : decode cX11_image 26 = .ok (.iload_n 1, 1) := by decide +kernel
theorem dX11_image_27 : decode cX11_image 27 = .ok (.iconst 1, 1) := by decide +kernel
theorem dX11_image_28 : decode cX11_image 28 = .ok (.bastore, 1) := by decide +kernel
theorem dX11_image_29 : decode cX11_image 29 = .ok (.aload_n 0, 1) := by decide +kernel
theorem dX11_image_30 : decode cX11_image 30 = .ok (.getfield 36, 3) := by decide +kernel
theorem dX11_image_33 : decode cX11_image 33 = .ok (.getfield 171, 3) := by decide +kernel
theorem dX11_image_36 : decode cX11_image 36 = .ok (.ireturn, 1) := by decide +kernel
theorem dX11_back_0 : decode cX11_back 0 = .ok (.iload_n 1, 1) := by decide +kernel
theorem dX11_back_1 : decode cX11_back 1 = .ok (.invokestatic 285, 3) := by decide +kernel
theorem dX11_back_4 : decode cX11_back 4 = .ok (.ifCond .eq 12, 3) := by decide +kernel
theorem dX11_back_7 : decode cX11_back 7 = .ok (.aload_n 0, 1) := by decide +kernel
theorem dX11_back_8 : decode cX11_back 8 = .ok (.getfield 51, 3) := by decide +kernel
theorem dX11_back_11 : decode cX11_back 11 = .ok (.iload_n 1, 1) := by decide +kernel
theorem dX11_back_12 : decode cX11_back 12 = .ok (.baload, 1) := by decide +kernel
theorem dX11_back_13 : decode cX11_back 13 = .ok (.ifCond .ne 5, 3) := by decide +kernel
theorem dX11_back_16 : decode cX11_back 16 = .ok (.iconst (-1), 1) := by decide +kernel
theorem dX11_back_17 : decode cX11_back 17 = .ok (.ireturn, 1) := by decide +kernel
theorem dX11_back_18 : decode cX11_back 18 = .ok (.aload_n 0, 1) := by decide +kernel
theorem dX11_back_19 : decode cX11_back 19 = .ok (.getfield 36, 3) := by decide +kernel
theorem dX11_back_22 : decode cX11_back 22 = .ok (.aload_n 0, 1) := by decide +kernel
theorem dX11_back_23 : decode cX11_back 23 = .ok (.getfield 47, 3) := by decide +kernel
theorem dX11_back_26 : decode cX11_back 26 = .ok (.iload_n 1, 1) := by decide +kernel
theorem dX11_back_27 : decode cX11_back 27 = .ok (.aaload, 1) := by decide +kernel
theorem dX11_back_28 : decode cX11_back 28 = .ok (.invokevirtual 288, 3) := by decide +kernel
theorem dX11_back_31 : decode cX11_back 31 = .ok (.aload_n 0, 1) := by decide +kernel
theorem dX11_back_32 : decode cX11_back 32 = .ok (.getfield 43, 3) := by decide +kernel
theorem dX11_back_35 : decode cX11_back 35 = .ok (.aload_n 0, 1) := by decide +kernel
theorem dX11_back_36 : decode cX11_back 36 = .ok (.getfield 36, 3) := by decide +kernel
theorem dX11_back_39 : decode cX11_back 39 = .ok (.invokevirtual 290, 3) := by decide +kernel
theorem dX11_back_42 : decode cX11_back 42 = .ok (.aload_n 0, 1) := by decide +kernel
theorem dX11_back_43 : decode cX11_back 43 = .ok (.getfield 36, 3) := by decide +kernel
theorem dX11_back_46 : decode cX11_back 46 = .ok (.getfield 171, 3) := by decide +kernel
theorem dX11_back_49 : decode cX11_back 49 = .ok (.ireturn, 1) := by decide +kernel
theorem dX11_about_0 : decode cX11_about 0 = .ok (.iload_n 1, 1) := by decide +kernel
theorem dX11_about_1 : decode cX11_about 1 = .ok (.tableswitch 186 0 13 #[71, 79, 87, 95, 103, 111, 119, 130, 138, 146, 154, 162, 167, 178], 71) := by decide +kernel
theorem dX11_about_72 : decode cX11_about 72 = .ok (.aload_n 0, 1) := by decide +kernel
theorem dX11_about_73 : decode cX11_about 73 = .ok (.getfield 29, 3) := by decide +kernel
theorem dX11_about_76 : decode cX11_about 76 = .ok (.getfield 117, 3) := by decide +kernel
theorem dX11_about_79 : decode cX11_about 79 = .ok (.ireturn, 1) := by decide +kernel
theorem dX11_about_80 : decode cX11_about 80 = .ok (.aload_n 0, 1) := by decide +kernel
theorem dX11_about_81 : decode cX11_about 81 = .ok (.getfield 29, 3) := by decide +kernel
theorem dX11_about_84 : decode cX11_about 84 = .ok (.getfield 292, 3) := by decide +kernel
theorem dX11_about_87 : decode cX11_about 87 = .ok (.ireturn, 1) := by decide +kernel
theorem dX11_about_88 : decode cX11_about 88 = .ok (.aload_n 0, 1) := by decide +kernel
theorem dX11_about_89 : decode cX11_about 89 = .ok (.getfield 36, 3) := by decide +kernel
theorem dX11_about_92 : decode cX11_about 92 = .ok (.invokevirtual 294, 3) := by decide +kernel
theorem dX11_about_95 : decode cX11_about 95 = .ok (.ireturn, 1) := by decide +kernel
theorem dX11_about_96 : decode cX11_about 96 = .ok (.aload_n 0, 1) := by decide +kernel
theorem dX11_about_97 : decode cX11_about 97 = .ok (.getfield 36, 3) := by decide +kernel
theorem dX11_about_100 : decode cX11_about 100 = .ok (.getfield 181, 3) := by decide +kernel
theorem dX11_about_103 : decode cX11_about 103 = .ok (.ireturn, 1) := by decide +kernel
theorem dX11_about_104 : decode cX11_about 104 = .ok (.aload_n 0, 1) := by decide +kernel
theorem dX11_about_105 : decode cX11_about 105 = .ok (.getfield 36, 3) := by decide +kernel
theorem dX11_about_108 : decode cX11_about 108 = .ok (.getfield 297, 3) := by decide +kernel
theorem dX11_about_111 : decode cX11_about 111 = .ok (.ireturn, 1) := by decide +kernel
theorem dX11_about_112 : decode cX11_about 112 = .ok (.aload_n 0, 1) := by decide +kernel
theorem dX11_about_113 : decode cX11_about 113 = .ok (.getfield 36, 3) := by decide +kernel
theorem dX11_about_116 : decode cX11_about 116 = .ok (.getfield 171, 3) := by decide +kernel
theorem dX11_about_119 : decode cX11_about 119 = .ok (.ireturn, 1) := by decide +kernel
theorem dX11_about_120 : decode cX11_about 120 = .ok (.aload_n 0, 1) := by decide +kernel
theorem dX11_about_121 : decode cX11_about 121 = .ok (.getfield 36, 3) := by decide +kernel
theorem dX11_about_124 : decode cX11_about 124 = .ok (.invokevirtual 178, 3) := by decide +kernel
theorem dX11_about_127 : decode cX11_about 127 = .ok (.invokestatic 166, 3) := by decide +kernel
theorem dX11_about_130 : decode cX11_about 130 = .ok (.ireturn, 1) := by decide +kernel
theorem dX11_about_131 : decode cX11_about 131 = .ok (.aload_n 0, 1) := by decide +kernel
theorem dX11_about_132 : decode cX11_about 132 = .ok (.getfield 43, 3) := by decide +kernel
theorem dX11_about_135 : decode cX11_about 135 = .ok (.getfield 300, 3) := by decide +kernel
theorem dX11_about_138 : decode cX11_about 138 = .ok (.ireturn, 1) := by decide +kernel
theorem dX11_about_139 : decode cX11_about 139 = .ok (.aload_n 0, 1) := by decide +kernel
theorem dX11_about_140 : decode cX11_about 140 = .ok (.getfield 43, 3) := by decide +kernel
theorem dX11_about_143 : decode cX11_about 143 = .ok (.getfield 303, 3) := by decide +kernel
theorem dX11_about_146 : decode cX11_about 146 = .ok (.ireturn, 1) := by decide +kernel
theorem dX11_about_147 : decode cX11_about 147 = .ok (.aload_n 0, 1) := by decide +kernel
theorem dX11_about_148 : decode cX11_about 148 = .ok (.getfield 85, 3) := by decide +kernel
theorem dX11_about_151 : decode cX11_about 151 = .ok (.getfield 306, 3) := by decide +kernel
theorem dX11_about_154 : decode cX11_about 154 = .ok (.ireturn, 1) := by decide +kernel
theorem dX11_about_155 : decode cX11_about 155 = .ok (.aload_n 0, 1) := by decide +kernel
theorem dX11_about_156 : decode cX11_about 156 = .ok (.getfield 85, 3) := by decide +kernel
theorem dX11_about_159 : decode cX11_about 159 = .ok (.getfield 309, 3) := by decide +kernel
theorem dX11_about_162 : decode cX11_about 162 = .ok (.ireturn, 1) := by decide +kernel
theorem dX11_about_163 : decode cX11_about 163 = .ok (.aload_n 0, 1) := by decide +kernel
theorem dX11_about_164 : decode cX11_about 164 = .ok (.getfield 92, 3) := by decide +kernel
theorem dX11_about_167 : decode cX11_about 167 = .ok (.ireturn, 1) := by decide +kernel
theorem dX11_about_168 : decode cX11_about 168 = .ok (.aload_n 0, 1) := by decide +kernel
theorem dX11_about_169 : decode cX11_about 169 = .ok (.getfield 29, 3) := by decide +kernel
theorem dX11_about_172 : decode cX11_about 172 = .ok (.getfield 312, 3) := by decide +kernel
theorem dX11_about_175 : decode cX11_about 175 = .ok (.getfield 316, 3) := by decide +kernel
theorem dX11_about_178 : decode cX11_about 178 = .ok (.ireturn, 1) := by decide +kernel
theorem dX11_about_179 : decode cX11_about 179 = .ok (.aload_n 0, 1) := by decide +kernel
theorem dX11_about_180 : decode cX11_about 180 = .ok (.getfield 69, 3) := by decide +kernel
theorem dX11_about_183 : decode cX11_about 183 = .ok (.getfield 255, 3) := by decide +kernel
theorem dX11_about_186 : decode cX11_about 186 = .ok (.ireturn, 1) := by decide +kernel
theorem dX11_about_187 : decode cX11_about 187 = .ok (.iconst (-1), 1) := by decide +kernel
theorem dX11_about_188 : decode cX11_about 188 = .ok (.ireturn, 1) := by decide +kernel
theorem dX11_begin_0 : decode cX11_begin 0 = .ok (.aload_n 0, 1) := by decide +kernel
theorem dX11_begin_1 : decode cX11_begin 1 = .ok (.getfield 36, 3) := by decide +kernel
theorem dX11_begin_4 : decode cX11_begin 4 = .ok (.aload_n 0, 1) := by decide +kernel
theorem dX11_begin_5 : decode cX11_begin 5 = .ok (.getfield 29, 3) := by decide +kernel
theorem dX11_begin_8 : decode cX11_begin 8 = .ok (.invokevirtual 321, 3) := by decide +kernel
theorem dX11_begin_11 : decode cX11_begin 11 = .ok (.aload_n 0, 1) := by decide +kernel
theorem dX11_begin_12 : decode cX11_begin 12 = .ok (.getfield 43, 3) := by decide +kernel
theorem dX11_begin_15 : decode cX11_begin 15 = .ok (.aload_n 0, 1) := by decide +kernel
theorem dX11_begin_16 : decode cX11_begin 16 = .ok (.getfield 36, 3) := by decide +kernel
theorem dX11_begin_19 : decode cX11_begin 19 = .ok (.invokevirtual 290, 3) := by decide +kernel
theorem dX11_begin_22 : decode cX11_begin 22 = .ok (.aload_n 0, 1) := by decide +kernel
theorem dX11_begin_23 : decode cX11_begin 23 = .ok (.getfield 85, 3) := by decide +kernel
theorem dX11_begin_26 : decode cX11_begin 26 = .ok (.invokevirtual 323, 3) := by decide +kernel
theorem dX11_begin_29 : decode cX11_begin 29 = .ok (.aload_n 0, 1) := by decide +kernel
theorem dX11_begin_30 : decode cX11_begin 30 = .ok (.getfield 69, 3) := by decide +kernel
theorem dX11_begin_33 : decode cX11_begin 33 = .ok (.invokevirtual 326, 3) := by decide +kernel
theorem dX11_begin_36 : decode cX11_begin 36 = .ok (.iconst 0, 1) := by decide +kernel
theorem dX11_begin_37 : decode cX11_begin 37 = .ok (.istore_n 1, 1) := by decide +kernel
theorem dX11_begin_38 : decode cX11_begin 38 = .ok (.iload_n 1, 1) := by decide +kernel
theorem dX11_begin_39 : decode cX11_begin 39 = .ok (.iconst 3, 1) := by decide +kernel
theorem dX11_begin_40 : decode cX11_begin 40 = .ok (.if_icmp .ge 16, 3) := by decide +kernel
theorem dX11_begin_43 : decode cX11_begin 43 = .ok (.aload_n 0, 1) := by decide +kernel
theorem dX11_begin_44 : decode cX11_begin 44 = .ok (.getfield 51, 3) := by decide +kernel
theorem dX11_begin_47 : decode cX11_begin 47 = .ok (.iload_n 1, 1) := by decide +kernel
theorem dX11_begin_48 : decode cX11_begin 48 = .ok (.iconst 0, 1) := by decide +kernel
theorem dX11_begin_49 : decode cX11_begin 49 = .ok (.bastore, 1) := by decide +kernel
theorem dX11_begin_50 : decode cX11_begin 50 = .ok (.iinc 1 1, 3) := by decide +kernel
theorem dX11_begin_53 : decode cX11_begin 53 = .ok (.goto (-15), 3) := by decide +kernel
theorem dX11_begin_56 : decode cX11_begin 56 = .ok (.return_, 1) := by decide +kernel
theorem dX11_putOnTape_0 : decode cX11_putOnTape 0 = .ok (.bipush 24, 2) := by decide +kernel
theorem dX11_putOnTape_2 : decode cX11_putOnTape 2 = .ok (.istore_n 2, 1) := by decide +kernel
theorem dX11_putOnTape_3 : decode cX11_putOnTape 3 = .ok (.iload_n 2, 1) := by decide +kernel
theorem dX11_putOnTape_4 : decode cX11_putOnTape 4 = .ok (.ifCond .lt 42, 3) := by decide +kernel
theorem dX11_putOnTape_7 : decode cX11_putOnTape 7 = .ok (.aload_n 0, 1) := by decide +kernel
theorem dX11_putOnTape_8 : decode cX11_putOnTape 8 = .ok (.getfield 92, 3) := by decide +kernel
theorem dX11_putOnTape_11 : decode cX11_putOnTape 11 = .ok (.sipush 1600, 3) := by decide +kernel
theorem dX11_putOnTape_14 : decode cX11_putOnTape 14 = .ok (.if_icmp .ge 26, 3) := by decide +kernel
theorem dX11_putOnTape_17 : decode cX11_putOnTape 17 = .ok (.aload_n 0, 1) := by decide +kernel
theorem dX11_putOnTape_18 : decode cX11_putOnTape 18 = .ok (.getfield 9, 3) := by decide +kernel
theorem dX11_putOnTape_21 : decode cX11_putOnTape 21 = .ok (.aload_n 0, 1) := by decide +kernel
theorem dX11_putOnTape_22 : decode cX11_putOnTape 22 = .ok (.getfield 92, 3) := by decide +kernel
theorem dX11_putOnTape_25 : decode cX11_putOnTape 25 = .ok (.iload_n 1, 1) := by decide +kernel
theorem dX11_putOnTape_26 : decode cX11_putOnTape 26 = .ok (.iload_n 2, 1) := by decide +kernel
theorem dX11_putOnTape_27 : decode cX11_putOnTape 27 = .ok (.iushr, 1) := by decide +kernel
theorem dX11_putOnTape_28 : decode cX11_putOnTape 28 = .ok (.i2b, 1) := by decide +kernel
theorem dX11_putOnTape_29 : decode cX11_putOnTape 29 = .ok (.bastore, 1) := by decide +kernel
theorem dX11_putOnTape_30 : decode cX11_putOnTape 30 = .ok (.aload_n 0, 1) := by decide +kernel
theorem dX11_putOnTape_31 : decode cX11_putOnTape 31 = .ok (.dup, 1) := by decide +kernel
theorem dX11_putOnTape_32 : decode cX11_putOnTape 32 = .ok (.getfield 92, 3) := by decide +kernel
theorem dX11_putOnTape_35 : decode cX11_putOnTape 35 = .ok (.iconst 1, 1) := by decide +kernel
theorem dX11_putOnTape_36 : decode cX11_putOnTape 36 = .ok (.iadd, 1) := by decide +kernel
theorem dX11_putOnTape_37 : decode cX11_putOnTape 37 = .ok (.putfield 92, 3) := by decide +kernel
theorem dX11_putOnTape_40 : decode cX11_putOnTape 40 = .ok (.iinc 2 (-8), 3) := by decide +kernel
theorem dX11_putOnTape_43 : decode cX11_putOnTape 43 = .ok (.goto (-40), 3) := by decide +kernel
theorem dX11_putOnTape_46 : decode cX11_putOnTape 46 = .ok (.return_, 1) := by decide +kernel
theorem dX11_isSoul_0 : decode cX11_isSoul 0 = .ok (.iload_n 1, 1) := by decide +kernel
theorem dX11_isSoul_1 : decode cX11_isSoul 1 = .ok (.ifCond .lt 18, 3) := by decide +kernel
theorem dX11_isSoul_4 : decode cX11_isSoul 4 = .ok (.iload_n 1, 1) := by decide +kernel
theorem dX11_isSoul_5 : decode cX11_isSoul 5 = .ok (.aload_n 0, 1) := by decide +kernel
theorem dX11_isSoul_6 : decode cX11_isSoul 6 = .ok (.getfield 29, 3) := by decide +kernel
theorem dX11_isSoul_9 : decode cX11_isSoul 9 = .ok (.getfield 117, 3) := by decide +kernel
theorem dX11_isSoul_12 : decode cX11_isSoul 12 = .ok (.if_icmp .ge 7, 3) := by decide +kernel
theorem dX11_isSoul_15 : decode cX11_isSoul 15 = .ok (.iconst 1, 1) := by decide +kernel
theorem dX11_isSoul_16 : decode cX11_isSoul 16 = .ok (.goto 4, 3) := by decide +kernel
theorem dX11_isSoul_19 : decode cX11_isSoul 19 = .ok (.iconst 0, 1) := by decide +kernel
theorem dX11_isSoul_20 : decode cX11_isSoul 20 = .ok (.ireturn, 1) := by decide +kernel
theorem dX11_isDeed_0 : decode cX11_isDeed 0 = .ok (.iload_n 1, 1) := by decide +kernel
theorem dX11_isDeed_1 : decode cX11_isDeed 1 = .ok (.ifCond .lt 18, 3) := by decide +kernel
theorem dX11_isDeed_4 : decode cX11_isDeed 4 = .ok (.iload_n 1, 1) := by decide +kernel
theorem dX11_isDeed_5 : decode cX11_isDeed 5 = .ok (.aload_n 0, 1) := by decide +kernel
theorem dX11_isDeed_6 : decode cX11_isDeed 6 = .ok (.getfield 29, 3) := by decide +kernel
theorem dX11_isDeed_9 : decode cX11_isDeed 9 = .ok (.getfield 292, 3) := by decide +kernel
theorem dX11_isDeed_12 : decode cX11_isDeed 12 = .ok (.if_icmp .ge 7, 3) := by decide +kernel
theorem dX11_isDeed_15 : decode cX11_isDeed 15 = .ok (.iconst 1, 1) := by decide +kernel
theorem dX11_isDeed_16 : decode cX11_isDeed 16 = .ok (.goto 4, 3) := by decide +kernel
theorem dX11_isDeed_19 : decode cX11_isDeed 19 = .ok (.iconst 0, 1) := by decide +kernel
theorem dX11_isDeed_20 : decode cX11_isDeed 20 = .ok (.ireturn, 1) := by decide +kernel
theorem dX11_isBox_0 : decode cX11_isBox 0 = .ok (.iload_n 0, 1) := by decide +kernel
theorem dX11_isBox_1 : decode cX11_isBox 1 = .ok (.ifCond .lt 12, 3) := by decide +kernel
theorem dX11_isBox_4 : decode cX11_isBox 4 = .ok (.iload_n 0, 1) := by decide +kernel
theorem dX11_isBox_5 : decode cX11_isBox 5 = .ok (.iconst 3, 1) := by decide +kernel
theorem dX11_isBox_6 : decode cX11_isBox 6 = .ok (.if_icmp .ge 7, 3) := by decide +kernel
theorem dX11_isBox_9 : decode cX11_isBox 9 = .ok (.iconst 1, 1) := by decide +kernel
theorem dX11_isBox_10 : decode cX11_isBox 10 = .ok (.goto 4, 3) := by decide +kernel
theorem dX11_isBox_13 : decode cX11_isBox 13 = .ok (.iconst 0, 1) := by decide +kernel
theorem dX11_isBox_14 : decode cX11_isBox 14 = .ok (.ireturn, 1) := by decide +kernel
theorem dX11_isHundredth_0 : decode cX11_isHundredth 0 = .ok (.iload_n 0, 1) := by decide +kernel
theorem dX11_isHundredth_1 : decode cX11_isHundredth 1 = .ok (.ifCond .lt 13, 3) := by decide +kernel
theorem dX11_isHundredth_4 : decode cX11_isHundredth 4 = .ok (.iload_n 0, 1) := by decide +kernel
theorem dX11_isHundredth_5 : decode cX11_isHundredth 5 = .ok (.bipush 99, 2) := by decide +kernel
theorem dX11_isHundredth_7 : decode cX11_isHundredth 7 = .ok (.if_icmp .gt 7, 3) := by decide +kernel
theorem dX11_isHundredth_10 : decode cX11_isHundredth 10 = .ok (.iconst 1, 1) := by decide +kernel
theorem dX11_isHundredth_11 : decode cX11_isHundredth 11 = .ok (.goto 4, 3) := by decide +kernel
theorem dX11_isHundredth_14 : decode cX11_isHundredth 14 = .ok (.iconst 0, 1) := by decide +kernel
theorem dX11_isHundredth_15 : decode cX11_isHundredth 15 = .ok (.ireturn, 1) := by decide +kernel
theorem dX12_init_0 : decode cX12_init 0 = .ok (.aload_n 0, 1) := by decide +kernel
theorem dX12_init_1 : decode cX12_init 1 = .ok (.invokespecial 1, 3) := by decide +kernel
theorem dX12_init_4 : decode cX12_init 4 = .ok (.aload_n 0, 1) := by decide +kernel
theorem dX12_init_5 : decode cX12_init 5 = .ok (.sipush 1600, 3) := by decide +kernel
theorem dX12_init_8 : decode cX12_init 8 = .ok (.newarray .int, 2) := by decide +kernel
theorem dX12_init_10 : decode cX12_init 10 = .ok (.putfield 7, 3) := by decide +kernel
theorem dX12_init_13 : decode cX12_init 13 = .ok (.aload_n 0, 1) := by decide +kernel
theorem dX12_init_14 : decode cX12_init 14 = .ok (.iconst (-1), 1) := by decide +kernel
theorem dX12_init_15 : decode cX12_init 15 = .ok (.putfield 13, 3) := by decide +kernel
theorem dX12_init_18 : decode cX12_init 18 = .ok (.aload_n 0, 1) := by decide +kernel
theorem dX12_init_19 : decode cX12_init 19 = .ok (.bipush 10, 2) := by decide +kernel
theorem dX12_init_21 : decode cX12_init 21 = .ok (.newarray .long, 2) := by decide +kernel
theorem dX12_init_23 : decode cX12_init 23 = .ok (.putfield 17, 3) := by decide +kernel
theorem dX12_init_26 : decode cX12_init 26 = .ok (.aload_n 0, 1) := by decide +kernel
theorem dX12_init_27 : decode cX12_init 27 = .ok (.sipush 320, 3) := by decide +kernel
theorem dX12_init_30 : decode cX12_init 30 = .ok (.newarray .int, 2) := by decide +kernel
theorem dX12_init_32 : decode cX12_init 32 = .ok (.putfield 21, 3) := by decide +kernel
theorem dX12_init_35 : decode cX12_init 35 = .ok (.aload_n 0, 1) := by decide +kernel
theorem dX12_init_36 : decode cX12_init 36 = .ok (.sipush 320, 3) := by decide +kernel
theorem dX12_init_39 : decode cX12_init 39 = .ok (.newarray .int, 2) := by decide +kernel
theorem dX12_init_41 : decode cX12_init 41 = .ok (.putfield 24, 3) := by decide +kernel
theorem dX12_init_44 : decode cX12_init 44 = .ok (.aload_n 0, 1) := by decide +kernel
theorem dX12_init_45 : decode cX12_init 45 = .ok (.sipush 320, 3) := by decide +kernel
theorem dX12_init_48 : decode cX12_init 48 = .ok (.newarray .int, 2) := by decide +kernel
theorem dX12_init_50 : decode cX12_init 50 = .ok (.putfield 27, 3) := by decide +kernel
theorem dX12_init_53 : decode cX12_init 53 = .ok (.aload_n 0, 1) := by decide +kernel
theorem dX12_init_54 : decode cX12_init 54 = .ok (.sipush 320, 3) := by decide +kernel
theorem dX12_init_57 : decode cX12_init 57 = .ok (.newarray .int, 2) := by decide +kernel
theorem dX12_init_59 : decode cX12_init 59 = .ok (.putfield 30, 3) := by decide +kernel
theorem dX12_init_62 : decode cX12_init 62 = .ok (.aload_n 0, 1) := by decide +kernel
theorem dX12_init_63 : decode cX12_init 63 = .ok (.sipush 160, 3) := by decide +kernel
theorem dX12_init_66 : decode cX12_init 66 = .ok (.newarray .int, 2) := by decide +kernel
theorem dX12_init_68 : decode cX12_init 68 = .ok (.putfield 33, 3) := by decide +kernel
theorem dX12_init_71 : decode cX12_init 71 = .ok (.aload_n 0, 1) := by decide +kernel
theorem dX12_init_72 : decode cX12_init 72 = .ok (.bipush 64, 2) := by decide +kernel
theorem dX12_init_74 : decode cX12_init 74 = .ok (.newarray .int, 2) := by decide +kernel
theorem dX12_init_76 : decode cX12_init 76 = .ok (.putfield 36, 3) := by decide +kernel
theorem dX12_init_79 : decode cX12_init 79 = .ok (.aload_n 0, 1) := by decide +kernel
theorem dX12_init_80 : decode cX12_init 80 = .ok (.bipush 9, 2) := by decide +kernel
theorem dX12_init_82 : decode cX12_init 82 = .ok (.newarray .int, 2) := by decide +kernel
theorem dX12_init_84 : decode cX12_init 84 = .ok (.putfield 39, 3) := by decide +kernel
theorem dX12_init_87 : decode cX12_init 87 = .ok (.aload_n 0, 1) := by decide +kernel
theorem dX12_init_88 : decode cX12_init 88 = .ok (.iconst 5, 1) := by decide +kernel
theorem dX12_init_89 : decode cX12_init 89 = .ok (.newarray .int, 2) := by decide +kernel
theorem dX12_init_91 : decode cX12_init 91 = .ok (.putfield 42, 3) := by decide +kernel
theorem dX12_init_94 : decode cX12_init 94 = .ok (.aload_n 0, 1) := by decide +kernel
theorem dX12_init_95 : decode cX12_init 95 = .ok (.iconst 5, 1) := by decide +kernel
theorem dX12_init_96 : decode cX12_init 96 = .ok (.newarray .int, 2) := by decide +kernel
theorem dX12_init_98 : decode cX12_init 98 = .ok (.putfield 45, 3) := by decide +kernel
theorem dX12_init_101 : decode cX12_init 101 = .ok (.aload_n 0, 1) := by decide +kernel
theorem dX12_init_102 : decode cX12_init 102 = .ok (.iconst 5, 1) := by decide +kernel
theorem dX12_init_103 : decode cX12_init 103 = .ok (.newarray .int, 2) := by decide +kernel
theorem dX12_init_105 : decode cX12_init 105 = .ok (.putfield 48, 3) := by decide +kernel
theorem dX12_init_108 : decode cX12_init 108 = .ok (.aload_n 0, 1) := by decide +kernel
theorem dX12_init_109 : decode cX12_init 109 = .ok (.iconst 5, 1) := by decide +kernel
theorem dX12_init_110 : decode cX12_init 110 = .ok (.newarray .int, 2) := by decide +kernel
theorem dX12_init_112 : decode cX12_init 112 = .ok (.putfield 51, 3) := by decide +kernel
theorem dX12_init_115 : decode cX12_init 115 = .ok (.aload_n 0, 1) := by decide +kernel
theorem dX12_init_116 : decode cX12_init 116 = .ok (.bipush 40, 2) := by decide +kernel
theorem dX12_init_118 : decode cX12_init 118 = .ok (.newarray .int, 2) := by decide +kernel
theorem dX12_init_120 : decode cX12_init 120 = .ok (.putfield 54, 3) := by decide +kernel
theorem dX12_init_123 : decode cX12_init 123 = .ok (.aload_n 0, 1) := by decide +kernel
theorem dX12_init_124 : decode cX12_init 124 = .ok (.iconst 5, 1) := by decide +kernel
theorem dX12_init_125 : decode cX12_init 125 = .ok (.newarray .int, 2) := by decide +kernel
theorem dX12_init_127 : decode cX12_init 127 = .ok (.putfield 57, 3) := by decide +kernel
theorem dX12_init_130 : decode cX12_init 130 = .ok (.aload_n 0, 1) := by decide +kernel
theorem dX12_init_131 : decode cX12_init 131 = .ok (.iconst 5, 1) := by decide +kernel
theorem dX12_init_132 : decode cX12_init 132 = .ok (.newarray .int, 2) := by decide +kernel
theorem dX12_init_134 : decode cX12_init 134 = .ok (.putfield 60, 3) := by decide +kernel
theorem dX12_init_137 : decode cX12_init 137 = .ok (.aload_n 0, 1) := by decide +kernel
theorem dX12_init_138 : decode cX12_init 138 = .ok (.iconst 5, 1) := by decide +kernel
theorem dX12_init_139 : decode cX12_init 139 = .ok (.newarray .int, 2) := by decide +kernel
theorem dX12_init_141 : decode cX12_init 141 = .ok (.putfield 63, 3) := by decide +kernel
theorem dX12_init_144 : decode cX12_init 144 = .ok (.aload_n 0, 1) := by decide +kernel
theorem dX12_init_145 : decode cX12_init 145 = .ok (.sipush 1600, 3) := by decide +kernel
theorem dX12_init_148 : decode cX12_init 148 = .ok (.newarray .int, 2) := by decide +kernel
theorem dX12_init_150 : decode cX12_init 150 = .ok (.putfield 66, 3) := by decide +kernel
theorem dX12_init_153 : decode cX12_init 153 = .ok (.aload_n 0, 1) := by decide +kernel
theorem dX12_init_154 : decode cX12_init 154 = .ok (.iconst 5, 1) := by decide +kernel
theorem dX12_init_155 : decode cX12_init 155 = .ok (.newarray .int, 2) := by decide +kernel
theorem dX12_init_157 : decode cX12_init 157 = .ok (.putfield 69, 3) := by decide +kernel
theorem dX12_init_160 : decode cX12_init 160 = .ok (.aload_n 0, 1) := by decide +kernel
theorem dX12_init_161 : decode cX12_init 161 = .ok (.bipush 100, 2) := by decide +kernel
theorem dX12_init_163 : decode cX12_init 163 = .ok (.newarray .int, 2) := by decide +kernel
theorem dX12_init_165 : decode cX12_init 165 = .ok (.putfield 72, 3) := by decide +kernel
theorem dX12_init_168 : decode cX12_init 168 = .ok (.aload_n 0, 1) := by decide +kernel
theorem dX12_init_169 : decode cX12_init 169 = .ok (.bipush 100, 2) := by decide +kernel
theorem dX12_init_171 : decode cX12_init 171 = .ok (.newarray .int, 2) := by decide +kernel
theorem dX12_init_173 : decode cX12_init 173 = .ok (.putfield 75, 3) := by decide +kernel
theorem dX12_init_176 : decode cX12_init 176 = .ok (.aload_n 0, 1) := by decide +kernel
theorem dX12_init_177 : decode cX12_init 177 = .ok (.bipush 30, 2) := by decide +kernel
theorem dX12_init_179 : decode cX12_init 179 = .ok (.newarray .int, 2) := by decide +kernel
theorem dX12_init_181 : decode cX12_init 181 = .ok (.putfield 78, 3) := by decide +kernel
theorem dX12_init_184 : decode cX12_init 184 = .ok (.aload_n 0, 1) := by decide +kernel
theorem dX12_init_185 : decode cX12_init 185 = .ok (.bipush 30, 2) := by decide +kernel
theorem dX12_init_187 : decode cX12_init 187 = .ok (.newarray .int, 2) := by decide +kernel
theorem dX12_init_189 : decode cX12_init 189 = .ok (.putfield 81, 3) := by decide +kernel
theorem dX12_init_192 : decode cX12_init 192 = .ok (.aload_n 0, 1) := by decide +kernel
theorem dX12_init_193 : decode cX12_init 193 = .ok (.bipush 30, 2) := by decide +kernel
theorem dX12_init_195 : decode cX12_init 195 = .ok (.newarray .int, 2) := by decide +kernel
theorem dX12_init_197 : decode cX12_init 197 = .ok (.putfield 84, 3) := by decide +kernel
theorem dX12_init_200 : decode cX12_init 200 = .ok (.aload_n 0, 1) := by decide +kernel
theorem dX12_init_201 : decode cX12_init 201 = .ok (.bipush 30, 2) := by decide +kernel
theorem dX12_init_203 : decode cX12_init 203 = .ok (.newarray .int, 2) := by decide +kernel
theorem dX12_init_205 : decode cX12_init 205 = .ok (.putfield 87, 3) := by decide +kernel
theorem dX12_init_208 : decode cX12_init 208 = .ok (.aload_n 0, 1) := by decide +kernel
theorem dX12_init_209 : decode cX12_init 209 = .ok (.bipush 30, 2) := by decide +kernel
theorem dX12_init_211 : decode cX12_init 211 = .ok (.newarray .int, 2) := by decide +kernel
theorem dX12_init_213 : decode cX12_init 213 = .ok (.putfield 90, 3) := by decide +kernel
theorem dX12_init_216 : decode cX12_init 216 = .ok (.aload_n 0, 1) := by decide +kernel
theorem dX12_init_217 : decode cX12_init 217 = .ok (.bipush 30, 2) := by decide +kernel
theorem dX12_init_219 : decode cX12_init 219 = .ok (.newarray .int, 2) := by decide +kernel
theorem dX12_init_221 : decode cX12_init 221 = .ok (.putfield 93, 3) := by decide +kernel
theorem dX12_init_224 : decode cX12_init 224 = .ok (.aload_n 0, 1) := by decide +kernel
theorem dX12_init_225 : decode cX12_init 225 = .ok (.bipush 32, 2) := by decide +kernel
theorem dX12_init_227 : decode cX12_init 227 = .ok (.newarray .int, 2) := by decide +kernel
theorem dX12_init_229 : decode cX12_init 229 = .ok (.putfield 96, 3) := by decide +kernel
theorem dX12_init_232 : decode cX12_init 232 = .ok (.aload_n 0, 1) := by decide +kernel
theorem dX12_init_233 : decode cX12_init 233 = .ok (.bipush 100, 2) := by decide +kernel
theorem dX12_init_235 : decode cX12_init 235 = .ok (.newarray .int, 2) := by decide +kernel
theorem dX12_init_237 : decode cX12_init 237 = .ok (.putfield 99, 3) := by decide +kernel
theorem dX12_init_240 : decode cX12_init 240 = .ok (.aload_n 0, 1) := by decide +kernel
theorem dX12_init_241 : decode cX12_init 241 = .ok (.sipush 1024, 3) := by decide +kernel
theorem dX12_init_244 : decode cX12_init 244 = .ok (.newarray .int, 2) := by decide +kernel
theorem dX12_init_246 : decode cX12_init 246 = .ok (.putfield 102, 3) := by decide +kernel
theorem dX12_init_249 : decode cX12_init 249 = .ok (.aload_n 0, 1) := by decide +kernel
theorem dX12_init_250 : decode cX12_init 250 = .ok (.sipush 1024, 3) := by decide +kernel
theorem dX12_init_253 : decode cX12_init 253 = .ok (.newarray .int, 2) := by decide +kernel
theorem dX12_init_255 : decode cX12_init 255 = .ok (.putfield 105, 3) := by decide +kernel
theorem dX12_init_258 : decode cX12_init 258 = .ok (.aload_n 0, 1) := by decide +kernel
theorem dX12_init_259 : decode cX12_init 259 = .ok (.bipush 100, 2) := by decide +kernel
theorem dX12_init_261 : decode cX12_init 261 = .ok (.newarray .int, 2) := by decide +kernel
theorem dX12_init_263 : decode cX12_init 263 = .ok (.putfield 108, 3) := by decide +kernel
theorem dX12_init_266 : decode cX12_init 266 = .ok (.aload_n 0, 1) := by decide +kernel
theorem dX12_init_267 : decode cX12_init 267 = .ok (.iconst 3, 1) := by decide +kernel
theorem dX12_init_268 : decode cX12_init 268 = .ok (.newarray .boolean, 2) := by decide +kernel
theorem dX12_init_270 : decode cX12_init 270 = .ok (.putfield 111, 3) := by decide +kernel
theorem dX12_init_273 : decode cX12_init 273 = .ok (.aload_n 0, 1) := by decide +kernel
theorem dX12_init_274 : decode cX12_init 274 = .ok (.bipush 120, 2) := by decide +kernel
theorem dX12_init_276 : decode cX12_init 276 = .ok (.newarray .int, 2) := by decide +kernel
theorem dX12_init_278 : decode cX12_init 278 = .ok (.putfield 115, 3) := by decide +kernel
theorem dX12_init_281 : decode cX12_init 281 = .ok (.iconst 0, 1) := by decide +kernel
theorem dX12_init_282 : decode cX12_init 282 = .ok (.istore_n 1, 1) := by decide +kernel
theorem dX12_init_283 : decode cX12_init 283 = .ok (.iload_n 1, 1) := by decide +kernel
theorem dX12_init_284 : decode cX12_init 284 = .ok (.iconst 5, 1) := by decide +kernel
theorem dX12_init_285 : decode cX12_init 285 = .ok (.if_icmp .ge 18, 3) := by decide +kernel
theorem dX12_init_288 : decode cX12_init 288 = .ok (.aload_n 0, 1) := by decide +kernel
theorem dX12_init_289 : decode cX12_init 289 = .ok (.getfield 54, 3) := by decide +kernel
theorem dX12_init_292 : decode cX12_init 292 = .ok (.iconst 5, 1) := by decide +kernel
theorem dX12_init_293 : decode cX12_init 293 = .ok (.iload_n 1, 1) := by decide +kernel
theorem dX12_init_294 : decode cX12_init 294 = .ok (.iadd, 1) := by decide +kernel
theorem dX12_init_295 : decode cX12_init 295 = .ok (.iconst (-1), 1) := by decide +kernel
theorem dX12_init_296 : decode cX12_init 296 = .ok (.iastore, 1) := by decide +kernel
theorem dX12_init_297 : decode cX12_init 297 = .ok (.iinc 1 1, 3) := by decide +kernel
theorem dX12_init_300 : decode cX12_init 300 = .ok (.goto (-17), 3) := by decide +kernel
theorem dX12_init_303 : decode cX12_init 303 = .ok (.return_, 1) := by decide +kernel
theorem dX12_feed_0 : decode cX12_feed 0 = .ok (.aload_n 0, 1) := by decide +kernel
theorem dX12_feed_1 : decode cX12_feed 1 = .ok (.getfield 118, 3) := by decide +kernel
theorem dX12_feed_4 : decode cX12_feed 4 = .ok (.bipush 20, 2) := by decide +kernel
theorem dX12_feed_6 : decode cX12_feed 6 = .ok (.iadd, 1) := by decide +kernel
theorem dX12_feed_7 : decode cX12_feed 7 = .ok (.sipush 1600, 3) := by decide +kernel
theorem dX12_feed_10 : decode cX12_feed 10 = .ok (.if_icmp .le 5, 3) := by decide +kernel
theorem dX12_feed_13 : decode cX12_feed 13 = .ok (.iconst (-1), 1) := by decide +kernel
theorem dX12_feed_14 : decode cX12_feed 14 = .ok (.ireturn, 1) := by decide +kernel
theorem dX12_feed_15 : decode cX12_feed 15 = .ok (.aload_n 0, 1) := by decide +kernel
theorem dX12_feed_16 : decode cX12_feed 16 = .ok (.iload_n 1, 1) := by decide +kernel
theorem dX12_feed_17 : decode cX12_feed 17 = .ok (.invokevirtual 121, 3) := by decide +kernel
theorem dX12_feed_20 : decode cX12_feed 20 = .ok (.aload_n 0, 1) := by decide +kernel
theorem dX12_feed_21 : decode cX12_feed 21 = .ok (.iload_n 2, 1) := by decide +kernel
theorem dX12_feed_22 : decode cX12_feed 22 = .ok (.invokevirtual 121, 3) := by decide +kernel
theorem dX12_feed_25 : decode cX12_feed 25 = .ok (.aload_n 0, 1) := by decide +kernel
theorem dX12_feed_26 : decode cX12_feed 26 = .ok (.iload_n 3, 1) := by decide +kernel
theorem dX12_feed_27 : decode cX12_feed 27 = .ok (.invokevirtual 121, 3) := by decide +kernel
theorem dX12_feed_30 : decode cX12_feed 30 = .ok (.aload_n 0, 1) := by decide +kernel
theorem dX12_feed_31 : decode cX12_feed 31 = .ok (.iload 4, 2) := by decide +kernel
theorem dX12_feed_33 : decode cX12_feed 33 = .ok (.invokevirtual 121, 3) := by decide +kernel
theorem dX12_feed_36 : decode cX12_feed 36 = .ok (.aload_n 0, 1) := by decide +kernel
theorem dX12_feed_37 : decode cX12_feed 37 = .ok (.iload 5, 2) := by decide +kernel
theorem dX12_feed_39 : decode cX12_feed 39 = .ok (.invokevirtual 121, 3) := by decide +kernel
theorem dX12_feed_42 : decode cX12_feed 42 = .ok (.aload_n 0, 1) := by decide +kernel
theorem dX12_feed_43 : decode cX12_feed 43 = .ok (.getfield 118, 3) := by decide +kernel
theorem dX12_feed_46 : decode cX12_feed 46 = .ok (.ireturn, 1) := by decide +kernel
theorem dX12_four_0 : decode cX12_four 0 = .ok (.bipush 24, 2) := by decide +kernel
theorem dX12_four_2 : decode cX12_four 2 = .ok (.istore_n 2, 1) := by decide +kernel
theorem dX12_four_3 : decode cX12_four 3 = .ok (.iload_n 2, 1) := by decide +kernel
theorem dX12_four_4 : decode cX12_four 4 = .ok (.ifCond .lt 35, 3) := by decide +kernel
theorem dX12_four_7 : decode cX12_four 7 = .ok (.aload_n 0, 1) := by decide +kernel
theorem dX12_four_8 : decode cX12_four 8 = .ok (.getfield 7, 3) := by decide +kernel
theorem dX12_four_11 : decode cX12_four 11 = .ok (.aload_n 0, 1) := by decide +kernel
theorem dX12_four_12 : decode cX12_four 12 = .ok (.getfield 118, 3) := by decide +kernel
theorem dX12_four_15 : decode cX12_four 15 = .ok (.iload_n 1, 1) := by decide +kernel
theorem dX12_four_16 : decode cX12_four 16 = .ok (.iload_n 2, 1) := by decide +kernel
theorem dX12_four_17 : decode cX12_four 17 = .ok (.ishr, 1) := by decide +kernel
theorem dX12_four_18 : decode cX12_four 18 = .ok (.sipush 255, 3) := by decide +kernel
theorem dX12_four_21 : decode cX12_four 21 = .ok (.iand, 1) := by decide +kernel
theorem dX12_four_22 : decode cX12_four 22 = .ok (.iastore, 1) := by decide +kernel
theorem dX12_four_23 : decode cX12_four 23 = .ok (.aload_n 0, 1) := by decide +kernel
theorem dX12_four_24 : decode cX12_four 24 = .ok (.dup, 1) := by decide +kernel
theorem dX12_four_25 : decode cX12_four 25 = .ok (.getfield 118, 3) := by decide +kernel
theorem dX12_four_28 : decode cX12_four 28 = .ok (.iconst 1, 1) := by decide +kernel
theorem dX12_four_29 : decode cX12_four 29 = .ok (.iadd, 1) := by decide +kernel
theorem dX12_four_30 : decode cX12_four 30 = .ok (.putfield 118, 3) := by decide +kernel
theorem dX12_four_33 : decode cX12_four 33 = .ok (.iinc 2 (-8), 3) := by decide +kernel
theorem dX12_four_36 : decode cX12_four 36 = .ok (.goto (-33), 3) := by decide +kernel
theorem dX12_four_39 : decode cX12_four 39 = .ok (.return_, 1) := by decide +kernel
theorem dX12_end_0 : decode cX12_end 0 = .ok (.iload_n 1, 1) := by decide +kernel
theorem dX12_end_1 : decode cX12_end 1 = .ok (.ifCond .lt 11, 3) := by decide +kernel
theorem dX12_end_4 : decode cX12_end 4 = .ok (.iload_n 1, 1) := by decide +kernel
theorem dX12_end_5 : decode cX12_end 5 = .ok (.aload_n 0, 1) := by decide +kernel
theorem dX12_end_6 : decode cX12_end 6 = .ok (.getfield 118, 3) := by decide +kernel
theorem dX12_end_9 : decode cX12_end 9 = .ok (.if_icmp .le 5, 3) := by decide +kernel
theorem dX12_end_12 : decode cX12_end 12 = .ok (.iconst (-1), 1) := by decide +kernel
theorem dX12_end_13 : decode cX12_end 13 = .ok (.ireturn, 1) := by decide +kernel
theorem dX12_end_14 : decode cX12_end 14 = .ok (.aload_n 0, 1) := by decide +kernel
theorem dX12_end_15 : decode cX12_end 15 = .ok (.iload_n 1, 1) := by decide +kernel
theorem dX12_end_16 : decode cX12_end 16 = .ok (.putfield 118, 3) := by decide +kernel
theorem dX12_end_19 : decode cX12_end 19 = .ok (.iload_n 1, 1) := by decide +kernel
theorem dX12_end_20 : decode cX12_end 20 = .ok (.ireturn, 1) := by decide +kernel
theorem dX12_here_0 : decode cX12_here 0 = .ok (.aload_n 0, 1) := by decide +kernel
theorem dX12_here_1 : decode cX12_here 1 = .ok (.getfield 125, 3) := by decide +kernel
theorem dX12_here_4 : decode cX12_here 4 = .ok (.iload_n 1, 1) := by decide +kernel
theorem dX12_here_5 : decode cX12_here 5 = .ok (.iadd, 1) := by decide +kernel
theorem dX12_here_6 : decode cX12_here 6 = .ok (.aload_n 0, 1) := by decide +kernel
theorem dX12_here_7 : decode cX12_here 7 = .ok (.getfield 128, 3) := by decide +kernel
theorem dX12_here_10 : decode cX12_here 10 = .ok (.if_icmp .ge 17, 3) := by decide +kernel
theorem dX12_here_13 : decode cX12_here 13 = .ok (.aload_n 0, 1) := by decide +kernel
theorem dX12_here_14 : decode cX12_here 14 = .ok (.getfield 7, 3) := by decide +kernel
theorem dX12_here_17 : decode cX12_here 17 = .ok (.aload_n 0, 1) := by decide +kernel
theorem dX12_here_18 : decode cX12_here 18 = .ok (.getfield 125, 3) := by decide +kernel
theorem dX12_here_21 : decode cX12_here 21 = .ok (.iload_n 1, 1) := by decide +kernel
theorem dX12_here_22 : decode cX12_here 22 = .ok (.iadd, 1) := by decide +kernel
theorem dX12_here_23 : decode cX12_here 23 = .ok (.iaload, 1) := by decide +kernel
theorem dX12_here_24 : decode cX12_here 24 = .ok (.goto 4, 3) := by decide +kernel
theorem dX12_here_27 : decode cX12_here 27 = .ok (.iconst (-1), 1) := by decide +kernel
theorem dX12_here_28 : decode cX12_here 28 = .ok (.ireturn, 1) := by decide +kernel
theorem dX12_isLetter_0 : decode cX12_isLetter 0 = .ok (.iload_n 0, 1) := by decide +kernel
theorem dX12_isLetter_1 : decode cX12_isLetter 1 = .ok (.bipush 97, 2) := by decide +kernel
theorem dX12_isLetter_3 : decode cX12_isLetter 3 = .ok (.if_icmp .lt 13, 3) := by decide +kernel
theorem dX12_isLetter_6 : decode cX12_isLetter 6 = .ok (.iload_n 0, 1) := by decide +kernel
theorem dX12_isLetter_7 : decode cX12_isLetter 7 = .ok (.bipush 122, 2) := by decide +kernel
theorem dX12_isLetter_9 : decode cX12_isLetter 9 = .ok (.if_icmp .gt 7, 3) := by decide +kernel
theorem dX12_isLetter_12 : decode cX12_isLetter 12 = .ok (.iconst 1, 1) := by decide +kernel
theorem dX12_isLetter_13 : decode cX12_isLetter 13 = .ok (.goto 4, 3) := by decide +kernel
theorem dX12_isLetter_16 : decode cX12_isLetter 16 = .ok (.iconst 0, 1) := by decide +kernel
theorem dX12_isLetter_17 : decode cX12_isLetter 17 = .ok (.ireturn, 1) := by decide +kernel
theorem dX12_isDigit_0 : decode cX12_isDigit 0 = .ok (.iload_n 0, 1) := by decide +kernel
theorem dX12_isDigit_1 : decode cX12_isDigit 1 = .ok (.bipush 48, 2) := by decide +kernel
theorem dX12_isDigit_3 : decode cX12_isDigit 3 = .ok (.if_icmp .lt 13, 3) := by decide +kernel
theorem dX12_isDigit_6 : decode cX12_isDigit 6 = .ok (.iload_n 0, 1) := by decide +kernel
theorem dX12_isDigit_7 : decode cX12_isDigit 7 = .ok (.bipush 57, 2) := by decide +kernel
theorem dX12_isDigit_9 : decode cX12_isDigit 9 = .ok (.if_icmp .gt 7, 3) := by decide +kernel
theorem dX12_isDigit_12 : decode cX12_isDigit 12 = .ok (.iconst 1, 1) := by decide +kernel
theorem dX12_isDigit_13 : decode cX12_isDigit 13 = .ok (.goto 4, 3) := by decide +kernel
theorem dX12_isDigit_16 : decode cX12_isDigit 16 = .ok (.iconst 0, 1) := by decide +kernel
theorem dX12_isDigit_17 : decode cX12_isDigit 17 = .ok (.ireturn, 1) := by decide +kernel
theorem dX12_isSign_0 : decode cX12_isSign 0 = .ok (.iload_n 0, 1) := by decide +kernel
theorem dX12_isSign_1 : decode cX12_isSign 1 = .ok (.bipush 59, 2) := by decide +kernel
theorem dX12_isSign_3 : decode cX12_isSign 3 = .ok (.if_icmp .eq 63, 3) := by decide +kernel
theorem dX12_isSign_6 : decode cX12_isSign 6 = .ok (.iload_n 0, 1) := by decide +kernel
theorem dX12_isSign_7 : decode cX12_isSign 7 = .ok (.bipush 40, 2) := by decide +kernel
theorem dX12_isSign_9 : decode cX12_isSign 9 = .ok (.if_icmp .eq 57, 3) := by decide +kernel
theorem dX12_isSign_12 : decode cX12_isSign 12 = .ok (.iload_n 0, 1) := by decide +kernel
theorem dX12_isSign_13 : decode cX12_isSign 13 = .ok (.bipush 41, 2) := by decide +kernel
theorem dX12_isSign_15 : decode cX12_isSign 15 = .ok (.if_icmp .eq 51, 3) := by decide +kernel
theorem dX12_isSign_18 : decode cX12_isSign 18 = .ok (.iload_n 0, 1) := by decide +kernel
theorem dX12_isSign_19 : decode cX12_isSign 19 = .ok (.bipush 60, 2) := by decide +kernel
theorem dX12_isSign_21 : decode cX12_isSign 21 = .ok (.if_icmp .eq 45, 3) := by decide +kernel
theorem dX12_isSign_24 : decode cX12_isSign 24 = .ok (.iload_n 0, 1) := by decide +kernel
theorem dX12_isSign_25 : decode cX12_isSign 25 = .ok (.bipush 62, 2) := by decide +kernel
theorem dX12_isSign_27 : decode cX12_isSign 27 = .ok (.if_icmp .eq 39, 3) := by decide +kernel
theorem dX12_isSign_30 : decode cX12_isSign 30 = .ok (.iload_n 0, 1) := by decide +kernel
theorem dX12_isSign_31 : decode cX12_isSign 31 = .ok (.bipush 61, 2) := by decide +kernel
theorem dX12_isSign_33 : decode cX12_isSign 33 = .ok (.if_icmp .eq 33, 3) := by decide +kernel
theorem dX12_isSign_36 : decode cX12_isSign 36 = .ok (.iload_n 0, 1) := by decide +kernel
theorem dX12_isSign_37 : decode cX12_isSign 37 = .ok (.bipush 43, 2) := by decide +kernel
theorem dX12_isSign_39 : decode cX12_isSign 39 = .ok (.if_icmp .eq 27, 3) := by decide +kernel
theorem dX12_isSign_42 : decode cX12_isSign 42 = .ok (.iload_n 0, 1) := by decide +kernel
theorem dX12_isSign_43 : decode cX12_isSign 43 = .ok (.bipush 45, 2) := by decide +kernel
theorem dX12_isSign_45 : decode cX12_isSign 45 = .ok (.if_icmp .eq 21, 3) := by decide +kernel
theorem dX12_isSign_48 : decode cX12_isSign 48 = .ok (.iload_n 0, 1) := by decide +kernel
theorem dX12_isSign_49 : decode cX12_isSign 49 = .ok (.bipush 42, 2) := by decide +kernel
theorem dX12_isSign_51 : decode cX12_isSign 51 = .ok (.if_icmp .eq 15, 3) := by decide +kernel
theorem dX12_isSign_54 : decode cX12_isSign 54 = .ok (.iload_n 0, 1) := by decide +kernel
theorem dX12_isSign_55 : decode cX12_isSign 55 = .ok (.bipush 47, 2) := by decide +kernel
theorem dX12_isSign_57 : decode cX12_isSign 57 = .ok (.if_icmp .eq 9, 3) := by decide +kernel
theorem dX12_isSign_60 : decode cX12_isSign 60 = .ok (.iload_n 0, 1) := by decide +kernel
theorem dX12_isSign_61 : decode cX12_isSign 61 = .ok (.bipush 37, 2) := by decide +kernel
theorem dX12_isSign_63 : decode cX12_isSign 63 = .ok (.if_icmp .ne 7, 3) := by decide +kernel
theorem dX12_isSign_66 : decode cX12_isSign 66 = .ok (.iconst 1, 1) := by decide +kernel
theorem dX12_isSign_67 : decode cX12_isSign 67 = .ok (.goto 4, 3) := by decide +kernel
theorem dX12_isSign_70 : decode cX12_isSign 70 = .ok (.iconst 0, 1) := by decide +kernel
theorem dX12_isSign_71 : decode cX12_isSign 71 = .ok (.ireturn, 1) := by decide +kernel
theorem dX12_token_0 : decode cX12_token 0 = .ok (.aload_n 0, 1) := by decide +kernel
theorem dX12_token_1 : decode cX12_token 1 = .ok (.iconst 0, 1) := by decide +kernel
theorem dX12_token_2 : decode cX12_token 2 = .ok (.invokevirtual 131, 3) := by decide +kernel
theorem dX12_token_5 : decode cX12_token 5 = .ok (.bipush 32, 2) := by decide +kernel
theorem dX12_token_7 : decode cX12_token 7 = .ok (.if_icmp .eq 13, 3) := by decide +kernel
theorem dX12_token_10 : decode cX12_token 10 = .ok (.aload_n 0, 1) := by decide +kernel
theorem dX12_token_11 : decode cX12_token 11 = .ok (.iconst 0, 1) := by decide +kernel
theorem dX12_token_12 : decode cX12_token 12 = .ok (.invokevirtual 131, 3) := by decide +kernel
theorem dX12_token_15 : decode cX12_token 15 = .ok (.bipush 10, 2) := by decide +kernel
theorem dX12_token_17 : decode cX12_token 17 = .ok (.if_icmp .ne 16, 3) := by decide +kernel
theorem dX12_token_20 : decode cX12_token 20 = .ok (.aload_n 0, 1) := by decide +kernel
theorem dX12_token_21 : decode cX12_token 21 = .ok (.dup, 1) := by decide +kernel
theorem dX12_token_22 : decode cX12_token 22 = .ok (.getfield 125, 3) := by decide +kernel
theorem dX12_token_25 : decode cX12_token 25 = .ok (.iconst 1, 1) := by decide +kernel
theorem dX12_token_26 : decode cX12_token 26 = .ok (.iadd, 1) := by decide +kernel
theorem dX12_token_27 : decode cX12_token 27 = .ok (.putfield 125, 3) := by decide +kernel
theorem dX12_token_30 : decode cX12_token 30 = .ok (.goto (-30), 3) := by decide +kernel
theorem dX12_token_33 : decode cX12_token 33 = .ok (.aload_n 0, 1) := by decide +kernel
theorem dX12_token_34 : decode cX12_token 34 = .ok (.aload_n 0, 1) := by decide +kernel
theorem dX12_token_35 : decode cX12_token 35 = .ok (.getfield 125, 3) := by decide +kernel
theorem dX12_token_38 : decode cX12_token 38 = .ok (.putfield 135, 3) := by decide +kernel
theorem dX12_token_41 : decode cX12_token 41 = .ok (.aload_n 0, 1) := by decide +kernel
theorem dX12_token_42 : decode cX12_token 42 = .ok (.iconst 0, 1) := by decide +kernel
theorem dX12_token_43 : decode cX12_token 43 = .ok (.invokevirtual 131, 3) := by decide +kernel
theorem dX12_token_46 : decode cX12_token 46 = .ok (.istore_n 1, 1) := by decide +kernel
theorem dX12_token_47 : decode cX12_token 47 = .ok (.iconst 0, 1) := by decide +kernel
theorem dX12_token_48 : decode cX12_token 48 = .ok (.istore_n 2, 1) := by decide +kernel
theorem dX12_token_49 : decode cX12_token 49 = .ok (.aload_n 0, 1) := by decide +kernel
theorem dX12_token_50 : decode cX12_token 50 = .ok (.lconst 0, 1) := by decide +kernel
theorem dX12_token_51 : decode cX12_token 51 = .ok (.putfield 138, 3) := by decide +kernel
theorem dX12_token_54 : decode cX12_token 54 = .ok (.aload_n 0, 1) := by decide +kernel
theorem dX12_token_55 : decode cX12_token 55 = .ok (.iconst 0, 1) := by decide +kernel
theorem dX12_token_56 : decode cX12_token 56 = .ok (.putfield 142, 3) := by decide +kernel
theorem dX12_token_59 : decode cX12_token 59 = .ok (.iload_n 1, 1) := by decide +kernel
theorem dX12_token_60 : decode cX12_token 60 = .ok (.ifCond .ge 11, 3) := by decide +kernel
theorem dX12_token_63 : decode cX12_token 63 = .ok (.aload_n 0, 1) := by decide +kernel
theorem dX12_token_64 : decode cX12_token 64 = .ok (.iconst 0, 1) := by decide +kernel
theorem dX12_token_65 : decode cX12_token 65 = .ok (.putfield 145, 3) := by decide +kernel
theorem dX12_token_68 : decode cX12_token 68 = .ok (.goto 164, 3) := by decide +kernel
theorem dX12_token_71 : decode cX12_token 71 = .ok (.iload_n 1, 1) := by decide +kernel
theorem dX12_token_72 : decode cX12_token 72 = .ok (.invokestatic 148, 3) := by decide +kernel
theorem dX12_token_75 : decode cX12_token 75 = .ok (.ifCond .eq 62, 3) := by decide +kernel
theorem dX12_token_78 : decode cX12_token 78 = .ok (.aload_n 0, 1) := by decide +kernel
theorem dX12_token_79 : decode cX12_token 79 = .ok (.iload_n 2, 1) := by decide +kernel
theorem dX12_token_80 : decode cX12_token 80 = .ok (.invokevirtual 131, 3) := by decide +kernel
theorem dX12_token_83 : decode cX12_token 83 = .ok (.invokestatic 148, 3) := by decide +kernel
theorem dX12_token_86 : decode cX12_token 86 = .ok (.ifCond .eq 33, 3) := by decide +kernel
theorem dX12_token_89 : decode cX12_token 89 = .ok (.iload_n 2, 1) := by decide +kernel
theorem dX12_token_90 : decode cX12_token 90 = .ok (.bipush 8, 2) := by decide +kernel
theorem dX12_token_92 : decode cX12_token 92 = .ok (.if_icmp .ge 21, 3) := by decide +kernel
theorem dX12_token_95 : decode cX12_token 95 = .ok (.aload_n 0, 1) := by decide +kernel
theorem dX12_token_96 : decode cX12_token 96 = .ok (.aload_n 0, 1) := by decide +kernel
theorem dX12_token_97 : decode cX12_token 97 = .ok (.getfield 138, 3) := by decide +kernel
theorem dX12_token_100 : decode cX12_token 100 = .ok (.bipush 8, 2) := by decide +kernel
theorem dX12_token_102 : decode cX12_token 102 = .ok (.lshl, 1) := by decide +kernel
theorem dX12_token_103 : decode cX12_token 103 = .ok (.aload_n 0, 1) := by decide +kernel
theorem dX12_token_104 : decode cX12_token 104 = .ok (.iload_n 2, 1) := by decide +kernel
theorem dX12_token_105 : decode cX12_token 105 = .ok (.invokevirtual 131, 3) := by decide +kernel
theorem dX12_token_108 : decode cX12_token 108 = .ok (.i2l, 1) := by decide +kernel
theorem dX12_token_109 : decode cX12_token 109 = .ok (.lor, 1) := by decide +kernel
theorem dX12_token_110 : decode cX12_token 110 = .ok (.putfield 138, 3) := by decide +kernel
theorem dX12_token_113 : decode cX12_token 113 = .ok (.iinc 2 1, 3) := by decide +kernel
theorem dX12_token_116 : decode cX12_token 116 = .ok (.goto (-38), 3) := by decide +kernel
theorem dX12_token_119 : decode cX12_token 119 = .ok (.aload_n 0, 1) := by decide +kernel
theorem dX12_token_120 : decode cX12_token 120 = .ok (.iload_n 2, 1) := by decide +kernel
theorem dX12_token_121 : decode cX12_token 121 = .ok (.bipush 8, 2) := by decide +kernel
theorem dX12_token_123 : decode cX12_token 123 = .ok (.if_icmp .le 7, 3) := by decide +kernel
theorem dX12_token_126 : decode cX12_token 126 = .ok (.iconst 3, 1) := by decide +kernel
theorem dX12_token_127 : decode cX12_token 127 = .ok (.goto 4, 3) := by decide +kernel
theorem dX12_token_130 : decode cX12_token 130 = .ok (.iconst 1, 1) := by decide +kernel
theorem dX12_token_131 : decode cX12_token 131 = .ok (.putfield 145, 3) := by decide +kernel
theorem dX12_token_134 : decode cX12_token 134 = .ok (.goto 98, 3) := by decide +kernel
theorem dX12_token_137 : decode cX12_token 137 = .ok (.iload_n 1, 1) := by decide +kernel
theorem dX12_token_138 : decode cX12_token 138 = .ok (.invokestatic 152, 3) := by decide +kernel
theorem dX12_token_141 : decode cX12_token 141 = .ok (.ifCond .eq 73, 3) := by decide +kernel
theorem dX12_token_144 : decode cX12_token 144 = .ok (.aload_n 0, 1) := by decide +kernel
theorem dX12_token_145 : decode cX12_token 145 = .ok (.iload_n 2, 1) := by decide +kernel
theorem dX12_token_146 : decode cX12_token 146 = .ok (.invokevirtual 131, 3) := by decide +kernel
theorem dX12_token_149 : decode cX12_token 149 = .ok (.invokestatic 152, 3) := by decide +kernel
theorem dX12_token_152 : decode cX12_token 152 = .ok (.ifCond .eq 34, 3) := by decide +kernel
theorem dX12_token_155 : decode cX12_token 155 = .ok (.iload_n 2, 1) := by decide +kernel
theorem dX12_token_156 : decode cX12_token 156 = .ok (.iconst 4, 1) := by decide +kernel
theorem dX12_token_157 : decode cX12_token 157 = .ok (.if_icmp .ge 23, 3) := by decide +kernel
theorem dX12_token_160 : decode cX12_token 160 = .ok (.aload_n 0, 1) := by decide +kernel
theorem dX12_token_161 : decode cX12_token 161 = .ok (.bipush 10, 2) := by decide +kernel
theorem dX12_token_163 : decode cX12_token 163 = .ok (.aload_n 0, 1) := by decide +kernel
theorem dX12_token_164 : decode cX12_token 164 = .ok (.getfield 142, 3) := by decide +kernel
theorem dX12_token_167 : decode cX12_token 167 = .ok (.imul, 1) := by decide +kernel
theorem dX12_token_168 : decode cX12_token 168 = .ok (.aload_n 0, 1) := by decide +kernel
theorem dX12_token_169 : decode cX12_token 169 = .ok (.iload_n 2, 1) := by decide +kernel
theorem dX12_token_170 : decode cX12_token 170 = .ok (.invokevirtual 131, 3) := by decide +kernel
theorem dX12_token_173 : decode cX12_token 173 = .ok (.iadd, 1) := by decide +kernel
theorem dX12_token_174 : decode cX12_token 174 = .ok (.bipush 48, 2) := by decide +kernel
theorem dX12_token_176 : decode cX12_token 176 = .ok (.isub, 1) := by decide +kernel
theorem dX12_token_177 : decode cX12_token 177 = .ok (.putfield 142, 3) := by decide +kernel
theorem dX12_token_180 : decode cX12_token 180 = .ok (.iinc 2 1, 3) := by decide +kernel
theorem dX12_token_183 : decode cX12_token 183 = .ok (.goto (-39), 3) := by decide +kernel
theorem dX12_token_186 : decode cX12_token 186 = .ok (.aload_n 0, 1) := by decide +kernel
theorem dX12_token_187 : decode cX12_token 187 = .ok (.iload_n 2, 1) := by decide +kernel
theorem dX12_token_188 : decode cX12_token 188 = .ok (.iconst 4, 1) := by decide +kernel
theorem dX12_token_189 : decode cX12_token 189 = .ok (.if_icmp .gt 14, 3) := by decide +kernel
theorem dX12_token_192 : decode cX12_token 192 = .ok (.aload_n 0, 1) := by decide +kernel
theorem dX12_token_193 : decode cX12_token 193 = .ok (.iload_n 2, 1) := by decide +kernel
theorem dX12_token_194 : decode cX12_token 194 = .ok (.invokevirtual 131, 3) := by decide +kernel
theorem dX12_token_197 : decode cX12_token 197 = .ok (.invokestatic 148, 3) := by decide +kernel
theorem dX12_token_200 : decode cX12_token 200 = .ok (.ifCond .eq 7, 3) := by decide +kernel
theorem dX12_token_203 : decode cX12_token 203 = .ok (.iconst 3, 1) := by decide +kernel
theorem dX12_token_204 : decode cX12_token 204 = .ok (.goto 4, 3) := by decide +kernel
theorem dX12_token_207 : decode cX12_token 207 = .ok (.iconst 2, 1) := by decide +kernel
theorem dX12_token_208 : decode cX12_token 208 = .ok (.putfield 145, 3) := by decide +kernel
theorem dX12_token_211 : decode cX12_token 211 = .ok (.goto 21, 3) := by decide +kernel
theorem dX12_token_214 : decode cX12_token 214 = .ok (.iconst 1, 1) := by decide +kernel
theorem dX12_token_215 : decode cX12_token 215 = .ok (.istore_n 2, 1) := by decide +kernel
theorem dX12_token_216 : decode cX12_token 216 = .ok (.aload_n 0, 1) := by decide +kernel
theorem dX12_token_217 : decode cX12_token 217 = .ok (.iload_n 1, 1) := by decide +kernel
theorem dX12_token_218 : decode cX12_token 218 = .ok (.invokestatic 155, 3) := by decide +kernel
theorem dX12_token_221 : decode cX12_token 221 = .ok (.ifCond .eq 7, 3) := by decide +kernel
theorem dX12_token_224 : decode cX12_token 224 = .ok (.iload_n 1, 1) := by decide +kernel
theorem dX12_token_225 : decode cX12_token 225 = .ok (.goto 4, 3) := by decide +kernel
theorem dX12_token_228 : decode cX12_token 228 = .ok (.iconst 3, 1) := by decide +kernel
theorem dX12_token_229 : decode cX12_token 229 = .ok (.putfield 145, 3) := by decide +kernel
theorem dX12_token_232 : decode cX12_token 232 = .ok (.aload_n 0, 1) := by decide +kernel
theorem dX12_token_233 : decode cX12_token 233 = .ok (.getfield 145, 3) := by decide +kernel
theorem dX12_token_236 : decode cX12_token 236 = .ok (.iconst 3, 1) := by decide +kernel
theorem dX12_token_237 : decode cX12_token 237 = .ok (.if_icmp .eq 13, 3) := by decide +kernel
theorem dX12_token_240 : decode cX12_token 240 = .ok (.aload_n 0, 1) := by decide +kernel
theorem dX12_token_241 : decode cX12_token 241 = .ok (.dup, 1) := by decide +kernel
theorem dX12_token_242 : decode cX12_token 242 = .ok (.getfield 125, 3) := by decide +kernel
theorem dX12_token_245 : decode cX12_token 245 = .ok (.iload_n 2, 1) := by decide +kernel
theorem dX12_token_246 : decode cX12_token 246 = .ok (.iadd, 1) := by decide +kernel
theorem dX12_token_247 : decode cX12_token 247 = .ok (.putfield 125, 3) := by decide +kernel
theorem dX12_token_250 : decode cX12_token 250 = .ok (.return_, 1) := by decide +kernel
theorem dX12_wrong_0 : decode cX12_wrong 0 = .ok (.aload_n 0, 1) := by decide +kernel
theorem dX12_wrong_1 : decode cX12_wrong 1 = .ok (.getfield 158, 3) := by decide +kernel
theorem dX12_wrong_4 : decode cX12_wrong 4 = .ok (.ifCond .le 4, 3) := by decide +kernel
theorem dX12_wrong_7 : decode cX12_wrong 7 = .ok (.return_, 1) := by decide +kernel
theorem dX12_wrong_8 : decode cX12_wrong 8 = .ok (.aload_n 0, 1) := by decide +kernel
theorem dX12_wrong_9 : decode cX12_wrong 9 = .ok (.aload_n 0, 1) := by decide +kernel
theorem dX12_wrong_10 : decode cX12_wrong 10 = .ok (.getfield 145, 3) := by decide +kernel
theorem dX12_wrong_13 : decode cX12_wrong 13 = .ok (.iconst 3, 1) := by decide +kernel
theorem dX12_wrong_14 : decode cX12_wrong 14 = .ok (.if_icmp .ne 7, 3) := by decide +kernel
theorem dX12_wrong_17 : decode cX12_wrong 17 = .ok (.iconst 1, 1) := by decide +kernel
theorem dX12_wrong_18 : decode cX12_wrong 18 = .ok (.goto 4, 3) := by decide +kernel
theorem dX12_wrong_21 : decode cX12_wrong 21 = .ok (.iload_n 1, 1) := by decide +kernel
theorem dX12_wrong_22 : decode cX12_wrong 22 = .ok (.putfield 158, 3) := by decide +kernel
theorem dX12_wrong_25 : decode cX12_wrong 25 = .ok (.aload_n 0, 1) := by decide +kernel
theorem dX12_wrong_26 : decode cX12_wrong 26 = .ok (.aload_n 0, 1) := by decide +kernel
theorem dX12_wrong_27 : decode cX12_wrong 27 = .ok (.getfield 135, 3) := by decide +kernel
theorem dX12_wrong_30 : decode cX12_wrong 30 = .ok (.putfield 13, 3) := by decide +kernel
theorem dX12_wrong_33 : decode cX12_wrong 33 = .ok (.return_, 1) := by decide +kernel
theorem dX12_isWord_0 : decode cX12_isWord 0 = .ok (.aload_n 0, 1) := by decide +kernel
theorem dX12_isWord_1 : decode cX12_isWord 1 = .ok (.getfield 145, 3) := by decide +kernel
theorem dX12_isWord_4 : decode cX12_isWord 4 = .ok (.iconst 1, 1) := by decide +kernel
theorem dX12_isWord_5 : decode cX12_isWord 5 = .ok (.if_icmp .ne 16, 3) := by decide +kernel
theorem dX12_isWord_8 : decode cX12_isWord 8 = .ok (.aload_n 0, 1) := by decide +kernel
theorem dX12_isWord_9 : decode cX12_isWord 9 = .ok (.getfield 138, 3) := by decide +kernel
theorem dX12_isWord_12 : decode cX12_isWord 12 = .ok (.lload_n 1, 1) := by decide +kernel
theorem dX12_isWord_13 : decode cX12_isWord 13 = .ok (.lcmp, 1) := by decide +kernel
theorem dX12_isWord_14 : decode cX12_isWord 14 = .ok (.ifCond .ne 7, 3) := by decide +kernel
theorem dX12_isWord_17 : decode cX12_isWord 17 = .ok (.iconst 1, 1) := by decide +kernel
theorem dX12_isWord_18 : decode cX12_isWord 18 = .ok (.goto 4, 3) := by decide +kernel
theorem dX12_isWord_21 : decode cX12_isWord 21 = .ok (.iconst 0, 1) := by decide +kernel
theorem dX12_isWord_22 : decode cX12_isWord 22 = .ok (.ireturn, 1) := by decide +kernel
theorem dX12_isOwn_0 : decode cX12_isOwn 0 = .ok (.aload_n 0, 1) := by decide +kernel
theorem dX12_isOwn_1 : decode cX12_isOwn 1 = .ok (.getfield 138, 3) := by decide +kernel
theorem dX12_isOwn_4 : decode cX12_isOwn 4 = .ok (.ldc2_w 161, 3) := by decide +kernel
theorem dX12_isOwn_7 : decode cX12_isOwn 7 = .ok (.lcmp, 1) := by decide +kernel
theorem dX12_isOwn_8 : decode cX12_isOwn 8 = .ok (.ifCond .eq 157, 3) := by decide +kernel
theorem dX12_isOwn_11 : decode cX12_isOwn 11 = .ok (.aload_n 0, 1) := by decide +kernel
theorem dX12_isOwn_12 : decode cX12_isOwn 12 = .ok (.getfield 138, 3) := by decide +kernel
theorem dX12_isOwn_15 : decode cX12_isOwn 15 = .ok (.ldc2_w 163, 3) := by decide +kernel
theorem dX12_isOwn_18 : decode cX12_isOwn 18 = .ok (.lcmp, 1) := by decide +kernel
theorem dX12_isOwn_19 : decode cX12_isOwn 19 = .ok (.ifCond .eq 146, 3) := by decide +kernel
theorem dX12_isOwn_22 : decode cX12_isOwn 22 = .ok (.aload_n 0, 1) := by decide +kernel
theorem dX12_isOwn_23 : decode cX12_isOwn 23 = .ok (.getfield 138, 3) := by decide +kernel
theorem dX12_isOwn_26 : decode cX12_isOwn 26 = .ok (.ldc2_w 165, 3) := by decide +kernel
theorem dX12_isOwn_29 : decode cX12_isOwn 29 = .ok (.lcmp, 1) := by decide +kernel
theorem dX12_isOwn_30 : decode cX12_isOwn 30 = .ok (.ifCond .eq 135, 3) := by decide +kernel
theorem dX12_isOwn_33 : decode cX12_isOwn 33 = .ok (.aload_n 0, 1) := by decide +kernel
theorem dX12_isOwn_34 : decode cX12_isOwn 34 = .ok (.getfield 138, 3) := by decide +kernel
theorem dX12_isOwn_37 : decode cX12_isOwn 37 = .ok (.ldc2_w 167, 3) := by decide +kernel
theorem dX12_isOwn_40 : decode cX12_isOwn 40 = .ok (.lcmp, 1) := by decide +kernel
theorem dX12_isOwn_41 : decode cX12_isOwn 41 = .ok (.ifCond .eq 124, 3) := by decide +kernel
theorem dX12_isOwn_44 : decode cX12_isOwn 44 = .ok (.aload_n 0, 1) := by decide +kernel
theorem dX12_isOwn_45 : decode cX12_isOwn 45 = .ok (.getfield 138, 3) := by decide +kernel
theorem dX12_isOwn_48 : decode cX12_isOwn 48 = .ok (.ldc2_w 169, 3) := by decide +kernel
theorem dX12_isOwn_51 : decode cX12_isOwn 51 = .ok (.lcmp, 1) := by decide +kernel
theorem dX12_isOwn_52 : decode cX12_isOwn 52 = .ok (.ifCond .eq 113, 3) := by decide +kernel
theorem dX12_isOwn_55 : decode cX12_isOwn 55 = .ok (.aload_n 0, 1) := by decide +kernel
theorem dX12_isOwn_56 : decode cX12_isOwn 56 = .ok (.getfield 138, 3) := by decide +kernel
theorem dX12_isOwn_59 : decode cX12_isOwn 59 = .ok (.ldc2_w 171, 3) := by decide +kernel
theorem dX12_isOwn_62 : decode cX12_isOwn 62 = .ok (.lcmp, 1) := by decide +kernel
theorem dX12_isOwn_63 : decode cX12_isOwn 63 = .ok (.ifCond .eq 102, 3) := by decide +kernel
theorem dX12_isOwn_66 : decode cX12_isOwn 66 = .ok (.aload_n 0, 1) := by decide +kernel
theorem dX12_isOwn_67 : decode cX12_isOwn 67 = .ok (.getfield 138, 3) := by decide +kernel
theorem dX12_isOwn_70 : decode cX12_isOwn 70 = .ok (.ldc2_w 173, 3) := by decide +kernel
theorem dX12_isOwn_73 : decode cX12_isOwn 73 = .ok (.lcmp, 1) := by decide +kernel
theorem dX12_isOwn_74 : decode cX12_isOwn 74 = .ok (.ifCond .eq 91, 3) := by decide +kernel
theorem dX12_isOwn_77 : decode cX12_isOwn 77 = .ok (.aload_n 0, 1) := by decide +kernel
theorem dX12_isOwn_78 : decode cX12_isOwn 78 = .ok (.getfield 138, 3) := by decide +kernel
theorem dX12_isOwn_81 : decode cX12_isOwn 81 = .ok (.ldc2_w 175, 3) := by decide +kernel
theorem dX12_isOwn_84 : decode cX12_isOwn 84 = .ok (.lcmp, 1) := by decide +kernel
theorem dX12_isOwn_85 : decode cX12_isOwn 85 = .ok (.ifCond .eq 80, 3) := by decide +kernel
theorem dX12_isOwn_88 : decode cX12_isOwn 88 = .ok (.aload_n 0, 1) := by decide +kernel
theorem dX12_isOwn_89 : decode cX12_isOwn 89 = .ok (.getfield 138, 3) := by decide +kernel
theorem dX12_isOwn_92 : decode cX12_isOwn 92 = .ok (.ldc2_w 177, 3) := by decide +kernel
theorem dX12_isOwn_95 : decode cX12_isOwn 95 = .ok (.lcmp, 1) := by decide +kernel
theorem dX12_isOwn_96 : decode cX12_isOwn 96 = .ok (.ifCond .eq 69, 3) := by decide +kernel
theorem dX12_isOwn_99 : decode cX12_isOwn 99 = .ok (.aload_n 0, 1) := by decide +kernel
theorem dX12_isOwn_100 : decode cX12_isOwn 100 = .ok (.getfield 138, 3) := by decide +kernel
theorem dX12_isOwn_103 : decode cX12_isOwn 103 = .ok (.ldc2_w 179, 3) := by decide +kernel
theorem dX12_isOwn_106 : decode cX12_isOwn 106 = .ok (.lcmp, 1) := by decide +kernel
theorem dX12_isOwn_107 : decode cX12_isOwn 107 = .ok (.ifCond .eq 58, 3) := by decide +kernel
theorem dX12_isOwn_110 : decode cX12_isOwn 110 = .ok (.aload_n 0, 1) := by decide +kernel
theorem dX12_isOwn_111 : decode cX12_isOwn 111 = .ok (.getfield 138, 3) := by decide +kernel
theorem dX12_isOwn_114 : decode cX12_isOwn 114 = .ok (.ldc2_w 181, 3) := by decide +kernel
theorem dX12_isOwn_117 : decode cX12_isOwn 117 = .ok (.lcmp, 1) := by decide +kernel
theorem dX12_isOwn_118 : decode cX12_isOwn 118 = .ok (.ifCond .eq 47, 3) := by decide +kernel
theorem dX12_isOwn_121 : decode cX12_isOwn 121 = .ok (.aload_n 0, 1) := by decide +kernel
theorem dX12_isOwn_122 : decode cX12_isOwn 122 = .ok (.getfield 138, 3) := by decide +kernel
theorem dX12_isOwn_125 : decode cX12_isOwn 125 = .ok (.ldc2_w 183, 3) := by decide +kernel
theorem dX12_isOwn_128 : decode cX12_isOwn 128 = .ok (.lcmp, 1) := by decide +kernel
theorem dX12_isOwn_129 : decode cX12_isOwn 129 = .ok (.ifCond .eq 36, 3) := by decide +kernel
theorem dX12_isOwn_132 : decode cX12_isOwn 132 = .ok (.aload_n 0, 1) := by decide +kernel
theorem dX12_isOwn_133 : decode cX12_isOwn 133 = .ok (.getfield 138, 3) := by decide +kernel
theorem dX12_isOwn_136 : decode cX12_isOwn 136 = .ok (.ldc2_w 185, 3) := by decide +kernel
theorem dX12_isOwn_139 : decode cX12_isOwn 139 = .ok (.lcmp, 1) := by decide +kernel
theorem dX12_isOwn_140 : decode cX12_isOwn 140 = .ok (.ifCond .eq 25, 3) := by decide +kernel
theorem dX12_isOwn_143 : decode cX12_isOwn 143 = .ok (.aload_n 0, 1) := by decide +kernel
theorem dX12_isOwn_144 : decode cX12_isOwn 144 = .ok (.getfield 138, 3) := by decide +kernel
theorem dX12_isOwn_147 : decode cX12_isOwn 147 = .ok (.ldc2_w 187, 3) := by decide +kernel
theorem dX12_isOwn_150 : decode cX12_isOwn 150 = .ok (.lcmp, 1) := by decide +kernel
theorem dX12_isOwn_151 : decode cX12_isOwn 151 = .ok (.ifCond .eq 14, 3) := by decide +kernel
theorem dX12_isOwn_154 : decode cX12_isOwn 154 = .ok (.aload_n 0, 1) := by decide +kernel
theorem dX12_isOwn_155 : decode cX12_isOwn 155 = .ok (.getfield 138, 3) := by decide +kernel
theorem dX12_isOwn_158 : decode cX12_isOwn 158 = .ok (.ldc2_w 189, 3) := by decide +kernel
theorem dX12_isOwn_161 : decode cX12_isOwn 161 = .ok (.lcmp, 1) := by decide +kernel
theorem dX12_isOwn_162 : decode cX12_isOwn 162 = .ok (.ifCond .ne 7, 3) := by decide +kernel
