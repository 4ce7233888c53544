theorem dX12_pairs_28 : decode cX12_pairs 28 = .ok (.aload_n 0, 1) := by decide +kernel
theorem dX12_pairs_29 : decode cX12_pairs 29 = .ok (.getfield 63, 3) := by decide +kernel
theorem dX12_pairs_32 : decode cX12_pairs 32 = .ok (.iload 4, 2) := by decide +kernel
theorem dX12_pairs_34 : decode cX12_pairs 34 = .ok (.aload_n 0, 1) := by decide +kernel
theorem dX12_pairs_35 : decode cX12_pairs 35 = .ok (.iload 4, 2) := by decide +kernel
theorem dX12_pairs_37 : decode cX12_pairs 37 = .ok (.iload_n 3, 1) := by decide +kernel
theorem dX12_pairs_38 : decode cX12_pairs 38 = .ok (.invokevirtual 378, 3) := by decide +kernel
theorem dX12_pairs_41 : decode cX12_pairs 41 = .ok (.iastore, 1) := by decide +kernel
theorem dX12_pairs_42 : decode cX12_pairs 42 = .ok (.iinc 4 1, 3) := by decide +kernel
theorem dX12_pairs_45 : decode cX12_pairs 45 = .ok (.goto (-26), 3) := by decide +kernel
theorem dX12_pairs_48 : decode cX12_pairs 48 = .ok (.iconst 0, 1) := by decide +kernel
theorem dX12_pairs_49 : decode cX12_pairs 49 = .ok (.istore 4, 2) := by decide +kernel
theorem dX12_pairs_51 : decode cX12_pairs 51 = .ok (.iload 4, 2) := by decide +kernel
theorem dX12_pairs_53 : decode cX12_pairs 53 = .ok (.iload_n 2, 1) := by decide +kernel
theorem dX12_pairs_54 : decode cX12_pairs 54 = .ok (.if_icmp .ge 169, 3) := by decide +kernel
theorem dX12_pairs_57 : decode cX12_pairs 57 = .ok (.iload 4, 2) := by decide +kernel
theorem dX12_pairs_59 : decode cX12_pairs 59 = .ok (.istore 5, 2) := by decide +kernel
theorem dX12_pairs_61 : decode cX12_pairs 61 = .ok (.aload_n 0, 1) := by decide +kernel
theorem dX12_pairs_62 : decode cX12_pairs 62 = .ok (.getfield 342, 3) := by decide +kernel
theorem dX12_pairs_65 : decode cX12_pairs 65 = .ok (.iconst 1, 1) := by decide +kernel
theorem dX12_pairs_66 : decode cX12_pairs 66 = .ok (.isub, 1) := by decide +kernel
theorem dX12_pairs_67 : decode cX12_pairs 67 = .ok (.istore 6, 2) := by decide +kernel
theorem dX12_pairs_69 : decode cX12_pairs 69 = .ok (.iload 6, 2) := by decide +kernel
theorem dX12_pairs_71 : decode cX12_pairs 71 = .ok (.ifCond .lt 38, 3) := by decide +kernel
theorem dX12_pairs_74 : decode cX12_pairs 74 = .ok (.aload_n 0, 1) := by decide +kernel
theorem dX12_pairs_75 : decode cX12_pairs 75 = .ok (.getfield 57, 3) := by decide +kernel
theorem dX12_pairs_78 : decode cX12_pairs 78 = .ok (.iload 6, 2) := by decide +kernel
theorem dX12_pairs_80 : decode cX12_pairs 80 = .ok (.iload 5, 2) := by decide +kernel
theorem dX12_pairs_82 : decode cX12_pairs 82 = .ok (.aload_n 0, 1) := by decide +kernel
theorem dX12_pairs_83 : decode cX12_pairs 83 = .ok (.getfield 342, 3) := by decide +kernel
theorem dX12_pairs_86 : decode cX12_pairs 86 = .ok (.iconst 1, 1) := by decide +kernel
theorem dX12_pairs_87 : decode cX12_pairs 87 = .ok (.iadd, 1) := by decide +kernel
theorem dX12_pairs_88 : decode cX12_pairs 88 = .ok (.irem, 1) := by decide +kernel
theorem dX12_pairs_89 : decode cX12_pairs 89 = .ok (.iconst 1, 1) := by decide +kernel
theorem dX12_pairs_90 : decode cX12_pairs 90 = .ok (.isub, 1) := by decide +kernel
theorem dX12_pairs_91 : decode cX12_pairs 91 = .ok (.iastore, 1) := by decide +kernel
theorem dX12_pairs_92 : decode cX12_pairs 92 = .ok (.iload 5, 2) := by decide +kernel
theorem dX12_pairs_94 : decode cX12_pairs 94 = .ok (.aload_n 0, 1) := by decide +kernel
theorem dX12_pairs_95 : decode cX12_pairs 95 = .ok (.getfield 342, 3) := by decide +kernel
theorem dX12_pairs_98 : decode cX12_pairs 98 = .ok (.iconst 1, 1) := by decide +kernel
theorem dX12_pairs_99 : decode cX12_pairs 99 = .ok (.iadd, 1) := by decide +kernel
theorem dX12_pairs_100 : decode cX12_pairs 100 = .ok (.idiv, 1) := by decide +kernel
theorem dX12_pairs_101 : decode cX12_pairs 101 = .ok (.istore 5, 2) := by decide +kernel
theorem dX12_pairs_103 : decode cX12_pairs 103 = .ok (.iinc 6 (-1), 3) := by decide +kernel
theorem dX12_pairs_106 : decode cX12_pairs 106 = .ok (.goto (-37), 3) := by decide +kernel
theorem dX12_pairs_109 : decode cX12_pairs 109 = .ok (.aload_n 0, 1) := by decide +kernel
theorem dX12_pairs_110 : decode cX12_pairs 110 = .ok (.invokevirtual 441, 3) := by decide +kernel
theorem dX12_pairs_113 : decode cX12_pairs 113 = .ok (.ifCond .ne 6, 3) := by decide +kernel
theorem dX12_pairs_116 : decode cX12_pairs 116 = .ok (.goto 101, 3) := by decide +kernel
theorem dX12_pairs_119 : decode cX12_pairs 119 = .ok (.iconst 0, 1) := by decide +kernel
theorem dX12_pairs_120 : decode cX12_pairs 120 = .ok (.istore 6, 2) := by decide +kernel
theorem dX12_pairs_122 : decode cX12_pairs 122 = .ok (.iconst 0, 1) := by decide +kernel
theorem dX12_pairs_123 : decode cX12_pairs 123 = .ok (.istore 7, 2) := by decide +kernel
theorem dX12_pairs_125 : decode cX12_pairs 125 = .ok (.iload 7, 2) := by decide +kernel
theorem dX12_pairs_127 : decode cX12_pairs 127 = .ok (.aload_n 0, 1) := by decide +kernel
theorem dX12_pairs_128 : decode cX12_pairs 128 = .ok (.getfield 342, 3) := by decide +kernel
theorem dX12_pairs_131 : decode cX12_pairs 131 = .ok (.if_icmp .ge 70, 3) := by decide +kernel
theorem dX12_pairs_134 : decode cX12_pairs 134 = .ok (.aload_n 0, 1) := by decide +kernel
theorem dX12_pairs_135 : decode cX12_pairs 135 = .ok (.getfield 57, 3) := by decide +kernel
theorem dX12_pairs_138 : decode cX12_pairs 138 = .ok (.iload 7, 2) := by decide +kernel
theorem dX12_pairs_140 : decode cX12_pairs 140 = .ok (.iaload, 1) := by decide +kernel
theorem dX12_pairs_141 : decode cX12_pairs 141 = .ok (.iload 7, 2) := by decide +kernel
theorem dX12_pairs_143 : decode cX12_pairs 143 = .ok (.if_icmp .le 52, 3) := by decide +kernel
theorem dX12_pairs_146 : decode cX12_pairs 146 = .ok (.iload 6, 2) := by decide +kernel
theorem dX12_pairs_148 : decode cX12_pairs 148 = .ok (.aload_n 0, 1) := by decide +kernel
theorem dX12_pairs_149 : decode cX12_pairs 149 = .ok (.getfield 63, 3) := by decide +kernel
theorem dX12_pairs_152 : decode cX12_pairs 152 = .ok (.iload 7, 2) := by decide +kernel
theorem dX12_pairs_154 : decode cX12_pairs 154 = .ok (.iaload, 1) := by decide +kernel
theorem dX12_pairs_155 : decode cX12_pairs 155 = .ok (.aload_n 0, 1) := by decide +kernel
theorem dX12_pairs_156 : decode cX12_pairs 156 = .ok (.getfield 63, 3) := by decide +kernel
theorem dX12_pairs_159 : decode cX12_pairs 159 = .ok (.aload_n 0, 1) := by decide +kernel
theorem dX12_pairs_160 : decode cX12_pairs 160 = .ok (.getfield 57, 3) := by decide +kernel
theorem dX12_pairs_163 : decode cX12_pairs 163 = .ok (.iload 7, 2) := by decide +kernel
theorem dX12_pairs_165 : decode cX12_pairs 165 = .ok (.iaload, 1) := by decide +kernel
theorem dX12_pairs_166 : decode cX12_pairs 166 = .ok (.iaload, 1) := by decide +kernel
theorem dX12_pairs_167 : decode cX12_pairs 167 = .ok (.if_icmp .ge 13, 3) := by decide +kernel
theorem dX12_pairs_170 : decode cX12_pairs 170 = .ok (.aload_n 0, 1) := by decide +kernel
theorem dX12_pairs_171 : decode cX12_pairs 171 = .ok (.getfield 63, 3) := by decide +kernel
theorem dX12_pairs_174 : decode cX12_pairs 174 = .ok (.iload 7, 2) := by decide +kernel
theorem dX12_pairs_176 : decode cX12_pairs 176 = .ok (.iaload, 1) := by decide +kernel
theorem dX12_pairs_177 : decode cX12_pairs 177 = .ok (.goto 15, 3) := by decide +kernel
theorem dX12_pairs_180 : decode cX12_pairs 180 = .ok (.aload_n 0, 1) := by decide +kernel
theorem dX12_pairs_181 : decode cX12_pairs 181 = .ok (.getfield 63, 3) := by decide +kernel
theorem dX12_pairs_184 : decode cX12_pairs 184 = .ok (.aload_n 0, 1) := by decide +kernel
theorem dX12_pairs_185 : decode cX12_pairs 185 = .ok (.getfield 57, 3) := by decide +kernel
theorem dX12_pairs_188 : decode cX12_pairs 188 = .ok (.iload 7, 2) := by decide +kernel
theorem dX12_pairs_190 : decode cX12_pairs 190 = .ok (.iaload, 1) := by decide +kernel
theorem dX12_pairs_191 : decode cX12_pairs 191 = .ok (.iaload, 1) := by decide +kernel
theorem dX12_pairs_192 : decode cX12_pairs 192 = .ok (.iadd, 1) := by decide +kernel
theorem dX12_pairs_193 : decode cX12_pairs 193 = .ok (.istore 6, 2) := by decide +kernel
theorem dX12_pairs_195 : decode cX12_pairs 195 = .ok (.iinc 7 1, 3) := by decide +kernel
theorem dX12_pairs_198 : decode cX12_pairs 198 = .ok (.goto (-73), 3) := by decide +kernel
theorem dX12_pairs_201 : decode cX12_pairs 201 = .ok (.iload 6, 2) := by decide +kernel
theorem dX12_pairs_203 : decode cX12_pairs 203 = .ok (.iload_n 1, 1) := by decide +kernel
theorem dX12_pairs_204 : decode cX12_pairs 204 = .ok (.if_icmp .gt 6, 3) := by decide +kernel
theorem dX12_pairs_207 : decode cX12_pairs 207 = .ok (.goto 10, 3) := by decide +kernel
theorem dX12_pairs_210 : decode cX12_pairs 210 = .ok (.iload 6, 2) := by decide +kernel
theorem dX12_pairs_212 : decode cX12_pairs 212 = .ok (.istore_n 1, 1) := by decide +kernel
theorem dX12_pairs_213 : decode cX12_pairs 213 = .ok (.aload_n 0, 1) := by decide +kernel
theorem dX12_pairs_214 : decode cX12_pairs 214 = .ok (.invokevirtual 417, 3) := by decide +kernel
theorem dX12_pairs_217 : decode cX12_pairs 217 = .ok (.iinc 4 1, 3) := by decide +kernel
theorem dX12_pairs_220 : decode cX12_pairs 220 = .ok (.goto (-169), 3) := by decide +kernel
theorem dX12_pairs_223 : decode cX12_pairs 223 = .ok (.iload_n 1, 1) := by decide +kernel
theorem dX12_pairs_224 : decode cX12_pairs 224 = .ok (.ireturn, 1) := by decide +kernel
theorem dX12_alike_0 : decode cX12_alike 0 = .ok (.aload_n 0, 1) := by decide +kernel
theorem dX12_alike_1 : decode cX12_alike 1 = .ok (.invokevirtual 393, 3) := by decide +kernel
theorem dX12_alike_4 : decode cX12_alike 4 = .ok (.iconst 0, 1) := by decide +kernel
theorem dX12_alike_5 : decode cX12_alike 5 = .ok (.istore_n 1, 1) := by decide +kernel
theorem dX12_alike_6 : decode cX12_alike 6 = .ok (.iconst 0, 1) := by decide +kernel
theorem dX12_alike_7 : decode cX12_alike 7 = .ok (.istore_n 2, 1) := by decide +kernel
theorem dX12_alike_8 : decode cX12_alike 8 = .ok (.iload_n 2, 1) := by decide +kernel
theorem dX12_alike_9 : decode cX12_alike 9 = .ok (.aload_n 0, 1) := by decide +kernel
theorem dX12_alike_10 : decode cX12_alike 10 = .ok (.getfield 342, 3) := by decide +kernel
theorem dX12_alike_13 : decode cX12_alike 13 = .ok (.if_icmp .ge 48, 3) := by decide +kernel
theorem dX12_alike_16 : decode cX12_alike 16 = .ok (.iconst 0, 1) := by decide +kernel
theorem dX12_alike_17 : decode cX12_alike 17 = .ok (.istore_n 3, 1) := by decide +kernel
theorem dX12_alike_18 : decode cX12_alike 18 = .ok (.iload_n 3, 1) := by decide +kernel
theorem dX12_alike_19 : decode cX12_alike 19 = .ok (.iload_n 2, 1) := by decide +kernel
theorem dX12_alike_20 : decode cX12_alike 20 = .ok (.if_icmp .ge 35, 3) := by decide +kernel
theorem dX12_alike_23 : decode cX12_alike 23 = .ok (.iload_n 1, 1) := by decide +kernel
theorem dX12_alike_24 : decode cX12_alike 24 = .ok (.aload_n 0, 1) := by decide +kernel
theorem dX12_alike_25 : decode cX12_alike 25 = .ok (.getfield 60, 3) := by decide +kernel
theorem dX12_alike_28 : decode cX12_alike 28 = .ok (.iload_n 2, 1) := by decide +kernel
theorem dX12_alike_29 : decode cX12_alike 29 = .ok (.iaload, 1) := by decide +kernel
theorem dX12_alike_30 : decode cX12_alike 30 = .ok (.aload_n 0, 1) := by decide +kernel
theorem dX12_alike_31 : decode cX12_alike 31 = .ok (.getfield 60, 3) := by decide +kernel
theorem dX12_alike_34 : decode cX12_alike 34 = .ok (.iload_n 3, 1) := by decide +kernel
theorem dX12_alike_35 : decode cX12_alike 35 = .ok (.iaload, 1) := by decide +kernel
theorem dX12_alike_36 : decode cX12_alike 36 = .ok (.if_icmp .ne 7, 3) := by decide +kernel
theorem dX12_alike_39 : decode cX12_alike 39 = .ok (.iconst 1, 1) := by decide +kernel
theorem dX12_alike_40 : decode cX12_alike 40 = .ok (.goto 4, 3) := by decide +kernel
theorem dX12_alike_43 : decode cX12_alike 43 = .ok (.iconst 0, 1) := by decide +kernel
theorem dX12_alike_44 : decode cX12_alike 44 = .ok (.invokestatic 278, 3) := by decide +kernel
theorem dX12_alike_47 : decode cX12_alike 47 = .ok (.iadd, 1) := by decide +kernel
theorem dX12_alike_48 : decode cX12_alike 48 = .ok (.istore_n 1, 1) := by decide +kernel
theorem dX12_alike_49 : decode cX12_alike 49 = .ok (.iinc 3 1, 3) := by decide +kernel
theorem dX12_alike_52 : decode cX12_alike 52 = .ok (.goto (-34), 3) := by decide +kernel
theorem dX12_alike_55 : decode cX12_alike 55 = .ok (.iinc 2 1, 3) := by decide +kernel
theorem dX12_alike_58 : decode cX12_alike 58 = .ok (.goto (-50), 3) := by decide +kernel
theorem dX12_alike_61 : decode cX12_alike 61 = .ok (.iload_n 1, 1) := by decide +kernel
theorem dX12_alike_62 : decode cX12_alike 62 = .ok (.ireturn, 1) := by decide +kernel
theorem dX12_loafNow_0 : decode cX12_loafNow 0 = .ok (.aload_n 0, 1) := by decide +kernel
theorem dX12_loafNow_1 : decode cX12_loafNow 1 = .ok (.invokevirtual 384, 3) := by decide +kernel
theorem dX12_loafNow_4 : decode cX12_loafNow 4 = .ok (.aload_n 0, 1) := by decide +kernel
theorem dX12_loafNow_5 : decode cX12_loafNow 5 = .ok (.iload_n 2, 1) := by decide +kernel
theorem dX12_loafNow_6 : decode cX12_loafNow 6 = .ok (.aload_n 0, 1) := by decide +kernel
theorem dX12_loafNow_7 : decode cX12_loafNow 7 = .ok (.getfield 54, 3) := by decide +kernel
theorem dX12_loafNow_10 : decode cX12_loafNow 10 = .ok (.bipush 15, 2) := by decide +kernel
theorem dX12_loafNow_12 : decode cX12_loafNow 12 = .ok (.iload_n 1, 1) := by decide +kernel
theorem dX12_loafNow_13 : decode cX12_loafNow 13 = .ok (.iadd, 1) := by decide +kernel
theorem dX12_loafNow_14 : decode cX12_loafNow 14 = .ok (.iaload, 1) := by decide +kernel
theorem dX12_loafNow_15 : decode cX12_loafNow 15 = .ok (.aload_n 0, 1) := by decide +kernel
theorem dX12_loafNow_16 : decode cX12_loafNow 16 = .ok (.getfield 54, 3) := by decide +kernel
theorem dX12_loafNow_19 : decode cX12_loafNow 19 = .ok (.bipush 20, 2) := by decide +kernel
theorem dX12_loafNow_21 : decode cX12_loafNow 21 = .ok (.iload_n 1, 1) := by decide +kernel
theorem dX12_loafNow_22 : decode cX12_loafNow 22 = .ok (.iadd, 1) := by decide +kernel
theorem dX12_loafNow_23 : decode cX12_loafNow 23 = .ok (.iaload, 1) := by decide +kernel
theorem dX12_loafNow_24 : decode cX12_loafNow 24 = .ok (.iload_n 3, 1) := by decide +kernel
theorem dX12_loafNow_25 : decode cX12_loafNow 25 = .ok (.aload_n 0, 1) := by decide +kernel
theorem dX12_loafNow_26 : decode cX12_loafNow 26 = .ok (.invokevirtual 372, 3) := by decide +kernel
theorem dX12_loafNow_29 : decode cX12_loafNow 29 = .ok (.invokevirtual 368, 3) := by decide +kernel
theorem dX12_loafNow_32 : decode cX12_loafNow 32 = .ok (.ireturn, 1) := by decide +kernel
theorem dX12_makes_0 : decode cX12_makes 0 = .ok (.aload_n 0, 1) := by decide +kernel
theorem dX12_makes_1 : decode cX12_makes 1 = .ok (.iload_n 1, 1) := by decide +kernel
theorem dX12_makes_2 : decode cX12_makes 2 = .ok (.invokevirtual 390, 3) := by decide +kernel
theorem dX12_makes_5 : decode cX12_makes 5 = .ok (.ifCond .ne 5, 3) := by decide +kernel
theorem dX12_makes_8 : decode cX12_makes 8 = .ok (.iconst 0, 1) := by decide +kernel
theorem dX12_makes_9 : decode cX12_makes 9 = .ok (.ireturn, 1) := by decide +kernel
theorem dX12_makes_10 : decode cX12_makes 10 = .ok (.iconst 0, 1) := by decide +kernel
theorem dX12_makes_11 : decode cX12_makes 11 = .ok (.istore_n 3, 1) := by decide +kernel
theorem dX12_makes_12 : decode cX12_makes 12 = .ok (.iconst 0, 1) := by decide +kernel
theorem dX12_makes_13 : decode cX12_makes 13 = .ok (.istore 4, 2) := by decide +kernel
theorem dX12_makes_15 : decode cX12_makes 15 = .ok (.iload 4, 2) := by decide +kernel
theorem dX12_makes_17 : decode cX12_makes 17 = .ok (.iconst 1, 1) := by decide +kernel
theorem dX12_makes_18 : decode cX12_makes 18 = .ok (.aload_n 0, 1) := by decide +kernel
theorem dX12_makes_19 : decode cX12_makes 19 = .ok (.getfield 339, 3) := by decide +kernel
theorem dX12_makes_22 : decode cX12_makes 22 = .ok (.ishl, 1) := by decide +kernel
theorem dX12_makes_23 : decode cX12_makes 23 = .ok (.if_icmp .ge 41, 3) := by decide +kernel
theorem dX12_makes_26 : decode cX12_makes 26 = .ok (.iload_n 3, 1) := by decide +kernel
theorem dX12_makes_27 : decode cX12_makes 27 = .ok (.aload_n 0, 1) := by decide +kernel
theorem dX12_makes_28 : decode cX12_makes 28 = .ok (.iload_n 1, 1) := by decide +kernel
theorem dX12_makes_29 : decode cX12_makes 29 = .ok (.iload 4, 2) := by decide +kernel
theorem dX12_makes_31 : decode cX12_makes 31 = .ok (.aload_n 0, 1) := by decide +kernel
theorem dX12_makes_32 : decode cX12_makes 32 = .ok (.getfield 54, 3) := by decide +kernel
theorem dX12_makes_35 : decode cX12_makes 35 = .ok (.bipush 35, 2) := by decide +kernel
theorem dX12_makes_37 : decode cX12_makes 37 = .ok (.iaload, 1) := by decide +kernel
theorem dX12_makes_38 : decode cX12_makes 38 = .ok (.invokevirtual 444, 3) := by decide +kernel
theorem dX12_makes_41 : decode cX12_makes 41 = .ok (.iload_n 2, 1) := by decide +kernel
theorem dX12_makes_42 : decode cX12_makes 42 = .ok (.if_icmp .ne 7, 3) := by decide +kernel
theorem dX12_makes_45 : decode cX12_makes 45 = .ok (.iconst 1, 1) := by decide +kernel
theorem dX12_makes_46 : decode cX12_makes 46 = .ok (.goto 4, 3) := by decide +kernel
theorem dX12_makes_49 : decode cX12_makes 49 = .ok (.iconst 0, 1) := by decide +kernel
theorem dX12_makes_50 : decode cX12_makes 50 = .ok (.invokestatic 278, 3) := by decide +kernel
theorem dX12_makes_53 : decode cX12_makes 53 = .ok (.iload 4, 2) := by decide +kernel
theorem dX12_makes_55 : decode cX12_makes 55 = .ok (.ishl, 1) := by decide +kernel
theorem dX12_makes_56 : decode cX12_makes 56 = .ok (.ior, 1) := by decide +kernel
theorem dX12_makes_57 : decode cX12_makes 57 = .ok (.istore_n 3, 1) := by decide +kernel
theorem dX12_makes_58 : decode cX12_makes 58 = .ok (.iinc 4 1, 3) := by decide +kernel
theorem dX12_makes_61 : decode cX12_makes 61 = .ok (.goto (-46), 3) := by decide +kernel
theorem dX12_makes_64 : decode cX12_makes 64 = .ok (.iload_n 3, 1) := by decide +kernel
theorem dX12_makes_65 : decode cX12_makes 65 = .ok (.ireturn, 1) := by decide +kernel
theorem dX12_wants_0 : decode cX12_wants 0 = .ok (.aload_n 0, 1) := by decide +kernel
theorem dX12_wants_1 : decode cX12_wants 1 = .ok (.iload_n 1, 1) := by decide +kernel
theorem dX12_wants_2 : decode cX12_wants 2 = .ok (.invokevirtual 390, 3) := by decide +kernel
theorem dX12_wants_5 : decode cX12_wants 5 = .ok (.ifCond .eq 12, 3) := by decide +kernel
theorem dX12_wants_8 : decode cX12_wants 8 = .ok (.iload_n 3, 1) := by decide +kernel
theorem dX12_wants_9 : decode cX12_wants 9 = .ok (.iconst 0, 1) := by decide +kernel
theorem dX12_wants_10 : decode cX12_wants 10 = .ok (.iconst 1, 1) := by decide +kernel
theorem dX12_wants_11 : decode cX12_wants 11 = .ok (.invokestatic 360, 3) := by decide +kernel
theorem dX12_wants_14 : decode cX12_wants 14 = .ok (.ifCond .ne 5, 3) := by decide +kernel
theorem dX12_wants_17 : decode cX12_wants 17 = .ok (.iconst (-1), 1) := by decide +kernel
theorem dX12_wants_18 : decode cX12_wants 18 = .ok (.ireturn, 1) := by decide +kernel
theorem dX12_wants_19 : decode cX12_wants 19 = .ok (.iconst (-1), 1) := by decide +kernel
theorem dX12_wants_20 : decode cX12_wants 20 = .ok (.istore 4, 2) := by decide +kernel
theorem dX12_wants_22 : decode cX12_wants 22 = .ok (.iconst 0, 1) := by decide +kernel
theorem dX12_wants_23 : decode cX12_wants 23 = .ok (.istore 5, 2) := by decide +kernel
theorem dX12_wants_25 : decode cX12_wants 25 = .ok (.iload 5, 2) := by decide +kernel
theorem dX12_wants_27 : decode cX12_wants 27 = .ok (.iconst 1, 1) := by decide +kernel
theorem dX12_wants_28 : decode cX12_wants 28 = .ok (.aload_n 0, 1) := by decide +kernel
theorem dX12_wants_29 : decode cX12_wants 29 = .ok (.getfield 339, 3) := by decide +kernel
theorem dX12_wants_32 : decode cX12_wants 32 = .ok (.ishl, 1) := by decide +kernel
theorem dX12_wants_33 : decode cX12_wants 33 = .ok (.if_icmp .ge 49, 3) := by decide +kernel
theorem dX12_wants_36 : decode cX12_wants 36 = .ok (.aload_n 0, 1) := by decide +kernel
theorem dX12_wants_37 : decode cX12_wants 37 = .ok (.iload_n 1, 1) := by decide +kernel
theorem dX12_wants_38 : decode cX12_wants 38 = .ok (.iload 5, 2) := by decide +kernel
theorem dX12_wants_40 : decode cX12_wants 40 = .ok (.aload_n 0, 1) := by decide +kernel
theorem dX12_wants_41 : decode cX12_wants 41 = .ok (.getfield 54, 3) := by decide +kernel
theorem dX12_wants_44 : decode cX12_wants 44 = .ok (.bipush 35, 2) := by decide +kernel
theorem dX12_wants_46 : decode cX12_wants 46 = .ok (.iaload, 1) := by decide +kernel
theorem dX12_wants_47 : decode cX12_wants 47 = .ok (.invokevirtual 444, 3) := by decide +kernel
theorem dX12_wants_50 : decode cX12_wants 50 = .ok (.iload_n 2, 1) := by decide +kernel
theorem dX12_wants_51 : decode cX12_wants 51 = .ok (.if_icmp .lt 25, 3) := by decide +kernel
theorem dX12_wants_54 : decode cX12_wants 54 = .ok (.iload 4, 2) := by decide +kernel
theorem dX12_wants_56 : decode cX12_wants 56 = .ok (.ifCond .lt 16, 3) := by decide +kernel
theorem dX12_wants_59 : decode cX12_wants 59 = .ok (.iload 5, 2) := by decide +kernel
theorem dX12_wants_61 : decode cX12_wants 61 = .ok (.invokestatic 435, 3) := by decide +kernel
theorem dX12_wants_64 : decode cX12_wants 64 = .ok (.iload 4, 2) := by decide +kernel
theorem dX12_wants_66 : decode cX12_wants 66 = .ok (.invokestatic 435, 3) := by decide +kernel
theorem dX12_wants_69 : decode cX12_wants 69 = .ok (.if_icmp .ge 7, 3) := by decide +kernel
theorem dX12_wants_72 : decode cX12_wants 72 = .ok (.iload 5, 2) := by decide +kernel
theorem dX12_wants_74 : decode cX12_wants 74 = .ok (.istore 4, 2) := by decide +kernel
theorem dX12_wants_76 : decode cX12_wants 76 = .ok (.iinc 5 1, 3) := by decide +kernel
theorem dX12_wants_79 : decode cX12_wants 79 = .ok (.goto (-54), 3) := by decide +kernel
theorem dX12_wants_82 : decode cX12_wants 82 = .ok (.iload 4, 2) := by decide +kernel
theorem dX12_wants_84 : decode cX12_wants 84 = .ok (.ifCond .ge 7, 3) := by decide +kernel
theorem dX12_wants_87 : decode cX12_wants 87 = .ok (.iconst (-1), 1) := by decide +kernel
theorem dX12_wants_88 : decode cX12_wants 88 = .ok (.goto 17, 3) := by decide +kernel
theorem dX12_wants_91 : decode cX12_wants 91 = .ok (.iload_n 3, 1) := by decide +kernel
theorem dX12_wants_92 : decode cX12_wants 92 = .ok (.ifCond .ne 11, 3) := by decide +kernel
theorem dX12_wants_95 : decode cX12_wants 95 = .ok (.iload 4, 2) := by decide +kernel
theorem dX12_wants_97 : decode cX12_wants 97 = .ok (.invokestatic 435, 3) := by decide +kernel
theorem dX12_wants_100 : decode cX12_wants 100 = .ok (.goto 5, 3) := by decide +kernel
theorem dX12_wants_103 : decode cX12_wants 103 = .ok (.iload 4, 2) := by decide +kernel
theorem dX12_wants_105 : decode cX12_wants 105 = .ok (.ireturn, 1) := by decide +kernel
theorem dX12_warm_0 : decode cX12_warm 0 = .ok (.aload_n 0, 1) := by decide +kernel
theorem dX12_warm_1 : decode cX12_warm 1 = .ok (.iload_n 1, 1) := by decide +kernel
theorem dX12_warm_2 : decode cX12_warm 2 = .ok (.invokevirtual 390, 3) := by decide +kernel
theorem dX12_warm_5 : decode cX12_warm 5 = .ok (.ifCond .ne 5, 3) := by decide +kernel
theorem dX12_warm_8 : decode cX12_warm 8 = .ok (.iconst (-1), 1) := by decide +kernel
theorem dX12_warm_9 : decode cX12_warm 9 = .ok (.ireturn, 1) := by decide +kernel
theorem dX12_warm_10 : decode cX12_warm 10 = .ok (.iconst 0, 1) := by decide +kernel
theorem dX12_warm_11 : decode cX12_warm 11 = .ok (.istore_n 3, 1) := by decide +kernel
theorem dX12_warm_12 : decode cX12_warm 12 = .ok (.iconst 0, 1) := by decide +kernel
theorem dX12_warm_13 : decode cX12_warm 13 = .ok (.istore 4, 2) := by decide +kernel
theorem dX12_warm_15 : decode cX12_warm 15 = .ok (.iload 4, 2) := by decide +kernel
theorem dX12_warm_17 : decode cX12_warm 17 = .ok (.bipush 9, 2) := by decide +kernel
theorem dX12_warm_19 : decode cX12_warm 19 = .ok (.if_icmp .gt 40, 3) := by decide +kernel
theorem dX12_warm_22 : decode cX12_warm 22 = .ok (.iload_n 3, 1) := by decide +kernel
theorem dX12_warm_23 : decode cX12_warm 23 = .ok (.aload_n 0, 1) := by decide +kernel
theorem dX12_warm_24 : decode cX12_warm 24 = .ok (.iload_n 1, 1) := by decide +kernel
theorem dX12_warm_25 : decode cX12_warm 25 = .ok (.aload_n 0, 1) := by decide +kernel
theorem dX12_warm_26 : decode cX12_warm 26 = .ok (.getfield 54, 3) := by decide +kernel
theorem dX12_warm_29 : decode cX12_warm 29 = .ok (.iload_n 1, 1) := by decide +kernel
theorem dX12_warm_30 : decode cX12_warm 30 = .ok (.iaload, 1) := by decide +kernel
theorem dX12_warm_31 : decode cX12_warm 31 = .ok (.iload 4, 2) := by decide +kernel
theorem dX12_warm_33 : decode cX12_warm 33 = .ok (.invokevirtual 444, 3) := by decide +kernel
theorem dX12_warm_36 : decode cX12_warm 36 = .ok (.iload_n 2, 1) := by decide +kernel
theorem dX12_warm_37 : decode cX12_warm 37 = .ok (.if_icmp .lt 7, 3) := by decide +kernel
theorem dX12_warm_40 : decode cX12_warm 40 = .ok (.iconst 1, 1) := by decide +kernel
theorem dX12_warm_41 : decode cX12_warm 41 = .ok (.goto 4, 3) := by decide +kernel
theorem dX12_warm_44 : decode cX12_warm 44 = .ok (.iconst 0, 1) := by decide +kernel
theorem dX12_warm_45 : decode cX12_warm 45 = .ok (.invokestatic 278, 3) := by decide +kernel
theorem dX12_warm_48 : decode cX12_warm 48 = .ok (.iload 4, 2) := by decide +kernel
theorem dX12_warm_50 : decode cX12_warm 50 = .ok (.ishl, 1) := by decide +kernel
theorem dX12_warm_51 : decode cX12_warm 51 = .ok (.ior, 1) := by decide +kernel
theorem dX12_warm_52 : decode cX12_warm 52 = .ok (.istore_n 3, 1) := by decide +kernel
theorem dX12_warm_53 : decode cX12_warm 53 = .ok (.iinc 4 1, 3) := by decide +kernel
theorem dX12_warm_56 : decode cX12_warm 56 = .ok (.goto (-41), 3) := by decide +kernel
theorem dX12_warm_59 : decode cX12_warm 59 = .ok (.iload_n 3, 1) := by decide +kernel
theorem dX12_warm_60 : decode cX12_warm 60 = .ok (.ireturn, 1) := by decide +kernel
theorem dX12_loadFar_0 : decode cX12_loadFar 0 = .ok (.aload_n 0, 1) := by decide +kernel
theorem dX12_loadFar_1 : decode cX12_loadFar 1 = .ok (.invokevirtual 384, 3) := by decide +kernel
theorem dX12_loadFar_4 : decode cX12_loadFar 4 = .ok (.aload_n 0, 1) := by decide +kernel
theorem dX12_loadFar_5 : decode cX12_loadFar 5 = .ok (.aload_n 0, 1) := by decide +kernel
theorem dX12_loadFar_6 : decode cX12_loadFar 6 = .ok (.getfield 54, 3) := by decide +kernel
theorem dX12_loadFar_9 : decode cX12_loadFar 9 = .ok (.bipush 15, 2) := by decide +kernel
theorem dX12_loadFar_11 : decode cX12_loadFar 11 = .ok (.iload_n 1, 1) := by decide +kernel
theorem dX12_loadFar_12 : decode cX12_loadFar 12 = .ok (.iadd, 1) := by decide +kernel
theorem dX12_loadFar_13 : decode cX12_loadFar 13 = .ok (.iaload, 1) := by decide +kernel
theorem dX12_loadFar_14 : decode cX12_loadFar 14 = .ok (.putfield 447, 3) := by decide +kernel
theorem dX12_loadFar_17 : decode cX12_loadFar 17 = .ok (.aload_n 0, 1) := by decide +kernel
theorem dX12_loadFar_18 : decode cX12_loadFar 18 = .ok (.aload_n 0, 1) := by decide +kernel
theorem dX12_loadFar_19 : decode cX12_loadFar 19 = .ok (.getfield 54, 3) := by decide +kernel
theorem dX12_loadFar_22 : decode cX12_loadFar 22 = .ok (.bipush 20, 2) := by decide +kernel
theorem dX12_loadFar_24 : decode cX12_loadFar 24 = .ok (.iload_n 1, 1) := by decide +kernel
theorem dX12_loadFar_25 : decode cX12_loadFar 25 = .ok (.iadd, 1) := by decide +kernel
theorem dX12_loadFar_26 : decode cX12_loadFar 26 = .ok (.iaload, 1) := by decide +kernel
theorem dX12_loadFar_27 : decode cX12_loadFar 27 = .ok (.putfield 450, 3) := by decide +kernel
theorem dX12_loadFar_30 : decode cX12_loadFar 30 = .ok (.aload_n 0, 1) := by decide +kernel
theorem dX12_loadFar_31 : decode cX12_loadFar 31 = .ok (.aload_n 0, 1) := by decide +kernel
theorem dX12_loadFar_32 : decode cX12_loadFar 32 = .ok (.getfield 54, 3) := by decide +kernel
theorem dX12_loadFar_35 : decode cX12_loadFar 35 = .ok (.bipush 35, 2) := by decide +kernel
theorem dX12_loadFar_37 : decode cX12_loadFar 37 = .ok (.iaload, 1) := by decide +kernel
theorem dX12_loadFar_38 : decode cX12_loadFar 38 = .ok (.putfield 453, 3) := by decide +kernel
theorem dX12_loadFar_41 : decode cX12_loadFar 41 = .ok (.aload_n 0, 1) := by decide +kernel
theorem dX12_loadFar_42 : decode cX12_loadFar 42 = .ok (.aload_n 0, 1) := by decide +kernel
theorem dX12_loadFar_43 : decode cX12_loadFar 43 = .ok (.getfield 54, 3) := by decide +kernel
theorem dX12_loadFar_46 : decode cX12_loadFar 46 = .ok (.bipush 36, 2) := by decide +kernel
theorem dX12_loadFar_48 : decode cX12_loadFar 48 = .ok (.iaload, 1) := by decide +kernel
theorem dX12_loadFar_49 : decode cX12_loadFar 49 = .ok (.putfield 456, 3) := by decide +kernel
theorem dX12_loadFar_52 : decode cX12_loadFar 52 = .ok (.aload_n 0, 1) := by decide +kernel
theorem dX12_loadFar_53 : decode cX12_loadFar 53 = .ok (.aload_n 0, 1) := by decide +kernel
theorem dX12_loadFar_54 : decode cX12_loadFar 54 = .ok (.getfield 54, 3) := by decide +kernel
theorem dX12_loadFar_57 : decode cX12_loadFar 57 = .ok (.iload_n 1, 1) := by decide +kernel
theorem dX12_loadFar_58 : decode cX12_loadFar 58 = .ok (.iaload, 1) := by decide +kernel
theorem dX12_loadFar_59 : decode cX12_loadFar 59 = .ok (.putfield 459, 3) := by decide +kernel
theorem dX12_loadFar_62 : decode cX12_loadFar 62 = .ok (.aload_n 0, 1) := by decide +kernel
theorem dX12_loadFar_63 : decode cX12_loadFar 63 = .ok (.aload_n 0, 1) := by decide +kernel
theorem dX12_loadFar_64 : decode cX12_loadFar 64 = .ok (.invokevirtual 372, 3) := by decide +kernel
theorem dX12_loadFar_67 : decode cX12_loadFar 67 = .ok (.putfield 462, 3) := by decide +kernel
theorem dX12_loadFar_70 : decode cX12_loadFar 70 = .ok (.return_, 1) := by decide +kernel
theorem dX12_farLoaf_0 : decode cX12_farLoaf 0 = .ok (.aload_n 0, 1) := by decide +kernel
theorem dX12_farLoaf_1 : decode cX12_farLoaf 1 = .ok (.aload_n 0, 1) := by decide +kernel
theorem dX12_farLoaf_2 : decode cX12_farLoaf 2 = .ok (.getfield 459, 3) := by decide +kernel
theorem dX12_farLoaf_5 : decode cX12_farLoaf 5 = .ok (.aload_n 0, 1) := by decide +kernel
theorem dX12_farLoaf_6 : decode cX12_farLoaf 6 = .ok (.getfield 447, 3) := by decide +kernel
theorem dX12_farLoaf_9 : decode cX12_farLoaf 9 = .ok (.aload_n 0, 1) := by decide +kernel
theorem dX12_farLoaf_10 : decode cX12_farLoaf 10 = .ok (.getfield 450, 3) := by decide +kernel
theorem dX12_farLoaf_13 : decode cX12_farLoaf 13 = .ok (.aload_n 0, 1) := by decide +kernel
theorem dX12_farLoaf_14 : decode cX12_farLoaf 14 = .ok (.getfield 453, 3) := by decide +kernel
theorem dX12_farLoaf_17 : decode cX12_farLoaf 17 = .ok (.aload_n 0, 1) := by decide +kernel
theorem dX12_farLoaf_18 : decode cX12_farLoaf 18 = .ok (.getfield 462, 3) := by decide +kernel
theorem dX12_farLoaf_21 : decode cX12_farLoaf 21 = .ok (.invokevirtual 368, 3) := by decide +kernel
theorem dX12_farLoaf_24 : decode cX12_farLoaf 24 = .ok (.ireturn, 1) := by decide +kernel
theorem dX12_goBread_0 : decode cX12_goBread 0 = .ok (.aload_n 0, 1) := by decide +kernel
theorem dX12_goBread_1 : decode cX12_goBread 1 = .ok (.aload_n 0, 1) := by decide +kernel
theorem dX12_goBread_2 : decode cX12_goBread 2 = .ok (.invokevirtual 465, 3) := by decide +kernel
theorem dX12_goBread_5 : decode cX12_goBread 5 = .ok (.putfield 450, 3) := by decide +kernel
theorem dX12_goBread_8 : decode cX12_goBread 8 = .ok (.aload_n 0, 1) := by decide +kernel
theorem dX12_goBread_9 : decode cX12_goBread 9 = .ok (.getfield 447, 3) := by decide +kernel
theorem dX12_goBread_12 : decode cX12_goBread 12 = .ok (.bipush 99, 2) := by decide +kernel
theorem dX12_goBread_14 : decode cX12_goBread 14 = .ok (.if_icmp .ge 13, 3) := by decide +kernel
theorem dX12_goBread_17 : decode cX12_goBread 17 = .ok (.aload_n 0, 1) := by decide +kernel
theorem dX12_goBread_18 : decode cX12_goBread 18 = .ok (.dup, 1) := by decide +kernel
theorem dX12_goBread_19 : decode cX12_goBread 19 = .ok (.getfield 447, 3) := by decide +kernel
theorem dX12_goBread_22 : decode cX12_goBread 22 = .ok (.iconst 1, 1) := by decide +kernel
theorem dX12_goBread_23 : decode cX12_goBread 23 = .ok (.iadd, 1) := by decide +kernel
theorem dX12_goBread_24 : decode cX12_goBread 24 = .ok (.putfield 447, 3) := by decide +kernel
theorem dX12_goBread_27 : decode cX12_goBread 27 = .ok (.aload_n 0, 1) := by decide +kernel
theorem dX12_goBread_28 : decode cX12_goBread 28 = .ok (.iconst 0, 1) := by decide +kernel
theorem dX12_goBread_29 : decode cX12_goBread 29 = .ok (.putfield 459, 3) := by decide +kernel
theorem dX12_goBread_32 : decode cX12_goBread 32 = .ok (.aload_n 0, 1) := by decide +kernel
theorem dX12_goBread_33 : decode cX12_goBread 33 = .ok (.iconst 0, 1) := by decide +kernel
theorem dX12_goBread_34 : decode cX12_goBread 34 = .ok (.putfield 462, 3) := by decide +kernel
theorem dX12_goBread_37 : decode cX12_goBread 37 = .ok (.aload_n 0, 1) := by decide +kernel
theorem dX12_goBread_38 : decode cX12_goBread 38 = .ok (.aload_n 0, 1) := by decide +kernel
theorem dX12_goBread_39 : decode cX12_goBread 39 = .ok (.getfield 456, 3) := by decide +kernel
theorem dX12_goBread_42 : decode cX12_goBread 42 = .ok (.sipush 137, 3) := by decide +kernel
theorem dX12_goBread_45 : decode cX12_goBread 45 = .ok (.imul, 1) := by decide +kernel
theorem dX12_goBread_46 : decode cX12_goBread 46 = .ok (.bipush 71, 2) := by decide +kernel
theorem dX12_goBread_48 : decode cX12_goBread 48 = .ok (.iadd, 1) := by decide +kernel
theorem dX12_goBread_49 : decode cX12_goBread 49 = .ok (.sipush 1000, 3) := by decide +kernel
theorem dX12_goBread_52 : decode cX12_goBread 52 = .ok (.irem, 1) := by decide +kernel
theorem dX12_goBread_53 : decode cX12_goBread 53 = .ok (.putfield 456, 3) := by decide +kernel
theorem dX12_goBread_56 : decode cX12_goBread 56 = .ok (.aload_n 0, 1) := by decide +kernel
theorem dX12_goBread_57 : decode cX12_goBread 57 = .ok (.aload_n 0, 1) := by decide +kernel
theorem dX12_goBread_58 : decode cX12_goBread 58 = .ok (.getfield 456, 3) := by decide +kernel
theorem dX12_goBread_61 : decode cX12_goBread 61 = .ok (.bipush 10, 2) := by decide +kernel
theorem dX12_goBread_63 : decode cX12_goBread 63 = .ok (.irem, 1) := by decide +kernel
theorem dX12_goBread_64 : decode cX12_goBread 64 = .ok (.putfield 453, 3) := by decide +kernel
theorem dX12_goBread_67 : decode cX12_goBread 67 = .ok (.return_, 1) := by decide +kernel
theorem dX12_will_0 : decode cX12_will 0 = .ok (.aload_n 0, 1) := by decide +kernel
theorem dX12_will_1 : decode cX12_will 1 = .ok (.iload_n 1, 1) := by decide +kernel
theorem dX12_will_2 : decode cX12_will 2 = .ok (.invokevirtual 390, 3) := by decide +kernel
theorem dX12_will_5 : decode cX12_will 5 = .ok (.ifCond .eq 13, 3) := by decide +kernel
theorem dX12_will_8 : decode cX12_will 8 = .ok (.iload_n 2, 1) := by decide +kernel
theorem dX12_will_9 : decode cX12_will 9 = .ok (.iconst 0, 1) := by decide +kernel
theorem dX12_will_10 : decode cX12_will 10 = .ok (.bipush 60, 2) := by decide +kernel
theorem dX12_will_12 : decode cX12_will 12 = .ok (.invokestatic 360, 3) := by decide +kernel
theorem dX12_will_15 : decode cX12_will 15 = .ok (.ifCond .ne 5, 3) := by decide +kernel
theorem dX12_will_18 : decode cX12_will 18 = .ok (.iconst (-1), 1) := by decide +kernel
theorem dX12_will_19 : decode cX12_will 19 = .ok (.ireturn, 1) := by decide +kernel
theorem dX12_will_20 : decode cX12_will 20 = .ok (.aload_n 0, 1) := by decide +kernel
theorem dX12_will_21 : decode cX12_will 21 = .ok (.iload_n 1, 1) := by decide +kernel
theorem dX12_will_22 : decode cX12_will 22 = .ok (.invokevirtual 468, 3) := by decide +kernel
theorem dX12_will_25 : decode cX12_will 25 = .ok (.iconst 0, 1) := by decide +kernel
theorem dX12_will_26 : decode cX12_will 26 = .ok (.istore_n 3, 1) := by decide +kernel
theorem dX12_will_27 : decode cX12_will 27 = .ok (.iload_n 3, 1) := by decide +kernel
theorem dX12_will_28 : decode cX12_will 28 = .ok (.iload_n 2, 1) := by decide +kernel
theorem dX12_will_29 : decode cX12_will 29 = .ok (.if_icmp .ge 13, 3) := by decide +kernel
theorem dX12_will_32 : decode cX12_will 32 = .ok (.aload_n 0, 1) := by decide +kernel
theorem dX12_will_33 : decode cX12_will 33 = .ok (.invokevirtual 471, 3) := by decide +kernel
theorem dX12_will_36 : decode cX12_will 36 = .ok (.iinc 3 1, 3) := by decide +kernel
theorem dX12_will_39 : decode cX12_will 39 = .ok (.goto (-12), 3) := by decide +kernel
theorem dX12_will_42 : decode cX12_will 42 = .ok (.aload_n 0, 1) := by decide +kernel
theorem dX12_will_43 : decode cX12_will 43 = .ok (.invokevirtual 465, 3) := by decide +kernel
theorem dX12_will_46 : decode cX12_will 46 = .ok (.ireturn, 1) := by decide +kernel
theorem dX12_soonest_0 : decode cX12_soonest 0 = .ok (.aload_n 0, 1) := by decide +kernel
theorem dX12_soonest_1 : decode cX12_soonest 1 = .ok (.iload_n 1, 1) := by decide +kernel
theorem dX12_soonest_2 : decode cX12_soonest 2 = .ok (.invokevirtual 390, 3) := by decide +kernel
theorem dX12_soonest_5 : decode cX12_soonest 5 = .ok (.ifCond .ne 5, 3) := by decide +kernel
theorem dX12_soonest_8 : decode cX12_soonest 8 = .ok (.iconst (-1), 1) := by decide +kernel
theorem dX12_soonest_9 : decode cX12_soonest 9 = .ok (.ireturn, 1) := by decide +kernel
theorem dX12_soonest_10 : decode cX12_soonest 10 = .ok (.aload_n 0, 1) := by decide +kernel
theorem dX12_soonest_11 : decode cX12_soonest 11 = .ok (.iload_n 1, 1) := by decide +kernel
theorem dX12_soonest_12 : decode cX12_soonest 12 = .ok (.invokevirtual 468, 3) := by decide +kernel
theorem dX12_soonest_15 : decode cX12_soonest 15 = .ok (.iconst 0, 1) := by decide +kernel
theorem dX12_soonest_16 : decode cX12_soonest 16 = .ok (.istore_n 3, 1) := by decide +kernel
theorem dX12_soonest_17 : decode cX12_soonest 17 = .ok (.iload_n 3, 1) := by decide +kernel
theorem dX12_soonest_18 : decode cX12_soonest 18 = .ok (.bipush 60, 2) := by decide +kernel
theorem dX12_soonest_20 : decode cX12_soonest 20 = .ok (.if_icmp .gt 23, 3) := by decide +kernel
theorem dX12_soonest_23 : decode cX12_soonest 23 = .ok (.aload_n 0, 1) := by decide +kernel
theorem dX12_soonest_24 : decode cX12_soonest 24 = .ok (.invokevirtual 465, 3) := by decide +kernel
theorem dX12_soonest_27 : decode cX12_soonest 27 = .ok (.iload_n 2, 1) := by decide +kernel
theorem dX12_soonest_28 : decode cX12_soonest 28 = .ok (.if_icmp .lt 5, 3) := by decide +kernel
theorem dX12_soonest_31 : decode cX12_soonest 31 = .ok (.iload_n 3, 1) := by decide +kernel
theorem dX12_soonest_32 : decode cX12_soonest 32 = .ok (.ireturn, 1) := by decide +kernel
theorem dX12_soonest_33 : decode cX12_soonest 33 = .ok (.aload_n 0, 1) := by decide +kernel
theorem dX12_soonest_34 : decode cX12_soonest 34 = .ok (.invokevirtual 471, 3) := by decide +kernel
theorem dX12_soonest_37 : decode cX12_soonest 37 = .ok (.iinc 3 1, 3) := by decide +kernel
theorem dX12_soonest_40 : decode cX12_soonest 40 = .ok (.goto (-23), 3) := by decide +kernel
theorem dX12_soonest_43 : decode cX12_soonest 43 = .ok (.iconst (-1), 1) := by decide +kernel
theorem dX12_soonest_44 : decode cX12_soonest 44 = .ok (.ireturn, 1) := by decide +kernel
theorem dX12_common_0 : decode cX12_common 0 = .ok (.iload_n 0, 1) := by decide +kernel
theorem dX12_common_1 : decode cX12_common 1 = .ok (.istore_n 2, 1) := by decide +kernel
theorem dX12_common_2 : decode cX12_common 2 = .ok (.iload_n 1, 1) := by decide +kernel
theorem dX12_common_3 : decode cX12_common 3 = .ok (.istore_n 3, 1) := by decide +kernel
theorem dX12_common_4 : decode cX12_common 4 = .ok (.iload_n 3, 1) := by decide +kernel
theorem dX12_common_5 : decode cX12_common 5 = .ok (.ifCond .le 16, 3) := by decide +kernel
theorem dX12_common_8 : decode cX12_common 8 = .ok (.iload_n 2, 1) := by decide +kernel
theorem dX12_common_9 : decode cX12_common 9 = .ok (.iload_n 3, 1) := by decide +kernel
theorem dX12_common_10 : decode cX12_common 10 = .ok (.irem, 1) := by decide +kernel
theorem dX12_common_11 : decode cX12_common 11 = .ok (.istore 4, 2) := by decide +kernel
theorem dX12_common_13 : decode cX12_common 13 = .ok (.iload_n 3, 1) := by decide +kernel
theorem dX12_common_14 : decode cX12_common 14 = .ok (.istore_n 2, 1) := by decide +kernel
theorem dX12_common_15 : decode cX12_common 15 = .ok (.iload 4, 2) := by decide +kernel
theorem dX12_common_17 : decode cX12_common 17 = .ok (.istore_n 3, 1) := by decide +kernel
theorem dX12_common_18 : decode cX12_common 18 = .ok (.goto (-14), 3) := by decide +kernel
theorem dX12_common_21 : decode cX12_common 21 = .ok (.iload_n 2, 1) := by decide +kernel
theorem dX12_common_22 : decode cX12_common 22 = .ok (.ireturn, 1) := by decide +kernel
theorem dX12_goWays_0 : decode cX12_goWays 0 = .ok (.iconst 0, 1) := by decide +kernel
theorem dX12_goWays_1 : decode cX12_goWays 1 = .ok (.istore_n 1, 1) := by decide +kernel
theorem dX12_goWays_2 : decode cX12_goWays 2 = .ok (.iload_n 1, 1) := by decide +kernel
theorem dX12_goWays_3 : decode cX12_goWays 3 = .ok (.bipush 99, 2) := by decide +kernel
theorem dX12_goWays_5 : decode cX12_goWays 5 = .ok (.if_icmp .gt 16, 3) := by decide +kernel
theorem dX12_goWays_8 : decode cX12_goWays 8 = .ok (.aload_n 0, 1) := by decide +kernel
theorem dX12_goWays_9 : decode cX12_goWays 9 = .ok (.getfield 75, 3) := by decide +kernel
theorem dX12_goWays_12 : decode cX12_goWays 12 = .ok (.iload_n 1, 1) := by decide +kernel
theorem dX12_goWays_13 : decode cX12_goWays 13 = .ok (.iconst 0, 1) := by decide +kernel
theorem dX12_goWays_14 : decode cX12_goWays 14 = .ok (.iastore, 1) := by decide +kernel
theorem dX12_goWays_15 : decode cX12_goWays 15 = .ok (.iinc 1 1, 3) := by decide +kernel
theorem dX12_goWays_18 : decode cX12_goWays 18 = .ok (.goto (-16), 3) := by decide +kernel
theorem dX12_goWays_21 : decode cX12_goWays 21 = .ok (.iconst 0, 1) := by decide +kernel
theorem dX12_goWays_22 : decode cX12_goWays 22 = .ok (.istore_n 1, 1) := by decide +kernel
theorem dX12_goWays_23 : decode cX12_goWays 23 = .ok (.iload_n 1, 1) := by decide +kernel
theorem dX12_goWays_24 : decode cX12_goWays 24 = .ok (.bipush 99, 2) := by decide +kernel
theorem dX12_goWays_26 : decode cX12_goWays 26 = .ok (.if_icmp .gt 61, 3) := by decide +kernel
theorem dX12_goWays_29 : decode cX12_goWays 29 = .ok (.aload_n 0, 1) := by decide +kernel
theorem dX12_goWays_30 : decode cX12_goWays 30 = .ok (.getfield 72, 3) := by decide +kernel
theorem dX12_goWays_33 : decode cX12_goWays 33 = .ok (.iload_n 1, 1) := by decide +kernel
theorem dX12_goWays_34 : decode cX12_goWays 34 = .ok (.iaload, 1) := by decide +kernel
theorem dX12_goWays_35 : decode cX12_goWays 35 = .ok (.ifCond .ne 6, 3) := by decide +kernel
theorem dX12_goWays_38 : decode cX12_goWays 38 = .ok (.goto 43, 3) := by decide +kernel
theorem dX12_goWays_41 : decode cX12_goWays 41 = .ok (.iconst 0, 1) := by decide +kernel
theorem dX12_goWays_42 : decode cX12_goWays 42 = .ok (.istore_n 2, 1) := by decide +kernel
theorem dX12_goWays_43 : decode cX12_goWays 43 = .ok (.iload_n 2, 1) := by decide +kernel
theorem dX12_goWays_44 : decode cX12_goWays 44 = .ok (.bipush 9, 2) := by decide +kernel
theorem dX12_goWays_46 : decode cX12_goWays 46 = .ok (.if_icmp .gt 35, 3) := by decide +kernel
theorem dX12_goWays_49 : decode cX12_goWays 49 = .ok (.aload_n 0, 1) := by decide +kernel
theorem dX12_goWays_50 : decode cX12_goWays 50 = .ok (.getfield 75, 3) := by decide +kernel
theorem dX12_goWays_53 : decode cX12_goWays 53 = .ok (.aload_n 0, 1) := by decide +kernel
theorem dX12_goWays_54 : decode cX12_goWays 54 = .ok (.iconst 0, 1) := by decide +kernel
theorem dX12_goWays_55 : decode cX12_goWays 55 = .ok (.aload_n 0, 1) := by decide +kernel
theorem dX12_goWays_56 : decode cX12_goWays 56 = .ok (.getfield 447, 3) := by decide +kernel
theorem dX12_goWays_59 : decode cX12_goWays 59 = .ok (.iload_n 1, 1) := by decide +kernel
theorem dX12_goWays_60 : decode cX12_goWays 60 = .ok (.iload_n 2, 1) := by decide +kernel
theorem dX12_goWays_61 : decode cX12_goWays 61 = .ok (.iconst 0, 1) := by decide +kernel
theorem dX12_goWays_62 : decode cX12_goWays 62 = .ok (.invokevirtual 368, 3) := by decide +kernel
theorem dX12_goWays_65 : decode cX12_goWays 65 = .ok (.dup2, 1) := by decide +kernel
theorem dX12_goWays_66 : decode cX12_goWays 66 = .ok (.iaload, 1) := by decide +kernel
theorem dX12_goWays_67 : decode cX12_goWays 67 = .ok (.aload_n 0, 1) := by decide +kernel
theorem dX12_goWays_68 : decode cX12_goWays 68 = .ok (.getfield 72, 3) := by decide +kernel
theorem dX12_goWays_71 : decode cX12_goWays 71 = .ok (.iload_n 1, 1) := by decide +kernel
theorem dX12_goWays_72 : decode cX12_goWays 72 = .ok (.iaload, 1) := by decide +kernel
theorem dX12_goWays_73 : decode cX12_goWays 73 = .ok (.iadd, 1) := by decide +kernel
theorem dX12_goWays_74 : decode cX12_goWays 74 = .ok (.iastore, 1) := by decide +kernel
theorem dX12_goWays_75 : decode cX12_goWays 75 = .ok (.iinc 2 1, 3) := by decide +kernel
theorem dX12_goWays_78 : decode cX12_goWays 78 = .ok (.goto (-35), 3) := by decide +kernel
theorem dX12_goWays_81 : decode cX12_goWays 81 = .ok (.iinc 1 1, 3) := by decide +kernel
theorem dX12_goWays_84 : decode cX12_goWays 84 = .ok (.goto (-61), 3) := by decide +kernel
theorem dX12_goWays_87 : decode cX12_goWays 87 = .ok (.iconst 0, 1) := by decide +kernel
theorem dX12_goWays_88 : decode cX12_goWays 88 = .ok (.istore_n 1, 1) := by decide +kernel
theorem dX12_goWays_89 : decode cX12_goWays 89 = .ok (.iload_n 1, 1) := by decide +kernel
theorem dX12_goWays_90 : decode cX12_goWays 90 = .ok (.bipush 99, 2) := by decide +kernel
theorem dX12_goWays_92 : decode cX12_goWays 92 = .ok (.if_icmp .gt 21, 3) := by decide +kernel
theorem dX12_goWays_95 : decode cX12_goWays 95 = .ok (.aload_n 0, 1) := by decide +kernel
theorem dX12_goWays_96 : decode cX12_goWays 96 = .ok (.getfield 72, 3) := by decide +kernel
theorem dX12_goWays_99 : decode cX12_goWays 99 = .ok (.iload_n 1, 1) := by decide +kernel
theorem dX12_goWays_100 : decode cX12_goWays 100 = .ok (.aload_n 0, 1) := by decide +kernel
theorem dX12_goWays_101 : decode cX12_goWays 101 = .ok (.getfield 75, 3) := by decide +kernel
theorem dX12_goWays_104 : decode cX12_goWays 104 = .ok (.iload_n 1, 1) := by decide +kernel
theorem dX12_goWays_105 : decode cX12_goWays 105 = .ok (.iaload, 1) := by decide +kernel
theorem dX12_goWays_106 : decode cX12_goWays 106 = .ok (.iastore, 1) := by decide +kernel
theorem dX12_goWays_107 : decode cX12_goWays 107 = .ok (.iinc 1 1, 3) := by decide +kernel
theorem dX12_goWays_110 : decode cX12_goWays 110 = .ok (.goto (-21), 3) := by decide +kernel
theorem dX12_goWays_113 : decode cX12_goWays 113 = .ok (.aload_n 0, 1) := by decide +kernel
theorem dX12_goWays_114 : decode cX12_goWays 114 = .ok (.getfield 447, 3) := by decide +kernel
theorem dX12_goWays_117 : decode cX12_goWays 117 = .ok (.bipush 99, 2) := by decide +kernel
theorem dX12_goWays_119 : decode cX12_goWays 119 = .ok (.if_icmp .ge 13, 3) := by decide +kernel
theorem dX12_goWays_122 : decode cX12_goWays 122 = .ok (.aload_n 0, 1) := by decide +kernel
theorem dX12_goWays_123 : decode cX12_goWays 123 = .ok (.dup, 1) := by decide +kernel
theorem dX12_goWays_124 : decode cX12_goWays 124 = .ok (.getfield 447, 3) := by decide +kernel
theorem dX12_goWays_127 : decode cX12_goWays 127 = .ok (.iconst 1, 1) := by decide +kernel
theorem dX12_goWays_128 : decode cX12_goWays 128 = .ok (.iadd, 1) := by decide +kernel
theorem dX12_goWays_129 : decode cX12_goWays 129 = .ok (.putfield 447, 3) := by decide +kernel
theorem dX12_goWays_132 : decode cX12_goWays 132 = .ok (.return_, 1) := by decide +kernel
theorem dX12_odds_0 : decode cX12_odds 0 = .ok (.aload_n 0, 1) := by decide +kernel
theorem dX12_odds_1 : decode cX12_odds 1 = .ok (.iload_n 1, 1) := by decide +kernel
theorem dX12_odds_2 : decode cX12_odds 2 = .ok (.invokevirtual 390, 3) := by decide +kernel
theorem dX12_odds_5 : decode cX12_odds 5 = .ok (.ifCond .eq 23, 3) := by decide +kernel
theorem dX12_odds_8 : decode cX12_odds 8 = .ok (.iload_n 2, 1) := by decide +kernel
theorem dX12_odds_9 : decode cX12_odds 9 = .ok (.iconst 0, 1) := by decide +kernel
theorem dX12_odds_10 : decode cX12_odds 10 = .ok (.bipush 6, 2) := by decide +kernel
theorem dX12_odds_12 : decode cX12_odds 12 = .ok (.invokestatic 360, 3) := by decide +kernel
theorem dX12_odds_15 : decode cX12_odds 15 = .ok (.ifCond .eq 13, 3) := by decide +kernel
theorem dX12_odds_18 : decode cX12_odds 18 = .ok (.iload 4, 2) := by decide +kernel
theorem dX12_odds_20 : decode cX12_odds 20 = .ok (.iconst 0, 1) := by decide +kernel
theorem dX12_odds_21 : decode cX12_odds 21 = .ok (.iconst 1, 1) := by decide +kernel
theorem dX12_odds_22 : decode cX12_odds 22 = .ok (.invokestatic 360, 3) := by decide +kernel
theorem dX12_odds_25 : decode cX12_odds 25 = .ok (.ifCond .ne 5, 3) := by decide +kernel
theorem dX12_odds_28 : decode cX12_odds 28 = .ok (.iconst (-1), 1) := by decide +kernel
theorem dX12_odds_29 : decode cX12_odds 29 = .ok (.ireturn, 1) := by decide +kernel
theorem dX12_odds_30 : decode cX12_odds 30 = .ok (.aload_n 0, 1) := by decide +kernel
theorem dX12_odds_31 : decode cX12_odds 31 = .ok (.iload_n 1, 1) := by decide +kernel
theorem dX12_odds_32 : decode cX12_odds 32 = .ok (.invokevirtual 468, 3) := by decide +kernel
theorem dX12_odds_35 : decode cX12_odds 35 = .ok (.aload_n 0, 1) := by decide +kernel
theorem dX12_odds_36 : decode cX12_odds 36 = .ok (.invokevirtual 465, 3) := by decide +kernel
theorem dX12_odds_39 : decode cX12_odds 39 = .ok (.iload_n 3, 1) := by decide +kernel
theorem dX12_odds_40 : decode cX12_odds 40 = .ok (.if_icmp .lt 7, 3) := by decide +kernel
theorem dX12_odds_43 : decode cX12_odds 43 = .ok (.iconst 1, 1) := by decide +kernel
theorem dX12_odds_44 : decode cX12_odds 44 = .ok (.goto 4, 3) := by decide +kernel
theorem dX12_odds_47 : decode cX12_odds 47 = .ok (.iconst 0, 1) := by decide +kernel
theorem dX12_odds_48 : decode cX12_odds 48 = .ok (.invokestatic 278, 3) := by decide +kernel
theorem dX12_odds_51 : decode cX12_odds 51 = .ok (.istore 5, 2) := by decide +kernel
theorem dX12_odds_53 : decode cX12_odds 53 = .ok (.iconst 1, 1) := by decide +kernel
theorem dX12_odds_54 : decode cX12_odds 54 = .ok (.istore 6, 2) := by decide +kernel
theorem dX12_odds_56 : decode cX12_odds 56 = .ok (.iload_n 2, 1) := by decide +kernel
theorem dX12_odds_57 : decode cX12_odds 57 = .ok (.ifCond .le 148, 3) := by decide +kernel
theorem dX12_odds_60 : decode cX12_odds 60 = .ok (.iconst 0, 1) := by decide +kernel
theorem dX12_odds_61 : decode cX12_odds 61 = .ok (.istore 7, 2) := by decide +kernel
theorem dX12_odds_63 : decode cX12_odds 63 = .ok (.iload 7, 2) := by decide +kernel
theorem dX12_odds_65 : decode cX12_odds 65 = .ok (.bipush 99, 2) := by decide +kernel
theorem dX12_odds_67 : decode cX12_odds 67 = .ok (.if_icmp .gt 33, 3) := by decide +kernel
theorem dX12_odds_70 : decode cX12_odds 70 = .ok (.aload_n 0, 1) := by decide +kernel
theorem dX12_odds_71 : decode cX12_odds 71 = .ok (.getfield 72, 3) := by decide +kernel
theorem dX12_odds_74 : decode cX12_odds 74 = .ok (.iload 7, 2) := by decide +kernel
theorem dX12_odds_76 : decode cX12_odds 76 = .ok (.iload 7, 2) := by decide +kernel
theorem dX12_odds_78 : decode cX12_odds 78 = .ok (.aload_n 0, 1) := by decide +kernel
theorem dX12_odds_79 : decode cX12_odds 79 = .ok (.invokevirtual 465, 3) := by decide +kernel
theorem dX12_odds_82 : decode cX12_odds 82 = .ok (.if_icmp .ne 7, 3) := by decide +kernel
theorem dX12_odds_85 : decode cX12_odds 85 = .ok (.iconst 1, 1) := by decide +kernel
theorem dX12_odds_86 : decode cX12_odds 86 = .ok (.goto 4, 3) := by decide +kernel
theorem dX12_odds_89 : decode cX12_odds 89 = .ok (.iconst 0, 1) := by decide +kernel
theorem dX12_odds_90 : decode cX12_odds 90 = .ok (.invokestatic 278, 3) := by decide +kernel
theorem dX12_odds_93 : decode cX12_odds 93 = .ok (.iastore, 1) := by decide +kernel
theorem dX12_odds_94 : decode cX12_odds 94 = .ok (.iinc 7 1, 3) := by decide +kernel
theorem dX12_odds_97 : decode cX12_odds 97 = .ok (.goto (-34), 3) := by decide +kernel
theorem dX12_odds_100 : decode cX12_odds 100 = .ok (.aload_n 0, 1) := by decide +kernel
theorem dX12_odds_101 : decode cX12_odds 101 = .ok (.getfield 447, 3) := by decide +kernel
theorem dX12_odds_104 : decode cX12_odds 104 = .ok (.bipush 99, 2) := by decide +kernel
theorem dX12_odds_106 : decode cX12_odds 106 = .ok (.if_icmp .ge 13, 3) := by decide +kernel
theorem dX12_odds_109 : decode cX12_odds 109 = .ok (.aload_n 0, 1) := by decide +kernel
theorem dX12_odds_110 : decode cX12_odds 110 = .ok (.dup, 1) := by decide +kernel
theorem dX12_odds_111 : decode cX12_odds 111 = .ok (.getfield 447, 3) := by decide +kernel
theorem dX12_odds_114 : decode cX12_odds 114 = .ok (.iconst 1, 1) := by decide +kernel
theorem dX12_odds_115 : decode cX12_odds 115 = .ok (.iadd, 1) := by decide +kernel
theorem dX12_odds_116 : decode cX12_odds 116 = .ok (.putfield 447, 3) := by decide +kernel
theorem dX12_odds_119 : decode cX12_odds 119 = .ok (.iconst 1, 1) := by decide +kernel
theorem dX12_odds_120 : decode cX12_odds 120 = .ok (.istore 7, 2) := by decide +kernel
theorem dX12_odds_122 : decode cX12_odds 122 = .ok (.iload 7, 2) := by decide +kernel
theorem dX12_odds_124 : decode cX12_odds 124 = .ok (.iload_n 2, 1) := by decide +kernel
theorem dX12_odds_125 : decode cX12_odds 125 = .ok (.if_icmp .ge 13, 3) := by decide +kernel
theorem dX12_odds_128 : decode cX12_odds 128 = .ok (.aload_n 0, 1) := by decide +kernel
theorem dX12_odds_129 : decode cX12_odds 129 = .ok (.invokevirtual 474, 3) := by decide +kernel
theorem dX12_odds_132 : decode cX12_odds 132 = .ok (.iinc 7 1, 3) := by decide +kernel
theorem dX12_odds_135 : decode cX12_odds 135 = .ok (.goto (-13), 3) := by decide +kernel
theorem dX12_odds_138 : decode cX12_odds 138 = .ok (.aload_n 0, 1) := by decide +kernel
theorem dX12_odds_139 : decode cX12_odds 139 = .ok (.invokevirtual 474, 3) := by decide +kernel
theorem dX12_odds_142 : decode cX12_odds 142 = .ok (.iconst 0, 1) := by decide +kernel
theorem dX12_odds_143 : decode cX12_odds 143 = .ok (.istore 5, 2) := by decide +kernel
theorem dX12_odds_145 : decode cX12_odds 145 = .ok (.iconst 0, 1) := by decide +kernel
theorem dX12_odds_146 : decode cX12_odds 146 = .ok (.istore 7, 2) := by decide +kernel
theorem dX12_odds_148 : decode cX12_odds 148 = .ok (.iload 7, 2) := by decide +kernel
theorem dX12_odds_150 : decode cX12_odds 150 = .ok (.bipush 99, 2) := by decide +kernel
theorem dX12_odds_152 : decode cX12_odds 152 = .ok (.if_icmp .gt 31, 3) := by decide +kernel
theorem dX12_odds_155 : decode cX12_odds 155 = .ok (.iload 5, 2) := by decide +kernel
theorem dX12_odds_157 : decode cX12_odds 157 = .ok (.iload 7, 2) := by decide +kernel
theorem dX12_odds_159 : decode cX12_odds 159 = .ok (.iload_n 3, 1) := by decide +kernel
theorem dX12_odds_160 : decode cX12_odds 160 = .ok (.if_icmp .lt 13, 3) := by decide +kernel
theorem dX12_odds_163 : decode cX12_odds 163 = .ok (.aload_n 0, 1) := by decide +kernel
theorem dX12_odds_164 : decode cX12_odds 164 = .ok (.getfield 72, 3) := by decide +kernel
theorem dX12_odds_167 : decode cX12_odds 167 = .ok (.iload 7, 2) := by decide +kernel
theorem dX12_odds_169 : decode cX12_odds 169 = .ok (.iaload, 1) := by decide +kernel
theorem dX12_odds_170 : decode cX12_odds 170 = .ok (.goto 4, 3) := by decide +kernel
theorem dX12_odds_173 : decode cX12_odds 173 = .ok (.iconst 0, 1) := by decide +kernel
theorem dX12_odds_174 : decode cX12_odds 174 = .ok (.iadd, 1) := by decide +kernel
theorem dX12_odds_175 : decode cX12_odds 175 = .ok (.istore 5, 2) := by decide +kernel
theorem dX12_odds_177 : decode cX12_odds 177 = .ok (.iinc 7 1, 3) := by decide +kernel
theorem dX12_odds_180 : decode cX12_odds 180 = .ok (.goto (-32), 3) := by decide +kernel
theorem dX12_odds_183 : decode cX12_odds 183 = .ok (.iconst 0, 1) := by decide +kernel
theorem dX12_odds_184 : decode cX12_odds 184 = .ok (.istore 7, 2) := by decide +kernel
theorem dX12_odds_186 : decode cX12_odds 186 = .ok (.iload 7, 2) := by decide +kernel
theorem dX12_odds_188 : decode cX12_odds 188 = .ok (.iload_n 2, 1) := by decide +kernel
theorem dX12_odds_189 : decode cX12_odds 189 = .ok (.if_icmp .ge 16, 3) := by decide +kernel
theorem dX12_odds_192 : decode cX12_odds 192 = .ok (.iload 6, 2) := by decide +kernel
theorem dX12_odds_194 : decode cX12_odds 194 = .ok (.bipush 10, 2) := by decide +kernel
theorem dX12_odds_196 : decode cX12_odds 196 = .ok (.imul, 1) := by decide +kernel
theorem dX12_odds_197 : decode cX12_odds 197 = .ok (.istore 6, 2) := by decide +kernel
theorem dX12_odds_199 : decode cX12_odds 199 = .ok (.iinc 7 1, 3) := by decide +kernel
theorem dX12_odds_202 : decode cX12_odds 202 = .ok (.goto (-16), 3) := by decide +kernel
theorem dX12_odds_205 : decode cX12_odds 205 = .ok (.iload 6, 2) := by decide +kernel
theorem dX12_odds_207 : decode cX12_odds 207 = .ok (.iload 5, 2) := by decide +kernel
theorem dX12_odds_209 : decode cX12_odds 209 = .ok (.invokestatic 477, 3) := by decide +kernel
theorem dX12_odds_212 : decode cX12_odds 212 = .ok (.istore 7, 2) := by decide +kernel
theorem dX12_odds_214 : decode cX12_odds 214 = .ok (.iload 4, 2) := by decide +kernel
theorem dX12_odds_216 : decode cX12_odds 216 = .ok (.ifCond .ne 11, 3) := by decide +kernel
theorem dX12_odds_219 : decode cX12_odds 219 = .ok (.iload 5, 2) := by decide +kernel
theorem dX12_odds_221 : decode cX12_odds 221 = .ok (.iload 7, 2) := by decide +kernel
theorem dX12_odds_223 : decode cX12_odds 223 = .ok (.idiv, 1) := by decide +kernel
theorem dX12_odds_224 : decode cX12_odds 224 = .ok (.goto 8, 3) := by decide +kernel
theorem dX12_odds_227 : decode cX12_odds 227 = .ok (.iload 6, 2) := by decide +kernel
theorem dX12_odds_229 : decode cX12_odds 229 = .ok (.iload 7, 2) := by decide +kernel
theorem dX12_odds_231 : decode cX12_odds 231 = .ok (.idiv, 1) := by decide +kernel
theorem dX12_odds_232 : decode cX12_odds 232 = .ok (.ireturn, 1) := by decide +kernel
theorem dX12_lies_0 : decode cX12_lies 0 = .ok (.iload_n 1, 1) := by decide +kernel
theorem dX12_lies_1 : decode cX12_lies 1 = .ok (.iconst 0, 1) := by decide +kernel
theorem dX12_lies_2 : decode cX12_lies 2 = .ok (.aload_n 0, 1) := by decide +kernel
theorem dX12_lies_3 : decode cX12_lies 3 = .ok (.getfield 357, 3) := by decide +kernel
theorem dX12_lies_6 : decode cX12_lies 6 = .ok (.iconst 1, 1) := by decide +kernel
theorem dX12_lies_7 : decode cX12_lies 7 = .ok (.isub, 1) := by decide +kernel
theorem dX12_lies_8 : decode cX12_lies 8 = .ok (.invokestatic 360, 3) := by decide +kernel
theorem dX12_lies_11 : decode cX12_lies 11 = .ok (.ifCond .eq 12, 3) := by decide +kernel
theorem dX12_lies_14 : decode cX12_lies 14 = .ok (.aload_n 0, 1) := by decide +kernel
theorem dX12_lies_15 : decode cX12_lies 15 = .ok (.getfield 69, 3) := by decide +kernel
theorem dX12_lies_18 : decode cX12_lies 18 = .ok (.iload_n 1, 1) := by decide +kernel
theorem dX12_lies_19 : decode cX12_lies 19 = .ok (.iaload, 1) := by decide +kernel
theorem dX12_lies_20 : decode cX12_lies 20 = .ok (.goto 5, 3) := by decide +kernel
theorem dX12_lies_23 : decode cX12_lies 23 = .ok (.bipush (-2), 2) := by decide +kernel
theorem dX12_lies_25 : decode cX12_lies 25 = .ok (.ireturn, 1) := by decide +kernel
theorem dX12_report_0 : decode cX12_report 0 = .ok (.iload_n 1, 1) := by decide +kernel
theorem dX12_report_1 : decode cX12_report 1 = .ok (.iconst 0, 1) := by decide +kernel
theorem dX12_report_2 : decode cX12_report 2 = .ok (.bipush 99, 2) := by decide +kernel
theorem dX12_report_4 : decode cX12_report 4 = .ok (.invokestatic 360, 3) := by decide +kernel
theorem dX12_report_7 : decode cX12_report 7 = .ok (.ifCond .eq 43, 3) := by decide +kernel
theorem dX12_report_10 : decode cX12_report 10 = .ok (.iload_n 2, 1) := by decide +kernel
theorem dX12_report_11 : decode cX12_report 11 = .ok (.iconst 0, 1) := by decide +kernel
theorem dX12_report_12 : decode cX12_report 12 = .ok (.bipush 99, 2) := by decide +kernel
theorem dX12_report_14 : decode cX12_report 14 = .ok (.invokestatic 360, 3) := by decide +kernel
theorem dX12_report_17 : decode cX12_report 17 = .ok (.ifCond .eq 33, 3) := by decide +kernel
theorem dX12_report_20 : decode cX12_report 20 = .ok (.iload_n 3, 1) := by decide +kernel
theorem dX12_report_21 : decode cX12_report 21 = .ok (.iconst 0, 1) := by decide +kernel
theorem dX12_report_22 : decode cX12_report 22 = .ok (.bipush 9, 2) := by decide +kernel
theorem dX12_report_24 : decode cX12_report 24 = .ok (.invokestatic 360, 3) := by decide +kernel
theorem dX12_report_27 : decode cX12_report 27 = .ok (.ifCond .eq 23, 3) := by decide +kernel
theorem dX12_report_30 : decode cX12_report 30 = .ok (.iload 4, 2) := by decide +kernel
theorem dX12_report_32 : decode cX12_report 32 = .ok (.iconst 0, 1) := by decide +kernel
theorem dX12_report_33 : decode cX12_report 33 = .ok (.bipush 99, 2) := by decide +kernel
theorem dX12_report_35 : decode cX12_report 35 = .ok (.invokestatic 360, 3) := by decide +kernel
theorem dX12_report_38 : decode cX12_report 38 = .ok (.ifCond .eq 12, 3) := by decide +kernel
theorem dX12_report_41 : decode cX12_report 41 = .ok (.aload_n 0, 1) := by decide +kernel
theorem dX12_report_42 : decode cX12_report 42 = .ok (.getfield 354, 3) := by decide +kernel
theorem dX12_report_45 : decode cX12_report 45 = .ok (.bipush 30, 2) := by decide +kernel
theorem dX12_report_47 : decode cX12_report 47 = .ok (.if_icmp .ne 5, 3) := by decide +kernel
theorem dX12_report_50 : decode cX12_report 50 = .ok (.iconst (-1), 1) := by decide +kernel
theorem dX12_report_51 : decode cX12_report 51 = .ok (.ireturn, 1) := by decide +kernel
theorem dX12_report_52 : decode cX12_report 52 = .ok (.aload_n 0, 1) := by decide +kernel
theorem dX12_report_53 : decode cX12_report 53 = .ok (.getfield 78, 3) := by decide +kernel
theorem dX12_report_56 : decode cX12_report 56 = .ok (.aload_n 0, 1) := by decide +kernel
theorem dX12_report_57 : decode cX12_report 57 = .ok (.getfield 354, 3) := by decide +kernel
theorem dX12_report_60 : decode cX12_report 60 = .ok (.iload_n 1, 1) := by decide +kernel
theorem dX12_report_61 : decode cX12_report 61 = .ok (.iastore, 1) := by decide +kernel
theorem dX12_report_62 : decode cX12_report 62 = .ok (.aload_n 0, 1) := by decide +kernel
theorem dX12_report_63 : decode cX12_report 63 = .ok (.getfield 81, 3) := by decide +kernel
theorem dX12_report_66 : decode cX12_report 66 = .ok (.aload_n 0, 1) := by decide +kernel
theorem dX12_report_67 : decode cX12_report 67 = .ok (.getfield 354, 3) := by decide +kernel
theorem dX12_report_70 : decode cX12_report 70 = .ok (.iload_n 2, 1) := by decide +kernel
theorem dX12_report_71 : decode cX12_report 71 = .ok (.iastore, 1) := by decide +kernel
theorem dX12_report_72 : decode cX12_report 72 = .ok (.aload_n 0, 1) := by decide +kernel
theorem dX12_report_73 : decode cX12_report 73 = .ok (.getfield 84, 3) := by decide +kernel
theorem dX12_report_76 : decode cX12_report 76 = .ok (.aload_n 0, 1) := by decide +kernel
theorem dX12_report_77 : decode cX12_report 77 = .ok (.getfield 354, 3) := by decide +kernel
theorem dX12_report_80 : decode cX12_report 80 = .ok (.iload_n 3, 1) := by decide +kernel
theorem dX12_report_81 : decode cX12_report 81 = .ok (.iastore, 1) := by decide +kernel
theorem dX12_report_82 : decode cX12_report 82 = .ok (.aload_n 0, 1) := by decide +kernel
theorem dX12_report_83 : decode cX12_report 83 = .ok (.getfield 87, 3) := by decide +kernel
theorem dX12_report_86 : decode cX12_report 86 = .ok (.aload_n 0, 1) := by decide +kernel
theorem dX12_report_87 : decode cX12_report 87 = .ok (.getfield 354, 3) := by decide +kernel
theorem dX12_report_90 : decode cX12_report 90 = .ok (.iload 4, 2) := by decide +kernel
theorem dX12_report_92 : decode cX12_report 92 = .ok (.iastore, 1) := by decide +kernel
theorem dX12_report_93 : decode cX12_report 93 = .ok (.aload_n 0, 1) := by decide +kernel
theorem dX12_report_94 : decode cX12_report 94 = .ok (.getfield 90, 3) := by decide +kernel
theorem dX12_report_97 : decode cX12_report 97 = .ok (.aload_n 0, 1) := by decide +kernel
theorem dX12_report_98 : decode cX12_report 98 = .ok (.getfield 354, 3) := by decide +kernel
theorem dX12_report_101 : decode cX12_report 101 = .ok (.aload_n 0, 1) := by decide +kernel
theorem dX12_report_102 : decode cX12_report 102 = .ok (.getfield 480, 3) := by decide +kernel
theorem dX12_report_105 : decode cX12_report 105 = .ok (.iastore, 1) := by decide +kernel
theorem dX12_report_106 : decode cX12_report 106 = .ok (.aload_n 0, 1) := by decide +kernel
theorem dX12_report_107 : decode cX12_report 107 = .ok (.getfield 93, 3) := by decide +kernel
theorem dX12_report_110 : decode cX12_report 110 = .ok (.aload_n 0, 1) := by decide +kernel
theorem dX12_report_111 : decode cX12_report 111 = .ok (.getfield 354, 3) := by decide +kernel
theorem dX12_report_114 : decode cX12_report 114 = .ok (.iconst (-1), 1) := by decide +kernel
theorem dX12_report_115 : decode cX12_report 115 = .ok (.iastore, 1) := by decide +kernel
theorem dX12_report_116 : decode cX12_report 116 = .ok (.aload_n 0, 1) := by decide +kernel
theorem dX12_report_117 : decode cX12_report 117 = .ok (.dup, 1) := by decide +kernel
theorem dX12_report_118 : decode cX12_report 118 = .ok (.getfield 354, 3) := by decide +kernel
theorem dX12_report_121 : decode cX12_report 121 = .ok (.iconst 1, 1) := by decide +kernel
theorem dX12_report_122 : decode cX12_report 122 = .ok (.iadd, 1) := by decide +kernel
theorem dX12_report_123 : decode cX12_report 123 = .ok (.putfield 354, 3) := by decide +kernel
theorem dX12_report_126 : decode cX12_report 126 = .ok (.aload_n 0, 1) := by decide +kernel
theorem dX12_report_127 : decode cX12_report 127 = .ok (.getfield 354, 3) := by decide +kernel
theorem dX12_report_130 : decode cX12_report 130 = .ok (.iconst 1, 1) := by decide +kernel
theorem dX12_report_131 : decode cX12_report 131 = .ok (.isub, 1) := by decide +kernel
theorem dX12_report_132 : decode cX12_report 132 = .ok (.ireturn, 1) := by decide +kernel
theorem dX12_untell_0 : decode cX12_untell 0 = .ok (.iload_n 1, 1) := by decide +kernel
theorem dX12_untell_1 : decode cX12_untell 1 = .ok (.iconst 0, 1) := by decide +kernel
theorem dX12_untell_2 : decode cX12_untell 2 = .ok (.aload_n 0, 1) := by decide +kernel
theorem dX12_untell_3 : decode cX12_untell 3 = .ok (.getfield 354, 3) := by decide +kernel
theorem dX12_untell_6 : decode cX12_untell 6 = .ok (.iconst 1, 1) := by decide +kernel
theorem dX12_untell_7 : decode cX12_untell 7 = .ok (.isub, 1) := by decide +kernel
theorem dX12_untell_8 : decode cX12_untell 8 = .ok (.invokestatic 360, 3) := by decide +kernel
theorem dX12_untell_11 : decode cX12_untell 11 = .ok (.ifCond .eq 12, 3) := by decide +kernel
theorem dX12_untell_14 : decode cX12_untell 14 = .ok (.aload_n 0, 1) := by decide +kernel
theorem dX12_untell_15 : decode cX12_untell 15 = .ok (.getfield 93, 3) := by decide +kernel
theorem dX12_untell_18 : decode cX12_untell 18 = .ok (.iload_n 1, 1) := by decide +kernel
theorem dX12_untell_19 : decode cX12_untell 19 = .ok (.iaload, 1) := by decide +kernel
theorem dX12_untell_20 : decode cX12_untell 20 = .ok (.ifCond .lt 5, 3) := by decide +kernel
theorem dX12_untell_23 : decode cX12_untell 23 = .ok (.iconst 0, 1) := by decide +kernel
theorem dX12_untell_24 : decode cX12_untell 24 = .ok (.ireturn, 1) := by decide +kernel
theorem dX12_untell_25 : decode cX12_untell 25 = .ok (.aload_n 0, 1) := by decide +kernel
theorem dX12_untell_26 : decode cX12_untell 26 = .ok (.getfield 93, 3) := by decide +kernel
theorem dX12_untell_29 : decode cX12_untell 29 = .ok (.iload_n 1, 1) := by decide +kernel
theorem dX12_untell_30 : decode cX12_untell 30 = .ok (.aload_n 0, 1) := by decide +kernel
theorem dX12_untell_31 : decode cX12_untell 31 = .ok (.getfield 480, 3) := by decide +kernel
theorem dX12_untell_34 : decode cX12_untell 34 = .ok (.iastore, 1) := by decide +kernel
theorem dX12_untell_35 : decode cX12_untell 35 = .ok (.iconst 1, 1) := by decide +kernel
theorem dX12_untell_36 : decode cX12_untell 36 = .ok (.ireturn, 1) := by decide +kernel
theorem dX12_later_0 : decode cX12_later 0 = .ok (.iload_n 1, 1) := by decide +kernel
theorem dX12_later_1 : decode cX12_later 1 = .ok (.ifCond .lt 22, 3) := by decide +kernel
theorem dX12_later_4 : decode cX12_later 4 = .ok (.iload_n 1, 1) := by decide +kernel
theorem dX12_later_5 : decode cX12_later 5 = .ok (.sipush 1000, 3) := by decide +kernel
theorem dX12_later_8 : decode cX12_later 8 = .ok (.if_icmp .gt 15, 3) := by decide +kernel
theorem dX12_later_11 : decode cX12_later 11 = .ok (.aload_n 0, 1) := by decide +kernel
theorem dX12_later_12 : decode cX12_later 12 = .ok (.getfield 480, 3) := by decide +kernel
theorem dX12_later_15 : decode cX12_later 15 = .ok (.iload_n 1, 1) := by decide +kernel
theorem dX12_later_16 : decode cX12_later 16 = .ok (.iadd, 1) := by decide +kernel
theorem dX12_later_17 : decode cX12_later 17 = .ok (.ldc_w 483, 3) := by decide +kernel
theorem dX12_later_20 : decode cX12_later 20 = .ok (.if_icmp .le 5, 3) := by decide +kernel
theorem dX12_later_23 : decode cX12_later 23 = .ok (.iconst (-1), 1) := by decide +kernel
theorem dX12_later_24 : decode cX12_later 24 = .ok (.ireturn, 1) := by decide +kernel
theorem dX12_later_25 : decode cX12_later 25 = .ok (.aload_n 0, 1) := by decide +kernel
theorem dX12_later_26 : decode cX12_later 26 = .ok (.dup, 1) := by decide +kernel
theorem dX12_later_27 : decode cX12_later 27 = .ok (.getfield 480, 3) := by decide +kernel
theorem dX12_later_30 : decode cX12_later 30 = .ok (.iload_n 1, 1) := by decide +kernel
theorem dX12_later_31 : decode cX12_later 31 = .ok (.iadd, 1) := by decide +kernel
theorem dX12_later_32 : decode cX12_later 32 = .ok (.putfield 480, 3) := by decide +kernel
theorem dX12_later_35 : decode cX12_later 35 = .ok (.aload_n 0, 1) := by decide +kernel
theorem dX12_later_36 : decode cX12_later 36 = .ok (.getfield 480, 3) := by decide +kernel
theorem dX12_later_39 : decode cX12_later 39 = .ok (.ireturn, 1) := by decide +kernel
theorem dX12_fits_0 : decode cX12_fits 0 = .ok (.iconst 1, 1) := by decide +kernel
theorem dX12_fits_1 : decode cX12_fits 1 = .ok (.istore_n 3, 1) := by decide +kernel
theorem dX12_fits_2 : decode cX12_fits 2 = .ok (.iconst 0, 1) := by decide +kernel
theorem dX12_fits_3 : decode cX12_fits 3 = .ok (.istore 4, 2) := by decide +kernel
theorem dX12_fits_5 : decode cX12_fits 5 = .ok (.iload 4, 2) := by decide +kernel
theorem dX12_fits_7 : decode cX12_fits 7 = .ok (.aload_n 0, 1) := by decide +kernel
theorem dX12_fits_8 : decode cX12_fits 8 = .ok (.getfield 354, 3) := by decide +kernel
theorem dX12_fits_11 : decode cX12_fits 11 = .ok (.if_icmp .ge 88, 3) := by decide +kernel
theorem dX12_fits_14 : decode cX12_fits 14 = .ok (.iload_n 3, 1) := by decide +kernel
theorem dX12_fits_15 : decode cX12_fits 15 = .ok (.ifCond .eq 84, 3) := by decide +kernel
theorem dX12_fits_18 : decode cX12_fits 18 = .ok (.aload_n 0, 1) := by decide +kernel
theorem dX12_fits_19 : decode cX12_fits 19 = .ok (.getfield 90, 3) := by decide +kernel
theorem dX12_fits_22 : decode cX12_fits 22 = .ok (.iload 4, 2) := by decide +kernel
theorem dX12_fits_24 : decode cX12_fits 24 = .ok (.iaload, 1) := by decide +kernel
theorem dX12_fits_25 : decode cX12_fits 25 = .ok (.iload_n 2, 1) := by decide +kernel
theorem dX12_fits_26 : decode cX12_fits 26 = .ok (.if_icmp .gt 67, 3) := by decide +kernel
theorem dX12_fits_29 : decode cX12_fits 29 = .ok (.aload_n 0, 1) := by decide +kernel
theorem dX12_fits_30 : decode cX12_fits 30 = .ok (.getfield 93, 3) := by decide +kernel
theorem dX12_fits_33 : decode cX12_fits 33 = .ok (.iload 4, 2) := by decide +kernel
theorem dX12_fits_35 : decode cX12_fits 35 = .ok (.iaload, 1) := by decide +kernel
theorem dX12_fits_36 : decode cX12_fits 36 = .ok (.ifCond .lt 14, 3) := by decide +kernel
theorem dX12_fits_39 : decode cX12_fits 39 = .ok (.aload_n 0, 1) := by decide +kernel
theorem dX12_fits_40 : decode cX12_fits 40 = .ok (.getfield 93, 3) := by decide +kernel
theorem dX12_fits_43 : decode cX12_fits 43 = .ok (.iload 4, 2) := by decide +kernel
theorem dX12_fits_45 : decode cX12_fits 45 = .ok (.iaload, 1) := by decide +kernel
theorem dX12_fits_46 : decode cX12_fits 46 = .ok (.iload_n 2, 1) := by decide +kernel
theorem dX12_fits_47 : decode cX12_fits 47 = .ok (.if_icmp .le 46, 3) := by decide +kernel
theorem dX12_fits_50 : decode cX12_fits 50 = .ok (.aload_n 0, 1) := by decide +kernel
theorem dX12_fits_51 : decode cX12_fits 51 = .ok (.iload_n 1, 1) := by decide +kernel
theorem dX12_fits_52 : decode cX12_fits 52 = .ok (.aload_n 0, 1) := by decide +kernel
theorem dX12_fits_53 : decode cX12_fits 53 = .ok (.getfield 78, 3) := by decide +kernel
theorem dX12_fits_56 : decode cX12_fits 56 = .ok (.iload 4, 2) := by decide +kernel
theorem dX12_fits_58 : decode cX12_fits 58 = .ok (.iaload, 1) := by decide +kernel
theorem dX12_fits_59 : decode cX12_fits 59 = .ok (.aload_n 0, 1) := by decide +kernel
theorem dX12_fits_60 : decode cX12_fits 60 = .ok (.getfield 81, 3) := by decide +kernel
theorem dX12_fits_63 : decode cX12_fits 63 = .ok (.iload 4, 2) := by decide +kernel
theorem dX12_fits_65 : decode cX12_fits 65 = .ok (.iaload, 1) := by decide +kernel
theorem dX12_fits_66 : decode cX12_fits 66 = .ok (.aload_n 0, 1) := by decide +kernel
theorem dX12_fits_67 : decode cX12_fits 67 = .ok (.getfield 84, 3) := by decide +kernel
theorem dX12_fits_70 : decode cX12_fits 70 = .ok (.iload 4, 2) := by decide +kernel
theorem dX12_fits_72 : decode cX12_fits 72 = .ok (.iaload, 1) := by decide +kernel
theorem dX12_fits_73 : decode cX12_fits 73 = .ok (.iconst 0, 1) := by decide +kernel
theorem dX12_fits_74 : decode cX12_fits 74 = .ok (.invokevirtual 368, 3) := by decide +kernel
theorem dX12_fits_77 : decode cX12_fits 77 = .ok (.aload_n 0, 1) := by decide +kernel
theorem dX12_fits_78 : decode cX12_fits 78 = .ok (.getfield 87, 3) := by decide +kernel
theorem dX12_fits_81 : decode cX12_fits 81 = .ok (.iload 4, 2) := by decide +kernel
theorem dX12_fits_83 : decode cX12_fits 83 = .ok (.iaload, 1) := by decide +kernel
theorem dX12_fits_84 : decode cX12_fits 84 = .ok (.if_icmp .ne 7, 3) := by decide +kernel
theorem dX12_fits_87 : decode cX12_fits 87 = .ok (.iconst 1, 1) := by decide +kernel
theorem dX12_fits_88 : decode cX12_fits 88 = .ok (.goto 4, 3) := by decide +kernel
theorem dX12_fits_91 : decode cX12_fits 91 = .ok (.iconst 0, 1) := by decide +kernel
theorem dX12_fits_92 : decode cX12_fits 92 = .ok (.istore_n 3, 1) := by decide +kernel
theorem dX12_fits_93 : decode cX12_fits 93 = .ok (.iinc 4 1, 3) := by decide +kernel
theorem dX12_fits_96 : decode cX12_fits 96 = .ok (.goto (-91), 3) := by decide +kernel
theorem dX12_fits_99 : decode cX12_fits 99 = .ok (.iload_n 3, 1) := by decide +kernel
theorem dX12_fits_100 : decode cX12_fits 100 = .ok (.ireturn, 1) := by decide +kernel
theorem dX12_layFits_0 : decode cX12_layFits 0 = .ok (.aload_n 0, 1) := by decide +kernel
theorem dX12_layFits_1 : decode cX12_layFits 1 = .ok (.iconst 0, 1) := by decide +kernel
theorem dX12_layFits_2 : decode cX12_layFits 2 = .ok (.putfield 484, 3) := by decide +kernel
theorem dX12_layFits_5 : decode cX12_layFits 5 = .ok (.iconst 0, 1) := by decide +kernel
theorem dX12_layFits_6 : decode cX12_layFits 6 = .ok (.istore_n 2, 1) := by decide +kernel
theorem dX12_layFits_7 : decode cX12_layFits 7 = .ok (.iload_n 2, 1) := by decide +kernel
theorem dX12_layFits_8 : decode cX12_layFits 8 = .ok (.iconst 1, 1) := by decide +kernel
theorem dX12_layFits_9 : decode cX12_layFits 9 = .ok (.aload_n 0, 1) := by decide +kernel
theorem dX12_layFits_10 : decode cX12_layFits 10 = .ok (.getfield 339, 3) := by decide +kernel
theorem dX12_layFits_13 : decode cX12_layFits 13 = .ok (.ishl, 1) := by decide +kernel
theorem dX12_layFits_14 : decode cX12_layFits 14 = .ok (.if_icmp .ge 41, 3) := by decide +kernel
theorem dX12_layFits_17 : decode cX12_layFits 17 = .ok (.aload_n 0, 1) := by decide +kernel
theorem dX12_layFits_18 : decode cX12_layFits 18 = .ok (.iload_n 2, 1) := by decide +kernel
theorem dX12_layFits_19 : decode cX12_layFits 19 = .ok (.iload_n 1, 1) := by decide +kernel
theorem dX12_layFits_20 : decode cX12_layFits 20 = .ok (.invokevirtual 487, 3) := by decide +kernel
theorem dX12_layFits_23 : decode cX12_layFits 23 = .ok (.ifCond .ne 6, 3) := by decide +kernel
theorem dX12_layFits_26 : decode cX12_layFits 26 = .ok (.goto 23, 3) := by decide +kernel
theorem dX12_layFits_29 : decode cX12_layFits 29 = .ok (.aload_n 0, 1) := by decide +kernel
theorem dX12_layFits_30 : decode cX12_layFits 30 = .ok (.getfield 96, 3) := by decide +kernel
theorem dX12_layFits_33 : decode cX12_layFits 33 = .ok (.aload_n 0, 1) := by decide +kernel
theorem dX12_layFits_34 : decode cX12_layFits 34 = .ok (.getfield 484, 3) := by decide +kernel
theorem dX12_layFits_37 : decode cX12_layFits 37 = .ok (.iload_n 2, 1) := by decide +kernel
theorem dX12_layFits_38 : decode cX12_layFits 38 = .ok (.iastore, 1) := by decide +kernel
theorem dX12_layFits_39 : decode cX12_layFits 39 = .ok (.aload_n 0, 1) := by decide +kernel
theorem dX12_layFits_40 : decode cX12_layFits 40 = .ok (.dup, 1) := by decide +kernel
theorem dX12_layFits_41 : decode cX12_layFits 41 = .ok (.getfield 484, 3) := by decide +kernel
theorem dX12_layFits_44 : decode cX12_layFits 44 = .ok (.iconst 1, 1) := by decide +kernel
theorem dX12_layFits_45 : decode cX12_layFits 45 = .ok (.iadd, 1) := by decide +kernel
theorem dX12_layFits_46 : decode cX12_layFits 46 = .ok (.putfield 484, 3) := by decide +kernel
theorem dX12_layFits_49 : decode cX12_layFits 49 = .ok (.iinc 2 1, 3) := by decide +kernel
theorem dX12_layFits_52 : decode cX12_layFits 52 = .ok (.goto (-45), 3) := by decide +kernel
theorem dX12_layFits_55 : decode cX12_layFits 55 = .ok (.return_, 1) := by decide +kernel
theorem dX12_fit_0 : decode cX12_fit 0 = .ok (.aload_n 0, 1) := by decide +kernel
theorem dX12_fit_1 : decode cX12_fit 1 = .ok (.iload_n 1, 1) := by decide +kernel
theorem dX12_fit_2 : decode cX12_fit 2 = .ok (.invokevirtual 490, 3) := by decide +kernel
theorem dX12_fit_5 : decode cX12_fit 5 = .ok (.aload_n 0, 1) := by decide +kernel
theorem dX12_fit_6 : decode cX12_fit 6 = .ok (.getfield 484, 3) := by decide +kernel
theorem dX12_fit_9 : decode cX12_fit 9 = .ok (.ireturn, 1) := by decide +kernel
theorem dX12_sets_0 : decode cX12_sets 0 = .ok (.aload_n 0, 1) := by decide +kernel
theorem dX12_sets_1 : decode cX12_sets 1 = .ok (.iload_n 1, 1) := by decide +kernel
theorem dX12_sets_2 : decode cX12_sets 2 = .ok (.invokevirtual 490, 3) := by decide +kernel
theorem dX12_sets_5 : decode cX12_sets 5 = .ok (.iconst 0, 1) := by decide +kernel
theorem dX12_sets_6 : decode cX12_sets 6 = .ok (.istore_n 2, 1) := by decide +kernel
theorem dX12_sets_7 : decode cX12_sets 7 = .ok (.iconst 0, 1) := by decide +kernel
theorem dX12_sets_8 : decode cX12_sets 8 = .ok (.istore_n 3, 1) := by decide +kernel
theorem dX12_sets_9 : decode cX12_sets 9 = .ok (.iload_n 3, 1) := by decide +kernel
theorem dX12_sets_10 : decode cX12_sets 10 = .ok (.aload_n 0, 1) := by decide +kernel
theorem dX12_sets_11 : decode cX12_sets 11 = .ok (.getfield 484, 3) := by decide +kernel
theorem dX12_sets_14 : decode cX12_sets 14 = .ok (.if_icmp .ge 20, 3) := by decide +kernel
theorem dX12_sets_17 : decode cX12_sets 17 = .ok (.iload_n 2, 1) := by decide +kernel
theorem dX12_sets_18 : decode cX12_sets 18 = .ok (.iconst 1, 1) := by decide +kernel
theorem dX12_sets_19 : decode cX12_sets 19 = .ok (.aload_n 0, 1) := by decide +kernel
theorem dX12_sets_20 : decode cX12_sets 20 = .ok (.getfield 96, 3) := by decide +kernel
theorem dX12_sets_23 : decode cX12_sets 23 = .ok (.iload_n 3, 1) := by decide +kernel
theorem dX12_sets_24 : decode cX12_sets 24 = .ok (.iaload, 1) := by decide +kernel
theorem dX12_sets_25 : decode cX12_sets 25 = .ok (.ishl, 1) := by decide +kernel
theorem dX12_sets_26 : decode cX12_sets 26 = .ok (.ior, 1) := by decide +kernel
theorem dX12_sets_27 : decode cX12_sets 27 = .ok (.istore_n 2, 1) := by decide +kernel
theorem dX12_sets_28 : decode cX12_sets 28 = .ok (.iinc 3 1, 3) := by decide +kernel
theorem dX12_sets_31 : decode cX12_sets 31 = .ok (.goto (-22), 3) := by decide +kernel
theorem dX12_sets_34 : decode cX12_sets 34 = .ok (.iload_n 2, 1) := by decide +kernel
theorem dX12_sets_35 : decode cX12_sets 35 = .ok (.ireturn, 1) := by decide +kernel
theorem dX12_sure_0 : decode cX12_sure 0 = .ok (.aload_n 0, 1) := by decide +kernel
theorem dX12_sure_1 : decode cX12_sure 1 = .ok (.iload_n 1, 1) := by decide +kernel
theorem dX12_sure_2 : decode cX12_sure 2 = .ok (.invokevirtual 396, 3) := by decide +kernel
theorem dX12_sure_5 : decode cX12_sure 5 = .ok (.ifCond .ne 5, 3) := by decide +kernel
theorem dX12_sure_8 : decode cX12_sure 8 = .ok (.iconst (-1), 1) := by decide +kernel
theorem dX12_sure_9 : decode cX12_sure 9 = .ok (.ireturn, 1) := by decide +kernel
theorem dX12_sure_10 : decode cX12_sure 10 = .ok (.aload_n 0, 1) := by decide +kernel
theorem dX12_sure_11 : decode cX12_sure 11 = .ok (.iload_n 2, 1) := by decide +kernel
theorem dX12_sure_12 : decode cX12_sure 12 = .ok (.invokevirtual 490, 3) := by decide +kernel
theorem dX12_sure_15 : decode cX12_sure 15 = .ok (.aload_n 0, 1) := by decide +kernel
theorem dX12_sure_16 : decode cX12_sure 16 = .ok (.getfield 484, 3) := by decide +kernel
theorem dX12_sure_19 : decode cX12_sure 19 = .ok (.ifCond .ne 5, 3) := by decide +kernel
theorem dX12_sure_22 : decode cX12_sure 22 = .ok (.iconst (-1), 1) := by decide +kernel
theorem dX12_sure_23 : decode cX12_sure 23 = .ok (.ireturn, 1) := by decide +kernel
theorem dX12_sure_24 : decode cX12_sure 24 = .ok (.iconst 0, 1) := by decide +kernel
theorem dX12_sure_25 : decode cX12_sure 25 = .ok (.istore_n 3, 1) := by decide +kernel
theorem dX12_sure_26 : decode cX12_sure 26 = .ok (.iconst 0, 1) := by decide +kernel
theorem dX12_sure_27 : decode cX12_sure 27 = .ok (.istore 4, 2) := by decide +kernel
theorem dX12_sure_29 : decode cX12_sure 29 = .ok (.iload 4, 2) := by decide +kernel
theorem dX12_sure_31 : decode cX12_sure 31 = .ok (.aload_n 0, 1) := by decide +kernel
theorem dX12_sure_32 : decode cX12_sure 32 = .ok (.getfield 484, 3) := by decide +kernel
theorem dX12_sure_35 : decode cX12_sure 35 = .ok (.if_icmp .ge 23, 3) := by decide +kernel
theorem dX12_sure_38 : decode cX12_sure 38 = .ok (.iload_n 3, 1) := by decide +kernel
theorem dX12_sure_39 : decode cX12_sure 39 = .ok (.aload_n 0, 1) := by decide +kernel
theorem dX12_sure_40 : decode cX12_sure 40 = .ok (.getfield 96, 3) := by decide +kernel
theorem dX12_sure_43 : decode cX12_sure 43 = .ok (.iload 4, 2) := by decide +kernel
theorem dX12_sure_45 : decode cX12_sure 45 = .ok (.iaload, 1) := by decide +kernel
theorem dX12_sure_46 : decode cX12_sure 46 = .ok (.iload_n 1, 1) := by decide +kernel
theorem dX12_sure_47 : decode cX12_sure 47 = .ok (.ishr, 1) := by decide +kernel
theorem dX12_sure_48 : decode cX12_sure 48 = .ok (.iconst 1, 1) := by decide +kernel
theorem dX12_sure_49 : decode cX12_sure 49 = .ok (.iand, 1) := by decide +kernel
theorem dX12_sure_50 : decode cX12_sure 50 = .ok (.iadd, 1) := by decide +kernel
theorem dX12_sure_51 : decode cX12_sure 51 = .ok (.istore_n 3, 1) := by decide +kernel
theorem dX12_sure_52 : decode cX12_sure 52 = .ok (.iinc 4 1, 3) := by decide +kernel
theorem dX12_sure_55 : decode cX12_sure 55 = .ok (.goto (-26), 3) := by decide +kernel
theorem dX12_sure_58 : decode cX12_sure 58 = .ok (.iload_n 3, 1) := by decide +kernel
theorem dX12_sure_59 : decode cX12_sure 59 = .ok (.aload_n 0, 1) := by decide +kernel
theorem dX12_sure_60 : decode cX12_sure 60 = .ok (.getfield 484, 3) := by decide +kernel
theorem dX12_sure_63 : decode cX12_sure 63 = .ok (.if_icmp .ne 7, 3) := by decide +kernel
theorem dX12_sure_66 : decode cX12_sure 66 = .ok (.iconst 1, 1) := by decide +kernel
theorem dX12_sure_67 : decode cX12_sure 67 = .ok (.goto 13, 3) := by decide +kernel
theorem dX12_sure_70 : decode cX12_sure 70 = .ok (.iload_n 3, 1) := by decide +kernel
theorem dX12_sure_71 : decode cX12_sure 71 = .ok (.ifCond .ne 7, 3) := by decide +kernel
theorem dX12_sure_74 : decode cX12_sure 74 = .ok (.iconst 0, 1) := by decide +kernel
theorem dX12_sure_75 : decode cX12_sure 75 = .ok (.goto 5, 3) := by decide +kernel
theorem dX12_sure_78 : decode cX12_sure 78 = .ok (.bipush (-2), 2) := by decide +kernel
theorem dX12_sure_80 : decode cX12_sure 80 = .ok (.ireturn, 1) := by decide +kernel
theorem dX12_leftBy_0 : decode cX12_leftBy 0 = .ok (.iconst 0, 1) := by decide +kernel
theorem dX12_leftBy_1 : decode cX12_leftBy 1 = .ok (.istore 4, 2) := by decide +kernel
theorem dX12_leftBy_3 : decode cX12_leftBy 3 = .ok (.iload 4, 2) := by decide +kernel
theorem dX12_leftBy_5 : decode cX12_leftBy 5 = .ok (.bipush 99, 2) := by decide +kernel
theorem dX12_leftBy_7 : decode cX12_leftBy 7 = .ok (.if_icmp .gt 17, 3) := by decide +kernel
theorem dX12_leftBy_10 : decode cX12_leftBy 10 = .ok (.aload_n 0, 1) := by decide +kernel
theorem dX12_leftBy_11 : decode cX12_leftBy 11 = .ok (.getfield 99, 3) := by decide +kernel
theorem dX12_leftBy_14 : decode cX12_leftBy 14 = .ok (.iload 4, 2) := by decide +kernel
theorem dX12_leftBy_16 : decode cX12_leftBy 16 = .ok (.iconst 0, 1) := by decide +kernel
theorem dX12_leftBy_17 : decode cX12_leftBy 17 = .ok (.iastore, 1) := by decide +kernel
theorem dX12_leftBy_18 : decode cX12_leftBy 18 = .ok (.iinc 4 1, 3) := by decide +kernel
theorem dX12_leftBy_21 : decode cX12_leftBy 21 = .ok (.goto (-18), 3) := by decide +kernel
theorem dX12_leftBy_24 : decode cX12_leftBy 24 = .ok (.iconst 0, 1) := by decide +kernel
theorem dX12_leftBy_25 : decode cX12_leftBy 25 = .ok (.istore 4, 2) := by decide +kernel
theorem dX12_leftBy_27 : decode cX12_leftBy 27 = .ok (.iconst 0, 1) := by decide +kernel
theorem dX12_leftBy_28 : decode cX12_leftBy 28 = .ok (.istore 5, 2) := by decide +kernel
theorem dX12_leftBy_30 : decode cX12_leftBy 30 = .ok (.iload 5, 2) := by decide +kernel
theorem dX12_leftBy_32 : decode cX12_leftBy 32 = .ok (.aload_n 0, 1) := by decide +kernel
theorem dX12_leftBy_33 : decode cX12_leftBy 33 = .ok (.getfield 484, 3) := by decide +kernel
theorem dX12_leftBy_36 : decode cX12_leftBy 36 = .ok (.if_icmp .ge 63, 3) := by decide +kernel
theorem dX12_leftBy_39 : decode cX12_leftBy 39 = .ok (.aload_n 0, 1) := by decide +kernel
theorem dX12_leftBy_40 : decode cX12_leftBy 40 = .ok (.aload_n 0, 1) := by decide +kernel
theorem dX12_leftBy_41 : decode cX12_leftBy 41 = .ok (.getfield 96, 3) := by decide +kernel
theorem dX12_leftBy_44 : decode cX12_leftBy 44 = .ok (.iload 5, 2) := by decide +kernel
theorem dX12_leftBy_46 : decode cX12_leftBy 46 = .ok (.iaload, 1) := by decide +kernel
theorem dX12_leftBy_47 : decode cX12_leftBy 47 = .ok (.iload_n 1, 1) := by decide +kernel
theorem dX12_leftBy_48 : decode cX12_leftBy 48 = .ok (.iload_n 2, 1) := by decide +kernel
theorem dX12_leftBy_49 : decode cX12_leftBy 49 = .ok (.iload_n 3, 1) := by decide +kernel
theorem dX12_leftBy_50 : decode cX12_leftBy 50 = .ok (.iconst 0, 1) := by decide +kernel
theorem dX12_leftBy_51 : decode cX12_leftBy 51 = .ok (.invokevirtual 368, 3) := by decide +kernel
theorem dX12_leftBy_54 : decode cX12_leftBy 54 = .ok (.istore 6, 2) := by decide +kernel
theorem dX12_leftBy_56 : decode cX12_leftBy 56 = .ok (.aload_n 0, 1) := by decide +kernel
theorem dX12_leftBy_57 : decode cX12_leftBy 57 = .ok (.getfield 99, 3) := by decide +kernel
theorem dX12_leftBy_60 : decode cX12_leftBy 60 = .ok (.iload 6, 2) := by decide +kernel
theorem dX12_leftBy_62 : decode cX12_leftBy 62 = .ok (.dup2, 1) := by decide +kernel
theorem dX12_leftBy_63 : decode cX12_leftBy 63 = .ok (.iaload, 1) := by decide +kernel
theorem dX12_leftBy_64 : decode cX12_leftBy 64 = .ok (.iconst 1, 1) := by decide +kernel
theorem dX12_leftBy_65 : decode cX12_leftBy 65 = .ok (.iadd, 1) := by decide +kernel
theorem dX12_leftBy_66 : decode cX12_leftBy 66 = .ok (.iastore, 1) := by decide +kernel
theorem dX12_leftBy_67 : decode cX12_leftBy 67 = .ok (.aload_n 0, 1) := by decide +kernel
theorem dX12_leftBy_68 : decode cX12_leftBy 68 = .ok (.getfield 99, 3) := by decide +kernel
theorem dX12_leftBy_71 : decode cX12_leftBy 71 = .ok (.iload 6, 2) := by decide +kernel
theorem dX12_leftBy_73 : decode cX12_leftBy 73 = .ok (.iaload, 1) := by decide +kernel
theorem dX12_leftBy_74 : decode cX12_leftBy 74 = .ok (.iload 4, 2) := by decide +kernel
theorem dX12_leftBy_76 : decode cX12_leftBy 76 = .ok (.if_icmp .le 13, 3) := by decide +kernel
theorem dX12_leftBy_79 : decode cX12_leftBy 79 = .ok (.aload_n 0, 1) := by decide +kernel
theorem dX12_leftBy_80 : decode cX12_leftBy 80 = .ok (.getfield 99, 3) := by decide +kernel
theorem dX12_leftBy_83 : decode cX12_leftBy 83 = .ok (.iload 6, 2) := by decide +kernel
theorem dX12_leftBy_85 : decode cX12_leftBy 85 = .ok (.iaload, 1) := by decide +kernel
theorem dX12_leftBy_86 : decode cX12_leftBy 86 = .ok (.goto 5, 3) := by decide +kernel
theorem dX12_leftBy_89 : decode cX12_leftBy 89 = .ok (.iload 4, 2) := by decide +kernel
theorem dX12_leftBy_91 : decode cX12_leftBy 91 = .ok (.istore 4, 2) := by decide +kernel
theorem dX12_leftBy_93 : decode cX12_leftBy 93 = .ok (.iinc 5 1, 3) := by decide +kernel
theorem dX12_leftBy_96 : decode cX12_leftBy 96 = .ok (.goto (-66), 3) := by decide +kernel
theorem dX12_leftBy_99 : decode cX12_leftBy 99 = .ok (.iload 4, 2) := by decide +kernel
theorem dX12_leftBy_101 : decode cX12_leftBy 101 = .ok (.ireturn, 1) := by decide +kernel
theorem dX12_ask_0 : decode cX12_ask 0 = .ok (.iload_n 1, 1) := by decide +kernel
theorem dX12_ask_1 : decode cX12_ask 1 = .ok (.iconst 0, 1) := by decide +kernel
theorem dX12_ask_2 : decode cX12_ask 2 = .ok (.bipush 99, 2) := by decide +kernel
theorem dX12_ask_4 : decode cX12_ask 4 = .ok (.invokestatic 360, 3) := by decide +kernel
theorem dX12_ask_7 : decode cX12_ask 7 = .ok (.ifCond .eq 22, 3) := by decide +kernel
theorem dX12_ask_10 : decode cX12_ask 10 = .ok (.iload_n 2, 1) := by decide +kernel
theorem dX12_ask_11 : decode cX12_ask 11 = .ok (.iconst 0, 1) := by decide +kernel
theorem dX12_ask_12 : decode cX12_ask 12 = .ok (.bipush 99, 2) := by decide +kernel
theorem dX12_ask_14 : decode cX12_ask 14 = .ok (.invokestatic 360, 3) := by decide +kernel
theorem dX12_ask_17 : decode cX12_ask 17 = .ok (.ifCond .eq 12, 3) := by decide +kernel
theorem dX12_ask_20 : decode cX12_ask 20 = .ok (.iload_n 3, 1) := by decide +kernel
theorem dX12_ask_21 : decode cX12_ask 21 = .ok (.iconst 0, 1) := by decide +kernel
theorem dX12_ask_22 : decode cX12_ask 22 = .ok (.iconst 1, 1) := by decide +kernel
theorem dX12_ask_23 : decode cX12_ask 23 = .ok (.invokestatic 360, 3) := by decide +kernel
theorem dX12_ask_26 : decode cX12_ask 26 = .ok (.ifCond .ne 5, 3) := by decide +kernel
theorem dX12_ask_29 : decode cX12_ask 29 = .ok (.iconst (-1), 1) := by decide +kernel
theorem dX12_ask_30 : decode cX12_ask 30 = .ok (.ireturn, 1) := by decide +kernel
theorem dX12_ask_31 : decode cX12_ask 31 = .ok (.aload_n 0, 1) := by decide +kernel
theorem dX12_ask_32 : decode cX12_ask 32 = .ok (.iload 4, 2) := by decide +kernel
theorem dX12_ask_34 : decode cX12_ask 34 = .ok (.invokevirtual 490, 3) := by decide +kernel
theorem dX12_ask_37 : decode cX12_ask 37 = .ok (.aload_n 0, 1) := by decide +kernel
theorem dX12_ask_38 : decode cX12_ask 38 = .ok (.getfield 484, 3) := by decide +kernel
theorem dX12_ask_41 : decode cX12_ask 41 = .ok (.ifCond .ne 5, 3) := by decide +kernel
theorem dX12_ask_44 : decode cX12_ask 44 = .ok (.iconst (-1), 1) := by decide +kernel
theorem dX12_ask_45 : decode cX12_ask 45 = .ok (.ireturn, 1) := by decide +kernel
theorem dX12_ask_46 : decode cX12_ask 46 = .ok (.iconst 0, 1) := by decide +kernel
theorem dX12_ask_47 : decode cX12_ask 47 = .ok (.istore 5, 2) := by decide +kernel
theorem dX12_ask_49 : decode cX12_ask 49 = .ok (.sipush 1000, 3) := by decide +kernel
theorem dX12_ask_52 : decode cX12_ask 52 = .ok (.istore 6, 2) := by decide +kernel
theorem dX12_ask_54 : decode cX12_ask 54 = .ok (.iconst 0, 1) := by decide +kernel
theorem dX12_ask_55 : decode cX12_ask 55 = .ok (.istore 7, 2) := by decide +kernel
theorem dX12_ask_57 : decode cX12_ask 57 = .ok (.iload 7, 2) := by decide +kernel
theorem dX12_ask_59 : decode cX12_ask 59 = .ok (.bipush 9, 2) := by decide +kernel
theorem dX12_ask_61 : decode cX12_ask 61 = .ok (.if_icmp .gt 37, 3) := by decide +kernel
theorem dX12_ask_64 : decode cX12_ask 64 = .ok (.aload_n 0, 1) := by decide +kernel
theorem dX12_ask_65 : decode cX12_ask 65 = .ok (.iload_n 1, 1) := by decide +kernel
theorem dX12_ask_66 : decode cX12_ask 66 = .ok (.iload_n 2, 1) := by decide +kernel
theorem dX12_ask_67 : decode cX12_ask 67 = .ok (.iload 7, 2) := by decide +kernel
theorem dX12_ask_69 : decode cX12_ask 69 = .ok (.invokevirtual 493, 3) := by decide +kernel
theorem dX12_ask_72 : decode cX12_ask 72 = .ok (.istore 8, 2) := by decide +kernel
theorem dX12_ask_74 : decode cX12_ask 74 = .ok (.iload 8, 2) := by decide +kernel
theorem dX12_ask_76 : decode cX12_ask 76 = .ok (.iload 6, 2) := by decide +kernel
theorem dX12_ask_78 : decode cX12_ask 78 = .ok (.if_icmp .lt 6, 3) := by decide +kernel
theorem dX12_ask_81 : decode cX12_ask 81 = .ok (.goto 11, 3) := by decide +kernel
theorem dX12_ask_84 : decode cX12_ask 84 = .ok (.iload 7, 2) := by decide +kernel
theorem dX12_ask_86 : decode cX12_ask 86 = .ok (.istore 5, 2) := by decide +kernel
theorem dX12_ask_88 : decode cX12_ask 88 = .ok (.iload 8, 2) := by decide +kernel
theorem dX12_ask_90 : decode cX12_ask 90 = .ok (.istore 6, 2) := by decide +kernel
theorem dX12_ask_92 : decode cX12_ask 92 = .ok (.iinc 7 1, 3) := by decide +kernel
theorem dX12_ask_95 : decode cX12_ask 95 = .ok (.goto (-38), 3) := by decide +kernel
theorem dX12_ask_98 : decode cX12_ask 98 = .ok (.iload_n 3, 1) := by decide +kernel
theorem dX12_ask_99 : decode cX12_ask 99 = .ok (.ifCond .ne 8, 3) := by decide +kernel
theorem dX12_ask_102 : decode cX12_ask 102 = .ok (.iload 5, 2) := by decide +kernel
theorem dX12_ask_104 : decode cX12_ask 104 = .ok (.goto 5, 3) := by decide +kernel
theorem dX12_ask_107 : decode cX12_ask 107 = .ok (.iload 6, 2) := by decide +kernel
theorem dX12_ask_109 : decode cX12_ask 109 = .ok (.ireturn, 1) := by decide +kernel
theorem dX12_alikeIn_0 : decode cX12_alikeIn 0 = .ok (.iconst 0, 1) := by decide +kernel
theorem dX12_alikeIn_1 : decode cX12_alikeIn 1 = .ok (.istore 4, 2) := by decide +kernel
theorem dX12_alikeIn_3 : decode cX12_alikeIn 3 = .ok (.iconst 0, 1) := by decide +kernel
theorem dX12_alikeIn_4 : decode cX12_alikeIn 4 = .ok (.istore 5, 2) := by decide +kernel
theorem dX12_alikeIn_6 : decode cX12_alikeIn 6 = .ok (.iload 5, 2) := by decide +kernel
theorem dX12_alikeIn_8 : decode cX12_alikeIn 8 = .ok (.aload_n 0, 1) := by decide +kernel
theorem dX12_alikeIn_9 : decode cX12_alikeIn 9 = .ok (.getfield 484, 3) := by decide +kernel
theorem dX12_alikeIn_12 : decode cX12_alikeIn 12 = .ok (.if_icmp .ge 54, 3) := by decide +kernel
theorem dX12_alikeIn_15 : decode cX12_alikeIn 15 = .ok (.iload_n 1, 1) := by decide +kernel
theorem dX12_alikeIn_16 : decode cX12_alikeIn 16 = .ok (.iload 5, 2) := by decide +kernel
theorem dX12_alikeIn_18 : decode cX12_alikeIn 18 = .ok (.ishr, 1) := by decide +kernel
theorem dX12_alikeIn_19 : decode cX12_alikeIn 19 = .ok (.iconst 1, 1) := by decide +kernel
theorem dX12_alikeIn_20 : decode cX12_alikeIn 20 = .ok (.iand, 1) := by decide +kernel
theorem dX12_alikeIn_21 : decode cX12_alikeIn 21 = .ok (.iconst 1, 1) := by decide +kernel
theorem dX12_alikeIn_22 : decode cX12_alikeIn 22 = .ok (.if_icmp .ne 38, 3) := by decide +kernel
theorem dX12_alikeIn_25 : decode cX12_alikeIn 25 = .ok (.aload_n 0, 1) := by decide +kernel
theorem dX12_alikeIn_26 : decode cX12_alikeIn 26 = .ok (.getfield 108, 3) := by decide +kernel
theorem dX12_alikeIn_29 : decode cX12_alikeIn 29 = .ok (.bipush 10, 2) := by decide +kernel
theorem dX12_alikeIn_31 : decode cX12_alikeIn 31 = .ok (.iload_n 3, 1) := by decide +kernel
theorem dX12_alikeIn_32 : decode cX12_alikeIn 32 = .ok (.imul, 1) := by decide +kernel
theorem dX12_alikeIn_33 : decode cX12_alikeIn 33 = .ok (.iload 5, 2) := by decide +kernel
theorem dX12_alikeIn_35 : decode cX12_alikeIn 35 = .ok (.iadd, 1) := by decide +kernel
theorem dX12_alikeIn_36 : decode cX12_alikeIn 36 = .ok (.iaload, 1) := by decide +kernel
theorem dX12_alikeIn_37 : decode cX12_alikeIn 37 = .ok (.aload_n 0, 1) := by decide +kernel
theorem dX12_alikeIn_38 : decode cX12_alikeIn 38 = .ok (.getfield 108, 3) := by decide +kernel
theorem dX12_alikeIn_41 : decode cX12_alikeIn 41 = .ok (.bipush 10, 2) := by decide +kernel
theorem dX12_alikeIn_43 : decode cX12_alikeIn 43 = .ok (.iload_n 3, 1) := by decide +kernel
theorem dX12_alikeIn_44 : decode cX12_alikeIn 44 = .ok (.imul, 1) := by decide +kernel
theorem dX12_alikeIn_45 : decode cX12_alikeIn 45 = .ok (.iload_n 2, 1) := by decide +kernel
theorem dX12_alikeIn_46 : decode cX12_alikeIn 46 = .ok (.iadd, 1) := by decide +kernel
theorem dX12_alikeIn_47 : decode cX12_alikeIn 47 = .ok (.iaload, 1) := by decide +kernel
theorem dX12_alikeIn_48 : decode cX12_alikeIn 48 = .ok (.if_icmp .ne 12, 3) := by decide +kernel
theorem dX12_alikeIn_51 : decode cX12_alikeIn 51 = .ok (.iload 4, 2) := by decide +kernel
theorem dX12_alikeIn_53 : decode cX12_alikeIn 53 = .ok (.iconst 1, 1) := by decide +kernel
theorem dX12_alikeIn_54 : decode cX12_alikeIn 54 = .ok (.iload 5, 2) := by decide +kernel
theorem dX12_alikeIn_56 : decode cX12_alikeIn 56 = .ok (.ishl, 1) := by decide +kernel
theorem dX12_alikeIn_57 : decode cX12_alikeIn 57 = .ok (.ior, 1) := by decide +kernel
theorem dX12_alikeIn_58 : decode cX12_alikeIn 58 = .ok (.istore 4, 2) := by decide +kernel
theorem dX12_alikeIn_60 : decode cX12_alikeIn 60 = .ok (.iinc 5 1, 3) := by decide +kernel
theorem dX12_alikeIn_63 : decode cX12_alikeIn 63 = .ok (.goto (-57), 3) := by decide +kernel
theorem dX12_alikeIn_66 : decode cX12_alikeIn 66 = .ok (.iload 4, 2) := by decide +kernel
theorem dX12_alikeIn_68 : decode cX12_alikeIn 68 = .ok (.ireturn, 1) := by decide +kernel
theorem dX12_neededBy_0 : decode cX12_neededBy 0 = .ok (.iconst 0, 1) := by decide +kernel
theorem dX12_neededBy_1 : decode cX12_neededBy 1 = .ok (.istore_n 3, 1) := by decide +kernel
theorem dX12_neededBy_2 : decode cX12_neededBy 2 = .ok (.iconst 0, 1) := by decide +kernel
theorem dX12_neededBy_3 : decode cX12_neededBy 3 = .ok (.istore 4, 2) := by decide +kernel
theorem dX12_neededBy_5 : decode cX12_neededBy 5 = .ok (.iload 4, 2) := by decide +kernel
theorem dX12_neededBy_7 : decode cX12_neededBy 7 = .ok (.aload_n 0, 1) := by decide +kernel
theorem dX12_neededBy_8 : decode cX12_neededBy 8 = .ok (.getfield 484, 3) := by decide +kernel
theorem dX12_neededBy_11 : decode cX12_neededBy 11 = .ok (.if_icmp .ge 64, 3) := by decide +kernel
theorem dX12_neededBy_14 : decode cX12_neededBy 14 = .ok (.iload_n 1, 1) := by decide +kernel
theorem dX12_neededBy_15 : decode cX12_neededBy 15 = .ok (.iload 4, 2) := by decide +kernel
theorem dX12_neededBy_17 : decode cX12_neededBy 17 = .ok (.ishr, 1) := by decide +kernel
theorem dX12_neededBy_18 : decode cX12_neededBy 18 = .ok (.iconst 1, 1) := by decide +kernel
theorem dX12_neededBy_19 : decode cX12_neededBy 19 = .ok (.iand, 1) := by decide +kernel
theorem dX12_neededBy_20 : decode cX12_neededBy 20 = .ok (.ifCond .ne 6, 3) := by decide +kernel
theorem dX12_neededBy_23 : decode cX12_neededBy 23 = .ok (.goto 46, 3) := by decide +kernel
theorem dX12_neededBy_26 : decode cX12_neededBy 26 = .ok (.aload_n 0, 1) := by decide +kernel
theorem dX12_neededBy_27 : decode cX12_neededBy 27 = .ok (.iload_n 1, 1) := by decide +kernel
theorem dX12_neededBy_28 : decode cX12_neededBy 28 = .ok (.iload 4, 2) := by decide +kernel
theorem dX12_neededBy_30 : decode cX12_neededBy 30 = .ok (.iload_n 2, 1) := by decide +kernel
theorem dX12_neededBy_31 : decode cX12_neededBy 31 = .ok (.invokevirtual 496, 3) := by decide +kernel
theorem dX12_neededBy_34 : decode cX12_neededBy 34 = .ok (.istore 5, 2) := by decide +kernel
theorem dX12_neededBy_36 : decode cX12_neededBy 36 = .ok (.iload 5, 2) := by decide +kernel
theorem dX12_neededBy_38 : decode cX12_neededBy 38 = .ok (.iload_n 1, 1) := by decide +kernel
theorem dX12_neededBy_39 : decode cX12_neededBy 39 = .ok (.if_icmp .ne 7, 3) := by decide +kernel
theorem dX12_neededBy_42 : decode cX12_neededBy 42 = .ok (.sipush 1000, 3) := by decide +kernel
theorem dX12_neededBy_45 : decode cX12_neededBy 45 = .ok (.ireturn, 1) := by decide +kernel
theorem dX12_neededBy_46 : decode cX12_neededBy 46 = .ok (.aload_n 0, 1) := by decide +kernel
theorem dX12_neededBy_47 : decode cX12_neededBy 47 = .ok (.getfield 102, 3) := by decide +kernel
theorem dX12_neededBy_50 : decode cX12_neededBy 50 = .ok (.iload 5, 2) := by decide +kernel
theorem dX12_neededBy_52 : decode cX12_neededBy 52 = .ok (.iaload, 1) := by decide +kernel
theorem dX12_neededBy_53 : decode cX12_neededBy 53 = .ok (.iload_n 3, 1) := by decide +kernel
theorem dX12_neededBy_54 : decode cX12_neededBy 54 = .ok (.if_icmp .le 13, 3) := by decide +kernel
theorem dX12_neededBy_57 : decode cX12_neededBy 57 = .ok (.aload_n 0, 1) := by decide +kernel
theorem dX12_neededBy_58 : decode cX12_neededBy 58 = .ok (.getfield 102, 3) := by decide +kernel
theorem dX12_neededBy_61 : decode cX12_neededBy 61 = .ok (.iload 5, 2) := by decide +kernel
theorem dX12_neededBy_63 : decode cX12_neededBy 63 = .ok (.iaload, 1) := by decide +kernel
theorem dX12_neededBy_64 : decode cX12_neededBy 64 = .ok (.goto 4, 3) := by decide +kernel
theorem dX12_neededBy_67 : decode cX12_neededBy 67 = .ok (.iload_n 3, 1) := by decide +kernel
theorem dX12_neededBy_68 : decode cX12_neededBy 68 = .ok (.istore_n 3, 1) := by decide +kernel
theorem dX12_neededBy_69 : decode cX12_neededBy 69 = .ok (.iinc 4 1, 3) := by decide +kernel
theorem dX12_neededBy_72 : decode cX12_neededBy 72 = .ok (.goto (-67), 3) := by decide +kernel
theorem dX12_neededBy_75 : decode cX12_neededBy 75 = .ok (.iload_n 3, 1) := by decide +kernel
theorem dX12_neededBy_76 : decode cX12_neededBy 76 = .ok (.sipush 1000, 3) := by decide +kernel
theorem dX12_neededBy_79 : decode cX12_neededBy 79 = .ok (.if_icmp .lt 9, 3) := by decide +kernel
theorem dX12_neededBy_82 : decode cX12_neededBy 82 = .ok (.sipush 1000, 3) := by decide +kernel
theorem dX12_neededBy_85 : decode cX12_neededBy 85 = .ok (.goto 6, 3) := by decide +kernel
theorem dX12_neededBy_88 : decode cX12_neededBy 88 = .ok (.iload_n 3, 1) := by decide +kernel
theorem dX12_neededBy_89 : decode cX12_neededBy 89 = .ok (.iconst 1, 1) := by decide +kernel
theorem dX12_neededBy_90 : decode cX12_neededBy 90 = .ok (.iadd, 1) := by decide +kernel
theorem dX12_neededBy_91 : decode cX12_neededBy 91 = .ok (.ireturn, 1) := by decide +kernel
theorem dX12_course_0 : decode cX12_course 0 = .ok (.iload_n 1, 1) := by decide +kernel
theorem dX12_course_1 : decode cX12_course 1 = .ok (.iconst 0, 1) := by decide +kernel
theorem dX12_course_2 : decode cX12_course 2 = .ok (.iconst 1, 1) := by decide +kernel
theorem dX12_course_3 : decode cX12_course 3 = .ok (.invokestatic 360, 3) := by decide +kernel
theorem dX12_course_6 : decode cX12_course 6 = .ok (.ifCond .ne 5, 3) := by decide +kernel
theorem dX12_course_9 : decode cX12_course 9 = .ok (.iconst (-1), 1) := by decide +kernel
theorem dX12_course_10 : decode cX12_course 10 = .ok (.ireturn, 1) := by decide +kernel
theorem dX12_course_11 : decode cX12_course 11 = .ok (.aload_n 0, 1) := by decide +kernel
theorem dX12_course_12 : decode cX12_course 12 = .ok (.iload_n 2, 1) := by decide +kernel
theorem dX12_course_13 : decode cX12_course 13 = .ok (.invokevirtual 490, 3) := by decide +kernel
theorem dX12_course_16 : decode cX12_course 16 = .ok (.aload_n 0, 1) := by decide +kernel
theorem dX12_course_17 : decode cX12_course 17 = .ok (.getfield 484, 3) := by decide +kernel
theorem dX12_course_20 : decode cX12_course 20 = .ok (.ifCond .ne 5, 3) := by decide +kernel
theorem dX12_course_23 : decode cX12_course 23 = .ok (.iconst (-1), 1) := by decide +kernel
theorem dX12_course_24 : decode cX12_course 24 = .ok (.ireturn, 1) := by decide +kernel
theorem dX12_course_25 : decode cX12_course 25 = .ok (.aload_n 0, 1) := by decide +kernel
theorem dX12_course_26 : decode cX12_course 26 = .ok (.getfield 484, 3) := by decide +kernel
theorem dX12_course_29 : decode cX12_course 29 = .ok (.bipush 10, 2) := by decide +kernel
theorem dX12_course_31 : decode cX12_course 31 = .ok (.if_icmp .le 6, 3) := by decide +kernel
theorem dX12_course_34 : decode cX12_course 34 = .ok (.bipush (-2), 2) := by decide +kernel
theorem dX12_course_36 : decode cX12_course 36 = .ok (.ireturn, 1) := by decide +kernel
theorem dX12_course_37 : decode cX12_course 37 = .ok (.iconst 0, 1) := by decide +kernel
theorem dX12_course_38 : decode cX12_course 38 = .ok (.istore_n 3, 1) := by decide +kernel
theorem dX12_course_39 : decode cX12_course 39 = .ok (.iload_n 3, 1) := by decide +kernel
theorem dX12_course_40 : decode cX12_course 40 = .ok (.bipush 9, 2) := by decide +kernel
theorem dX12_course_42 : decode cX12_course 42 = .ok (.if_icmp .gt 54, 3) := by decide +kernel
theorem dX12_course_45 : decode cX12_course 45 = .ok (.iconst 0, 1) := by decide +kernel
theorem dX12_course_46 : decode cX12_course 46 = .ok (.istore 4, 2) := by decide +kernel
theorem dX12_course_48 : decode cX12_course 48 = .ok (.iload 4, 2) := by decide +kernel
theorem dX12_course_50 : decode cX12_course 50 = .ok (.aload_n 0, 1) := by decide +kernel
theorem dX12_course_51 : decode cX12_course 51 = .ok (.getfield 484, 3) := by decide +kernel
theorem dX12_course_54 : decode cX12_course 54 = .ok (.if_icmp .ge 36, 3) := by decide +kernel
theorem dX12_course_57 : decode cX12_course 57 = .ok (.aload_n 0, 1) := by decide +kernel
theorem dX12_course_58 : decode cX12_course 58 = .ok (.getfield 108, 3) := by decide +kernel
theorem dX12_course_61 : decode cX12_course 61 = .ok (.bipush 10, 2) := by decide +kernel
theorem dX12_course_63 : decode cX12_course 63 = .ok (.iload_n 3, 1) := by decide +kernel
theorem dX12_course_64 : decode cX12_course 64 = .ok (.imul, 1) := by decide +kernel
theorem dX12_course_65 : decode cX12_course 65 = .ok (.iload 4, 2) := by decide +kernel
theorem dX12_course_67 : decode cX12_course 67 = .ok (.iadd, 1) := by decide +kernel
theorem dX12_course_68 : decode cX12_course 68 = .ok (.aload_n 0, 1) := by decide +kernel
theorem dX12_course_69 : decode cX12_course 69 = .ok (.aload_n 0, 1) := by decide +kernel
theorem dX12_course_70 : decode cX12_course 70 = .ok (.getfield 96, 3) := by decide +kernel
theorem dX12_course_73 : decode cX12_course 73 = .ok (.iload 4, 2) := by decide +kernel
theorem dX12_course_75 : decode cX12_course 75 = .ok (.iaload, 1) := by decide +kernel
theorem dX12_course_76 : decode cX12_course 76 = .ok (.iconst 0, 1) := by decide +kernel
theorem dX12_course_77 : decode cX12_course 77 = .ok (.iconst 0, 1) := by decide +kernel
theorem dX12_course_78 : decode cX12_course 78 = .ok (.iload_n 3, 1) := by decide +kernel
theorem dX12_course_79 : decode cX12_course 79 = .ok (.iconst 0, 1) := by decide +kernel
theorem dX12_course_80 : decode cX12_course 80 = .ok (.invokevirtual 368, 3) := by decide +kernel
theorem dX12_course_83 : decode cX12_course 83 = .ok (.iastore, 1) := by decide +kernel
theorem dX12_course_84 : decode cX12_course 84 = .ok (.iinc 4 1, 3) := by decide +kernel
theorem dX12_course_87 : decode cX12_course 87 = .ok (.goto (-39), 3) := by decide +kernel
theorem dX12_course_90 : decode cX12_course 90 = .ok (.iinc 3 1, 3) := by decide +kernel
theorem dX12_course_93 : decode cX12_course 93 = .ok (.goto (-54), 3) := by decide +kernel
theorem dX12_course_96 : decode cX12_course 96 = .ok (.iconst 1, 1) := by decide +kernel
theorem dX12_course_97 : decode cX12_course 97 = .ok (.aload_n 0, 1) := by decide +kernel
theorem dX12_course_98 : decode cX12_course 98 = .ok (.getfield 484, 3) := by decide +kernel
theorem dX12_course_101 : decode cX12_course 101 = .ok (.ishl, 1) := by decide +kernel
theorem dX12_course_102 : decode cX12_course 102 = .ok (.iconst 1, 1) := by decide +kernel
theorem dX12_course_103 : decode cX12_course 103 = .ok (.isub, 1) := by decide +kernel
theorem dX12_course_104 : decode cX12_course 104 = .ok (.istore_n 3, 1) := by decide +kernel
theorem dX12_course_105 : decode cX12_course 105 = .ok (.iconst 1, 1) := by decide +kernel
theorem dX12_course_106 : decode cX12_course 106 = .ok (.istore 4, 2) := by decide +kernel
theorem dX12_course_108 : decode cX12_course 108 = .ok (.iload 4, 2) := by decide +kernel
theorem dX12_course_110 : decode cX12_course 110 = .ok (.iload_n 3, 1) := by decide +kernel
theorem dX12_course_111 : decode cX12_course 111 = .ok (.if_icmp .gt 110, 3) := by decide +kernel
theorem dX12_course_114 : decode cX12_course 114 = .ok (.aload_n 0, 1) := by decide +kernel
theorem dX12_course_115 : decode cX12_course 115 = .ok (.getfield 102, 3) := by decide +kernel
theorem dX12_course_118 : decode cX12_course 118 = .ok (.iload 4, 2) := by decide +kernel
theorem dX12_course_120 : decode cX12_course 120 = .ok (.iload 4, 2) := by decide +kernel
theorem dX12_course_122 : decode cX12_course 122 = .ok (.iload 4, 2) := by decide +kernel
theorem dX12_course_124 : decode cX12_course 124 = .ok (.iconst 1, 1) := by decide +kernel
theorem dX12_course_125 : decode cX12_course 125 = .ok (.isub, 1) := by decide +kernel
theorem dX12_course_126 : decode cX12_course 126 = .ok (.iand, 1) := by decide +kernel
theorem dX12_course_127 : decode cX12_course 127 = .ok (.ifCond .ne 7, 3) := by decide +kernel
theorem dX12_course_130 : decode cX12_course 130 = .ok (.iconst 0, 1) := by decide +kernel
theorem dX12_course_131 : decode cX12_course 131 = .ok (.goto 6, 3) := by decide +kernel
theorem dX12_course_134 : decode cX12_course 134 = .ok (.sipush 1000, 3) := by decide +kernel
theorem dX12_course_137 : decode cX12_course 137 = .ok (.iastore, 1) := by decide +kernel
theorem dX12_course_138 : decode cX12_course 138 = .ok (.aload_n 0, 1) := by decide +kernel
theorem dX12_course_139 : decode cX12_course 139 = .ok (.getfield 105, 3) := by decide +kernel
theorem dX12_course_142 : decode cX12_course 142 = .ok (.iload 4, 2) := by decide +kernel
theorem dX12_course_144 : decode cX12_course 144 = .ok (.iconst (-1), 1) := by decide +kernel
theorem dX12_course_145 : decode cX12_course 145 = .ok (.iastore, 1) := by decide +kernel
theorem dX12_course_146 : decode cX12_course 146 = .ok (.iconst 0, 1) := by decide +kernel
theorem dX12_course_147 : decode cX12_course 147 = .ok (.istore 5, 2) := by decide +kernel
theorem dX12_course_149 : decode cX12_course 149 = .ok (.iload 5, 2) := by decide +kernel
theorem dX12_course_151 : decode cX12_course 151 = .ok (.bipush 9, 2) := by decide +kernel
theorem dX12_course_153 : decode cX12_course 153 = .ok (.if_icmp .gt 62, 3) := by decide +kernel
theorem dX12_course_156 : decode cX12_course 156 = .ok (.aload_n 0, 1) := by decide +kernel
theorem dX12_course_157 : decode cX12_course 157 = .ok (.getfield 102, 3) := by decide +kernel
theorem dX12_course_160 : decode cX12_course 160 = .ok (.iload 4, 2) := by decide +kernel
theorem dX12_course_162 : decode cX12_course 162 = .ok (.iaload, 1) := by decide +kernel
theorem dX12_course_163 : decode cX12_course 163 = .ok (.ifCond .le 52, 3) := by decide +kernel
theorem dX12_course_166 : decode cX12_course 166 = .ok (.aload_n 0, 1) := by decide +kernel
theorem dX12_course_167 : decode cX12_course 167 = .ok (.iload 4, 2) := by decide +kernel
theorem dX12_course_169 : decode cX12_course 169 = .ok (.iload 5, 2) := by decide +kernel
theorem dX12_course_171 : decode cX12_course 171 = .ok (.invokevirtual 499, 3) := by decide +kernel
theorem dX12_course_174 : decode cX12_course 174 = .ok (.istore 6, 2) := by decide +kernel
theorem dX12_course_176 : decode cX12_course 176 = .ok (.iload 6, 2) := by decide +kernel
theorem dX12_course_178 : decode cX12_course 178 = .ok (.aload_n 0, 1) := by decide +kernel
theorem dX12_course_179 : decode cX12_course 179 = .ok (.getfield 102, 3) := by decide +kernel
theorem dX12_course_182 : decode cX12_course 182 = .ok (.iload 4, 2) := by decide +kernel
theorem dX12_course_184 : decode cX12_course 184 = .ok (.iaload, 1) := by decide +kernel
theorem dX12_course_185 : decode cX12_course 185 = .ok (.if_icmp .lt 6, 3) := by decide +kernel
theorem dX12_course_188 : decode cX12_course 188 = .ok (.goto 21, 3) := by decide +kernel
theorem dX12_course_191 : decode cX12_course 191 = .ok (.aload_n 0, 1) := by decide +kernel
theorem dX12_course_192 : decode cX12_course 192 = .ok (.getfield 102, 3) := by decide +kernel
theorem dX12_course_195 : decode cX12_course 195 = .ok (.iload 4, 2) := by decide +kernel
theorem dX12_course_197 : decode cX12_course 197 = .ok (.iload 6, 2) := by decide +kernel
theorem dX12_course_199 : decode cX12_course 199 = .ok (.iastore, 1) := by decide +kernel
theorem dX12_course_200 : decode cX12_course 200 = .ok (.aload_n 0, 1) := by decide +kernel
theorem dX12_course_201 : decode cX12_course 201 = .ok (.getfield 105, 3) := by decide +kernel
theorem dX12_course_204 : decode cX12_course 204 = .ok (.iload 4, 2) := by decide +kernel
theorem dX12_course_206 : decode cX12_course 206 = .ok (.iload 5, 2) := by decide +kernel
theorem dX12_course_208 : decode cX12_course 208 = .ok (.iastore, 1) := by decide +kernel
theorem dX12_course_209 : decode cX12_course 209 = .ok (.iinc 5 1, 3) := by decide +kernel
theorem dX12_course_212 : decode cX12_course 212 = .ok (.goto (-63), 3) := by decide +kernel
theorem dX12_course_215 : decode cX12_course 215 = .ok (.iinc 4 1, 3) := by decide +kernel
theorem dX12_course_218 : decode cX12_course 218 = .ok (.goto (-110), 3) := by decide +kernel
theorem dX12_course_221 : decode cX12_course 221 = .ok (.aload_n 0, 1) := by decide +kernel
theorem dX12_course_222 : decode cX12_course 222 = .ok (.getfield 102, 3) := by decide +kernel
theorem dX12_course_225 : decode cX12_course 225 = .ok (.iload_n 3, 1) := by decide +kernel
theorem dX12_course_226 : decode cX12_course 226 = .ok (.iaload, 1) := by decide +kernel
theorem dX12_course_227 : decode cX12_course 227 = .ok (.sipush 1000, 3) := by decide +kernel
theorem dX12_course_230 : decode cX12_course 230 = .ok (.if_icmp .lt 7, 3) := by decide +kernel
theorem dX12_course_233 : decode cX12_course 233 = .ok (.iconst (-1), 1) := by decide +kernel
theorem dX12_course_234 : decode cX12_course 234 = .ok (.goto 22, 3) := by decide +kernel
theorem dX12_course_237 : decode cX12_course 237 = .ok (.iload_n 1, 1) := by decide +kernel
theorem dX12_course_238 : decode cX12_course 238 = .ok (.ifCond .ne 12, 3) := by decide +kernel
theorem dX12_course_241 : decode cX12_course 241 = .ok (.aload_n 0, 1) := by decide +kernel
theorem dX12_course_242 : decode cX12_course 242 = .ok (.getfield 102, 3) := by decide +kernel
theorem dX12_course_245 : decode cX12_course 245 = .ok (.iload_n 3, 1) := by decide +kernel
theorem dX12_course_246 : decode cX12_course 246 = .ok (.iaload, 1) := by decide +kernel
theorem dX12_course_247 : decode cX12_course 247 = .ok (.goto 9, 3) := by decide +kernel
theorem dX12_course_250 : decode cX12_course 250 = .ok (.aload_n 0, 1) := by decide +kernel
theorem dX12_course_251 : decode cX12_course 251 = .ok (.getfield 105, 3) := by decide +kernel
theorem dX12_course_254 : decode cX12_course 254 = .ok (.iload_n 3, 1) := by decide +kernel
theorem dX12_course_255 : decode cX12_course 255 = .ok (.iaload, 1) := by decide +kernel
theorem dX12_course_256 : decode cX12_course 256 = .ok (.ireturn, 1) := by decide +kernel
theorem dX12_isBox_0 : decode cX12_isBox 0 = .ok (.iload_n 0, 1) := by decide +kernel
theorem dX12_isBox_1 : decode cX12_isBox 1 = .ok (.ifCond .lt 12, 3) := by decide +kernel
theorem dX12_isBox_4 : decode cX12_isBox 4 = .ok (.iload_n 0, 1) := by decide +kernel
theorem dX12_isBox_5 : decode cX12_isBox 5 = .ok (.iconst 3, 1) := by decide +kernel
theorem dX12_isBox_6 : decode cX12_isBox 6 = .ok (.if_icmp .ge 7, 3) := by decide +kernel
theorem dX12_isBox_9 : decode cX12_isBox 9 = .ok (.iconst 1, 1) := by decide +kernel
theorem dX12_isBox_10 : decode cX12_isBox 10 = .ok (.goto 4, 3) := by decide +kernel
theorem dX12_isBox_13 : decode cX12_isBox 13 = .ok (.iconst 0, 1) := by decide +kernel
theorem dX12_isBox_14 : decode cX12_isBox 14 = .ok (.ireturn, 1) := by decide +kernel
theorem dX12_image_0 : decode cX12_image 0 = .ok (.iload_n 1, 1) := by decide +kernel
theorem dX12_image_1 : decode cX12_image 1 = .ok (.invokestatic 502, 3) := by decide +kernel
theorem dX12_image_4 : decode cX12_image 4 = .ok (.ifCond .ne 5, 3) := by decide +kernel
theorem dX12_image_7 : decode cX12_image 7 = .ok (.iconst (-1), 1) := by decide +kernel
theorem dX12_image_8 : decode cX12_image 8 = .ok (.ireturn, 1) := by decide +kernel
theorem dX12_image_9 : decode cX12_image 9 = .ok (.aload_n 0, 1) := by decide +kernel
theorem dX12_image_10 : decode cX12_image 10 = .ok (.getfield 111, 3) := by decide +kernel
theorem dX12_image_13 : decode cX12_image 13 = .ok (.iload_n 1, 1) := by decide +kernel
theorem dX12_image_14 : decode cX12_image 14 = .ok (.iconst 1, 1) := by decide +kernel
theorem dX12_image_15 : decode cX12_image 15 = .ok (.bastore, 1) := by decide +kernel
theorem dX12_image_16 : decode cX12_image 16 = .ok (.iconst 0, 1) := by decide +kernel
theorem dX12_image_17 : decode cX12_image 17 = .ok (.istore_n 2, 1) := by decide +kernel
theorem dX12_image_18 : decode cX12_image 18 = .ok (.iload_n 2, 1) := by decide +kernel
theorem dX12_image_19 : decode cX12_image 19 = .ok (.bipush 38, 2) := by decide +kernel
theorem dX12_image_21 : decode cX12_image 21 = .ok (.if_icmp .ge 26, 3) := by decide +kernel
theorem dX12_image_24 : decode cX12_image 24 = .ok (.aload_n 0, 1) := by decide +kernel
theorem dX12_image_25 : decode cX12_image 25 = .ok (.getfield 115, 3) := by decide +kernel
theorem dX12_image_28 : decode cX12_image 28 = .ok (.bipush 40, 2) := by decide +kernel
theorem dX12_image_30 : decode cX12_image 30 = .ok (.iload_n 1, 1) := by decide +kernel
theorem dX12_image_31 : decode cX12_image 31 = .ok (.imul, 1) := by decide +kernel
theorem dX12_image_32 : decode cX12_image 32 = .ok (.iload_n 2, 1) := by decide +kernel
theorem dX12_image_33 : decode cX12_image 33 = .ok (.iadd, 1) := by decide +kernel
theorem dX12_image_34 : decode cX12_image 34 = .ok (.aload_n 0, 1) := by decide +kernel
theorem dX12_image_35 : decode cX12_image 35 = .ok (.getfield 54, 3) := by decide +kernel
theorem dX12_image_38 : decode cX12_image 38 = .ok (.iload_n 2, 1) := by decide +kernel
theorem dX12_image_39 : decode cX12_image 39 = .ok (.iaload, 1) := by decide +kernel
theorem dX12_image_40 : decode cX12_image 40 = .ok (.iastore, 1) := by decide +kernel
theorem dX12_image_41 : decode cX12_image 41 = .ok (.iinc 2 1, 3) := by decide +kernel
theorem dX12_image_44 : decode cX12_image 44 = .ok (.goto (-26), 3) := by decide +kernel
theorem dX12_image_47 : decode cX12_image 47 = .ok (.aload_n 0, 1) := by decide +kernel
theorem dX12_image_48 : decode cX12_image 48 = .ok (.getfield 54, 3) := by decide +kernel
theorem dX12_image_51 : decode cX12_image 51 = .ok (.bipush 37, 2) := by decide +kernel
theorem dX12_image_53 : decode cX12_image 53 = .ok (.iaload, 1) := by decide +kernel
theorem dX12_image_54 : decode cX12_image 54 = .ok (.ireturn, 1) := by decide +kernel
theorem dX12_back_0 : decode cX12_back 0 = .ok (.iload_n 1, 1) := by decide +kernel
theorem dX12_back_1 : decode cX12_back 1 = .ok (.invokestatic 502, 3) := by decide +kernel
theorem dX12_back_4 : decode cX12_back 4 = .ok (.ifCond .eq 12, 3) := by decide +kernel
theorem dX12_back_7 : decode cX12_back 7 = .ok (.aload_n 0, 1) := by decide +kernel
theorem dX12_back_8 : decode cX12_back 8 = .ok (.getfield 111, 3) := by decide +kernel
theorem dX12_back_11 : decode cX12_back 11 = .ok (.iload_n 1, 1) := by decide +kernel
theorem dX12_back_12 : decode cX12_back 12 = .ok (.baload, 1) := by decide +kernel
theorem dX12_back_13 : decode cX12_back 13 = .ok (.ifCond .ne 5, 3) := by decide +kernel
theorem dX12_back_16 : decode cX12_back 16 = .ok (.iconst (-1), 1) := by decide +kernel
theorem dX12_back_17 : decode cX12_back 17 = .ok (.ireturn, 1) := by decide +kernel
theorem dX12_back_18 : decode cX12_back 18 = .ok (.iconst 0, 1) := by decide +kernel
theorem dX12_back_19 : decode cX12_back 19 = .ok (.istore_n 2, 1) := by decide +kernel
theorem dX12_back_20 : decode cX12_back 20 = .ok (.iload_n 2, 1) := by decide +kernel
theorem dX12_back_21 : decode cX12_back 21 = .ok (.bipush 38, 2) := by decide +kernel
theorem dX12_back_23 : decode cX12_back 23 = .ok (.if_icmp .ge 26, 3) := by decide +kernel
theorem dX12_back_26 : decode cX12_back 26 = .ok (.aload_n 0, 1) := by decide +kernel
theorem dX12_back_27 : decode cX12_back 27 = .ok (.getfield 54, 3) := by decide +kernel
theorem dX12_back_30 : decode cX12_back 30 = .ok (.iload_n 2, 1) := by decide +kernel
theorem dX12_back_31 : decode cX12_back 31 = .ok (.aload_n 0, 1) := by decide +kernel
theorem dX12_back_32 : decode cX12_back 32 = .ok (.getfield 115, 3) := by decide +kernel
theorem dX12_back_35 : decode cX12_back 35 = .ok (.bipush 40, 2) := by decide +kernel
theorem dX12_back_37 : decode cX12_back 37 = .ok (.iload_n 1, 1) := by decide +kernel
theorem dX12_back_38 : decode cX12_back 38 = .ok (.imul, 1) := by decide +kernel
theorem dX12_back_39 : decode cX12_back 39 = .ok (.iload_n 2, 1) := by decide +kernel
theorem dX12_back_40 : decode cX12_back 40 = .ok (.iadd, 1) := by decide +kernel
theorem dX12_back_41 : decode cX12_back 41 = .ok (.iaload, 1) := by decide +kernel
theorem dX12_back_42 : decode cX12_back 42 = .ok (.iastore, 1) := by decide +kernel
theorem dX12_back_43 : decode cX12_back 43 = .ok (.iinc 2 1, 3) := by decide +kernel
theorem dX12_back_46 : decode cX12_back 46 = .ok (.goto (-26), 3) := by decide +kernel
theorem dX12_back_49 : decode cX12_back 49 = .ok (.aload_n 0, 1) := by decide +kernel
theorem dX12_back_50 : decode cX12_back 50 = .ok (.iconst 0, 1) := by decide +kernel
theorem dX12_back_51 : decode cX12_back 51 = .ok (.putfield 348, 3) := by decide +kernel
theorem dX12_back_54 : decode cX12_back 54 = .ok (.aload_n 0, 1) := by decide +kernel
theorem dX12_back_55 : decode cX12_back 55 = .ok (.iconst 0, 1) := by decide +kernel
theorem dX12_back_56 : decode cX12_back 56 = .ok (.putfield 351, 3) := by decide +kernel
theorem dX12_back_59 : decode cX12_back 59 = .ok (.aload_n 0, 1) := by decide +kernel
theorem dX12_back_60 : decode cX12_back 60 = .ok (.getfield 54, 3) := by decide +kernel
theorem dX12_back_63 : decode cX12_back 63 = .ok (.bipush 37, 2) := by decide +kernel
theorem dX12_back_65 : decode cX12_back 65 = .ok (.iaload, 1) := by decide +kernel
theorem dX12_back_66 : decode cX12_back 66 = .ok (.ireturn, 1) := by decide +kernel
theorem dX12_feudsNow_0 : decode cX12_feudsNow 0 = .ok (.iconst 0, 1) := by decide +kernel
theorem dX12_feudsNow_1 : decode cX12_feudsNow 1 = .ok (.istore_n 1, 1) := by decide +kernel
theorem dX12_feudsNow_2 : decode cX12_feudsNow 2 = .ok (.iconst 0, 1) := by decide +kernel
theorem dX12_feudsNow_3 : decode cX12_feudsNow 3 = .ok (.istore_n 2, 1) := by decide +kernel
theorem dX12_feudsNow_4 : decode cX12_feudsNow 4 = .ok (.iload_n 2, 1) := by decide +kernel
theorem dX12_feudsNow_5 : decode cX12_feudsNow 5 = .ok (.aload_n 0, 1) := by decide +kernel
theorem dX12_feudsNow_6 : decode cX12_feudsNow 6 = .ok (.getfield 342, 3) := by decide +kernel
theorem dX12_feudsNow_9 : decode cX12_feudsNow 9 = .ok (.if_icmp .ge 34, 3) := by decide +kernel
theorem dX12_feudsNow_12 : decode cX12_feudsNow 12 = .ok (.iconst 0, 1) := by decide +kernel
theorem dX12_feudsNow_13 : decode cX12_feudsNow 13 = .ok (.istore_n 3, 1) := by decide +kernel
theorem dX12_feudsNow_14 : decode cX12_feudsNow 14 = .ok (.iload_n 3, 1) := by decide +kernel
theorem dX12_feudsNow_15 : decode cX12_feudsNow 15 = .ok (.iload_n 2, 1) := by decide +kernel
theorem dX12_feudsNow_16 : decode cX12_feudsNow 16 = .ok (.if_icmp .ge 21, 3) := by decide +kernel
theorem dX12_feudsNow_19 : decode cX12_feudsNow 19 = .ok (.iload_n 1, 1) := by decide +kernel
theorem dX12_feudsNow_20 : decode cX12_feudsNow 20 = .ok (.aload_n 0, 1) := by decide +kernel
theorem dX12_feudsNow_21 : decode cX12_feudsNow 21 = .ok (.iload_n 2, 1) := by decide +kernel
theorem dX12_feudsNow_22 : decode cX12_feudsNow 22 = .ok (.iload_n 3, 1) := by decide +kernel
theorem dX12_feudsNow_23 : decode cX12_feudsNow 23 = .ok (.invokevirtual 364, 3) := by decide +kernel
theorem dX12_feudsNow_26 : decode cX12_feudsNow 26 = .ok (.invokestatic 278, 3) := by decide +kernel
theorem dX12_feudsNow_29 : decode cX12_feudsNow 29 = .ok (.iadd, 1) := by decide +kernel
theorem dX12_feudsNow_30 : decode cX12_feudsNow 30 = .ok (.istore_n 1, 1) := by decide +kernel
theorem dX12_feudsNow_31 : decode cX12_feudsNow 31 = .ok (.iinc 3 1, 3) := by decide +kernel
theorem dX12_feudsNow_34 : decode cX12_feudsNow 34 = .ok (.goto (-20), 3) := by decide +kernel
theorem dX12_feudsNow_37 : decode cX12_feudsNow 37 = .ok (.iinc 2 1, 3) := by decide +kernel
theorem dX12_feudsNow_40 : decode cX12_feudsNow 40 = .ok (.goto (-36), 3) := by decide +kernel
theorem dX12_feudsNow_43 : decode cX12_feudsNow 43 = .ok (.iload_n 1, 1) := by decide +kernel
theorem dX12_feudsNow_44 : decode cX12_feudsNow 44 = .ok (.ireturn, 1) := by decide +kernel
theorem dX12_about_0 : decode cX12_about 0 = .ok (.aload_n 0, 1) := by decide +kernel
theorem dX12_about_1 : decode cX12_about 1 = .ok (.invokevirtual 384, 3) := by decide +kernel
theorem dX12_about_4 : decode cX12_about 4 = .ok (.iload_n 1, 1) := by decide +kernel
theorem dX12_about_5 : decode cX12_about 5 = .ok (.tableswitch 150 0 13 #[71, 76, 81, 86, 94, 102, 110, 115, 120, 125, 130, 135, 140, 145], 71) := by decide +kernel
theorem dX12_about_76 : decode cX12_about 76 = .ok (.aload_n 0, 1) := by decide +kernel
theorem dX12_about_77 : decode cX12_about 77 = .ok (.getfield 342, 3) := by decide +kernel
theorem dX12_about_80 : decode cX12_about 80 = .ok (.ireturn, 1) := by decide +kernel
theorem dX12_about_81 : decode cX12_about 81 = .ok (.aload_n 0, 1) := by decide +kernel
theorem dX12_about_82 : decode cX12_about 82 = .ok (.getfield 339, 3) := by decide +kernel
theorem dX12_about_85 : decode cX12_about 85 = .ok (.ireturn, 1) := by decide +kernel
theorem dX12_about_86 : decode cX12_about 86 = .ok (.aload_n 0, 1) := by decide +kernel
theorem dX12_about_87 : decode cX12_about 87 = .ok (.invokevirtual 505, 3) := by decide +kernel
theorem dX12_about_90 : decode cX12_about 90 = .ok (.ireturn, 1) := by decide +kernel
theorem dX12_about_91 : decode cX12_about 91 = .ok (.aload_n 0, 1) := by decide +kernel
theorem dX12_about_92 : decode cX12_about 92 = .ok (.getfield 54, 3) := by decide +kernel
theorem dX12_about_95 : decode cX12_about 95 = .ok (.bipush 35, 2) := by decide +kernel
theorem dX12_about_97 : decode cX12_about 97 = .ok (.iaload, 1) := by decide +kernel
theorem dX12_about_98 : decode cX12_about 98 = .ok (.ireturn, 1) := by decide +kernel
theorem dX12_about_99 : decode cX12_about 99 = .ok (.aload_n 0, 1) := by decide +kernel
theorem dX12_about_100 : decode cX12_about 100 = .ok (.getfield 54, 3) := by decide +kernel
theorem dX12_about_103 : decode cX12_about 103 = .ok (.bipush 36, 2) := by decide +kernel
theorem dX12_about_105 : decode cX12_about 105 = .ok (.iaload, 1) := by decide +kernel
theorem dX12_about_106 : decode cX12_about 106 = .ok (.ireturn, 1) := by decide +kernel
theorem dX12_about_107 : decode cX12_about 107 = .ok (.aload_n 0, 1) := by decide +kernel
theorem dX12_about_108 : decode cX12_about 108 = .ok (.getfield 54, 3) := by decide +kernel
theorem dX12_about_111 : decode cX12_about 111 = .ok (.bipush 37, 2) := by decide +kernel
theorem dX12_about_113 : decode cX12_about 113 = .ok (.iaload, 1) := by decide +kernel
theorem dX12_about_114 : decode cX12_about 114 = .ok (.ireturn, 1) := by decide +kernel
theorem dX12_about_115 : decode cX12_about 115 = .ok (.aload_n 0, 1) := by decide +kernel
theorem dX12_about_116 : decode cX12_about 116 = .ok (.invokevirtual 372, 3) := by decide +kernel
theorem dX12_about_119 : decode cX12_about 119 = .ok (.ireturn, 1) := by decide +kernel
theorem dX12_about_120 : decode cX12_about 120 = .ok (.aload_n 0, 1) := by decide +kernel
theorem dX12_about_121 : decode cX12_about 121 = .ok (.getfield 348, 3) := by decide +kernel
theorem dX12_about_124 : decode cX12_about 124 = .ok (.ireturn, 1) := by decide +kernel
theorem dX12_about_125 : decode cX12_about 125 = .ok (.aload_n 0, 1) := by decide +kernel
theorem dX12_about_126 : decode cX12_about 126 = .ok (.getfield 351, 3) := by decide +kernel
theorem dX12_about_129 : decode cX12_about 129 = .ok (.ireturn, 1) := by decide +kernel
theorem dX12_about_130 : decode cX12_about 130 = .ok (.aload_n 0, 1) := by decide +kernel
theorem dX12_about_131 : decode cX12_about 131 = .ok (.getfield 354, 3) := by decide +kernel
theorem dX12_about_134 : decode cX12_about 134 = .ok (.ireturn, 1) := by decide +kernel
theorem dX12_about_135 : decode cX12_about 135 = .ok (.aload_n 0, 1) := by decide +kernel
theorem dX12_about_136 : decode cX12_about 136 = .ok (.getfield 480, 3) := by decide +kernel
theorem dX12_about_139 : decode cX12_about 139 = .ok (.ireturn, 1) := by decide +kernel
theorem dX12_about_140 : decode cX12_about 140 = .ok (.aload_n 0, 1) := by decide +kernel
theorem dX12_about_141 : decode cX12_about 141 = .ok (.getfield 118, 3) := by decide +kernel
theorem dX12_about_144 : decode cX12_about 144 = .ok (.ireturn, 1) := by decide +kernel
theorem dX12_about_145 : decode cX12_about 145 = .ok (.aload_n 0, 1) := by decide +kernel
theorem dX12_about_146 : decode cX12_about 146 = .ok (.getfield 345, 3) := by decide +kernel
theorem dX12_about_149 : decode cX12_about 149 = .ok (.ireturn, 1) := by decide +kernel
theorem dX12_about_150 : decode cX12_about 150 = .ok (.aload_n 0, 1) := by decide +kernel
theorem dX12_about_151 : decode cX12_about 151 = .ok (.getfield 357, 3) := by decide +kernel
theorem dX12_about_154 : decode cX12_about 154 = .ok (.ireturn, 1) := by decide +kernel
theorem dX12_about_155 : decode cX12_about 155 = .ok (.iconst (-1), 1) := by decide +kernel
theorem dX12_about_156 : decode cX12_about 156 = .ok (.ireturn, 1) := by decide +kernel
theorem dJ11_isValidCodePoint_9a6ad_0 : decode cJ11_isValidCodePoint_9a6ad 0 = .ok (.iload_n 0, 1) := by decide +kernel
theorem dJ11_isValidCodePoint_9a6ad_1 : decode cJ11_isValidCodePoint_9a6ad 1 = .ok (.bipush 16, 2) := by decide +kernel
theorem dJ11_isValidCodePoint_9a6ad_3 : decode cJ11_isValidCodePoint_9a6ad 3 = .ok (.iushr, 1) := by decide +kernel
theorem dJ11_isValidCodePoint_9a6ad_4 : decode cJ11_isValidCodePoint_9a6ad 4 = .ok (.istore_n 1, 1) := by decide +kernel
theorem dJ11_isValidCodePoint_9a6ad_5 : decode cJ11_isValidCodePoint_9a6ad 5 = .ok (.iload_n 1, 1) := by decide +kernel
theorem dJ11_isValidCodePoint_9a6ad_6 : decode cJ11_isValidCodePoint_9a6ad 6 = .ok (.bipush 17, 2) := by decide +kernel
theorem dJ11_isValidCodePoint_9a6ad_8 : decode cJ11_isValidCodePoint_9a6ad 8 = .ok (.if_icmp .ge 7, 3) := by decide +kernel
theorem dJ11_isValidCodePoint_9a6ad_11 : decode cJ11_isValidCodePoint_9a6ad 11 = .ok (.iconst 1, 1) := by decide +kernel
theorem dJ11_isValidCodePoint_9a6ad_12 : decode cJ11_isValidCodePoint_9a6ad 12 = .ok (.goto 4, 3) := by decide +kernel
theorem dJ11_isValidCodePoint_9a6ad_15 : decode cJ11_isValidCodePoint_9a6ad 15 = .ok (.iconst 0, 1) := by decide +kernel
theorem dJ11_isValidCodePoint_9a6ad_16 : decode cJ11_isValidCodePoint_9a6ad 16 = .ok (.ireturn, 1) := by decide +kernel
theorem dJ11_highSurrogate_5068e_0 : decode cJ11_highSurrogate_5068e 0 = .ok (.iload_n 0, 1) := by decide +kernel
theorem dJ11_highSurrogate_5068e_1 : decode cJ11_highSurrogate_5068e 1 = .ok (.bipush 10, 2) := by decide +kernel
theorem dJ11_highSurrogate_5068e_3 : decode cJ11_highSurrogate_5068e 3 = .ok (.iushr, 1) := by decide +kernel
theorem dJ11_highSurrogate_5068e_4 : decode cJ11_highSurrogate_5068e 4 = .ok (.ldc 110, 2) := by decide +kernel
theorem dJ11_highSurrogate_5068e_6 : decode cJ11_highSurrogate_5068e 6 = .ok (.iadd, 1) := by decide +kernel
theorem dJ11_highSurrogate_5068e_7 : decode cJ11_highSurrogate_5068e 7 = .ok (.i2c, 1) := by decide +kernel
theorem dJ11_highSurrogate_5068e_8 : decode cJ11_highSurrogate_5068e 8 = .ok (.ireturn, 1) := by decide +kernel
theorem dJ11_lowSurrogate_5068e_0 : decode cJ11_lowSurrogate_5068e 0 = .ok (.iload_n 0, 1) := by decide +kernel
theorem dJ11_lowSurrogate_5068e_1 : decode cJ11_lowSurrogate_5068e 1 = .ok (.sipush 1023, 3) := by decide +kernel
theorem dJ11_lowSurrogate_5068e_4 : decode cJ11_lowSurrogate_5068e 4 = .ok (.iand, 1) := by decide +kernel
theorem dJ11_lowSurrogate_5068e_5 : decode cJ11_lowSurrogate_5068e 5 = .ok (.ldc 76, 2) := by decide +kernel
theorem dJ11_lowSurrogate_5068e_7 : decode cJ11_lowSurrogate_5068e 7 = .ok (.iadd, 1) := by decide +kernel
theorem dJ11_lowSurrogate_5068e_8 : decode cJ11_lowSurrogate_5068e 8 = .ok (.i2c, 1) := by decide +kernel
theorem dJ11_lowSurrogate_5068e_9 : decode cJ11_lowSurrogate_5068e 9 = .ok (.ireturn, 1) := by decide +kernel
theorem dJ6_bitCount_0f7a4_0 : decode cJ6_bitCount_0f7a4 0 = .ok (.iload_n 0, 1) := by decide +kernel
theorem dJ6_bitCount_0f7a4_1 : decode cJ6_bitCount_0f7a4 1 = .ok (.iload_n 0, 1) := by decide +kernel
theorem dJ6_bitCount_0f7a4_2 : decode cJ6_bitCount_0f7a4 2 = .ok (.iconst 1, 1) := by decide +kernel
theorem dJ6_bitCount_0f7a4_3 : decode cJ6_bitCount_0f7a4 3 = .ok (.iushr, 1) := by decide +kernel
theorem dJ6_bitCount_0f7a4_4 : decode cJ6_bitCount_0f7a4 4 = .ok (.ldc_w 265, 3) := by decide +kernel
theorem dJ6_bitCount_0f7a4_7 : decode cJ6_bitCount_0f7a4 7 = .ok (.iand, 1) := by decide +kernel
theorem dJ6_bitCount_0f7a4_8 : decode cJ6_bitCount_0f7a4 8 = .ok (.isub, 1) := by decide +kernel
theorem dJ6_bitCount_0f7a4_9 : decode cJ6_bitCount_0f7a4 9 = .ok (.istore_n 0, 1) := by decide +kernel
theorem dJ6_bitCount_0f7a4_10 : decode cJ6_bitCount_0f7a4 10 = .ok (.iload_n 0, 1) := by decide +kernel
theorem dJ6_bitCount_0f7a4_11 : decode cJ6_bitCount_0f7a4 11 = .ok (.ldc_w 266, 3) := by decide +kernel
theorem dJ6_bitCount_0f7a4_14 : decode cJ6_bitCount_0f7a4 14 = .ok (.iand, 1) := by decide +kernel
theorem dJ6_bitCount_0f7a4_15 : decode cJ6_bitCount_0f7a4 15 = .ok (.iload_n 0, 1) := by decide +kernel
theorem dJ6_bitCount_0f7a4_16 : decode cJ6_bitCount_0f7a4 16 = .ok (.iconst 2, 1) := by decide +kernel
theorem dJ6_bitCount_0f7a4_17 : decode cJ6_bitCount_0f7a4 17 = .ok (.iushr, 1) := by decide +kernel
theorem dJ6_bitCount_0f7a4_18 : decode cJ6_bitCount_0f7a4 18 = .ok (.ldc_w 266, 3) := by decide +kernel
theorem dJ6_bitCount_0f7a4_21 : decode cJ6_bitCount_0f7a4 21 = .ok (.iand, 1) := by decide +kernel
theorem dJ6_bitCount_0f7a4_22 : decode cJ6_bitCount_0f7a4 22 = .ok (.iadd, 1) := by decide +kernel
theorem dJ6_bitCount_0f7a4_23 : decode cJ6_bitCount_0f7a4 23 = .ok (.istore_n 0, 1) := by decide +kernel
theorem dJ6_bitCount_0f7a4_24 : decode cJ6_bitCount_0f7a4 24 = .ok (.iload_n 0, 1) := by decide +kernel
theorem dJ6_bitCount_0f7a4_25 : decode cJ6_bitCount_0f7a4 25 = .ok (.iload_n 0, 1) := by decide +kernel
theorem dJ6_bitCount_0f7a4_26 : decode cJ6_bitCount_0f7a4 26 = .ok (.iconst 4, 1) := by decide +kernel
theorem dJ6_bitCount_0f7a4_27 : decode cJ6_bitCount_0f7a4 27 = .ok (.iushr, 1) := by decide +kernel
theorem dJ6_bitCount_0f7a4_28 : decode cJ6_bitCount_0f7a4 28 = .ok (.iadd, 1) := by decide +kernel
theorem dJ6_bitCount_0f7a4_29 : decode cJ6_bitCount_0f7a4 29 = .ok (.ldc_w 267, 3) := by decide +kernel
theorem dJ6_bitCount_0f7a4_32 : decode cJ6_bitCount_0f7a4 32 = .ok (.iand, 1) := by decide +kernel
theorem dJ6_bitCount_0f7a4_33 : decode cJ6_bitCount_0f7a4 33 = .ok (.istore_n 0, 1) := by decide +kernel
theorem dJ6_bitCount_0f7a4_34 : decode cJ6_bitCount_0f7a4 34 = .ok (.iload_n 0, 1) := by decide +kernel
theorem dJ6_bitCount_0f7a4_35 : decode cJ6_bitCount_0f7a4 35 = .ok (.iload_n 0, 1) := by decide +kernel
theorem dJ6_bitCount_0f7a4_36 : decode cJ6_bitCount_0f7a4 36 = .ok (.bipush 8, 2) := by decide +kernel
theorem dJ6_bitCount_0f7a4_38 : decode cJ6_bitCount_0f7a4 38 = .ok (.iushr, 1) := by decide +kernel
theorem dJ6_bitCount_0f7a4_39 : decode cJ6_bitCount_0f7a4 39 = .ok (.iadd, 1) := by decide +kernel
theorem dJ6_bitCount_0f7a4_40 : decode cJ6_bitCount_0f7a4 40 = .ok (.istore_n 0, 1) := by decide +kernel
theorem dJ6_bitCount_0f7a4_41 : decode cJ6_bitCount_0f7a4 41 = .ok (.iload_n 0, 1) := by decide +kernel
theorem dJ6_bitCount_0f7a4_42 : decode cJ6_bitCount_0f7a4 42 = .ok (.iload_n 0, 1) := by decide +kernel
theorem dJ6_bitCount_0f7a4_43 : decode cJ6_bitCount_0f7a4 43 = .ok (.bipush 16, 2) := by decide +kernel
theorem dJ6_bitCount_0f7a4_45 : decode cJ6_bitCount_0f7a4 45 = .ok (.iushr, 1) := by decide +kernel
theorem dJ6_bitCount_0f7a4_46 : decode cJ6_bitCount_0f7a4 46 = .ok (.iadd, 1) := by decide +kernel
theorem dJ6_bitCount_0f7a4_47 : decode cJ6_bitCount_0f7a4 47 = .ok (.istore_n 0, 1) := by decide +kernel
theorem dJ6_bitCount_0f7a4_48 : decode cJ6_bitCount_0f7a4 48 = .ok (.iload_n 0, 1) := by decide +kernel
theorem dJ6_bitCount_0f7a4_49 : decode cJ6_bitCount_0f7a4 49 = .ok (.bipush 63, 2) := by decide +kernel
theorem dJ6_bitCount_0f7a4_51 : decode cJ6_bitCount_0f7a4 51 = .ok (.iand, 1) := by decide +kernel
theorem dJ6_bitCount_0f7a4_52 : decode cJ6_bitCount_0f7a4 52 = .ok (.ireturn, 1) := by decide +kernel
theorem dJ9_max_7cf53_0 : decode cJ9_max_7cf53 0 = .ok (.iload_n 0, 1) := by decide +kernel
theorem dJ9_max_7cf53_1 : decode cJ9_max_7cf53 1 = .ok (.iload_n 1, 1) := by decide +kernel
theorem dJ9_max_7cf53_2 : decode cJ9_max_7cf53 2 = .ok (.if_icmp .lt 7, 3) := by decide +kernel
theorem dJ9_max_7cf53_5 : decode cJ9_max_7cf53 5 = .ok (.iload_n 0, 1) := by decide +kernel
theorem dJ9_max_7cf53_6 : decode cJ9_max_7cf53 6 = .ok (.goto 4, 3) := by decide +kernel
theorem dJ9_max_7cf53_9 : decode cJ9_max_7cf53 9 = .ok (.iload_n 1, 1) := by decide +kernel
theorem dJ9_max_7cf53_10 : decode cJ9_max_7cf53 10 = .ok (.ireturn, 1) := by decide +kernel
theorem dJ9_min_7cf53_0 : decode cJ9_min_7cf53 0 = .ok (.iload_n 0, 1) := by decide +kernel
theorem dJ9_min_7cf53_1 : decode cJ9_min_7cf53 1 = .ok (.iload_n 1, 1) := by decide +kernel
theorem dJ9_min_7cf53_2 : decode cJ9_min_7cf53 2 = .ok (.if_icmp .gt 7, 3) := by decide +kernel
theorem dJ9_min_7cf53_5 : decode cJ9_min_7cf53 5 = .ok (.iload_n 0, 1) := by decide +kernel
theorem dJ9_min_7cf53_6 : decode cJ9_min_7cf53 6 = .ok (.goto 4, 3) := by decide +kernel
theorem dJ9_min_7cf53_9 : decode cJ9_min_7cf53 9 = .ok (.iload_n 1, 1) := by decide +kernel
theorem dJ9_min_7cf53_10 : decode cJ9_min_7cf53 10 = .ok (.ireturn, 1) := by decide +kernel
theorem dJ0_length_8abf5_0 : decode cJ0_length_8abf5 0 = .ok (.aload_n 0, 1) := by decide +kernel
theorem dJ0_length_8abf5_1 : decode cJ0_length_8abf5 1 = .ok (.getfield 9, 3) := by decide +kernel
theorem dJ0_length_8abf5_4 : decode cJ0_length_8abf5 4 = .ok (.arraylength, 1) := by decide +kernel
theorem dJ0_length_8abf5_5 : decode cJ0_length_8abf5 5 = .ok (.aload_n 0, 1) := by decide +kernel
theorem dJ0_length_8abf5_6 : decode cJ0_length_8abf5 6 = .ok (.invokevirtual 335, 3) := by decide +kernel
theorem dJ0_length_8abf5_9 : decode cJ0_length_8abf5 9 = .ok (.ishr, 1) := by decide +kernel
theorem dJ0_length_8abf5_10 : decode cJ0_length_8abf5 10 = .ok (.ireturn, 1) := by decide +kernel
theorem dJ0_indexOf_0f7a4_0 : decode cJ0_indexOf_0f7a4 0 = .ok (.aload_n 0, 1) := by decide +kernel
theorem dJ0_indexOf_0f7a4_1 : decode cJ0_indexOf_0f7a4 1 = .ok (.iload_n 1, 1) := by decide +kernel
theorem dJ0_indexOf_0f7a4_2 : decode cJ0_indexOf_0f7a4 2 = .ok (.iconst 0, 1) := by decide +kernel
theorem dJ0_indexOf_0f7a4_3 : decode cJ0_indexOf_0f7a4 3 = .ok (.invokevirtual 633, 3) := by decide +kernel
theorem dJ0_indexOf_0f7a4_6 : decode cJ0_indexOf_0f7a4 6 = .ok (.ireturn, 1) := by decide +kernel
theorem dJ0_indexOf_7cf53_0 : decode cJ0_indexOf_7cf53 0 = .ok (.aload_n 0, 1) := by decide +kernel
theorem dJ0_indexOf_7cf53_1 : decode cJ0_indexOf_7cf53 1 = .ok (.invokevirtual 492, 3) := by decide +kernel
theorem dJ0_indexOf_7cf53_4 : decode cJ0_indexOf_7cf53 4 = .ok (.ifCond .eq 19, 3) := by decide +kernel
theorem dJ0_indexOf_7cf53_7 : decode cJ0_indexOf_7cf53 7 = .ok (.aload_n 0, 1) := by decide +kernel
theorem dJ0_indexOf_7cf53_8 : decode cJ0_indexOf_7cf53 8 = .ok (.getfield 9, 3) := by decide +kernel
theorem dJ0_indexOf_7cf53_11 : decode cJ0_indexOf_7cf53 11 = .ok (.iload_n 1, 1) := by decide +kernel
theorem dJ0_indexOf_7cf53_12 : decode cJ0_indexOf_7cf53 12 = .ok (.iload_n 2, 1) := by decide +kernel
theorem dJ0_indexOf_7cf53_13 : decode cJ0_indexOf_7cf53 13 = .ok (.aload_n 0, 1) := by decide +kernel
theorem dJ0_indexOf_7cf53_14 : decode cJ0_indexOf_7cf53 14 = .ok (.invokevirtual 505, 3) := by decide +kernel
theorem dJ0_indexOf_7cf53_17 : decode cJ0_indexOf_7cf53 17 = .ok (.invokestatic 637, 3) := by decide +kernel
theorem dJ0_indexOf_7cf53_20 : decode cJ0_indexOf_7cf53 20 = .ok (.goto 16, 3) := by decide +kernel
theorem dJ0_indexOf_7cf53_23 : decode cJ0_indexOf_7cf53 23 = .ok (.aload_n 0, 1) := by decide +kernel
theorem dJ0_indexOf_7cf53_24 : decode cJ0_indexOf_7cf53 24 = .ok (.getfield 9, 3) := by decide +kernel
theorem dJ0_indexOf_7cf53_27 : decode cJ0_indexOf_7cf53 27 = .ok (.iload_n 1, 1) := by decide +kernel
theorem dJ0_indexOf_7cf53_28 : decode cJ0_indexOf_7cf53 28 = .ok (.iload_n 2, 1) := by decide +kernel
theorem dJ0_indexOf_7cf53_29 : decode cJ0_indexOf_7cf53 29 = .ok (.aload_n 0, 1) := by decide +kernel
theorem dJ0_indexOf_7cf53_30 : decode cJ0_indexOf_7cf53 30 = .ok (.invokevirtual 505, 3) := by decide +kernel
theorem dJ0_indexOf_7cf53_33 : decode cJ0_indexOf_7cf53 33 = .ok (.invokestatic 640, 3) := by decide +kernel
theorem dJ0_indexOf_7cf53_36 : decode cJ0_indexOf_7cf53 36 = .ok (.ireturn, 1) := by decide +kernel
theorem dJ0_coder_7d493_0 : decode cJ0_coder_7d493 0 = .ok (.getstatic 38, 3) := by decide +kernel
theorem dJ0_coder_7d493_3 : decode cJ0_coder_7d493 3 = .ok (.ifCond .eq 10, 3) := by decide +kernel
theorem dJ0_coder_7d493_6 : decode cJ0_coder_7d493 6 = .ok (.aload_n 0, 1) := by decide +kernel
theorem dJ0_coder_7d493_7 : decode cJ0_coder_7d493 7 = .ok (.getfield 15, 3) := by decide +kernel
theorem dJ0_coder_7d493_10 : decode cJ0_coder_7d493 10 = .ok (.goto 4, 3) := by decide +kernel
theorem dJ0_coder_7d493_13 : decode cJ0_coder_7d493 13 = .ok (.iconst 1, 1) := by decide +kernel
theorem dJ0_coder_7d493_14 : decode cJ0_coder_7d493 14 = .ok (.ireturn, 1) := by decide +kernel
theorem dJ0_isLatin1_aae02_0 : decode cJ0_isLatin1_aae02 0 = .ok (.getstatic 38, 3) := by decide +kernel
theorem dJ0_isLatin1_aae02_3 : decode cJ0_isLatin1_aae02 3 = .ok (.ifCond .eq 14, 3) := by decide +kernel
theorem dJ0_isLatin1_aae02_6 : decode cJ0_isLatin1_aae02 6 = .ok (.aload_n 0, 1) := by decide +kernel
theorem dJ0_isLatin1_aae02_7 : decode cJ0_isLatin1_aae02 7 = .ok (.getfield 15, 3) := by decide +kernel
theorem dJ0_isLatin1_aae02_10 : decode cJ0_isLatin1_aae02 10 = .ok (.ifCond .ne 7, 3) := by decide +kernel
theorem dJ0_isLatin1_aae02_13 : decode cJ0_isLatin1_aae02 13 = .ok (.iconst 1, 1) := by decide +kernel
theorem dJ0_isLatin1_aae02_14 : decode cJ0_isLatin1_aae02 14 = .ok (.goto 4, 3) := by decide +kernel
theorem dJ0_isLatin1_aae02_17 : decode cJ0_isLatin1_aae02 17 = .ok (.iconst 0, 1) := by decide +kernel
theorem dJ0_isLatin1_aae02_18 : decode cJ0_isLatin1_aae02 18 = .ok (.ireturn, 1) := by decide +kernel
theorem dJ0_checkBoundsBeginEnd_23922_0 : decode cJ0_checkBoundsBeginEnd_23922 0 = .ok (.iload_n 0, 1) := by decide +kernel
theorem dJ0_checkBoundsBeginEnd_23922_1 : decode cJ0_checkBoundsBeginEnd_23922 1 = .ok (.iload_n 1, 1) := by decide +kernel
theorem dJ0_checkBoundsBeginEnd_23922_2 : decode cJ0_checkBoundsBeginEnd_23922 2 = .ok (.iload_n 2, 1) := by decide +kernel
theorem dJ0_checkBoundsBeginEnd_23922_3 : decode cJ0_checkBoundsBeginEnd_23922 3 = .ok (.getstatic 1053, 3) := by decide +kernel
theorem dJ0_checkBoundsBeginEnd_23922_6 : decode cJ0_checkBoundsBeginEnd_23922 6 = .ok (.invokestatic 1062, 3) := by decide +kernel
theorem dJ0_checkBoundsBeginEnd_23922_9 : decode cJ0_checkBoundsBeginEnd_23922 9 = .ok (.pop, 1) := by decide +kernel
theorem dJ0_checkBoundsBeginEnd_23922_10 : decode cJ0_checkBoundsBeginEnd_23922 10 = .ok (.return_, 1) := by decide +kernel
theorem dJ1_canEncode_9a6ad_0 : decode cJ1_canEncode_9a6ad 0 = .ok (.iload_n 0, 1) := by decide +kernel
theorem dJ1_canEncode_9a6ad_1 : decode cJ1_canEncode_9a6ad 1 = .ok (.ifCond .lt 14, 3) := by decide +kernel
theorem dJ1_canEncode_9a6ad_4 : decode cJ1_canEncode_9a6ad 4 = .ok (.iload_n 0, 1) := by decide +kernel
theorem dJ1_canEncode_9a6ad_5 : decode cJ1_canEncode_9a6ad 5 = .ok (.sipush 255, 3) := by decide +kernel
theorem dJ1_canEncode_9a6ad_8 : decode cJ1_canEncode_9a6ad 8 = .ok (.if_icmp .gt 7, 3) := by decide +kernel
theorem dJ1_canEncode_9a6ad_11 : decode cJ1_canEncode_9a6ad 11 = .ok (.iconst 1, 1) := by decide +kernel
theorem dJ1_canEncode_9a6ad_12 : decode cJ1_canEncode_9a6ad 12 = .ok (.goto 4, 3) := by decide +kernel
theorem dJ1_canEncode_9a6ad_15 : decode cJ1_canEncode_9a6ad 15 = .ok (.iconst 0, 1) := by decide +kernel
theorem dJ1_canEncode_9a6ad_16 : decode cJ1_canEncode_9a6ad 16 = .ok (.ireturn, 1) := by decide +kernel
theorem dJ1_indexOf_4cfef_0 : decode cJ1_indexOf_4cfef 0 = .ok (.iload_n 1, 1) := by decide +kernel
theorem dJ1_indexOf_4cfef_1 : decode cJ1_indexOf_4cfef 1 = .ok (.invokestatic 88, 3) := by decide +kernel
theorem dJ1_indexOf_4cfef_4 : decode cJ1_indexOf_4cfef 4 = .ok (.ifCond .ne 5, 3) := by decide +kernel
theorem dJ1_indexOf_4cfef_7 : decode cJ1_indexOf_4cfef 7 = .ok (.iconst (-1), 1) := by decide +kernel
theorem dJ1_indexOf_4cfef_8 : decode cJ1_indexOf_4cfef 8 = .ok (.ireturn, 1) := by decide +kernel
theorem dJ1_indexOf_4cfef_9 : decode cJ1_indexOf_4cfef 9 = .ok (.iload_n 2, 1) := by decide +kernel
theorem dJ1_indexOf_4cfef_10 : decode cJ1_indexOf_4cfef 10 = .ok (.iconst 0, 1) := by decide +kernel
theorem dJ1_indexOf_4cfef_11 : decode cJ1_indexOf_4cfef 11 = .ok (.invokestatic 92, 3) := by decide +kernel
theorem dJ1_indexOf_4cfef_14 : decode cJ1_indexOf_4cfef 14 = .ok (.istore_n 2, 1) := by decide +kernel
theorem dJ1_indexOf_4cfef_15 : decode cJ1_indexOf_4cfef 15 = .ok (.iload_n 3, 1) := by decide +kernel
theorem dJ1_indexOf_4cfef_16 : decode cJ1_indexOf_4cfef 16 = .ok (.aload_n 0, 1) := by decide +kernel
theorem dJ1_indexOf_4cfef_17 : decode cJ1_indexOf_4cfef 17 = .ok (.arraylength, 1) := by decide +kernel
theorem dJ1_indexOf_4cfef_18 : decode cJ1_indexOf_4cfef 18 = .ok (.invokestatic 38, 3) := by decide +kernel
theorem dJ1_indexOf_4cfef_21 : decode cJ1_indexOf_4cfef 21 = .ok (.istore_n 3, 1) := by decide +kernel
theorem dJ1_indexOf_4cfef_22 : decode cJ1_indexOf_4cfef 22 = .ok (.iload_n 2, 1) := by decide +kernel
theorem dJ1_indexOf_4cfef_23 : decode cJ1_indexOf_4cfef 23 = .ok (.iload_n 3, 1) := by decide +kernel
theorem dJ1_indexOf_4cfef_24 : decode cJ1_indexOf_4cfef 24 = .ok (.if_icmp .lt 5, 3) := by decide +kernel
theorem dJ1_indexOf_4cfef_27 : decode cJ1_indexOf_4cfef 27 = .ok (.iconst (-1), 1) := by decide +kernel
theorem dJ1_indexOf_4cfef_28 : decode cJ1_indexOf_4cfef 28 = .ok (.ireturn, 1) := by decide +kernel
theorem dJ1_indexOf_4cfef_29 : decode cJ1_indexOf_4cfef 29 = .ok (.aload_n 0, 1) := by decide +kernel
theorem dJ1_indexOf_4cfef_30 : decode cJ1_indexOf_4cfef 30 = .ok (.iload_n 1, 1) := by decide +kernel
theorem dJ1_indexOf_4cfef_31 : decode cJ1_indexOf_4cfef 31 = .ok (.iload_n 2, 1) := by decide +kernel
theorem dJ1_indexOf_4cfef_32 : decode cJ1_indexOf_4cfef 32 = .ok (.iload_n 3, 1) := by decide +kernel
theorem dJ1_indexOf_4cfef_33 : decode cJ1_indexOf_4cfef 33 = .ok (.invokestatic 95, 3) := by decide +kernel
theorem dJ1_indexOf_4cfef_36 : decode cJ1_indexOf_4cfef 36 = .ok (.ireturn, 1) := by decide +kernel
theorem dJ1_indexOfChar_4cfef_0 : decode cJ1_indexOfChar_4cfef 0 = .ok (.iload_n 1, 1) := by decide +kernel
theorem dJ1_indexOfChar_4cfef_1 : decode cJ1_indexOfChar_4cfef 1 = .ok (.i2b, 1) := by decide +kernel
theorem dJ1_indexOfChar_4cfef_2 : decode cJ1_indexOfChar_4cfef 2 = .ok (.istore 4, 2) := by decide +kernel
theorem dJ1_indexOfChar_4cfef_4 : decode cJ1_indexOfChar_4cfef 4 = .ok (.iload_n 2, 1) := by decide +kernel
theorem dJ1_indexOfChar_4cfef_5 : decode cJ1_indexOfChar_4cfef 5 = .ok (.istore 5, 2) := by decide +kernel
theorem dJ1_indexOfChar_4cfef_7 : decode cJ1_indexOfChar_4cfef 7 = .ok (.iload 5, 2) := by decide +kernel
theorem dJ1_indexOfChar_4cfef_9 : decode cJ1_indexOfChar_4cfef 9 = .ok (.iload_n 3, 1) := by decide +kernel
theorem dJ1_indexOfChar_4cfef_10 : decode cJ1_indexOfChar_4cfef 10 = .ok (.if_icmp .ge 21, 3) := by decide +kernel
theorem dJ1_indexOfChar_4cfef_13 : decode cJ1_indexOfChar_4cfef 13 = .ok (.aload_n 0, 1) := by decide +kernel
theorem dJ1_indexOfChar_4cfef_14 : decode cJ1_indexOfChar_4cfef 14 = .ok (.iload 5, 2) := by decide +kernel
theorem dJ1_indexOfChar_4cfef_16 : decode cJ1_indexOfChar_4cfef 16 = .ok (.baload, 1) := by decide +kernel
theorem dJ1_indexOfChar_4cfef_17 : decode cJ1_indexOfChar_4cfef 17 = .ok (.iload 4, 2) := by decide +kernel
theorem dJ1_indexOfChar_4cfef_19 : decode cJ1_indexOfChar_4cfef 19 = .ok (.if_icmp .ne 6, 3) := by decide +kernel
theorem dJ1_indexOfChar_4cfef_22 : decode cJ1_indexOfChar_4cfef 22 = .ok (.iload 5, 2) := by decide +kernel
theorem dJ1_indexOfChar_4cfef_24 : decode cJ1_indexOfChar_4cfef 24 = .ok (.ireturn, 1) := by decide +kernel
theorem dJ1_indexOfChar_4cfef_25 : decode cJ1_indexOfChar_4cfef 25 = .ok (.iinc 5 1, 3) := by decide +kernel
theorem dJ1_indexOfChar_4cfef_28 : decode cJ1_indexOfChar_4cfef 28 = .ok (.goto (-21), 3) := by decide +kernel
theorem dJ1_indexOfChar_4cfef_31 : decode cJ1_indexOfChar_4cfef 31 = .ok (.iconst (-1), 1) := by decide +kernel
theorem dJ1_indexOfChar_4cfef_32 : decode cJ1_indexOfChar_4cfef 32 = .ok (.ireturn, 1) := by decide +kernel
theorem dJ2_getChar_3b067_0 : decode cJ2_getChar_3b067 0 = .ok (.getstatic 44, 3) := by decide +kernel
theorem dJ2_getChar_3b067_3 : decode cJ2_getChar_3b067 3 = .ok (.ifCond .ne 25, 3) := by decide +kernel
theorem dJ2_getChar_3b067_6 : decode cJ2_getChar_3b067 6 = .ok (.iload_n 1, 1) := by decide +kernel
theorem dJ2_getChar_3b067_7 : decode cJ2_getChar_3b067 7 = .ok (.ifCond .lt 11, 3) := by decide +kernel
theorem dJ2_getChar_3b067_10 : decode cJ2_getChar_3b067 10 = .ok (.iload_n 1, 1) := by decide +kernel
theorem dJ2_getChar_3b067_11 : decode cJ2_getChar_3b067 11 = .ok (.aload_n 0, 1) := by decide +kernel
theorem dJ2_getChar_3b067_12 : decode cJ2_getChar_3b067 12 = .ok (.invokestatic 48, 3) := by decide +kernel
theorem dJ2_getChar_3b067_15 : decode cJ2_getChar_3b067 15 = .ok (.if_icmp .lt 13, 3) := by decide +kernel
theorem dJ2_getChar_3b067_18 : decode cJ2_getChar_3b067 18 = .ok (.new 52, 3) := by decide +kernel
theorem dJ2_getChar_3b067_21 : decode cJ2_getChar_3b067 21 = .ok (.dup, 1) := by decide +kernel
theorem dJ2_getChar_3b067_22 : decode cJ2_getChar_3b067 22 = .ok (.ldc 54, 2) := by decide +kernel
theorem dJ2_getChar_3b067_24 : decode cJ2_getChar_3b067 24 = .ok (.invokespecial 56, 3) := by decide +kernel
theorem dJ2_getChar_3b067_27 : decode cJ2_getChar_3b067 27 = .ok (.athrow, 1) := by decide +kernel
theorem dJ2_getChar_3b067_28 : decode cJ2_getChar_3b067 28 = .ok (.iload_n 1, 1) := by decide +kernel
theorem dJ2_getChar_3b067_29 : decode cJ2_getChar_3b067 29 = .ok (.iconst 1, 1) := by decide +kernel
theorem dJ2_getChar_3b067_30 : decode cJ2_getChar_3b067 30 = .ok (.ishl, 1) := by decide +kernel
theorem dJ2_getChar_3b067_31 : decode cJ2_getChar_3b067 31 = .ok (.istore_n 1, 1) := by decide +kernel
theorem dJ2_getChar_3b067_32 : decode cJ2_getChar_3b067 32 = .ok (.aload_n 0, 1) := by decide +kernel
theorem dJ2_getChar_3b067_33 : decode cJ2_getChar_3b067 33 = .ok (.iload_n 1, 1) := by decide +kernel
theorem dJ2_getChar_3b067_34 : decode cJ2_getChar_3b067 34 = .ok (.iinc 1 1, 3) := by decide +kernel
theorem dJ2_getChar_3b067_37 : decode cJ2_getChar_3b067 37 = .ok (.baload, 1) := by decide +kernel
theorem dJ2_getChar_3b067_38 : decode cJ2_getChar_3b067 38 = .ok (.sipush 255, 3) := by decide +kernel
theorem dJ2_getChar_3b067_41 : decode cJ2_getChar_3b067 41 = .ok (.iand, 1) := by decide +kernel
theorem dJ2_getChar_3b067_42 : decode cJ2_getChar_3b067 42 = .ok (.getstatic 59, 3) := by decide +kernel
theorem dJ2_getChar_3b067_45 : decode cJ2_getChar_3b067 45 = .ok (.ishl, 1) := by decide +kernel
theorem dJ2_getChar_3b067_46 : decode cJ2_getChar_3b067 46 = .ok (.aload_n 0, 1) := by decide +kernel
theorem dJ2_getChar_3b067_47 : decode cJ2_getChar_3b067 47 = .ok (.iload_n 1, 1) := by decide +kernel
theorem dJ2_getChar_3b067_48 : decode cJ2_getChar_3b067 48 = .ok (.baload, 1) := by decide +kernel
theorem dJ2_getChar_3b067_49 : decode cJ2_getChar_3b067 49 = .ok (.sipush 255, 3) := by decide +kernel
theorem dJ2_getChar_3b067_52 : decode cJ2_getChar_3b067 52 = .ok (.iand, 1) := by decide +kernel
theorem dJ2_getChar_3b067_53 : decode cJ2_getChar_3b067 53 = .ok (.getstatic 63, 3) := by decide +kernel
theorem dJ2_getChar_3b067_56 : decode cJ2_getChar_3b067 56 = .ok (.ishl, 1) := by decide +kernel
theorem dJ2_getChar_3b067_57 : decode cJ2_getChar_3b067 57 = .ok (.ior, 1) := by decide +kernel
theorem dJ2_getChar_3b067_58 : decode cJ2_getChar_3b067 58 = .ok (.i2c, 1) := by decide +kernel
theorem dJ2_getChar_3b067_59 : decode cJ2_getChar_3b067 59 = .ok (.ireturn, 1) := by decide +kernel
theorem dJ2_length_9d52b_0 : decode cJ2_length_9d52b 0 = .ok (.aload_n 0, 1) := by decide +kernel
theorem dJ2_length_9d52b_1 : decode cJ2_length_9d52b 1 = .ok (.arraylength, 1) := by decide +kernel
theorem dJ2_length_9d52b_2 : decode cJ2_length_9d52b 2 = .ok (.iconst 1, 1) := by decide +kernel
theorem dJ2_length_9d52b_3 : decode cJ2_length_9d52b 3 = .ok (.ishr, 1) := by decide +kernel
theorem dJ2_length_9d52b_4 : decode cJ2_length_9d52b 4 = .ok (.ireturn, 1) := by decide +kernel
theorem dJ2_indexOf_4cfef_0 : decode cJ2_indexOf_4cfef 0 = .ok (.iload_n 2, 1) := by decide +kernel
theorem dJ2_indexOf_4cfef_1 : decode cJ2_indexOf_4cfef 1 = .ok (.iconst 0, 1) := by decide +kernel
theorem dJ2_indexOf_4cfef_2 : decode cJ2_indexOf_4cfef 2 = .ok (.invokestatic 224, 3) := by decide +kernel
theorem dJ2_indexOf_4cfef_5 : decode cJ2_indexOf_4cfef 5 = .ok (.istore_n 2, 1) := by decide +kernel
theorem dJ2_indexOf_4cfef_6 : decode cJ2_indexOf_4cfef 6 = .ok (.iload_n 3, 1) := by decide +kernel
theorem dJ2_indexOf_4cfef_7 : decode cJ2_indexOf_4cfef 7 = .ok (.aload_n 0, 1) := by decide +kernel
theorem dJ2_indexOf_4cfef_8 : decode cJ2_indexOf_4cfef 8 = .ok (.arraylength, 1) := by decide +kernel
theorem dJ2_indexOf_4cfef_9 : decode cJ2_indexOf_4cfef 9 = .ok (.iconst 1, 1) := by decide +kernel
theorem dJ2_indexOf_4cfef_10 : decode cJ2_indexOf_4cfef 10 = .ok (.ishr, 1) := by decide +kernel
theorem dJ2_indexOf_4cfef_11 : decode cJ2_indexOf_4cfef 11 = .ok (.invokestatic 183, 3) := by decide +kernel
theorem dJ2_indexOf_4cfef_14 : decode cJ2_indexOf_4cfef 14 = .ok (.istore_n 3, 1) := by decide +kernel
theorem dJ2_indexOf_4cfef_15 : decode cJ2_indexOf_4cfef 15 = .ok (.iload_n 2, 1) := by decide +kernel
theorem dJ2_indexOf_4cfef_16 : decode cJ2_indexOf_4cfef 16 = .ok (.iload_n 3, 1) := by decide +kernel
theorem dJ2_indexOf_4cfef_17 : decode cJ2_indexOf_4cfef 17 = .ok (.if_icmp .lt 5, 3) := by decide +kernel
theorem dJ2_indexOf_4cfef_20 : decode cJ2_indexOf_4cfef 20 = .ok (.iconst (-1), 1) := by decide +kernel
theorem dJ2_indexOf_4cfef_21 : decode cJ2_indexOf_4cfef 21 = .ok (.ireturn, 1) := by decide +kernel
theorem dJ2_indexOf_4cfef_22 : decode cJ2_indexOf_4cfef 22 = .ok (.iload_n 1, 1) := by decide +kernel
theorem dJ2_indexOf_4cfef_23 : decode cJ2_indexOf_4cfef 23 = .ok (.ldc 227, 2) := by decide +kernel
theorem dJ2_indexOf_4cfef_25 : decode cJ2_indexOf_4cfef 25 = .ok (.if_icmp .ge 11, 3) := by decide +kernel
theorem dJ2_indexOf_4cfef_28 : decode cJ2_indexOf_4cfef 28 = .ok (.aload_n 0, 1) := by decide +kernel
theorem dJ2_indexOf_4cfef_29 : decode cJ2_indexOf_4cfef 29 = .ok (.iload_n 1, 1) := by decide +kernel
theorem dJ2_indexOf_4cfef_30 : decode cJ2_indexOf_4cfef 30 = .ok (.iload_n 2, 1) := by decide +kernel
theorem dJ2_indexOf_4cfef_31 : decode cJ2_indexOf_4cfef 31 = .ok (.iload_n 3, 1) := by decide +kernel
theorem dJ2_indexOf_4cfef_32 : decode cJ2_indexOf_4cfef 32 = .ok (.invokestatic 228, 3) := by decide +kernel
theorem dJ2_indexOf_4cfef_35 : decode cJ2_indexOf_4cfef 35 = .ok (.ireturn, 1) := by decide +kernel
theorem dJ2_indexOf_4cfef_36 : decode cJ2_indexOf_4cfef 36 = .ok (.aload_n 0, 1) := by decide +kernel
theorem dJ2_indexOf_4cfef_37 : decode cJ2_indexOf_4cfef 37 = .ok (.iload_n 1, 1) := by decide +kernel
theorem dJ2_indexOf_4cfef_38 : decode cJ2_indexOf_4cfef 38 = .ok (.iload_n 2, 1) := by decide +kernel
theorem dJ2_indexOf_4cfef_39 : decode cJ2_indexOf_4cfef 39 = .ok (.iload_n 3, 1) := by decide +kernel
theorem dJ2_indexOf_4cfef_40 : decode cJ2_indexOf_4cfef 40 = .ok (.invokestatic 232, 3) := by decide +kernel
theorem dJ2_indexOf_4cfef_43 : decode cJ2_indexOf_4cfef 43 = .ok (.ireturn, 1) := by decide +kernel
theorem dJ2_indexOfChar_4cfef_0 : decode cJ2_indexOfChar_4cfef 0 = .ok (.iload_n 2, 1) := by decide +kernel
theorem dJ2_indexOfChar_4cfef_1 : decode cJ2_indexOfChar_4cfef 1 = .ok (.iload_n 3, 1) := by decide +kernel
theorem dJ2_indexOfChar_4cfef_2 : decode cJ2_indexOfChar_4cfef 2 = .ok (.aload_n 0, 1) := by decide +kernel
theorem dJ2_indexOfChar_4cfef_3 : decode cJ2_indexOfChar_4cfef 3 = .ok (.invokestatic 96, 3) := by decide +kernel
theorem dJ2_indexOfChar_4cfef_6 : decode cJ2_indexOfChar_4cfef 6 = .ok (.aload_n 0, 1) := by decide +kernel
theorem dJ2_indexOfChar_4cfef_7 : decode cJ2_indexOfChar_4cfef 7 = .ok (.iload_n 1, 1) := by decide +kernel
theorem dJ2_indexOfChar_4cfef_8 : decode cJ2_indexOfChar_4cfef 8 = .ok (.iload_n 2, 1) := by decide +kernel
theorem dJ2_indexOfChar_4cfef_9 : decode cJ2_indexOfChar_4cfef 9 = .ok (.iload_n 3, 1) := by decide +kernel
theorem dJ2_indexOfChar_4cfef_10 : decode cJ2_indexOfChar_4cfef 10 = .ok (.invokestatic 244, 3) := by decide +kernel
theorem dJ2_indexOfChar_4cfef_13 : decode cJ2_indexOfChar_4cfef 13 = .ok (.ireturn, 1) := by decide +kernel
theorem dJ2_indexOfCharUnsafe_4cfef_0 : decode cJ2_indexOfCharUnsafe_4cfef 0 = .ok (.iload_n 2, 1) := by decide +kernel
theorem dJ2_indexOfCharUnsafe_4cfef_1 : decode cJ2_indexOfCharUnsafe_4cfef 1 = .ok (.istore 4, 2) := by decide +kernel
theorem dJ2_indexOfCharUnsafe_4cfef_3 : decode cJ2_indexOfCharUnsafe_4cfef 3 = .ok (.iload 4, 2) := by decide +kernel
theorem dJ2_indexOfCharUnsafe_4cfef_5 : decode cJ2_indexOfCharUnsafe_4cfef 5 = .ok (.iload_n 3, 1) := by decide +kernel
theorem dJ2_indexOfCharUnsafe_4cfef_6 : decode cJ2_indexOfCharUnsafe_4cfef 6 = .ok (.if_icmp .ge 22, 3) := by decide +kernel
theorem dJ2_indexOfCharUnsafe_4cfef_9 : decode cJ2_indexOfCharUnsafe_4cfef 9 = .ok (.aload_n 0, 1) := by decide +kernel
theorem dJ2_indexOfCharUnsafe_4cfef_10 : decode cJ2_indexOfCharUnsafe_4cfef 10 = .ok (.iload 4, 2) := by decide +kernel
theorem dJ2_indexOfCharUnsafe_4cfef_12 : decode cJ2_indexOfCharUnsafe_4cfef 12 = .ok (.invokestatic 71, 3) := by decide +kernel
theorem dJ2_indexOfCharUnsafe_4cfef_15 : decode cJ2_indexOfCharUnsafe_4cfef 15 = .ok (.iload_n 1, 1) := by decide +kernel
theorem dJ2_indexOfCharUnsafe_4cfef_16 : decode cJ2_indexOfCharUnsafe_4cfef 16 = .ok (.if_icmp .ne 6, 3) := by decide +kernel
theorem dJ2_indexOfCharUnsafe_4cfef_19 : decode cJ2_indexOfCharUnsafe_4cfef 19 = .ok (.iload 4, 2) := by decide +kernel
theorem dJ2_indexOfCharUnsafe_4cfef_21 : decode cJ2_indexOfCharUnsafe_4cfef 21 = .ok (.ireturn, 1) := by decide +kernel
theorem dJ2_indexOfCharUnsafe_4cfef_22 : decode cJ2_indexOfCharUnsafe_4cfef 22 = .ok (.iinc 4 1, 3) := by decide +kernel
theorem dJ2_indexOfCharUnsafe_4cfef_25 : decode cJ2_indexOfCharUnsafe_4cfef 25 = .ok (.goto (-22), 3) := by decide +kernel
theorem dJ2_indexOfCharUnsafe_4cfef_28 : decode cJ2_indexOfCharUnsafe_4cfef 28 = .ok (.iconst (-1), 1) := by decide +kernel
theorem dJ2_indexOfCharUnsafe_4cfef_29 : decode cJ2_indexOfCharUnsafe_4cfef 29 = .ok (.ireturn, 1) := by decide +kernel
theorem dJ2_indexOfSupplementary_4cfef_0 : decode cJ2_indexOfSupplementary_4cfef 0 = .ok (.iload_n 1, 1) := by decide +kernel
theorem dJ2_indexOfSupplementary_4cfef_1 : decode cJ2_indexOfSupplementary_4cfef 1 = .ok (.invokestatic 164, 3) := by decide +kernel
theorem dJ2_indexOfSupplementary_4cfef_4 : decode cJ2_indexOfSupplementary_4cfef 4 = .ok (.ifCond .eq 65, 3) := by decide +kernel
theorem dJ2_indexOfSupplementary_4cfef_7 : decode cJ2_indexOfSupplementary_4cfef 7 = .ok (.iload_n 1, 1) := by decide +kernel
theorem dJ2_indexOfSupplementary_4cfef_8 : decode cJ2_indexOfSupplementary_4cfef 8 = .ok (.invokestatic 157, 3) := by decide +kernel
theorem dJ2_indexOfSupplementary_4cfef_11 : decode cJ2_indexOfSupplementary_4cfef 11 = .ok (.istore 4, 2) := by decide +kernel
theorem dJ2_indexOfSupplementary_4cfef_13 : decode cJ2_indexOfSupplementary_4cfef 13 = .ok (.iload_n 1, 1) := by decide +kernel
theorem dJ2_indexOfSupplementary_4cfef_14 : decode cJ2_indexOfSupplementary_4cfef 14 = .ok (.invokestatic 161, 3) := by decide +kernel
theorem dJ2_indexOfSupplementary_4cfef_17 : decode cJ2_indexOfSupplementary_4cfef 17 = .ok (.istore 5, 2) := by decide +kernel
theorem dJ2_indexOfSupplementary_4cfef_19 : decode cJ2_indexOfSupplementary_4cfef 19 = .ok (.iload_n 2, 1) := by decide +kernel
theorem dJ2_indexOfSupplementary_4cfef_20 : decode cJ2_indexOfSupplementary_4cfef 20 = .ok (.iload_n 3, 1) := by decide +kernel
theorem dJ2_indexOfSupplementary_4cfef_21 : decode cJ2_indexOfSupplementary_4cfef 21 = .ok (.aload_n 0, 1) := by decide +kernel
theorem dJ2_indexOfSupplementary_4cfef_22 : decode cJ2_indexOfSupplementary_4cfef 22 = .ok (.invokestatic 96, 3) := by decide +kernel
theorem dJ2_indexOfSupplementary_4cfef_25 : decode cJ2_indexOfSupplementary_4cfef 25 = .ok (.iload_n 2, 1) := by decide +kernel
theorem dJ2_indexOfSupplementary_4cfef_26 : decode cJ2_indexOfSupplementary_4cfef 26 = .ok (.istore 6, 2) := by decide +kernel
theorem dJ2_indexOfSupplementary_4cfef_28 : decode cJ2_indexOfSupplementary_4cfef 28 = .ok (.iload 6, 2) := by decide +kernel
theorem dJ2_indexOfSupplementary_4cfef_30 : decode cJ2_indexOfSupplementary_4cfef 30 = .ok (.iload_n 3, 1) := by decide +kernel
theorem dJ2_indexOfSupplementary_4cfef_31 : decode cJ2_indexOfSupplementary_4cfef 31 = .ok (.iconst 1, 1) := by decide +kernel
theorem dJ2_indexOfSupplementary_4cfef_32 : decode cJ2_indexOfSupplementary_4cfef 32 = .ok (.isub, 1) := by decide +kernel
theorem dJ2_indexOfSupplementary_4cfef_33 : decode cJ2_indexOfSupplementary_4cfef 33 = .ok (.if_icmp .ge 36, 3) := by decide +kernel
theorem dJ2_indexOfSupplementary_4cfef_36 : decode cJ2_indexOfSupplementary_4cfef 36 = .ok (.aload_n 0, 1) := by decide +kernel
theorem dJ2_indexOfSupplementary_4cfef_37 : decode cJ2_indexOfSupplementary_4cfef 37 = .ok (.iload 6, 2) := by decide +kernel
theorem dJ2_indexOfSupplementary_4cfef_39 : decode cJ2_indexOfSupplementary_4cfef 39 = .ok (.invokestatic 71, 3) := by decide +kernel
theorem dJ2_indexOfSupplementary_4cfef_42 : decode cJ2_indexOfSupplementary_4cfef 42 = .ok (.iload 4, 2) := by decide +kernel
theorem dJ2_indexOfSupplementary_4cfef_44 : decode cJ2_indexOfSupplementary_4cfef 44 = .ok (.if_icmp .ne 19, 3) := by decide +kernel
theorem dJ2_indexOfSupplementary_4cfef_47 : decode cJ2_indexOfSupplementary_4cfef 47 = .ok (.aload_n 0, 1) := by decide +kernel
theorem dJ2_indexOfSupplementary_4cfef_48 : decode cJ2_indexOfSupplementary_4cfef 48 = .ok (.iload 6, 2) := by decide +kernel
theorem dJ2_indexOfSupplementary_4cfef_50 : decode cJ2_indexOfSupplementary_4cfef 50 = .ok (.iconst 1, 1) := by decide +kernel
theorem dJ2_indexOfSupplementary_4cfef_51 : decode cJ2_indexOfSupplementary_4cfef 51 = .ok (.iadd, 1) := by decide +kernel
theorem dJ2_indexOfSupplementary_4cfef_52 : decode cJ2_indexOfSupplementary_4cfef 52 = .ok (.invokestatic 71, 3) := by decide +kernel
theorem dJ2_indexOfSupplementary_4cfef_55 : decode cJ2_indexOfSupplementary_4cfef 55 = .ok (.iload 5, 2) := by decide +kernel
theorem dJ2_indexOfSupplementary_4cfef_57 : decode cJ2_indexOfSupplementary_4cfef 57 = .ok (.if_icmp .ne 6, 3) := by decide +kernel
theorem dJ2_indexOfSupplementary_4cfef_60 : decode cJ2_indexOfSupplementary_4cfef 60 = .ok (.iload 6, 2) := by decide +kernel
theorem dJ2_indexOfSupplementary_4cfef_62 : decode cJ2_indexOfSupplementary_4cfef 62 = .ok (.ireturn, 1) := by decide +kernel
theorem dJ2_indexOfSupplementary_4cfef_63 : decode cJ2_indexOfSupplementary_4cfef 63 = .ok (.iinc 6 1, 3) := by decide +kernel
theorem dJ2_indexOfSupplementary_4cfef_66 : decode cJ2_indexOfSupplementary_4cfef 66 = .ok (.goto (-38), 3) := by decide +kernel
theorem dJ2_indexOfSupplementary_4cfef_69 : decode cJ2_indexOfSupplementary_4cfef 69 = .ok (.iconst (-1), 1) := by decide +kernel
theorem dJ2_indexOfSupplementary_4cfef_70 : decode cJ2_indexOfSupplementary_4cfef 70 = .ok (.ireturn, 1) := by decide +kernel
theorem dJ2_checkBoundsBeginEnd_d044e_0 : decode cJ2_checkBoundsBeginEnd_d044e 0 = .ok (.iload_n 0, 1) := by decide +kernel
theorem dJ2_checkBoundsBeginEnd_d044e_1 : decode cJ2_checkBoundsBeginEnd_d044e 1 = .ok (.iload_n 1, 1) := by decide +kernel
theorem dJ2_checkBoundsBeginEnd_d044e_2 : decode cJ2_checkBoundsBeginEnd_d044e 2 = .ok (.aload_n 2, 1) := by decide +kernel
theorem dJ2_checkBoundsBeginEnd_d044e_3 : decode cJ2_checkBoundsBeginEnd_d044e 3 = .ok (.invokestatic 48, 3) := by decide +kernel
theorem dJ2_checkBoundsBeginEnd_d044e_6 : decode cJ2_checkBoundsBeginEnd_d044e 6 = .ok (.invokestatic 241, 3) := by decide +kernel
theorem dJ2_checkBoundsBeginEnd_d044e_9 : decode cJ2_checkBoundsBeginEnd_d044e 9 = .ok (.return_, 1) := by decide +kernel
theorem dJ7_fill_53178_0 : decode cJ7_fill_53178 0 = .ok (.iconst 0, 1) := by decide +kernel
theorem dJ7_fill_53178_1 : decode cJ7_fill_53178 1 = .ok (.istore_n 2, 1) := by decide +kernel
theorem dJ7_fill_53178_2 : decode cJ7_fill_53178 2 = .ok (.aload_n 0, 1) := by decide +kernel
theorem dJ7_fill_53178_3 : decode cJ7_fill_53178 3 = .ok (.arraylength, 1) := by decide +kernel
theorem dJ7_fill_53178_4 : decode cJ7_fill_53178 4 = .ok (.istore_n 3, 1) := by decide +kernel
theorem dJ7_fill_53178_5 : decode cJ7_fill_53178 5 = .ok (.iload_n 2, 1) := by decide +kernel
theorem dJ7_fill_53178_6 : decode cJ7_fill_53178 6 = .ok (.iload_n 3, 1) := by decide +kernel
theorem dJ7_fill_53178_7 : decode cJ7_fill_53178 7 = .ok (.if_icmp .ge 13, 3) := by decide +kernel
theorem dJ7_fill_53178_10 : decode cJ7_fill_53178 10 = .ok (.aload_n 0, 1) := by decide +kernel
theorem dJ7_fill_53178_11 : decode cJ7_fill_53178 11 = .ok (.iload_n 2, 1) := by decide +kernel
theorem dJ7_fill_53178_12 : decode cJ7_fill_53178 12 = .ok (.iload_n 1, 1) := by decide +kernel
theorem dJ7_fill_53178_13 : decode cJ7_fill_53178 13 = .ok (.iastore, 1) := by decide +kernel
theorem dJ7_fill_53178_14 : decode cJ7_fill_53178 14 = .ok (.iinc 2 1, 3) := by decide +kernel
theorem dJ7_fill_53178_17 : decode cJ7_fill_53178 17 = .ok (.goto (-12), 3) := by decide +kernel
theorem dJ7_fill_53178_20 : decode cJ7_fill_53178 20 = .ok (.return_, 1) := by decide +kernel
theorem dJ3_checkFromToIndex_8c36e_0 : decode cJ3_checkFromToIndex_8c36e 0 = .ok (.iload_n 0, 1) := by decide +kernel
theorem dJ3_checkFromToIndex_8c36e_1 : decode cJ3_checkFromToIndex_8c36e 1 = .ok (.ifCond .lt 13, 3) := by decide +kernel
theorem dJ3_checkFromToIndex_8c36e_4 : decode cJ3_checkFromToIndex_8c36e 4 = .ok (.iload_n 0, 1) := by decide +kernel
theorem dJ3_checkFromToIndex_8c36e_5 : decode cJ3_checkFromToIndex_8c36e 5 = .ok (.iload_n 1, 1) := by decide +kernel
theorem dJ3_checkFromToIndex_8c36e_6 : decode cJ3_checkFromToIndex_8c36e 6 = .ok (.if_icmp .gt 8, 3) := by decide +kernel
theorem dJ3_checkFromToIndex_8c36e_9 : decode cJ3_checkFromToIndex_8c36e 9 = .ok (.iload_n 1, 1) := by decide +kernel
theorem dJ3_checkFromToIndex_8c36e_10 : decode cJ3_checkFromToIndex_8c36e 10 = .ok (.iload_n 2, 1) := by decide +kernel
theorem dJ3_checkFromToIndex_8c36e_11 : decode cJ3_checkFromToIndex_8c36e 11 = .ok (.if_icmp .le 11, 3) := by decide +kernel
theorem dJ3_checkFromToIndex_8c36e_14 : decode cJ3_checkFromToIndex_8c36e 14 = .ok (.aload_n 3, 1) := by decide +kernel
theorem dJ3_checkFromToIndex_8c36e_15 : decode cJ3_checkFromToIndex_8c36e 15 = .ok (.iload_n 0, 1) := by decide +kernel
theorem dJ3_checkFromToIndex_8c36e_16 : decode cJ3_checkFromToIndex_8c36e 16 = .ok (.iload_n 1, 1) := by decide +kernel
theorem dJ3_checkFromToIndex_8c36e_17 : decode cJ3_checkFromToIndex_8c36e 17 = .ok (.iload_n 2, 1) := by decide +kernel
theorem dJ3_checkFromToIndex_8c36e_18 : decode cJ3_checkFromToIndex_8c36e 18 = .ok (.invokestatic 99, 3) := by decide +kernel
theorem dJ3_checkFromToIndex_8c36e_21 : decode cJ3_checkFromToIndex_8c36e 21 = .ok (.athrow, 1) := by decide +kernel
theorem dJ3_checkFromToIndex_8c36e_22 : decode cJ3_checkFromToIndex_8c36e 22 = .ok (.iload_n 0, 1) := by decide +kernel
theorem dJ3_checkFromToIndex_8c36e_23 : decode cJ3_checkFromToIndex_8c36e 23 = .ok (.ireturn, 1) := by decide +kernel
theorem dL_law_0 : decode cL_law 0 = .ok (.new 7, 3) := by decide +kernel
theorem dL_law_3 : decode cL_law 3 = .ok (.dup, 1) := by decide +kernel
theorem dL_law_4 : decode cL_law 4 = .ok (.invokespecial 9, 3) := by decide +kernel
theorem dL_law_7 : decode cL_law 7 = .ok (.astore_n 1, 1) := by decide +kernel
theorem dL_law_8 : decode cL_law 8 = .ok (.new 10, 3) := by decide +kernel
theorem dL_law_11 : decode cL_law 11 = .ok (.dup, 1) := by decide +kernel
theorem dL_law_12 : decode cL_law 12 = .ok (.invokespecial 12, 3) := by decide +kernel
theorem dL_law_15 : decode cL_law 15 = .ok (.astore_n 2, 1) := by decide +kernel
theorem dL_law_16 : decode cL_law 16 = .ok (.iconst 0, 1) := by decide +kernel
theorem dL_law_17 : decode cL_law 17 = .ok (.istore_n 3, 1) := by decide +kernel
theorem dL_law_18 : decode cL_law 18 = .ok (.iload_n 3, 1) := by decide +kernel
theorem dL_law_19 : decode cL_law 19 = .ok (.aload_n 0, 1) := by decide +kernel
theorem dL_law_20 : decode cL_law 20 = .ok (.arraylength, 1) := by decide +kernel
theorem dL_law_21 : decode cL_law 21 = .ok (.bipush 6, 2) := by decide +kernel
theorem dL_law_23 : decode cL_law 23 = .ok (.isub, 1) := by decide +kernel
theorem dL_law_24 : decode cL_law 24 = .ok (.if_icmp .gt 1284, 3) := by decide +kernel
theorem dL_law_27 : decode cL_law 27 = .ok (.aload_n 0, 1) := by decide +kernel
theorem dL_law_28 : decode cL_law 28 = .ok (.iload_n 3, 1) := by decide +kernel
theorem dL_law_29 : decode cL_law 29 = .ok (.iaload, 1) := by decide +kernel
theorem dL_law_30 : decode cL_law 30 = .ok (.bipush 63, 2) := by decide +kernel
theorem dL_law_32 : decode cL_law 32 = .ok (.iand, 1) := by decide +kernel
theorem dL_law_33 : decode cL_law 33 = .ok (.tableswitch 1269 0 41 #[183, 246, 269, 282, 305, 338, 371, 404, 437, 450, 463, 476, 489, 502, 525, 538, 551, 564, 577, 590, 613, 636, 659, 672, 685, 718, 761, 794, 827, 880, 913, 936, 989, 1012, 1035, 1058, 1081, 1114, 1167, 1200, 1223, 1246], 183) := by decide +kernel
theorem dL_law_216 : decode cL_law 216 = .ok (.aload_n 1, 1) := by decide +kernel
theorem dL_law_217 : decode cL_law 217 = .ok (.aload_n 0, 1) := by decide +kernel
theorem dL_law_218 : decode cL_law 218 = .ok (.iload_n 3, 1) := by decide +kernel
theorem dL_law_219 : decode cL_law 219 = .ok (.iconst 1, 1) := by decide +kernel
theorem dL_law_220 : decode cL_law 220 = .ok (.iadd, 1) := by decide +kernel
theorem dL_law_221 : decode cL_law 221 = .ok (.iaload, 1) := by decide +kernel
theorem dL_law_222 : decode cL_law 222 = .ok (.aload_n 0, 1) := by decide +kernel
theorem dL_law_223 : decode cL_law 223 = .ok (.iload_n 3, 1) := by decide +kernel
theorem dL_law_224 : decode cL_law 224 = .ok (.iconst 2, 1) := by decide +kernel
theorem dL_law_225 : decode cL_law 225 = .ok (.iadd, 1) := by decide +kernel
theorem dL_law_226 : decode cL_law 226 = .ok (.iaload, 1) := by decide +kernel
theorem dL_law_227 : decode cL_law 227 = .ok (.aload_n 0, 1) := by decide +kernel
theorem dL_law_228 : decode cL_law 228 = .ok (.iload_n 3, 1) := by decide +kernel
theorem dL_law_229 : decode cL_law 229 = .ok (.iconst 3, 1) := by decide +kernel
theorem dL_law_230 : decode cL_law 230 = .ok (.iadd, 1) := by decide +kernel
theorem dL_law_231 : decode cL_law 231 = .ok (.iaload, 1) := by decide +kernel
theorem dL_law_232 : decode cL_law 232 = .ok (.aload_n 0, 1) := by decide +kernel
theorem dL_law_233 : decode cL_law 233 = .ok (.iload_n 3, 1) := by decide +kernel
theorem dL_law_234 : decode cL_law 234 = .ok (.iconst 4, 1) := by decide +kernel
theorem dL_law_235 : decode cL_law 235 = .ok (.iadd, 1) := by decide +kernel
theorem dL_law_236 : decode cL_law 236 = .ok (.iaload, 1) := by decide +kernel
theorem dL_law_237 : decode cL_law 237 = .ok (.aload_n 0, 1) := by decide +kernel
theorem dL_law_238 : decode cL_law 238 = .ok (.iload_n 3, 1) := by decide +kernel
theorem dL_law_239 : decode cL_law 239 = .ok (.iconst 5, 1) := by decide +kernel
theorem dL_law_240 : decode cL_law 240 = .ok (.iadd, 1) := by decide +kernel
theorem dL_law_241 : decode cL_law 241 = .ok (.iaload, 1) := by decide +kernel
theorem dL_law_242 : decode cL_law 242 = .ok (.invokevirtual 13, 3) := by decide +kernel
theorem dL_law_245 : decode cL_law 245 = .ok (.aload_n 2, 1) := by decide +kernel
theorem dL_law_246 : decode cL_law 246 = .ok (.aload_n 0, 1) := by decide +kernel
theorem dL_law_247 : decode cL_law 247 = .ok (.iload_n 3, 1) := by decide +kernel
theorem dL_law_248 : decode cL_law 248 = .ok (.iconst 1, 1) := by decide +kernel
theorem dL_law_249 : decode cL_law 249 = .ok (.iadd, 1) := by decide +kernel
theorem dL_law_250 : decode cL_law 250 = .ok (.iaload, 1) := by decide +kernel
theorem dL_law_251 : decode cL_law 251 = .ok (.aload_n 0, 1) := by decide +kernel
theorem dL_law_252 : decode cL_law 252 = .ok (.iload_n 3, 1) := by decide +kernel
theorem dL_law_253 : decode cL_law 253 = .ok (.iconst 2, 1) := by decide +kernel
theorem dL_law_254 : decode cL_law 254 = .ok (.iadd, 1) := by decide +kernel
theorem dL_law_255 : decode cL_law 255 = .ok (.iaload, 1) := by decide +kernel
theorem dL_law_256 : decode cL_law 256 = .ok (.aload_n 0, 1) := by decide +kernel
theorem dL_law_257 : decode cL_law 257 = .ok (.iload_n 3, 1) := by decide +kernel
theorem dL_law_258 : decode cL_law 258 = .ok (.iconst 3, 1) := by decide +kernel
theorem dL_law_259 : decode cL_law 259 = .ok (.iadd, 1) := by decide +kernel
theorem dL_law_260 : decode cL_law 260 = .ok (.iaload, 1) := by decide +kernel
theorem dL_law_261 : decode cL_law 261 = .ok (.aload_n 0, 1) := by decide +kernel
theorem dL_law_262 : decode cL_law 262 = .ok (.iload_n 3, 1) := by decide +kernel
theorem dL_law_263 : decode cL_law 263 = .ok (.iconst 4, 1) := by decide +kernel
theorem dL_law_264 : decode cL_law 264 = .ok (.iadd, 1) := by decide +kernel
theorem dL_law_265 : decode cL_law 265 = .ok (.iaload, 1) := by decide +kernel
theorem dL_law_266 : decode cL_law 266 = .ok (.aload_n 0, 1) := by decide +kernel
theorem dL_law_267 : decode cL_law 267 = .ok (.iload_n 3, 1) := by decide +kernel
theorem dL_law_268 : decode cL_law 268 = .ok (.iconst 5, 1) := by decide +kernel
theorem dL_law_269 : decode cL_law 269 = .ok (.iadd, 1) := by decide +kernel
theorem dL_law_270 : decode cL_law 270 = .ok (.iaload, 1) := by decide +kernel
theorem dL_law_271 : decode cL_law 271 = .ok (.invokevirtual 17, 3) := by decide +kernel
theorem dL_law_274 : decode cL_law 274 = .ok (.if_icmp .eq 1028, 3) := by decide +kernel
theorem dL_law_277 : decode cL_law 277 = .ok (.iconst 0, 1) := by decide +kernel
theorem dL_law_278 : decode cL_law 278 = .ok (.ireturn, 1) := by decide +kernel
theorem dL_law_279 : decode cL_law 279 = .ok (.aload_n 1, 1) := by decide +kernel
theorem dL_law_280 : decode cL_law 280 = .ok (.aload_n 0, 1) := by decide +kernel
theorem dL_law_281 : decode cL_law 281 = .ok (.iload_n 3, 1) := by decide +kernel
theorem dL_law_282 : decode cL_law 282 = .ok (.iconst 1, 1) := by decide +kernel
theorem dL_law_283 : decode cL_law 283 = .ok (.iadd, 1) := by decide +kernel
theorem dL_law_284 : decode cL_law 284 = .ok (.iaload, 1) := by decide +kernel
theorem dL_law_285 : decode cL_law 285 = .ok (.invokevirtual 18, 3) := by decide +kernel
theorem dL_law_288 : decode cL_law 288 = .ok (.aload_n 2, 1) := by decide +kernel
theorem dL_law_289 : decode cL_law 289 = .ok (.aload_n 0, 1) := by decide +kernel
theorem dL_law_290 : decode cL_law 290 = .ok (.iload_n 3, 1) := by decide +kernel
theorem dL_law_291 : decode cL_law 291 = .ok (.iconst 1, 1) := by decide +kernel
theorem dL_law_292 : decode cL_law 292 = .ok (.iadd, 1) := by decide +kernel
theorem dL_law_293 : decode cL_law 293 = .ok (.iaload, 1) := by decide +kernel
theorem dL_law_294 : decode cL_law 294 = .ok (.invokevirtual 22, 3) := by decide +kernel
theorem dL_law_297 : decode cL_law 297 = .ok (.if_icmp .eq 1005, 3) := by decide +kernel
theorem dL_law_300 : decode cL_law 300 = .ok (.iconst 0, 1) := by decide +kernel
theorem dL_law_301 : decode cL_law 301 = .ok (.ireturn, 1) := by decide +kernel
theorem dL_law_302 : decode cL_law 302 = .ok (.aload_n 1, 1) := by decide +kernel
theorem dL_law_303 : decode cL_law 303 = .ok (.invokevirtual 23, 3) := by decide +kernel
theorem dL_law_306 : decode cL_law 306 = .ok (.aload_n 2, 1) := by decide +kernel
theorem dL_law_307 : decode cL_law 307 = .ok (.invokevirtual 27, 3) := by decide +kernel
theorem dL_law_310 : decode cL_law 310 = .ok (.if_icmp .eq 992, 3) := by decide +kernel
theorem dL_law_313 : decode cL_law 313 = .ok (.iconst 0, 1) := by decide +kernel
theorem dL_law_314 : decode cL_law 314 = .ok (.ireturn, 1) := by decide +kernel
theorem dL_law_315 : decode cL_law 315 = .ok (.aload_n 1, 1) := by decide +kernel
theorem dL_law_316 : decode cL_law 316 = .ok (.aload_n 0, 1) := by decide +kernel
theorem dL_law_317 : decode cL_law 317 = .ok (.iload_n 3, 1) := by decide +kernel
theorem dL_law_318 : decode cL_law 318 = .ok (.iconst 1, 1) := by decide +kernel
theorem dL_law_319 : decode cL_law 319 = .ok (.iadd, 1) := by decide +kernel
theorem dL_law_320 : decode cL_law 320 = .ok (.iaload, 1) := by decide +kernel
theorem dL_law_321 : decode cL_law 321 = .ok (.invokevirtual 28, 3) := by decide +kernel
theorem dL_law_324 : decode cL_law 324 = .ok (.aload_n 2, 1) := by decide +kernel
theorem dL_law_325 : decode cL_law 325 = .ok (.aload_n 0, 1) := by decide +kernel
theorem dL_law_326 : decode cL_law 326 = .ok (.iload_n 3, 1) := by decide +kernel
theorem dL_law_327 : decode cL_law 327 = .ok (.iconst 1, 1) := by decide +kernel
theorem dL_law_328 : decode cL_law 328 = .ok (.iadd, 1) := by decide +kernel
theorem dL_law_329 : decode cL_law 329 = .ok (.iaload, 1) := by decide +kernel
theorem dL_law_330 : decode cL_law 330 = .ok (.invokevirtual 31, 3) := by decide +kernel
theorem dL_law_333 : decode cL_law 333 = .ok (.if_icmp .eq 969, 3) := by decide +kernel
theorem dL_law_336 : decode cL_law 336 = .ok (.iconst 0, 1) := by decide +kernel
theorem dL_law_337 : decode cL_law 337 = .ok (.ireturn, 1) := by decide +kernel
theorem dL_law_338 : decode cL_law 338 = .ok (.aload_n 1, 1) := by decide +kernel
theorem dL_law_339 : decode cL_law 339 = .ok (.aload_n 0, 1) := by decide +kernel
theorem dL_law_340 : decode cL_law 340 = .ok (.iload_n 3, 1) := by decide +kernel
theorem dL_law_341 : decode cL_law 341 = .ok (.iconst 1, 1) := by decide +kernel
theorem dL_law_342 : decode cL_law 342 = .ok (.iadd, 1) := by decide +kernel
theorem dL_law_343 : decode cL_law 343 = .ok (.iaload, 1) := by decide +kernel
theorem dL_law_344 : decode cL_law 344 = .ok (.aload_n 0, 1) := by decide +kernel
theorem dL_law_345 : decode cL_law 345 = .ok (.iload_n 3, 1) := by decide +kernel
theorem dL_law_346 : decode cL_law 346 = .ok (.iconst 2, 1) := by decide +kernel
theorem dL_law_347 : decode cL_law 347 = .ok (.iadd, 1) := by decide +kernel
theorem dL_law_348 : decode cL_law 348 = .ok (.iaload, 1) := by decide +kernel
theorem dL_law_349 : decode cL_law 349 = .ok (.invokevirtual 32, 3) := by decide +kernel
theorem dL_law_352 : decode cL_law 352 = .ok (.aload_n 2, 1) := by decide +kernel
theorem dL_law_353 : decode cL_law 353 = .ok (.aload_n 0, 1) := by decide +kernel
theorem dL_law_354 : decode cL_law 354 = .ok (.iload_n 3, 1) := by decide +kernel
theorem dL_law_355 : decode cL_law 355 = .ok (.iconst 1, 1) := by decide +kernel
theorem dL_law_356 : decode cL_law 356 = .ok (.iadd, 1) := by decide +kernel
theorem dL_law_357 : decode cL_law 357 = .ok (.iaload, 1) := by decide +kernel
theorem dL_law_358 : decode cL_law 358 = .ok (.aload_n 0, 1) := by decide +kernel
theorem dL_law_359 : decode cL_law 359 = .ok (.iload_n 3, 1) := by decide +kernel
theorem dL_law_360 : decode cL_law 360 = .ok (.iconst 2, 1) := by decide +kernel
theorem dL_law_361 : decode cL_law 361 = .ok (.iadd, 1) := by decide +kernel
theorem dL_law_362 : decode cL_law 362 = .ok (.iaload, 1) := by decide +kernel
theorem dL_law_363 : decode cL_law 363 = .ok (.invokevirtual 36, 3) := by decide +kernel
theorem dL_law_366 : decode cL_law 366 = .ok (.if_icmp .eq 936, 3) := by decide +kernel
theorem dL_law_369 : decode cL_law 369 = .ok (.iconst 0, 1) := by decide +kernel
theorem dL_law_370 : decode cL_law 370 = .ok (.ireturn, 1) := by decide +kernel
theorem dL_law_371 : decode cL_law 371 = .ok (.aload_n 1, 1) := by decide +kernel
theorem dL_law_372 : decode cL_law 372 = .ok (.aload_n 0, 1) := by decide +kernel
theorem dL_law_373 : decode cL_law 373 = .ok (.iload_n 3, 1) := by decide +kernel
theorem dL_law_374 : decode cL_law 374 = .ok (.iconst 1, 1) := by decide +kernel
theorem dL_law_375 : decode cL_law 375 = .ok (.iadd, 1) := by decide +kernel
theorem dL_law_376 : decode cL_law 376 = .ok (.iaload, 1) := by decide +kernel
theorem dL_law_377 : decode cL_law 377 = .ok (.aload_n 0, 1) := by decide +kernel
theorem dL_law_378 : decode cL_law 378 = .ok (.iload_n 3, 1) := by decide +kernel
theorem dL_law_379 : decode cL_law 379 = .ok (.iconst 2, 1) := by decide +kernel
theorem dL_law_380 : decode cL_law 380 = .ok (.iadd, 1) := by decide +kernel
theorem dL_law_381 : decode cL_law 381 = .ok (.iaload, 1) := by decide +kernel
theorem dL_law_382 : decode cL_law 382 = .ok (.invokevirtual 37, 3) := by decide +kernel
theorem dL_law_385 : decode cL_law 385 = .ok (.aload_n 2, 1) := by decide +kernel
theorem dL_law_386 : decode cL_law 386 = .ok (.aload_n 0, 1) := by decide +kernel
theorem dL_law_387 : decode cL_law 387 = .ok (.iload_n 3, 1) := by decide +kernel
theorem dL_law_388 : decode cL_law 388 = .ok (.iconst 1, 1) := by decide +kernel
theorem dL_law_389 : decode cL_law 389 = .ok (.iadd, 1) := by decide +kernel
theorem dL_law_390 : decode cL_law 390 = .ok (.iaload, 1) := by decide +kernel
theorem dL_law_391 : decode cL_law 391 = .ok (.aload_n 0, 1) := by decide +kernel
theorem dL_law_392 : decode cL_law 392 = .ok (.iload_n 3, 1) := by decide +kernel
theorem dL_law_393 : decode cL_law 393 = .ok (.iconst 2, 1) := by decide +kernel
theorem dL_law_394 : decode cL_law 394 = .ok (.iadd, 1) := by decide +kernel
theorem dL_law_395 : decode cL_law 395 = .ok (.iaload, 1) := by decide +kernel
theorem dL_law_396 : decode cL_law 396 = .ok (.invokevirtual 40, 3) := by decide +kernel
theorem dL_law_399 : decode cL_law 399 = .ok (.if_icmp .eq 903, 3) := by decide +kernel
theorem dL_law_402 : decode cL_law 402 = .ok (.iconst 0, 1) := by decide +kernel
theorem dL_law_403 : decode cL_law 403 = .ok (.ireturn, 1) := by decide +kernel
theorem dL_law_404 : decode cL_law 404 = .ok (.aload_n 1, 1) := by decide +kernel
theorem dL_law_405 : decode cL_law 405 = .ok (.aload_n 0, 1) := by decide +kernel
theorem dL_law_406 : decode cL_law 406 = .ok (.iload_n 3, 1) := by decide +kernel
theorem dL_law_407 : decode cL_law 407 = .ok (.iconst 1, 1) := by decide +kernel
theorem dL_law_408 : decode cL_law 408 = .ok (.iadd, 1) := by decide +kernel
theorem dL_law_409 : decode cL_law 409 = .ok (.iaload, 1) := by decide +kernel
theorem dL_law_410 : decode cL_law 410 = .ok (.aload_n 0, 1) := by decide +kernel
theorem dL_law_411 : decode cL_law 411 = .ok (.iload_n 3, 1) := by decide +kernel
theorem dL_law_412 : decode cL_law 412 = .ok (.iconst 2, 1) := by decide +kernel
theorem dL_law_413 : decode cL_law 413 = .ok (.iadd, 1) := by decide +kernel
theorem dL_law_414 : decode cL_law 414 = .ok (.iaload, 1) := by decide +kernel
theorem dL_law_415 : decode cL_law 415 = .ok (.invokevirtual 41, 3) := by decide +kernel
theorem dL_law_418 : decode cL_law 418 = .ok (.aload_n 2, 1) := by decide +kernel
theorem dL_law_419 : decode cL_law 419 = .ok (.aload_n 0, 1) := by decide +kernel
theorem dL_law_420 : decode cL_law 420 = .ok (.iload_n 3, 1) := by decide +kernel
theorem dL_law_421 : decode cL_law 421 = .ok (.iconst 1, 1) := by decide +kernel
theorem dL_law_422 : decode cL_law 422 = .ok (.iadd, 1) := by decide +kernel
theorem dL_law_423 : decode cL_law 423 = .ok (.iaload, 1) := by decide +kernel
theorem dL_law_424 : decode cL_law 424 = .ok (.aload_n 0, 1) := by decide +kernel
theorem dL_law_425 : decode cL_law 425 = .ok (.iload_n 3, 1) := by decide +kernel
theorem dL_law_426 : decode cL_law 426 = .ok (.iconst 2, 1) := by decide +kernel
theorem dL_law_427 : decode cL_law 427 = .ok (.iadd, 1) := by decide +kernel
theorem dL_law_428 : decode cL_law 428 = .ok (.iaload, 1) := by decide +kernel
theorem dL_law_429 : decode cL_law 429 = .ok (.invokevirtual 44, 3) := by decide +kernel
theorem dL_law_432 : decode cL_law 432 = .ok (.if_icmp .eq 870, 3) := by decide +kernel
theorem dL_law_435 : decode cL_law 435 = .ok (.iconst 0, 1) := by decide +kernel
theorem dL_law_436 : decode cL_law 436 = .ok (.ireturn, 1) := by decide +kernel
theorem dL_law_437 : decode cL_law 437 = .ok (.aload_n 1, 1) := by decide +kernel
theorem dL_law_438 : decode cL_law 438 = .ok (.aload_n 0, 1) := by decide +kernel
theorem dL_law_439 : decode cL_law 439 = .ok (.iload_n 3, 1) := by decide +kernel
theorem dL_law_440 : decode cL_law 440 = .ok (.iconst 1, 1) := by decide +kernel
theorem dL_law_441 : decode cL_law 441 = .ok (.iadd, 1) := by decide +kernel
theorem dL_law_442 : decode cL_law 442 = .ok (.iaload, 1) := by decide +kernel
theorem dL_law_443 : decode cL_law 443 = .ok (.aload_n 0, 1) := by decide +kernel
theorem dL_law_444 : decode cL_law 444 = .ok (.iload_n 3, 1) := by decide +kernel
theorem dL_law_445 : decode cL_law 445 = .ok (.iconst 2, 1) := by decide +kernel
theorem dL_law_446 : decode cL_law 446 = .ok (.iadd, 1) := by decide +kernel
theorem dL_law_447 : decode cL_law 447 = .ok (.iaload, 1) := by decide +kernel
theorem dL_law_448 : decode cL_law 448 = .ok (.invokevirtual 45, 3) := by decide +kernel
theorem dL_law_451 : decode cL_law 451 = .ok (.aload_n 2, 1) := by decide +kernel
theorem dL_law_452 : decode cL_law 452 = .ok (.aload_n 0, 1) := by decide +kernel
theorem dL_law_453 : decode cL_law 453 = .ok (.iload_n 3, 1) := by decide +kernel
theorem dL_law_454 : decode cL_law 454 = .ok (.iconst 1, 1) := by decide +kernel
theorem dL_law_455 : decode cL_law 455 = .ok (.iadd, 1) := by decide +kernel
theorem dL_law_456 : decode cL_law 456 = .ok (.iaload, 1) := by decide +kernel
theorem dL_law_457 : decode cL_law 457 = .ok (.aload_n 0, 1) := by decide +kernel
theorem dL_law_458 : decode cL_law 458 = .ok (.iload_n 3, 1) := by decide +kernel
theorem dL_law_459 : decode cL_law 459 = .ok (.iconst 2, 1) := by decide +kernel
theorem dL_law_460 : decode cL_law 460 = .ok (.iadd, 1) := by decide +kernel
theorem dL_law_461 : decode cL_law 461 = .ok (.iaload, 1) := by decide +kernel
theorem dL_law_462 : decode cL_law 462 = .ok (.invokevirtual 48, 3) := by decide +kernel
theorem dL_law_465 : decode cL_law 465 = .ok (.if_icmp .eq 837, 3) := by decide +kernel
theorem dL_law_468 : decode cL_law 468 = .ok (.iconst 0, 1) := by decide +kernel
theorem dL_law_469 : decode cL_law 469 = .ok (.ireturn, 1) := by decide +kernel
theorem dL_law_470 : decode cL_law 470 = .ok (.aload_n 1, 1) := by decide +kernel
theorem dL_law_471 : decode cL_law 471 = .ok (.invokevirtual 49, 3) := by decide +kernel
theorem dL_law_474 : decode cL_law 474 = .ok (.aload_n 2, 1) := by decide +kernel
theorem dL_law_475 : decode cL_law 475 = .ok (.invokevirtual 52, 3) := by decide +kernel
theorem dL_law_478 : decode cL_law 478 = .ok (.if_icmp .eq 824, 3) := by decide +kernel
theorem dL_law_481 : decode cL_law 481 = .ok (.iconst 0, 1) := by decide +kernel
theorem dL_law_482 : decode cL_law 482 = .ok (.ireturn, 1) := by decide +kernel
theorem dL_law_483 : decode cL_law 483 = .ok (.aload_n 1, 1) := by decide +kernel
theorem dL_law_484 : decode cL_law 484 = .ok (.invokevirtual 53, 3) := by decide +kernel
theorem dL_law_487 : decode cL_law 487 = .ok (.aload_n 2, 1) := by decide +kernel
theorem dL_law_488 : decode cL_law 488 = .ok (.invokevirtual 57, 3) := by decide +kernel
theorem dL_law_491 : decode cL_law 491 = .ok (.if_icmp .eq 811, 3) := by decide +kernel
theorem dL_law_494 : decode cL_law 494 = .ok (.iconst 0, 1) := by decide +kernel
theorem dL_law_495 : decode cL_law 495 = .ok (.ireturn, 1) := by decide +kernel
theorem dL_law_496 : decode cL_law 496 = .ok (.aload_n 1, 1) := by decide +kernel
theorem dL_law_497 : decode cL_law 497 = .ok (.invokevirtual 58, 3) := by decide +kernel
theorem dL_law_500 : decode cL_law 500 = .ok (.aload_n 2, 1) := by decide +kernel
theorem dL_law_501 : decode cL_law 501 = .ok (.invokevirtual 61, 3) := by decide +kernel
theorem dL_law_504 : decode cL_law 504 = .ok (.if_icmp .eq 798, 3) := by decide +kernel
theorem dL_law_507 : decode cL_law 507 = .ok (.iconst 0, 1) := by decide +kernel
theorem dL_law_508 : decode cL_law 508 = .ok (.ireturn, 1) := by decide +kernel
theorem dL_law_509 : decode cL_law 509 = .ok (.aload_n 1, 1) := by decide +kernel
theorem dL_law_510 : decode cL_law 510 = .ok (.invokevirtual 62, 3) := by decide +kernel
theorem dL_law_513 : decode cL_law 513 = .ok (.aload_n 2, 1) := by decide +kernel
theorem dL_law_514 : decode cL_law 514 = .ok (.invokevirtual 65, 3) := by decide +kernel
theorem dL_law_517 : decode cL_law 517 = .ok (.if_icmp .eq 785, 3) := by decide +kernel
theorem dL_law_520 : decode cL_law 520 = .ok (.iconst 0, 1) := by decide +kernel
theorem dL_law_521 : decode cL_law 521 = .ok (.ireturn, 1) := by decide +kernel
theorem dL_law_522 : decode cL_law 522 = .ok (.aload_n 1, 1) := by decide +kernel
theorem dL_law_523 : decode cL_law 523 = .ok (.invokevirtual 66, 3) := by decide +kernel
theorem dL_law_526 : decode cL_law 526 = .ok (.aload_n 2, 1) := by decide +kernel
theorem dL_law_527 : decode cL_law 527 = .ok (.invokevirtual 69, 3) := by decide +kernel
theorem dL_law_530 : decode cL_law 530 = .ok (.if_icmp .eq 772, 3) := by decide +kernel
theorem dL_law_533 : decode cL_law 533 = .ok (.iconst 0, 1) := by decide +kernel
theorem dL_law_534 : decode cL_law 534 = .ok (.ireturn, 1) := by decide +kernel
theorem dL_law_535 : decode cL_law 535 = .ok (.aload_n 1, 1) := by decide +kernel
theorem dL_law_536 : decode cL_law 536 = .ok (.aload_n 0, 1) := by decide +kernel
theorem dL_law_537 : decode cL_law 537 = .ok (.iload_n 3, 1) := by decide +kernel
theorem dL_law_538 : decode cL_law 538 = .ok (.iconst 1, 1) := by decide +kernel
theorem dL_law_539 : decode cL_law 539 = .ok (.iadd, 1) := by decide +kernel
theorem dL_law_540 : decode cL_law 540 = .ok (.iaload, 1) := by decide +kernel
theorem dL_law_541 : decode cL_law 541 = .ok (.invokevirtual 70, 3) := by decide +kernel
theorem dL_law_544 : decode cL_law 544 = .ok (.aload_n 2, 1) := by decide +kernel
theorem dL_law_545 : decode cL_law 545 = .ok (.aload_n 0, 1) := by decide +kernel
theorem dL_law_546 : decode cL_law 546 = .ok (.iload_n 3, 1) := by decide +kernel
theorem dL_law_547 : decode cL_law 547 = .ok (.iconst 1, 1) := by decide +kernel
theorem dL_law_548 : decode cL_law 548 = .ok (.iadd, 1) := by decide +kernel
theorem dL_law_549 : decode cL_law 549 = .ok (.iaload, 1) := by decide +kernel
theorem dL_law_550 : decode cL_law 550 = .ok (.invokevirtual 73, 3) := by decide +kernel
theorem dL_law_553 : decode cL_law 553 = .ok (.if_icmp .eq 749, 3) := by decide +kernel
theorem dL_law_556 : decode cL_law 556 = .ok (.iconst 0, 1) := by decide +kernel
theorem dL_law_557 : decode cL_law 557 = .ok (.ireturn, 1) := by decide +kernel
theorem dL_law_558 : decode cL_law 558 = .ok (.aload_n 1, 1) := by decide +kernel
theorem dL_law_559 : decode cL_law 559 = .ok (.invokevirtual 74, 3) := by decide +kernel
theorem dL_law_562 : decode cL_law 562 = .ok (.aload_n 2, 1) := by decide +kernel
theorem dL_law_563 : decode cL_law 563 = .ok (.invokevirtual 77, 3) := by decide +kernel
theorem dL_law_566 : decode cL_law 566 = .ok (.if_icmp .eq 736, 3) := by decide +kernel
theorem dL_law_569 : decode cL_law 569 = .ok (.iconst 0, 1) := by decide +kernel
theorem dL_law_570 : decode cL_law 570 = .ok (.ireturn, 1) := by decide +kernel
theorem dL_law_571 : decode cL_law 571 = .ok (.aload_n 1, 1) := by decide +kernel
theorem dL_law_572 : decode cL_law 572 = .ok (.invokevirtual 78, 3) := by decide +kernel
theorem dL_law_575 : decode cL_law 575 = .ok (.aload_n 2, 1) := by decide +kernel
theorem dL_law_576 : decode cL_law 576 = .ok (.invokevirtual 81, 3) := by decide +kernel
theorem dL_law_579 : decode cL_law 579 = .ok (.if_icmp .eq 723, 3) := by decide +kernel
theorem dL_law_582 : decode cL_law 582 = .ok (.iconst 0, 1) := by decide +kernel
theorem dL_law_583 : decode cL_law 583 = .ok (.ireturn, 1) := by decide +kernel
theorem dL_law_584 : decode cL_law 584 = .ok (.aload_n 1, 1) := by decide +kernel
theorem dL_law_585 : decode cL_law 585 = .ok (.invokevirtual 82, 3) := by decide +kernel
theorem dL_law_588 : decode cL_law 588 = .ok (.aload_n 2, 1) := by decide +kernel
theorem dL_law_589 : decode cL_law 589 = .ok (.invokevirtual 85, 3) := by decide +kernel
theorem dL_law_592 : decode cL_law 592 = .ok (.if_icmp .eq 710, 3) := by decide +kernel
theorem dL_law_595 : decode cL_law 595 = .ok (.iconst 0, 1) := by decide +kernel
theorem dL_law_596 : decode cL_law 596 = .ok (.ireturn, 1) := by decide +kernel
theorem dL_law_597 : decode cL_law 597 = .ok (.aload_n 1, 1) := by decide +kernel
theorem dL_law_598 : decode cL_law 598 = .ok (.invokevirtual 86, 3) := by decide +kernel
theorem dL_law_601 : decode cL_law 601 = .ok (.aload_n 2, 1) := by decide +kernel
theorem dL_law_602 : decode cL_law 602 = .ok (.invokevirtual 89, 3) := by decide +kernel
theorem dL_law_605 : decode cL_law 605 = .ok (.if_icmp .eq 697, 3) := by decide +kernel
theorem dL_law_608 : decode cL_law 608 = .ok (.iconst 0, 1) := by decide +kernel
theorem dL_law_609 : decode cL_law 609 = .ok (.ireturn, 1) := by decide +kernel
theorem dL_law_610 : decode cL_law 610 = .ok (.aload_n 1, 1) := by decide +kernel
theorem dL_law_611 : decode cL_law 611 = .ok (.invokevirtual 90, 3) := by decide +kernel
theorem dL_law_614 : decode cL_law 614 = .ok (.aload_n 2, 1) := by decide +kernel
theorem dL_law_615 : decode cL_law 615 = .ok (.invokevirtual 93, 3) := by decide +kernel
theorem dL_law_618 : decode cL_law 618 = .ok (.if_icmp .eq 684, 3) := by decide +kernel
theorem dL_law_621 : decode cL_law 621 = .ok (.iconst 0, 1) := by decide +kernel
theorem dL_law_622 : decode cL_law 622 = .ok (.ireturn, 1) := by decide +kernel
theorem dL_law_623 : decode cL_law 623 = .ok (.aload_n 1, 1) := by decide +kernel
theorem dL_law_624 : decode cL_law 624 = .ok (.aload_n 0, 1) := by decide +kernel
theorem dL_law_625 : decode cL_law 625 = .ok (.iload_n 3, 1) := by decide +kernel
theorem dL_law_626 : decode cL_law 626 = .ok (.iconst 1, 1) := by decide +kernel
theorem dL_law_627 : decode cL_law 627 = .ok (.iadd, 1) := by decide +kernel
theorem dL_law_628 : decode cL_law 628 = .ok (.iaload, 1) := by decide +kernel
theorem dL_law_629 : decode cL_law 629 = .ok (.invokevirtual 94, 3) := by decide +kernel
theorem dL_law_632 : decode cL_law 632 = .ok (.aload_n 2, 1) := by decide +kernel
theorem dL_law_633 : decode cL_law 633 = .ok (.aload_n 0, 1) := by decide +kernel
theorem dL_law_634 : decode cL_law 634 = .ok (.iload_n 3, 1) := by decide +kernel
theorem dL_law_635 : decode cL_law 635 = .ok (.iconst 1, 1) := by decide +kernel
theorem dL_law_636 : decode cL_law 636 = .ok (.iadd, 1) := by decide +kernel
theorem dL_law_637 : decode cL_law 637 = .ok (.iaload, 1) := by decide +kernel
theorem dL_law_638 : decode cL_law 638 = .ok (.invokevirtual 97, 3) := by decide +kernel
theorem dL_law_641 : decode cL_law 641 = .ok (.if_icmp .eq 661, 3) := by decide +kernel
theorem dL_law_644 : decode cL_law 644 = .ok (.iconst 0, 1) := by decide +kernel
theorem dL_law_645 : decode cL_law 645 = .ok (.ireturn, 1) := by decide +kernel
theorem dL_law_646 : decode cL_law 646 = .ok (.aload_n 1, 1) := by decide +kernel
theorem dL_law_647 : decode cL_law 647 = .ok (.aload_n 0, 1) := by decide +kernel
theorem dL_law_648 : decode cL_law 648 = .ok (.iload_n 3, 1) := by decide +kernel
theorem dL_law_649 : decode cL_law 649 = .ok (.iconst 1, 1) := by decide +kernel
theorem dL_law_650 : decode cL_law 650 = .ok (.iadd, 1) := by decide +kernel
theorem dL_law_651 : decode cL_law 651 = .ok (.iaload, 1) := by decide +kernel
theorem dL_law_652 : decode cL_law 652 = .ok (.invokevirtual 98, 3) := by decide +kernel
theorem dL_law_655 : decode cL_law 655 = .ok (.aload_n 2, 1) := by decide +kernel
theorem dL_law_656 : decode cL_law 656 = .ok (.aload_n 0, 1) := by decide +kernel
theorem dL_law_657 : decode cL_law 657 = .ok (.iload_n 3, 1) := by decide +kernel
theorem dL_law_658 : decode cL_law 658 = .ok (.iconst 1, 1) := by decide +kernel
theorem dL_law_659 : decode cL_law 659 = .ok (.iadd, 1) := by decide +kernel
theorem dL_law_660 : decode cL_law 660 = .ok (.iaload, 1) := by decide +kernel
theorem dL_law_661 : decode cL_law 661 = .ok (.invokevirtual 101, 3) := by decide +kernel
theorem dL_law_664 : decode cL_law 664 = .ok (.if_icmp .eq 638, 3) := by decide +kernel
theorem dL_law_667 : decode cL_law 667 = .ok (.iconst 0, 1) := by decide +kernel
theorem dL_law_668 : decode cL_law 668 = .ok (.ireturn, 1) := by decide +kernel
theorem dL_law_669 : decode cL_law 669 = .ok (.aload_n 1, 1) := by decide +kernel
theorem dL_law_670 : decode cL_law 670 = .ok (.aload_n 0, 1) := by decide +kernel
theorem dL_law_671 : decode cL_law 671 = .ok (.iload_n 3, 1) := by decide +kernel
theorem dL_law_672 : decode cL_law 672 = .ok (.iconst 1, 1) := by decide +kernel
theorem dL_law_673 : decode cL_law 673 = .ok (.iadd, 1) := by decide +kernel
theorem dL_law_674 : decode cL_law 674 = .ok (.iaload, 1) := by decide +kernel
theorem dL_law_675 : decode cL_law 675 = .ok (.invokevirtual 102, 3) := by decide +kernel
theorem dL_law_678 : decode cL_law 678 = .ok (.aload_n 2, 1) := by decide +kernel
theorem dL_law_679 : decode cL_law 679 = .ok (.aload_n 0, 1) := by decide +kernel
theorem dL_law_680 : decode cL_law 680 = .ok (.iload_n 3, 1) := by decide +kernel
theorem dL_law_681 : decode cL_law 681 = .ok (.iconst 1, 1) := by decide +kernel
theorem dL_law_682 : decode cL_law 682 = .ok (.iadd, 1) := by decide +kernel
theorem dL_law_683 : decode cL_law 683 = .ok (.iaload, 1) := by decide +kernel
theorem dL_law_684 : decode cL_law 684 = .ok (.invokevirtual 105, 3) := by decide +kernel
theorem dL_law_687 : decode cL_law 687 = .ok (.if_icmp .eq 615, 3) := by decide +kernel
theorem dL_law_690 : decode cL_law 690 = .ok (.iconst 0, 1) := by decide +kernel
theorem dL_law_691 : decode cL_law 691 = .ok (.ireturn, 1) := by decide +kernel
theorem dL_law_692 : decode cL_law 692 = .ok (.aload_n 1, 1) := by decide +kernel
theorem dL_law_693 : decode cL_law 693 = .ok (.invokevirtual 106, 3) := by decide +kernel
theorem dL_law_696 : decode cL_law 696 = .ok (.aload_n 2, 1) := by decide +kernel
theorem dL_law_697 : decode cL_law 697 = .ok (.invokevirtual 109, 3) := by decide +kernel
theorem dL_law_700 : decode cL_law 700 = .ok (.if_icmp .eq 602, 3) := by decide +kernel
theorem dL_law_703 : decode cL_law 703 = .ok (.iconst 0, 1) := by decide +kernel
theorem dL_law_704 : decode cL_law 704 = .ok (.ireturn, 1) := by decide +kernel
theorem dL_law_705 : decode cL_law 705 = .ok (.aload_n 1, 1) := by decide +kernel
theorem dL_law_706 : decode cL_law 706 = .ok (.invokevirtual 110, 3) := by decide +kernel
theorem dL_law_709 : decode cL_law 709 = .ok (.aload_n 2, 1) := by decide +kernel
theorem dL_law_710 : decode cL_law 710 = .ok (.invokevirtual 113, 3) := by decide +kernel
theorem dL_law_713 : decode cL_law 713 = .ok (.if_icmp .eq 589, 3) := by decide +kernel
theorem dL_law_716 : decode cL_law 716 = .ok (.iconst 0, 1) := by decide +kernel
theorem dL_law_717 : decode cL_law 717 = .ok (.ireturn, 1) := by decide +kernel
theorem dL_law_718 : decode cL_law 718 = .ok (.aload_n 1, 1) := by decide +kernel
theorem dL_law_719 : decode cL_law 719 = .ok (.aload_n 0, 1) := by decide +kernel
theorem dL_law_720 : decode cL_law 720 = .ok (.iload_n 3, 1) := by decide +kernel
theorem dL_law_721 : decode cL_law 721 = .ok (.iconst 1, 1) := by decide +kernel
theorem dL_law_722 : decode cL_law 722 = .ok (.iadd, 1) := by decide +kernel
theorem dL_law_723 : decode cL_law 723 = .ok (.iaload, 1) := by decide +kernel
theorem dL_law_724 : decode cL_law 724 = .ok (.aload_n 0, 1) := by decide +kernel
theorem dL_law_725 : decode cL_law 725 = .ok (.iload_n 3, 1) := by decide +kernel
theorem dL_law_726 : decode cL_law 726 = .ok (.iconst 2, 1) := by decide +kernel
theorem dL_law_727 : decode cL_law 727 = .ok (.iadd, 1) := by decide +kernel
theorem dL_law_728 : decode cL_law 728 = .ok (.iaload, 1) := by decide +kernel
theorem dL_law_729 : decode cL_law 729 = .ok (.invokevirtual 114, 3) := by decide +kernel
theorem dL_law_732 : decode cL_law 732 = .ok (.aload_n 2, 1) := by decide +kernel
theorem dL_law_733 : decode cL_law 733 = .ok (.aload_n 0, 1) := by decide +kernel
theorem dL_law_734 : decode cL_law 734 = .ok (.iload_n 3, 1) := by decide +kernel
theorem dL_law_735 : decode cL_law 735 = .ok (.iconst 1, 1) := by decide +kernel
theorem dL_law_736 : decode cL_law 736 = .ok (.iadd, 1) := by decide +kernel
theorem dL_law_737 : decode cL_law 737 = .ok (.iaload, 1) := by decide +kernel
theorem dL_law_738 : decode cL_law 738 = .ok (.aload_n 0, 1) := by decide +kernel
theorem dL_law_739 : decode cL_law 739 = .ok (.iload_n 3, 1) := by decide +kernel
theorem dL_law_740 : decode cL_law 740 = .ok (.iconst 2, 1) := by decide +kernel
theorem dL_law_741 : decode cL_law 741 = .ok (.iadd, 1) := by decide +kernel
theorem dL_law_742 : decode cL_law 742 = .ok (.iaload, 1) := by decide +kernel
theorem dL_law_743 : decode cL_law 743 = .ok (.invokevirtual 117, 3) := by decide +kernel
theorem dL_law_746 : decode cL_law 746 = .ok (.if_icmp .eq 556, 3) := by decide +kernel
theorem dL_law_749 : decode cL_law 749 = .ok (.iconst 0, 1) := by decide +kernel
theorem dL_law_750 : decode cL_law 750 = .ok (.ireturn, 1) := by decide +kernel
theorem dL_law_751 : decode cL_law 751 = .ok (.aload_n 1, 1) := by decide +kernel
theorem dL_law_752 : decode cL_law 752 = .ok (.aload_n 0, 1) := by decide +kernel
theorem dL_law_753 : decode cL_law 753 = .ok (.iload_n 3, 1) := by decide +kernel
theorem dL_law_754 : decode cL_law 754 = .ok (.iconst 1, 1) := by decide +kernel
theorem dL_law_755 : decode cL_law 755 = .ok (.iadd, 1) := by decide +kernel
theorem dL_law_756 : decode cL_law 756 = .ok (.iaload, 1) := by decide +kernel
theorem dL_law_757 : decode cL_law 757 = .ok (.aload_n 0, 1) := by decide +kernel
theorem dL_law_758 : decode cL_law 758 = .ok (.iload_n 3, 1) := by decide +kernel
theorem dL_law_759 : decode cL_law 759 = .ok (.iconst 2, 1) := by decide +kernel
theorem dL_law_760 : decode cL_law 760 = .ok (.iadd, 1) := by decide +kernel
theorem dL_law_761 : decode cL_law 761 = .ok (.iaload, 1) := by decide +kernel
theorem dL_law_762 : decode cL_law 762 = .ok (.aload_n 0, 1) := by decide +kernel
theorem dL_law_763 : decode cL_law 763 = .ok (.iload_n 3, 1) := by decide +kernel
theorem dL_law_764 : decode cL_law 764 = .ok (.iconst 3, 1) := by decide +kernel
theorem dL_law_765 : decode cL_law 765 = .ok (.iadd, 1) := by decide +kernel
theorem dL_law_766 : decode cL_law 766 = .ok (.iaload, 1) := by decide +kernel
theorem dL_law_767 : decode cL_law 767 = .ok (.invokevirtual 118, 3) := by decide +kernel
theorem dL_law_770 : decode cL_law 770 = .ok (.aload_n 2, 1) := by decide +kernel
theorem dL_law_771 : decode cL_law 771 = .ok (.aload_n 0, 1) := by decide +kernel
theorem dL_law_772 : decode cL_law 772 = .ok (.iload_n 3, 1) := by decide +kernel
theorem dL_law_773 : decode cL_law 773 = .ok (.iconst 1, 1) := by decide +kernel
theorem dL_law_774 : decode cL_law 774 = .ok (.iadd, 1) := by decide +kernel
theorem dL_law_775 : decode cL_law 775 = .ok (.iaload, 1) := by decide +kernel
theorem dL_law_776 : decode cL_law 776 = .ok (.aload_n 0, 1) := by decide +kernel
theorem dL_law_777 : decode cL_law 777 = .ok (.iload_n 3, 1) := by decide +kernel
theorem dL_law_778 : decode cL_law 778 = .ok (.iconst 2, 1) := by decide +kernel
theorem dL_law_779 : decode cL_law 779 = .ok (.iadd, 1) := by decide +kernel
theorem dL_law_780 : decode cL_law 780 = .ok (.iaload, 1) := by decide +kernel
theorem dL_law_781 : decode cL_law 781 = .ok (.aload_n 0, 1) := by decide +kernel
theorem dL_law_782 : decode cL_law 782 = .ok (.iload_n 3, 1) := by decide +kernel
theorem dL_law_783 : decode cL_law 783 = .ok (.iconst 3, 1) := by decide +kernel
theorem dL_law_784 : decode cL_law 784 = .ok (.iadd, 1) := by decide +kernel
theorem dL_law_785 : decode cL_law 785 = .ok (.iaload, 1) := by decide +kernel
theorem dL_law_786 : decode cL_law 786 = .ok (.invokevirtual 122, 3) := by decide +kernel
theorem dL_law_789 : decode cL_law 789 = .ok (.if_icmp .eq 513, 3) := by decide +kernel
theorem dL_law_792 : decode cL_law 792 = .ok (.iconst 0, 1) := by decide +kernel
theorem dL_law_793 : decode cL_law 793 = .ok (.ireturn, 1) := by decide +kernel
theorem dL_law_794 : decode cL_law 794 = .ok (.aload_n 1, 1) := by decide +kernel
theorem dL_law_795 : decode cL_law 795 = .ok (.aload_n 0, 1) := by decide +kernel
theorem dL_law_796 : decode cL_law 796 = .ok (.iload_n 3, 1) := by decide +kernel
theorem dL_law_797 : decode cL_law 797 = .ok (.iconst 1, 1) := by decide +kernel
theorem dL_law_798 : decode cL_law 798 = .ok (.iadd, 1) := by decide +kernel
theorem dL_law_799 : decode cL_law 799 = .ok (.iaload, 1) := by decide +kernel
theorem dL_law_800 : decode cL_law 800 = .ok (.aload_n 0, 1) := by decide +kernel
theorem dL_law_801 : decode cL_law 801 = .ok (.iload_n 3, 1) := by decide +kernel
theorem dL_law_802 : decode cL_law 802 = .ok (.iconst 2, 1) := by decide +kernel
theorem dL_law_803 : decode cL_law 803 = .ok (.iadd, 1) := by decide +kernel
theorem dL_law_804 : decode cL_law 804 = .ok (.iaload, 1) := by decide +kernel
theorem dL_law_805 : decode cL_law 805 = .ok (.invokevirtual 123, 3) := by decide +kernel
theorem dL_law_808 : decode cL_law 808 = .ok (.aload_n 2, 1) := by decide +kernel
theorem dL_law_809 : decode cL_law 809 = .ok (.aload_n 0, 1) := by decide +kernel
theorem dL_law_810 : decode cL_law 810 = .ok (.iload_n 3, 1) := by decide +kernel
theorem dL_law_811 : decode cL_law 811 = .ok (.iconst 1, 1) := by decide +kernel
theorem dL_law_812 : decode cL_law 812 = .ok (.iadd, 1) := by decide +kernel
theorem dL_law_813 : decode cL_law 813 = .ok (.iaload, 1) := by decide +kernel
theorem dL_law_814 : decode cL_law 814 = .ok (.aload_n 0, 1) := by decide +kernel
theorem dL_law_815 : decode cL_law 815 = .ok (.iload_n 3, 1) := by decide +kernel
theorem dL_law_816 : decode cL_law 816 = .ok (.iconst 2, 1) := by decide +kernel
theorem dL_law_817 : decode cL_law 817 = .ok (.iadd, 1) := by decide +kernel
theorem dL_law_818 : decode cL_law 818 = .ok (.iaload, 1) := by decide +kernel
theorem dL_law_819 : decode cL_law 819 = .ok (.invokevirtual 126, 3) := by decide +kernel
theorem dL_law_822 : decode cL_law 822 = .ok (.if_icmp .eq 480, 3) := by decide +kernel
theorem dL_law_825 : decode cL_law 825 = .ok (.iconst 0, 1) := by decide +kernel
theorem dL_law_826 : decode cL_law 826 = .ok (.ireturn, 1) := by decide +kernel
theorem dL_law_827 : decode cL_law 827 = .ok (.aload_n 1, 1) := by decide +kernel
theorem dL_law_828 : decode cL_law 828 = .ok (.aload_n 0, 1) := by decide +kernel
theorem dL_law_829 : decode cL_law 829 = .ok (.iload_n 3, 1) := by decide +kernel
theorem dL_law_830 : decode cL_law 830 = .ok (.iconst 1, 1) := by decide +kernel
theorem dL_law_831 : decode cL_law 831 = .ok (.iadd, 1) := by decide +kernel
theorem dL_law_832 : decode cL_law 832 = .ok (.iaload, 1) := by decide +kernel
theorem dL_law_833 : decode cL_law 833 = .ok (.aload_n 0, 1) := by decide +kernel
theorem dL_law_834 : decode cL_law 834 = .ok (.iload_n 3, 1) := by decide +kernel
theorem dL_law_835 : decode cL_law 835 = .ok (.iconst 2, 1) := by decide +kernel
theorem dL_law_836 : decode cL_law 836 = .ok (.iadd, 1) := by decide +kernel
theorem dL_law_837 : decode cL_law 837 = .ok (.iaload, 1) := by decide +kernel
theorem dL_law_838 : decode cL_law 838 = .ok (.invokevirtual 127, 3) := by decide +kernel
theorem dL_law_841 : decode cL_law 841 = .ok (.aload_n 2, 1) := by decide +kernel
theorem dL_law_842 : decode cL_law 842 = .ok (.aload_n 0, 1) := by decide +kernel
theorem dL_law_843 : decode cL_law 843 = .ok (.iload_n 3, 1) := by decide +kernel
theorem dL_law_844 : decode cL_law 844 = .ok (.iconst 1, 1) := by decide +kernel
theorem dL_law_845 : decode cL_law 845 = .ok (.iadd, 1) := by decide +kernel
theorem dL_law_846 : decode cL_law 846 = .ok (.iaload, 1) := by decide +kernel
theorem dL_law_847 : decode cL_law 847 = .ok (.aload_n 0, 1) := by decide +kernel
theorem dL_law_848 : decode cL_law 848 = .ok (.iload_n 3, 1) := by decide +kernel
theorem dL_law_849 : decode cL_law 849 = .ok (.iconst 2, 1) := by decide +kernel
theorem dL_law_850 : decode cL_law 850 = .ok (.iadd, 1) := by decide +kernel
theorem dL_law_851 : decode cL_law 851 = .ok (.iaload, 1) := by decide +kernel
theorem dL_law_852 : decode cL_law 852 = .ok (.invokevirtual 130, 3) := by decide +kernel
theorem dL_law_855 : decode cL_law 855 = .ok (.if_icmp .eq 447, 3) := by decide +kernel
theorem dL_law_858 : decode cL_law 858 = .ok (.iconst 0, 1) := by decide +kernel
theorem dL_law_859 : decode cL_law 859 = .ok (.ireturn, 1) := by decide +kernel
theorem dL_law_860 : decode cL_law 860 = .ok (.aload_n 1, 1) := by decide +kernel
theorem dL_law_861 : decode cL_law 861 = .ok (.aload_n 0, 1) := by decide +kernel
theorem dL_law_862 : decode cL_law 862 = .ok (.iload_n 3, 1) := by decide +kernel
theorem dL_law_863 : decode cL_law 863 = .ok (.iconst 1, 1) := by decide +kernel
theorem dL_law_864 : decode cL_law 864 = .ok (.iadd, 1) := by decide +kernel
theorem dL_law_865 : decode cL_law 865 = .ok (.iaload, 1) := by decide +kernel
theorem dL_law_866 : decode cL_law 866 = .ok (.aload_n 0, 1) := by decide +kernel
theorem dL_law_867 : decode cL_law 867 = .ok (.iload_n 3, 1) := by decide +kernel
theorem dL_law_868 : decode cL_law 868 = .ok (.iconst 2, 1) := by decide +kernel
theorem dL_law_869 : decode cL_law 869 = .ok (.iadd, 1) := by decide +kernel
theorem dL_law_870 : decode cL_law 870 = .ok (.iaload, 1) := by decide +kernel
theorem dL_law_871 : decode cL_law 871 = .ok (.aload_n 0, 1) := by decide +kernel
theorem dL_law_872 : decode cL_law 872 = .ok (.iload_n 3, 1) := by decide +kernel
theorem dL_law_873 : decode cL_law 873 = .ok (.iconst 3, 1) := by decide +kernel
theorem dL_law_874 : decode cL_law 874 = .ok (.iadd, 1) := by decide +kernel
theorem dL_law_875 : decode cL_law 875 = .ok (.iaload, 1) := by decide +kernel
theorem dL_law_876 : decode cL_law 876 = .ok (.aload_n 0, 1) := by decide +kernel
theorem dL_law_877 : decode cL_law 877 = .ok (.iload_n 3, 1) := by decide +kernel
theorem dL_law_878 : decode cL_law 878 = .ok (.iconst 4, 1) := by decide +kernel
theorem dL_law_879 : decode cL_law 879 = .ok (.iadd, 1) := by decide +kernel
theorem dL_law_880 : decode cL_law 880 = .ok (.iaload, 1) := by decide +kernel
theorem dL_law_881 : decode cL_law 881 = .ok (.invokevirtual 131, 3) := by decide +kernel
theorem dL_law_884 : decode cL_law 884 = .ok (.aload_n 2, 1) := by decide +kernel
theorem dL_law_885 : decode cL_law 885 = .ok (.aload_n 0, 1) := by decide +kernel
theorem dL_law_886 : decode cL_law 886 = .ok (.iload_n 3, 1) := by decide +kernel
theorem dL_law_887 : decode cL_law 887 = .ok (.iconst 1, 1) := by decide +kernel
theorem dL_law_888 : decode cL_law 888 = .ok (.iadd, 1) := by decide +kernel
theorem dL_law_889 : decode cL_law 889 = .ok (.iaload, 1) := by decide +kernel
theorem dL_law_890 : decode cL_law 890 = .ok (.aload_n 0, 1) := by decide +kernel
theorem dL_law_891 : decode cL_law 891 = .ok (.iload_n 3, 1) := by decide +kernel
theorem dL_law_892 : decode cL_law 892 = .ok (.iconst 2, 1) := by decide +kernel
theorem dL_law_893 : decode cL_law 893 = .ok (.iadd, 1) := by decide +kernel
theorem dL_law_894 : decode cL_law 894 = .ok (.iaload, 1) := by decide +kernel
theorem dL_law_895 : decode cL_law 895 = .ok (.aload_n 0, 1) := by decide +kernel
theorem dL_law_896 : decode cL_law 896 = .ok (.iload_n 3, 1) := by decide +kernel
theorem dL_law_897 : decode cL_law 897 = .ok (.iconst 3, 1) := by decide +kernel
theorem dL_law_898 : decode cL_law 898 = .ok (.iadd, 1) := by decide +kernel
theorem dL_law_899 : decode cL_law 899 = .ok (.iaload, 1) := by decide +kernel
theorem dL_law_900 : decode cL_law 900 = .ok (.aload_n 0, 1) := by decide +kernel
theorem dL_law_901 : decode cL_law 901 = .ok (.iload_n 3, 1) := by decide +kernel
theorem dL_law_902 : decode cL_law 902 = .ok (.iconst 4, 1) := by decide +kernel
theorem dL_law_903 : decode cL_law 903 = .ok (.iadd, 1) := by decide +kernel
theorem dL_law_904 : decode cL_law 904 = .ok (.iaload, 1) := by decide +kernel
theorem dL_law_905 : decode cL_law 905 = .ok (.invokevirtual 135, 3) := by decide +kernel
theorem dL_law_908 : decode cL_law 908 = .ok (.if_icmp .eq 394, 3) := by decide +kernel
theorem dL_law_911 : decode cL_law 911 = .ok (.iconst 0, 1) := by decide +kernel
theorem dL_law_912 : decode cL_law 912 = .ok (.ireturn, 1) := by decide +kernel
theorem dL_law_913 : decode cL_law 913 = .ok (.aload_n 1, 1) := by decide +kernel
theorem dL_law_914 : decode cL_law 914 = .ok (.aload_n 0, 1) := by decide +kernel
theorem dL_law_915 : decode cL_law 915 = .ok (.iload_n 3, 1) := by decide +kernel
theorem dL_law_916 : decode cL_law 916 = .ok (.iconst 1, 1) := by decide +kernel
theorem dL_law_917 : decode cL_law 917 = .ok (.iadd, 1) := by decide +kernel
theorem dL_law_918 : decode cL_law 918 = .ok (.iaload, 1) := by decide +kernel
theorem dL_law_919 : decode cL_law 919 = .ok (.aload_n 0, 1) := by decide +kernel
theorem dL_law_920 : decode cL_law 920 = .ok (.iload_n 3, 1) := by decide +kernel
theorem dL_law_921 : decode cL_law 921 = .ok (.iconst 2, 1) := by decide +kernel
theorem dL_law_922 : decode cL_law 922 = .ok (.iadd, 1) := by decide +kernel
theorem dL_law_923 : decode cL_law 923 = .ok (.iaload, 1) := by decide +kernel
theorem dL_law_924 : decode cL_law 924 = .ok (.invokevirtual 136, 3) := by decide +kernel
theorem dL_law_927 : decode cL_law 927 = .ok (.aload_n 2, 1) := by decide +kernel
theorem dL_law_928 : decode cL_law 928 = .ok (.aload_n 0, 1) := by decide +kernel
theorem dL_law_929 : decode cL_law 929 = .ok (.iload_n 3, 1) := by decide +kernel
theorem dL_law_930 : decode cL_law 930 = .ok (.iconst 1, 1) := by decide +kernel
theorem dL_law_931 : decode cL_law 931 = .ok (.iadd, 1) := by decide +kernel
theorem dL_law_932 : decode cL_law 932 = .ok (.iaload, 1) := by decide +kernel
theorem dL_law_933 : decode cL_law 933 = .ok (.aload_n 0, 1) := by decide +kernel
theorem dL_law_934 : decode cL_law 934 = .ok (.iload_n 3, 1) := by decide +kernel
theorem dL_law_935 : decode cL_law 935 = .ok (.iconst 2, 1) := by decide +kernel
theorem dL_law_936 : decode cL_law 936 = .ok (.iadd, 1) := by decide +kernel
theorem dL_law_937 : decode cL_law 937 = .ok (.iaload, 1) := by decide +kernel
theorem dL_law_938 : decode cL_law 938 = .ok (.invokevirtual 139, 3) := by decide +kernel
theorem dL_law_941 : decode cL_law 941 = .ok (.if_icmp .eq 361, 3) := by decide +kernel
theorem dL_law_944 : decode cL_law 944 = .ok (.iconst 0, 1) := by decide +kernel
theorem dL_law_945 : decode cL_law 945 = .ok (.ireturn, 1) := by decide +kernel
theorem dL_law_946 : decode cL_law 946 = .ok (.aload_n 1, 1) := by decide +kernel
theorem dL_law_947 : decode cL_law 947 = .ok (.aload_n 0, 1) := by decide +kernel
theorem dL_law_948 : decode cL_law 948 = .ok (.iload_n 3, 1) := by decide +kernel
theorem dL_law_949 : decode cL_law 949 = .ok (.iconst 1, 1) := by decide +kernel
theorem dL_law_950 : decode cL_law 950 = .ok (.iadd, 1) := by decide +kernel
theorem dL_law_951 : decode cL_law 951 = .ok (.iaload, 1) := by decide +kernel
theorem dL_law_952 : decode cL_law 952 = .ok (.invokevirtual 140, 3) := by decide +kernel
theorem dL_law_955 : decode cL_law 955 = .ok (.aload_n 2, 1) := by decide +kernel
theorem dL_law_956 : decode cL_law 956 = .ok (.aload_n 0, 1) := by decide +kernel
theorem dL_law_957 : decode cL_law 957 = .ok (.iload_n 3, 1) := by decide +kernel
theorem dL_law_958 : decode cL_law 958 = .ok (.iconst 1, 1) := by decide +kernel
theorem dL_law_959 : decode cL_law 959 = .ok (.iadd, 1) := by decide +kernel
theorem dL_law_960 : decode cL_law 960 = .ok (.iaload, 1) := by decide +kernel
theorem dL_law_961 : decode cL_law 961 = .ok (.invokevirtual 143, 3) := by decide +kernel
theorem dL_law_964 : decode cL_law 964 = .ok (.if_icmp .eq 338, 3) := by decide +kernel
theorem dL_law_967 : decode cL_law 967 = .ok (.iconst 0, 1) := by decide +kernel
theorem dL_law_968 : decode cL_law 968 = .ok (.ireturn, 1) := by decide +kernel
theorem dL_law_969 : decode cL_law 969 = .ok (.aload_n 1, 1) := by decide +kernel
theorem dL_law_970 : decode cL_law 970 = .ok (.aload_n 0, 1) := by decide +kernel
theorem dL_law_971 : decode cL_law 971 = .ok (.iload_n 3, 1) := by decide +kernel
theorem dL_law_972 : decode cL_law 972 = .ok (.iconst 1, 1) := by decide +kernel
theorem dL_law_973 : decode cL_law 973 = .ok (.iadd, 1) := by decide +kernel
theorem dL_law_974 : decode cL_law 974 = .ok (.iaload, 1) := by decide +kernel
theorem dL_law_975 : decode cL_law 975 = .ok (.aload_n 0, 1) := by decide +kernel
theorem dL_law_976 : decode cL_law 976 = .ok (.iload_n 3, 1) := by decide +kernel
theorem dL_law_977 : decode cL_law 977 = .ok (.iconst 2, 1) := by decide +kernel
theorem dL_law_978 : decode cL_law 978 = .ok (.iadd, 1) := by decide +kernel
theorem dL_law_979 : decode cL_law 979 = .ok (.iaload, 1) := by decide +kernel
theorem dL_law_980 : decode cL_law 980 = .ok (.aload_n 0, 1) := by decide +kernel
theorem dL_law_981 : decode cL_law 981 = .ok (.iload_n 3, 1) := by decide +kernel
theorem dL_law_982 : decode cL_law 982 = .ok (.iconst 3, 1) := by decide +kernel
theorem dL_law_983 : decode cL_law 983 = .ok (.iadd, 1) := by decide +kernel
theorem dL_law_984 : decode cL_law 984 = .ok (.iaload, 1) := by decide +kernel
theorem dL_law_985 : decode cL_law 985 = .ok (.aload_n 0, 1) := by decide +kernel
theorem dL_law_986 : decode cL_law 986 = .ok (.iload_n 3, 1) := by decide +kernel
theorem dL_law_987 : decode cL_law 987 = .ok (.iconst 4, 1) := by decide +kernel
theorem dL_law_988 : decode cL_law 988 = .ok (.iadd, 1) := by decide +kernel
theorem dL_law_989 : decode cL_law 989 = .ok (.iaload, 1) := by decide +kernel
theorem dL_law_990 : decode cL_law 990 = .ok (.invokevirtual 144, 3) := by decide +kernel
theorem dL_law_993 : decode cL_law 993 = .ok (.aload_n 2, 1) := by decide +kernel
theorem dL_law_994 : decode cL_law 994 = .ok (.aload_n 0, 1) := by decide +kernel
theorem dL_law_995 : decode cL_law 995 = .ok (.iload_n 3, 1) := by decide +kernel
theorem dL_law_996 : decode cL_law 996 = .ok (.iconst 1, 1) := by decide +kernel
theorem dL_law_997 : decode cL_law 997 = .ok (.iadd, 1) := by decide +kernel
theorem dL_law_998 : decode cL_law 998 = .ok (.iaload, 1) := by decide +kernel
theorem dL_law_999 : decode cL_law 999 = .ok (.aload_n 0, 1) := by decide +kernel
theorem dL_law_1000 : decode cL_law 1000 = .ok (.iload_n 3, 1) := by decide +kernel
theorem dL_law_1001 : decode cL_law 1001 = .ok (.iconst 2, 1) := by decide +kernel
theorem dL_law_1002 : decode cL_law 1002 = .ok (.iadd, 1) := by decide +kernel
theorem dL_law_1003 : decode cL_law 1003 = .ok (.iaload, 1) := by decide +kernel
theorem dL_law_1004 : decode cL_law 1004 = .ok (.aload_n 0, 1) := by decide +kernel
theorem dL_law_1005 : decode cL_law 1005 = .ok (.iload_n 3, 1) := by decide +kernel
theorem dL_law_1006 : decode cL_law 1006 = .ok (.iconst 3, 1) := by decide +kernel
theorem dL_law_1007 : decode cL_law 1007 = .ok (.iadd, 1) := by decide +kernel
theorem dL_law_1008 : decode cL_law 1008 = .ok (.iaload, 1) := by decide +kernel
theorem dL_law_1009 : decode cL_law 1009 = .ok (.aload_n 0, 1) := by decide +kernel
theorem dL_law_1010 : decode cL_law 1010 = .ok (.iload_n 3, 1) := by decide +kernel
theorem dL_law_1011 : decode cL_law 1011 = .ok (.iconst 4, 1) := by decide +kernel
theorem dL_law_1012 : decode cL_law 1012 = .ok (.iadd, 1) := by decide +kernel
theorem dL_law_1013 : decode cL_law 1013 = .ok (.iaload, 1) := by decide +kernel
theorem dL_law_1014 : decode cL_law 1014 = .ok (.invokevirtual 147, 3) := by decide +kernel
theorem dL_law_1017 : decode cL_law 1017 = .ok (.if_icmp .eq 285, 3) := by decide +kernel
theorem dL_law_1020 : decode cL_law 1020 = .ok (.iconst 0, 1) := by decide +kernel
theorem dL_law_1021 : decode cL_law 1021 = .ok (.ireturn, 1) := by decide +kernel
theorem dL_law_1022 : decode cL_law 1022 = .ok (.aload_n 1, 1) := by decide +kernel
theorem dL_law_1023 : decode cL_law 1023 = .ok (.aload_n 0, 1) := by decide +kernel
theorem dL_law_1024 : decode cL_law 1024 = .ok (.iload_n 3, 1) := by decide +kernel
theorem dL_law_1025 : decode cL_law 1025 = .ok (.iconst 1, 1) := by decide +kernel
theorem dL_law_1026 : decode cL_law 1026 = .ok (.iadd, 1) := by decide +kernel
theorem dL_law_1027 : decode cL_law 1027 = .ok (.iaload, 1) := by decide +kernel
theorem dL_law_1028 : decode cL_law 1028 = .ok (.invokevirtual 148, 3) := by decide +kernel
theorem dL_law_1031 : decode cL_law 1031 = .ok (.aload_n 2, 1) := by decide +kernel
theorem dL_law_1032 : decode cL_law 1032 = .ok (.aload_n 0, 1) := by decide +kernel
theorem dL_law_1033 : decode cL_law 1033 = .ok (.iload_n 3, 1) := by decide +kernel
theorem dL_law_1034 : decode cL_law 1034 = .ok (.iconst 1, 1) := by decide +kernel
theorem dL_law_1035 : decode cL_law 1035 = .ok (.iadd, 1) := by decide +kernel
theorem dL_law_1036 : decode cL_law 1036 = .ok (.iaload, 1) := by decide +kernel
theorem dL_law_1037 : decode cL_law 1037 = .ok (.invokevirtual 152, 3) := by decide +kernel
theorem dL_law_1040 : decode cL_law 1040 = .ok (.if_icmp .eq 262, 3) := by decide +kernel
theorem dL_law_1043 : decode cL_law 1043 = .ok (.iconst 0, 1) := by decide +kernel
theorem dL_law_1044 : decode cL_law 1044 = .ok (.ireturn, 1) := by decide +kernel
theorem dL_law_1045 : decode cL_law 1045 = .ok (.aload_n 1, 1) := by decide +kernel
theorem dL_law_1046 : decode cL_law 1046 = .ok (.aload_n 0, 1) := by decide +kernel
theorem dL_law_1047 : decode cL_law 1047 = .ok (.iload_n 3, 1) := by decide +kernel
theorem dL_law_1048 : decode cL_law 1048 = .ok (.iconst 1, 1) := by decide +kernel
theorem dL_law_1049 : decode cL_law 1049 = .ok (.iadd, 1) := by decide +kernel
theorem dL_law_1050 : decode cL_law 1050 = .ok (.iaload, 1) := by decide +kernel
theorem dL_law_1051 : decode cL_law 1051 = .ok (.invokevirtual 153, 3) := by decide +kernel
theorem dL_law_1054 : decode cL_law 1054 = .ok (.aload_n 2, 1) := by decide +kernel
theorem dL_law_1055 : decode cL_law 1055 = .ok (.aload_n 0, 1) := by decide +kernel
theorem dL_law_1056 : decode cL_law 1056 = .ok (.iload_n 3, 1) := by decide +kernel
theorem dL_law_1057 : decode cL_law 1057 = .ok (.iconst 1, 1) := by decide +kernel
theorem dL_law_1058 : decode cL_law 1058 = .ok (.iadd, 1) := by decide +kernel
theorem dL_law_1059 : decode cL_law 1059 = .ok (.iaload, 1) := by decide +kernel
theorem dL_law_1060 : decode cL_law 1060 = .ok (.invokevirtual 156, 3) := by decide +kernel
theorem dL_law_1063 : decode cL_law 1063 = .ok (.if_icmp .eq 239, 3) := by decide +kernel
theorem dL_law_1066 : decode cL_law 1066 = .ok (.iconst 0, 1) := by decide +kernel
theorem dL_law_1067 : decode cL_law 1067 = .ok (.ireturn, 1) := by decide +kernel
theorem dL_law_1068 : decode cL_law 1068 = .ok (.aload_n 1, 1) := by decide +kernel
theorem dL_law_1069 : decode cL_law 1069 = .ok (.aload_n 0, 1) := by decide +kernel
theorem dL_law_1070 : decode cL_law 1070 = .ok (.iload_n 3, 1) := by decide +kernel
theorem dL_law_1071 : decode cL_law 1071 = .ok (.iconst 1, 1) := by decide +kernel
theorem dL_law_1072 : decode cL_law 1072 = .ok (.iadd, 1) := by decide +kernel
theorem dL_law_1073 : decode cL_law 1073 = .ok (.iaload, 1) := by decide +kernel
theorem dL_law_1074 : decode cL_law 1074 = .ok (.invokevirtual 157, 3) := by decide +kernel
theorem dL_law_1077 : decode cL_law 1077 = .ok (.aload_n 2, 1) := by decide +kernel
theorem dL_law_1078 : decode cL_law 1078 = .ok (.aload_n 0, 1) := by decide +kernel
theorem dL_law_1079 : decode cL_law 1079 = .ok (.iload_n 3, 1) := by decide +kernel
theorem dL_law_1080 : decode cL_law 1080 = .ok (.iconst 1, 1) := by decide +kernel
theorem dL_law_1081 : decode cL_law 1081 = .ok (.iadd, 1) := by decide +kernel
theorem dL_law_1082 : decode cL_law 1082 = .ok (.iaload, 1) := by decide +kernel
theorem dL_law_1083 : decode cL_law 1083 = .ok (.invokevirtual 160, 3) := by decide +kernel
theorem dL_law_1086 : decode cL_law 1086 = .ok (.if_icmp .eq 216, 3) := by decide +kernel
theorem dL_law_1089 : decode cL_law 1089 = .ok (.iconst 0, 1) := by decide +kernel
theorem dL_law_1090 : decode cL_law 1090 = .ok (.ireturn, 1) := by decide +kernel
theorem dL_law_1091 : decode cL_law 1091 = .ok (.aload_n 1, 1) := by decide +kernel
theorem dL_law_1092 : decode cL_law 1092 = .ok (.aload_n 0, 1) := by decide +kernel
theorem dL_law_1093 : decode cL_law 1093 = .ok (.iload_n 3, 1) := by decide +kernel
theorem dL_law_1094 : decode cL_law 1094 = .ok (.iconst 1, 1) := by decide +kernel
theorem dL_law_1095 : decode cL_law 1095 = .ok (.iadd, 1) := by decide +kernel
theorem dL_law_1096 : decode cL_law 1096 = .ok (.iaload, 1) := by decide +kernel
theorem dL_law_1097 : decode cL_law 1097 = .ok (.invokevirtual 161, 3) := by decide +kernel
theorem dL_law_1100 : decode cL_law 1100 = .ok (.aload_n 2, 1) := by decide +kernel
theorem dL_law_1101 : decode cL_law 1101 = .ok (.aload_n 0, 1) := by decide +kernel
theorem dL_law_1102 : decode cL_law 1102 = .ok (.iload_n 3, 1) := by decide +kernel
theorem dL_law_1103 : decode cL_law 1103 = .ok (.iconst 1, 1) := by decide +kernel
theorem dL_law_1104 : decode cL_law 1104 = .ok (.iadd, 1) := by decide +kernel
theorem dL_law_1105 : decode cL_law 1105 = .ok (.iaload, 1) := by decide +kernel
theorem dL_law_1106 : decode cL_law 1106 = .ok (.invokevirtual 164, 3) := by decide +kernel
theorem dL_law_1109 : decode cL_law 1109 = .ok (.if_icmp .eq 193, 3) := by decide +kernel
theorem dL_law_1112 : decode cL_law 1112 = .ok (.iconst 0, 1) := by decide +kernel
theorem dL_law_1113 : decode cL_law 1113 = .ok (.ireturn, 1) := by decide +kernel
theorem dL_law_1114 : decode cL_law 1114 = .ok (.aload_n 1, 1) := by decide +kernel
theorem dL_law_1115 : decode cL_law 1115 = .ok (.aload_n 0, 1) := by decide +kernel
theorem dL_law_1116 : decode cL_law 1116 = .ok (.iload_n 3, 1) := by decide +kernel
theorem dL_law_1117 : decode cL_law 1117 = .ok (.iconst 1, 1) := by decide +kernel
theorem dL_law_1118 : decode cL_law 1118 = .ok (.iadd, 1) := by decide +kernel
theorem dL_law_1119 : decode cL_law 1119 = .ok (.iaload, 1) := by decide +kernel
theorem dL_law_1120 : decode cL_law 1120 = .ok (.aload_n 0, 1) := by decide +kernel
theorem dL_law_1121 : decode cL_law 1121 = .ok (.iload_n 3, 1) := by decide +kernel
theorem dL_law_1122 : decode cL_law 1122 = .ok (.iconst 2, 1) := by decide +kernel
theorem dL_law_1123 : decode cL_law 1123 = .ok (.iadd, 1) := by decide +kernel
theorem dL_law_1124 : decode cL_law 1124 = .ok (.iaload, 1) := by decide +kernel
theorem dL_law_1125 : decode cL_law 1125 = .ok (.invokevirtual 165, 3) := by decide +kernel
theorem dL_law_1128 : decode cL_law 1128 = .ok (.aload_n 2, 1) := by decide +kernel
theorem dL_law_1129 : decode cL_law 1129 = .ok (.aload_n 0, 1) := by decide +kernel
theorem dL_law_1130 : decode cL_law 1130 = .ok (.iload_n 3, 1) := by decide +kernel
theorem dL_law_1131 : decode cL_law 1131 = .ok (.iconst 1, 1) := by decide +kernel
theorem dL_law_1132 : decode cL_law 1132 = .ok (.iadd, 1) := by decide +kernel
theorem dL_law_1133 : decode cL_law 1133 = .ok (.iaload, 1) := by decide +kernel
theorem dL_law_1134 : decode cL_law 1134 = .ok (.aload_n 0, 1) := by decide +kernel
theorem dL_law_1135 : decode cL_law 1135 = .ok (.iload_n 3, 1) := by decide +kernel
theorem dL_law_1136 : decode cL_law 1136 = .ok (.iconst 2, 1) := by decide +kernel
theorem dL_law_1137 : decode cL_law 1137 = .ok (.iadd, 1) := by decide +kernel
theorem dL_law_1138 : decode cL_law 1138 = .ok (.iaload, 1) := by decide +kernel
theorem dL_law_1139 : decode cL_law 1139 = .ok (.invokevirtual 168, 3) := by decide +kernel
theorem dL_law_1142 : decode cL_law 1142 = .ok (.if_icmp .eq 160, 3) := by decide +kernel
theorem dL_law_1145 : decode cL_law 1145 = .ok (.iconst 0, 1) := by decide +kernel
theorem dL_law_1146 : decode cL_law 1146 = .ok (.ireturn, 1) := by decide +kernel
theorem dL_law_1147 : decode cL_law 1147 = .ok (.aload_n 1, 1) := by decide +kernel
theorem dL_law_1148 : decode cL_law 1148 = .ok (.aload_n 0, 1) := by decide +kernel
theorem dL_law_1149 : decode cL_law 1149 = .ok (.iload_n 3, 1) := by decide +kernel
theorem dL_law_1150 : decode cL_law 1150 = .ok (.iconst 1, 1) := by decide +kernel
theorem dL_law_1151 : decode cL_law 1151 = .ok (.iadd, 1) := by decide +kernel
theorem dL_law_1152 : decode cL_law 1152 = .ok (.iaload, 1) := by decide +kernel
theorem dL_law_1153 : decode cL_law 1153 = .ok (.aload_n 0, 1) := by decide +kernel
theorem dL_law_1154 : decode cL_law 1154 = .ok (.iload_n 3, 1) := by decide +kernel
theorem dL_law_1155 : decode cL_law 1155 = .ok (.iconst 2, 1) := by decide +kernel
theorem dL_law_1156 : decode cL_law 1156 = .ok (.iadd, 1) := by decide +kernel
theorem dL_law_1157 : decode cL_law 1157 = .ok (.iaload, 1) := by decide +kernel
theorem dL_law_1158 : decode cL_law 1158 = .ok (.aload_n 0, 1) := by decide +kernel
theorem dL_law_1159 : decode cL_law 1159 = .ok (.iload_n 3, 1) := by decide +kernel
theorem dL_law_1160 : decode cL_law 1160 = .ok (.iconst 3, 1) := by decide +kernel
theorem dL_law_1161 : decode cL_law 1161 = .ok (.iadd, 1) := by decide +kernel
theorem dL_law_1162 : decode cL_law 1162 = .ok (.iaload, 1) := by decide +kernel
theorem dL_law_1163 : decode cL_law 1163 = .ok (.aload_n 0, 1) := by decide +kernel
theorem dL_law_1164 : decode cL_law 1164 = .ok (.iload_n 3, 1) := by decide +kernel
theorem dL_law_1165 : decode cL_law 1165 = .ok (.iconst 4, 1) := by decide +kernel
theorem dL_law_1166 : decode cL_law 1166 = .ok (.iadd, 1) := by decide +kernel
theorem dL_law_1167 : decode cL_law 1167 = .ok (.iaload, 1) := by decide +kernel
theorem dL_law_1168 : decode cL_law 1168 = .ok (.invokevirtual 169, 3) := by decide +kernel
theorem dL_law_1171 : decode cL_law 1171 = .ok (.aload_n 2, 1) := by decide +kernel
theorem dL_law_1172 : decode cL_law 1172 = .ok (.aload_n 0, 1) := by decide +kernel
theorem dL_law_1173 : decode cL_law 1173 = .ok (.iload_n 3, 1) := by decide +kernel
theorem dL_law_1174 : decode cL_law 1174 = .ok (.iconst 1, 1) := by decide +kernel
theorem dL_law_1175 : decode cL_law 1175 = .ok (.iadd, 1) := by decide +kernel
theorem dL_law_1176 : decode cL_law 1176 = .ok (.iaload, 1) := by decide +kernel
theorem dL_law_1177 : decode cL_law 1177 = .ok (.aload_n 0, 1) := by decide +kernel
theorem dL_law_1178 : decode cL_law 1178 = .ok (.iload_n 3, 1) := by decide +kernel
theorem dL_law_1179 : decode cL_law 1179 = .ok (.iconst 2, 1) := by decide +kernel
theorem dL_law_1180 : decode cL_law 1180 = .ok (.iadd, 1) := by decide +kernel
theorem dL_law_1181 : decode cL_law 1181 = .ok (.iaload, 1) := by decide +kernel
theorem dL_law_1182 : decode cL_law 1182 = .ok (.aload_n 0, 1) := by decide +kernel
theorem dL_law_1183 : decode cL_law 1183 = .ok (.iload_n 3, 1) := by decide +kernel
theorem dL_law_1184 : decode cL_law 1184 = .ok (.iconst 3, 1) := by decide +kernel
theorem dL_law_1185 : decode cL_law 1185 = .ok (.iadd, 1) := by decide +kernel
theorem dL_law_1186 : decode cL_law 1186 = .ok (.iaload, 1) := by decide +kernel
theorem dL_law_1187 : decode cL_law 1187 = .ok (.aload_n 0, 1) := by decide +kernel
theorem dL_law_1188 : decode cL_law 1188 = .ok (.iload_n 3, 1) := by decide +kernel
theorem dL_law_1189 : decode cL_law 1189 = .ok (.iconst 4, 1) := by decide +kernel
theorem dL_law_1190 : decode cL_law 1190 = .ok (.iadd, 1) := by decide +kernel
theorem dL_law_1191 : decode cL_law 1191 = .ok (.iaload, 1) := by decide +kernel
theorem dL_law_1192 : decode cL_law 1192 = .ok (.invokevirtual 172, 3) := by decide +kernel
theorem dL_law_1195 : decode cL_law 1195 = .ok (.if_icmp .eq 107, 3) := by decide +kernel
theorem dL_law_1198 : decode cL_law 1198 = .ok (.iconst 0, 1) := by decide +kernel
theorem dL_law_1199 : decode cL_law 1199 = .ok (.ireturn, 1) := by decide +kernel
theorem dL_law_1200 : decode cL_law 1200 = .ok (.aload_n 1, 1) := by decide +kernel
theorem dL_law_1201 : decode cL_law 1201 = .ok (.aload_n 0, 1) := by decide +kernel
theorem dL_law_1202 : decode cL_law 1202 = .ok (.iload_n 3, 1) := by decide +kernel
theorem dL_law_1203 : decode cL_law 1203 = .ok (.iconst 1, 1) := by decide +kernel
theorem dL_law_1204 : decode cL_law 1204 = .ok (.iadd, 1) := by decide +kernel
theorem dL_law_1205 : decode cL_law 1205 = .ok (.iaload, 1) := by decide +kernel
theorem dL_law_1206 : decode cL_law 1206 = .ok (.aload_n 0, 1) := by decide +kernel
theorem dL_law_1207 : decode cL_law 1207 = .ok (.iload_n 3, 1) := by decide +kernel
theorem dL_law_1208 : decode cL_law 1208 = .ok (.iconst 2, 1) := by decide +kernel
theorem dL_law_1209 : decode cL_law 1209 = .ok (.iadd, 1) := by decide +kernel
theorem dL_law_1210 : decode cL_law 1210 = .ok (.iaload, 1) := by decide +kernel
theorem dL_law_1211 : decode cL_law 1211 = .ok (.invokevirtual 173, 3) := by decide +kernel
theorem dL_law_1214 : decode cL_law 1214 = .ok (.aload_n 2, 1) := by decide +kernel
theorem dL_law_1215 : decode cL_law 1215 = .ok (.aload_n 0, 1) := by decide +kernel
theorem dL_law_1216 : decode cL_law 1216 = .ok (.iload_n 3, 1) := by decide +kernel
theorem dL_law_1217 : decode cL_law 1217 = .ok (.iconst 1, 1) := by decide +kernel
theorem dL_law_1218 : decode cL_law 1218 = .ok (.iadd, 1) := by decide +kernel
theorem dL_law_1219 : decode cL_law 1219 = .ok (.iaload, 1) := by decide +kernel
theorem dL_law_1220 : decode cL_law 1220 = .ok (.aload_n 0, 1) := by decide +kernel
theorem dL_law_1221 : decode cL_law 1221 = .ok (.iload_n 3, 1) := by decide +kernel
theorem dL_law_1222 : decode cL_law 1222 = .ok (.iconst 2, 1) := by decide +kernel
theorem dL_law_1223 : decode cL_law 1223 = .ok (.iadd, 1) := by decide +kernel
theorem dL_law_1224 : decode cL_law 1224 = .ok (.iaload, 1) := by decide +kernel
theorem dL_law_1225 : decode cL_law 1225 = .ok (.invokevirtual 176, 3) := by decide +kernel
theorem dL_law_1228 : decode cL_law 1228 = .ok (.if_icmp .eq 74, 3) := by decide +kernel
theorem dL_law_1231 : decode cL_law 1231 = .ok (.iconst 0, 1) := by decide +kernel
theorem dL_law_1232 : decode cL_law 1232 = .ok (.ireturn, 1) := by decide +kernel
theorem dL_law_1233 : decode cL_law 1233 = .ok (.aload_n 1, 1) := by decide +kernel
theorem dL_law_1234 : decode cL_law 1234 = .ok (.aload_n 0, 1) := by decide +kernel
theorem dL_law_1235 : decode cL_law 1235 = .ok (.iload_n 3, 1) := by decide +kernel
theorem dL_law_1236 : decode cL_law 1236 = .ok (.iconst 1, 1) := by decide +kernel
theorem dL_law_1237 : decode cL_law 1237 = .ok (.iadd, 1) := by decide +kernel
theorem dL_law_1238 : decode cL_law 1238 = .ok (.iaload, 1) := by decide +kernel
theorem dL_law_1239 : decode cL_law 1239 = .ok (.invokevirtual 177, 3) := by decide +kernel
theorem dL_law_1242 : decode cL_law 1242 = .ok (.aload_n 2, 1) := by decide +kernel
theorem dL_law_1243 : decode cL_law 1243 = .ok (.aload_n 0, 1) := by decide +kernel
theorem dL_law_1244 : decode cL_law 1244 = .ok (.iload_n 3, 1) := by decide +kernel
theorem dL_law_1245 : decode cL_law 1245 = .ok (.iconst 1, 1) := by decide +kernel
theorem dL_law_1246 : decode cL_law 1246 = .ok (.iadd, 1) := by decide +kernel
theorem dL_law_1247 : decode cL_law 1247 = .ok (.iaload, 1) := by decide +kernel
theorem dL_law_1248 : decode cL_law 1248 = .ok (.invokevirtual 180, 3) := by decide +kernel
theorem dL_law_1251 : decode cL_law 1251 = .ok (.if_icmp .eq 51, 3) := by decide +kernel
theorem dL_law_1254 : decode cL_law 1254 = .ok (.iconst 0, 1) := by decide +kernel
theorem dL_law_1255 : decode cL_law 1255 = .ok (.ireturn, 1) := by decide +kernel
theorem dL_law_1256 : decode cL_law 1256 = .ok (.aload_n 1, 1) := by decide +kernel
theorem dL_law_1257 : decode cL_law 1257 = .ok (.aload_n 0, 1) := by decide +kernel
theorem dL_law_1258 : decode cL_law 1258 = .ok (.iload_n 3, 1) := by decide +kernel
theorem dL_law_1259 : decode cL_law 1259 = .ok (.iconst 1, 1) := by decide +kernel
theorem dL_law_1260 : decode cL_law 1260 = .ok (.iadd, 1) := by decide +kernel
theorem dL_law_1261 : decode cL_law 1261 = .ok (.iaload, 1) := by decide +kernel
theorem dL_law_1262 : decode cL_law 1262 = .ok (.invokevirtual 181, 3) := by decide +kernel
theorem dL_law_1265 : decode cL_law 1265 = .ok (.aload_n 2, 1) := by decide +kernel
theorem dL_law_1266 : decode cL_law 1266 = .ok (.aload_n 0, 1) := by decide +kernel
theorem dL_law_1267 : decode cL_law 1267 = .ok (.iload_n 3, 1) := by decide +kernel
theorem dL_law_1268 : decode cL_law 1268 = .ok (.iconst 1, 1) := by decide +kernel
theorem dL_law_1269 : decode cL_law 1269 = .ok (.iadd, 1) := by decide +kernel
theorem dL_law_1270 : decode cL_law 1270 = .ok (.iaload, 1) := by decide +kernel
theorem dL_law_1271 : decode cL_law 1271 = .ok (.invokevirtual 184, 3) := by decide +kernel
theorem dL_law_1274 : decode cL_law 1274 = .ok (.if_icmp .eq 28, 3) := by decide +kernel
theorem dL_law_1277 : decode cL_law 1277 = .ok (.iconst 0, 1) := by decide +kernel
theorem dL_law_1278 : decode cL_law 1278 = .ok (.ireturn, 1) := by decide +kernel
theorem dL_law_1279 : decode cL_law 1279 = .ok (.aload_n 1, 1) := by decide +kernel
theorem dL_law_1280 : decode cL_law 1280 = .ok (.aload_n 0, 1) := by decide +kernel
theorem dL_law_1281 : decode cL_law 1281 = .ok (.iload_n 3, 1) := by decide +kernel
theorem dL_law_1282 : decode cL_law 1282 = .ok (.iconst 1, 1) := by decide +kernel
theorem dL_law_1283 : decode cL_law 1283 = .ok (.iadd, 1) := by decide +kernel
theorem dL_law_1284 : decode cL_law 1284 = .ok (.iaload, 1) := by decide +kernel
theorem dL_law_1285 : decode cL_law 1285 = .ok (.invokevirtual 185, 3) := by decide +kernel
theorem dL_law_1288 : decode cL_law 1288 = .ok (.aload_n 2, 1) := by decide +kernel
theorem dL_law_1289 : decode cL_law 1289 = .ok (.aload_n 0, 1) := by decide +kernel
theorem dL_law_1290 : decode cL_law 1290 = .ok (.iload_n 3, 1) := by decide +kernel
theorem dL_law_1291 : decode cL_law 1291 = .ok (.iconst 1, 1) := by decide +kernel
theorem dL_law_1292 : decode cL_law 1292 = .ok (.iadd, 1) := by decide +kernel
theorem dL_law_1293 : decode cL_law 1293 = .ok (.iaload, 1) := by decide +kernel
theorem dL_law_1294 : decode cL_law 1294 = .ok (.invokevirtual 188, 3) := by decide +kernel
theorem dL_law_1297 : decode cL_law 1297 = .ok (.if_icmp .eq 5, 3) := by decide +kernel
theorem dL_law_1300 : decode cL_law 1300 = .ok (.iconst 0, 1) := by decide +kernel
theorem dL_law_1301 : decode cL_law 1301 = .ok (.ireturn, 1) := by decide +kernel
theorem dL_law_1302 : decode cL_law 1302 = .ok (.iinc 3 6, 3) := by decide +kernel
theorem dL_law_1305 : decode cL_law 1305 = .ok (.goto (-1287), 3) := by decide +kernel
theorem dL_law_1308 : decode cL_law 1308 = .ok (.iconst 1, 1) := by decide +kernel
theorem dL_law_1309 : decode cL_law 1309 = .ok (.ireturn, 1) := by decide +kernel
