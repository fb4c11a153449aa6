theorem dX12_leastTakeWins_0 : decode cX12_leastTakeWins 0 = .ok (.iconst 0, 1) := by decide +kernel
theorem dX12_leastTakeWins_1 : decode cX12_leastTakeWins 1 = .ok (.istore_n 3, 1) := by decide +kernel
theorem dX12_leastTakeWins_2 : decode cX12_leastTakeWins 2 = .ok (.iconst 0, 1) := by decide +kernel
theorem dX12_leastTakeWins_3 : decode cX12_leastTakeWins 3 = .ok (.istore 4, 2) := by decide +kernel
theorem dX12_leastTakeWins_5 : decode cX12_leastTakeWins 5 = .ok (.iload 4, 2) := by decide +kernel
theorem dX12_leastTakeWins_7 : decode cX12_leastTakeWins 7 = .ok (.iload_n 1, 1) := by decide +kernel
theorem dX12_leastTakeWins_8 : decode cX12_leastTakeWins 8 = .ok (.if_icmp .gt 91, 3) := by decide +kernel
theorem dX12_leastTakeWins_11 : decode cX12_leastTakeWins 11 = .ok (.iconst 0, 1) := by decide +kernel
theorem dX12_leastTakeWins_12 : decode cX12_leastTakeWins 12 = .ok (.istore 5, 2) := by decide +kernel
theorem dX12_leastTakeWins_14 : decode cX12_leastTakeWins 14 = .ok (.iload 5, 2) := by decide +kernel
theorem dX12_leastTakeWins_16 : decode cX12_leastTakeWins 16 = .ok (.iload_n 2, 1) := by decide +kernel
theorem dX12_leastTakeWins_17 : decode cX12_leastTakeWins 17 = .ok (.if_icmp .gt 76, 3) := by decide +kernel
theorem dX12_leastTakeWins_20 : decode cX12_leastTakeWins 20 = .ok (.iload 4, 2) := by decide +kernel
theorem dX12_leastTakeWins_22 : decode cX12_leastTakeWins 22 = .ok (.iload 5, 2) := by decide +kernel
theorem dX12_leastTakeWins_24 : decode cX12_leastTakeWins 24 = .ok (.iadd, 1) := by decide +kernel
theorem dX12_leastTakeWins_25 : decode cX12_leastTakeWins 25 = .ok (.ifCond .le 24, 3) := by decide +kernel
theorem dX12_leastTakeWins_28 : decode cX12_leastTakeWins 28 = .ok (.iload 4, 2) := by decide +kernel
theorem dX12_leastTakeWins_30 : decode cX12_leastTakeWins 30 = .ok (.ifCond .eq 15, 3) := by decide +kernel
theorem dX12_leastTakeWins_33 : decode cX12_leastTakeWins 33 = .ok (.iload 5, 2) := by decide +kernel
theorem dX12_leastTakeWins_35 : decode cX12_leastTakeWins 35 = .ok (.ifCond .eq 10, 3) := by decide +kernel
theorem dX12_leastTakeWins_38 : decode cX12_leastTakeWins 38 = .ok (.iload 4, 2) := by decide +kernel
theorem dX12_leastTakeWins_40 : decode cX12_leastTakeWins 40 = .ok (.iload 5, 2) := by decide +kernel
theorem dX12_leastTakeWins_42 : decode cX12_leastTakeWins 42 = .ok (.if_icmp .ne 7, 3) := by decide +kernel
theorem dX12_leastTakeWins_45 : decode cX12_leastTakeWins 45 = .ok (.iconst 1, 1) := by decide +kernel
theorem dX12_leastTakeWins_46 : decode cX12_leastTakeWins 46 = .ok (.goto 4, 3) := by decide +kernel
theorem dX12_leastTakeWins_49 : decode cX12_leastTakeWins 49 = .ok (.iconst 0, 1) := by decide +kernel
theorem dX12_leastTakeWins_50 : decode cX12_leastTakeWins 50 = .ok (.istore 6, 2) := by decide +kernel
theorem dX12_leastTakeWins_52 : decode cX12_leastTakeWins 52 = .ok (.iload_n 3, 1) := by decide +kernel
theorem dX12_leastTakeWins_53 : decode cX12_leastTakeWins 53 = .ok (.ifCond .ne 28, 3) := by decide +kernel
theorem dX12_leastTakeWins_56 : decode cX12_leastTakeWins 56 = .ok (.iload 6, 2) := by decide +kernel
theorem dX12_leastTakeWins_58 : decode cX12_leastTakeWins 58 = .ok (.ifCond .eq 27, 3) := by decide +kernel
theorem dX12_leastTakeWins_61 : decode cX12_leastTakeWins 61 = .ok (.aload_n 0, 1) := by decide +kernel
theorem dX12_leastTakeWins_62 : decode cX12_leastTakeWins 62 = .ok (.getfield 46, 3) := by decide +kernel
theorem dX12_leastTakeWins_65 : decode cX12_leastTakeWins 65 = .ok (.bipush 21, 2) := by decide +kernel
theorem dX12_leastTakeWins_67 : decode cX12_leastTakeWins 67 = .ok (.iload_n 1, 1) := by decide +kernel
theorem dX12_leastTakeWins_68 : decode cX12_leastTakeWins 68 = .ok (.iload 4, 2) := by decide +kernel
theorem dX12_leastTakeWins_70 : decode cX12_leastTakeWins 70 = .ok (.isub, 1) := by decide +kernel
theorem dX12_leastTakeWins_71 : decode cX12_leastTakeWins 71 = .ok (.imul, 1) := by decide +kernel
theorem dX12_leastTakeWins_72 : decode cX12_leastTakeWins 72 = .ok (.iload_n 2, 1) := by decide +kernel
theorem dX12_leastTakeWins_73 : decode cX12_leastTakeWins 73 = .ok (.iadd, 1) := by decide +kernel
theorem dX12_leastTakeWins_74 : decode cX12_leastTakeWins 74 = .ok (.iload 5, 2) := by decide +kernel
theorem dX12_leastTakeWins_76 : decode cX12_leastTakeWins 76 = .ok (.isub, 1) := by decide +kernel
theorem dX12_leastTakeWins_77 : decode cX12_leastTakeWins 77 = .ok (.baload, 1) := by decide +kernel
theorem dX12_leastTakeWins_78 : decode cX12_leastTakeWins 78 = .ok (.ifCond .ne 7, 3) := by decide +kernel
theorem dX12_leastTakeWins_81 : decode cX12_leastTakeWins 81 = .ok (.iconst 1, 1) := by decide +kernel
theorem dX12_leastTakeWins_82 : decode cX12_leastTakeWins 82 = .ok (.goto 4, 3) := by decide +kernel
theorem dX12_leastTakeWins_85 : decode cX12_leastTakeWins 85 = .ok (.iconst 0, 1) := by decide +kernel
theorem dX12_leastTakeWins_86 : decode cX12_leastTakeWins 86 = .ok (.istore_n 3, 1) := by decide +kernel
theorem dX12_leastTakeWins_87 : decode cX12_leastTakeWins 87 = .ok (.iinc 5 1, 3) := by decide +kernel
theorem dX12_leastTakeWins_90 : decode cX12_leastTakeWins 90 = .ok (.goto (-76), 3) := by decide +kernel
theorem dX12_leastTakeWins_93 : decode cX12_leastTakeWins 93 = .ok (.iinc 4 1, 3) := by decide +kernel
theorem dX12_leastTakeWins_96 : decode cX12_leastTakeWins 96 = .ok (.goto (-91), 3) := by decide +kernel
theorem dX12_leastTakeWins_99 : decode cX12_leastTakeWins 99 = .ok (.iload_n 3, 1) := by decide +kernel
theorem dX12_leastTakeWins_100 : decode cX12_leastTakeWins 100 = .ok (.ireturn, 1) := by decide +kernel
theorem dX12_lowest_0 : decode cX12_lowest 0 = .ok (.lload_n 2, 1) := by decide +kernel
theorem dX12_lowest_1 : decode cX12_lowest 1 = .ok (.lstore 5, 2) := by decide +kernel
theorem dX12_lowest_3 : decode cX12_lowest 3 = .ok (.lload_n 0, 1) := by decide +kernel
theorem dX12_lowest_4 : decode cX12_lowest 4 = .ok (.lstore 7, 2) := by decide +kernel
theorem dX12_lowest_6 : decode cX12_lowest 6 = .ok (.lload 7, 2) := by decide +kernel
theorem dX12_lowest_8 : decode cX12_lowest 8 = .ok (.lconst 0, 1) := by decide +kernel
theorem dX12_lowest_9 : decode cX12_lowest 9 = .ok (.lcmp, 1) := by decide +kernel
theorem dX12_lowest_10 : decode cX12_lowest 10 = .ok (.ifCond .eq 21, 3) := by decide +kernel
theorem dX12_lowest_13 : decode cX12_lowest 13 = .ok (.lload 5, 2) := by decide +kernel
theorem dX12_lowest_15 : decode cX12_lowest 15 = .ok (.lload 7, 2) := by decide +kernel
theorem dX12_lowest_17 : decode cX12_lowest 17 = .ok (.lrem, 1) := by decide +kernel
theorem dX12_lowest_18 : decode cX12_lowest 18 = .ok (.lstore 9, 2) := by decide +kernel
theorem dX12_lowest_20 : decode cX12_lowest 20 = .ok (.lload 7, 2) := by decide +kernel
theorem dX12_lowest_22 : decode cX12_lowest 22 = .ok (.lstore 5, 2) := by decide +kernel
theorem dX12_lowest_24 : decode cX12_lowest 24 = .ok (.lload 9, 2) := by decide +kernel
theorem dX12_lowest_26 : decode cX12_lowest 26 = .ok (.lstore 7, 2) := by decide +kernel
theorem dX12_lowest_28 : decode cX12_lowest 28 = .ok (.goto (-22), 3) := by decide +kernel
theorem dX12_lowest_31 : decode cX12_lowest 31 = .ok (.iload 4, 2) := by decide +kernel
theorem dX12_lowest_33 : decode cX12_lowest 33 = .ok (.ifCond .ne 10, 3) := by decide +kernel
theorem dX12_lowest_36 : decode cX12_lowest 36 = .ok (.lload_n 0, 1) := by decide +kernel
theorem dX12_lowest_37 : decode cX12_lowest 37 = .ok (.lload 5, 2) := by decide +kernel
theorem dX12_lowest_39 : decode cX12_lowest 39 = .ok (.ldiv, 1) := by decide +kernel
theorem dX12_lowest_40 : decode cX12_lowest 40 = .ok (.goto 7, 3) := by decide +kernel
theorem dX12_lowest_43 : decode cX12_lowest 43 = .ok (.lload_n 2, 1) := by decide +kernel
theorem dX12_lowest_44 : decode cX12_lowest 44 = .ok (.lload 5, 2) := by decide +kernel
theorem dX12_lowest_46 : decode cX12_lowest 46 = .ok (.ldiv, 1) := by decide +kernel
theorem dX12_lowest_47 : decode cX12_lowest 47 = .ok (.lreturn, 1) := by decide +kernel
theorem dX12_lengths_0 : decode cX12_lengths 0 = .ok (.iload_n 1, 1) := by decide +kernel
theorem dX12_lengths_1 : decode cX12_lengths 1 = .ok (.i2l, 1) := by decide +kernel
theorem dX12_lengths_2 : decode cX12_lengths 2 = .ok (.lconst 0, 1) := by decide +kernel
theorem dX12_lengths_3 : decode cX12_lengths 3 = .ok (.ldc2_w 259, 3) := by decide +kernel
theorem dX12_lengths_6 : decode cX12_lengths 6 = .ok (.invokestatic 66, 3) := by decide +kernel
theorem dX12_lengths_9 : decode cX12_lengths 9 = .ok (.ifCond .eq 49, 3) := by decide +kernel
theorem dX12_lengths_12 : decode cX12_lengths 12 = .ok (.iload_n 2, 1) := by decide +kernel
theorem dX12_lengths_13 : decode cX12_lengths 13 = .ok (.i2l, 1) := by decide +kernel
theorem dX12_lengths_14 : decode cX12_lengths 14 = .ok (.lconst 0, 1) := by decide +kernel
theorem dX12_lengths_15 : decode cX12_lengths 15 = .ok (.ldc2_w 259, 3) := by decide +kernel
theorem dX12_lengths_18 : decode cX12_lengths 18 = .ok (.invokestatic 66, 3) := by decide +kernel
theorem dX12_lengths_21 : decode cX12_lengths 21 = .ok (.ifCond .eq 37, 3) := by decide +kernel
theorem dX12_lengths_24 : decode cX12_lengths 24 = .ok (.iload_n 3, 1) := by decide +kernel
theorem dX12_lengths_25 : decode cX12_lengths 25 = .ok (.i2l, 1) := by decide +kernel
theorem dX12_lengths_26 : decode cX12_lengths 26 = .ok (.lconst 0, 1) := by decide +kernel
theorem dX12_lengths_27 : decode cX12_lengths 27 = .ok (.ldc2_w 261, 3) := by decide +kernel
theorem dX12_lengths_30 : decode cX12_lengths 30 = .ok (.invokestatic 66, 3) := by decide +kernel
theorem dX12_lengths_33 : decode cX12_lengths 33 = .ok (.ifCond .eq 25, 3) := by decide +kernel
theorem dX12_lengths_36 : decode cX12_lengths 36 = .ok (.iload 4, 2) := by decide +kernel
theorem dX12_lengths_38 : decode cX12_lengths 38 = .ok (.i2l, 1) := by decide +kernel
theorem dX12_lengths_39 : decode cX12_lengths 39 = .ok (.lconst 0, 1) := by decide +kernel
theorem dX12_lengths_40 : decode cX12_lengths 40 = .ok (.lconst 1, 1) := by decide +kernel
theorem dX12_lengths_41 : decode cX12_lengths 41 = .ok (.invokestatic 66, 3) := by decide +kernel
theorem dX12_lengths_44 : decode cX12_lengths 44 = .ok (.ifCond .eq 14, 3) := by decide +kernel
theorem dX12_lengths_47 : decode cX12_lengths 47 = .ok (.iload 5, 2) := by decide +kernel
theorem dX12_lengths_49 : decode cX12_lengths 49 = .ok (.i2l, 1) := by decide +kernel
theorem dX12_lengths_50 : decode cX12_lengths 50 = .ok (.lconst 0, 1) := by decide +kernel
theorem dX12_lengths_51 : decode cX12_lengths 51 = .ok (.lconst 1, 1) := by decide +kernel
theorem dX12_lengths_52 : decode cX12_lengths 52 = .ok (.invokestatic 66, 3) := by decide +kernel
theorem dX12_lengths_55 : decode cX12_lengths 55 = .ok (.ifCond .ne 7, 3) := by decide +kernel
theorem dX12_lengths_58 : decode cX12_lengths 58 = .ok (.ldc2_w 263, 3) := by decide +kernel
theorem dX12_lengths_61 : decode cX12_lengths 61 = .ok (.lreturn, 1) := by decide +kernel
theorem dX12_lengths_62 : decode cX12_lengths 62 = .ok (.iconst 0, 1) := by decide +kernel
theorem dX12_lengths_63 : decode cX12_lengths 63 = .ok (.istore 6, 2) := by decide +kernel
theorem dX12_lengths_65 : decode cX12_lengths 65 = .ok (.iload 6, 2) := by decide +kernel
theorem dX12_lengths_67 : decode cX12_lengths 67 = .ok (.bipush 14, 2) := by decide +kernel
theorem dX12_lengths_69 : decode cX12_lengths 69 = .ok (.if_icmp .ge 26, 3) := by decide +kernel
theorem dX12_lengths_72 : decode cX12_lengths 72 = .ok (.aload_n 0, 1) := by decide +kernel
theorem dX12_lengths_73 : decode cX12_lengths 73 = .ok (.getfield 50, 3) := by decide +kernel
theorem dX12_lengths_76 : decode cX12_lengths 76 = .ok (.iload 6, 2) := by decide +kernel
theorem dX12_lengths_78 : decode cX12_lengths 78 = .ok (.iload 6, 2) := by decide +kernel
theorem dX12_lengths_80 : decode cX12_lengths 80 = .ok (.ifCond .ne 7, 3) := by decide +kernel
theorem dX12_lengths_83 : decode cX12_lengths 83 = .ok (.lconst 1, 1) := by decide +kernel
theorem dX12_lengths_84 : decode cX12_lengths 84 = .ok (.goto 4, 3) := by decide +kernel
theorem dX12_lengths_87 : decode cX12_lengths 87 = .ok (.lconst 0, 1) := by decide +kernel
theorem dX12_lengths_88 : decode cX12_lengths 88 = .ok (.lastore, 1) := by decide +kernel
theorem dX12_lengths_89 : decode cX12_lengths 89 = .ok (.iinc 6 1, 3) := by decide +kernel
theorem dX12_lengths_92 : decode cX12_lengths 92 = .ok (.goto (-27), 3) := by decide +kernel
theorem dX12_lengths_95 : decode cX12_lengths 95 = .ok (.lconst 1, 1) := by decide +kernel
theorem dX12_lengths_96 : decode cX12_lengths 96 = .ok (.lstore 6, 2) := by decide +kernel
theorem dX12_lengths_98 : decode cX12_lengths 98 = .ok (.iconst 0, 1) := by decide +kernel
theorem dX12_lengths_99 : decode cX12_lengths 99 = .ok (.istore 8, 2) := by decide +kernel
theorem dX12_lengths_101 : decode cX12_lengths 101 = .ok (.iload 8, 2) := by decide +kernel
theorem dX12_lengths_103 : decode cX12_lengths 103 = .ok (.iload_n 2, 1) := by decide +kernel
theorem dX12_lengths_104 : decode cX12_lengths 104 = .ok (.if_icmp .ge 75, 3) := by decide +kernel
theorem dX12_lengths_107 : decode cX12_lengths 107 = .ok (.lload 6, 2) := by decide +kernel
theorem dX12_lengths_109 : decode cX12_lengths 109 = .ok (.ldc2_w 261, 3) := by decide +kernel
theorem dX12_lengths_112 : decode cX12_lengths 112 = .ok (.lmul, 1) := by decide +kernel
theorem dX12_lengths_113 : decode cX12_lengths 113 = .ok (.lstore 6, 2) := by decide +kernel
theorem dX12_lengths_115 : decode cX12_lengths 115 = .ok (.bipush 13, 2) := by decide +kernel
theorem dX12_lengths_117 : decode cX12_lengths 117 = .ok (.istore 9, 2) := by decide +kernel
theorem dX12_lengths_119 : decode cX12_lengths 119 = .ok (.iload 9, 2) := by decide +kernel
theorem dX12_lengths_121 : decode cX12_lengths 121 = .ok (.ifCond .lt 52, 3) := by decide +kernel
theorem dX12_lengths_124 : decode cX12_lengths 124 = .ok (.aload_n 0, 1) := by decide +kernel
theorem dX12_lengths_125 : decode cX12_lengths 125 = .ok (.getfield 50, 3) := by decide +kernel
theorem dX12_lengths_128 : decode cX12_lengths 128 = .ok (.iload 9, 2) := by decide +kernel
theorem dX12_lengths_130 : decode cX12_lengths 130 = .ok (.ldc2_w 261, 3) := by decide +kernel
theorem dX12_lengths_133 : decode cX12_lengths 133 = .ok (.iload_n 3, 1) := by decide +kernel
theorem dX12_lengths_134 : decode cX12_lengths 134 = .ok (.i2l, 1) := by decide +kernel
theorem dX12_lengths_135 : decode cX12_lengths 135 = .ok (.lsub, 1) := by decide +kernel
theorem dX12_lengths_136 : decode cX12_lengths 136 = .ok (.aload_n 0, 1) := by decide +kernel
theorem dX12_lengths_137 : decode cX12_lengths 137 = .ok (.getfield 50, 3) := by decide +kernel
theorem dX12_lengths_140 : decode cX12_lengths 140 = .ok (.iload 9, 2) := by decide +kernel
theorem dX12_lengths_142 : decode cX12_lengths 142 = .ok (.laload, 1) := by decide +kernel
theorem dX12_lengths_143 : decode cX12_lengths 143 = .ok (.lmul, 1) := by decide +kernel
theorem dX12_lengths_144 : decode cX12_lengths 144 = .ok (.iload 9, 2) := by decide +kernel
theorem dX12_lengths_146 : decode cX12_lengths 146 = .ok (.ifCond .le 18, 3) := by decide +kernel
theorem dX12_lengths_149 : decode cX12_lengths 149 = .ok (.iload_n 3, 1) := by decide +kernel
theorem dX12_lengths_150 : decode cX12_lengths 150 = .ok (.i2l, 1) := by decide +kernel
theorem dX12_lengths_151 : decode cX12_lengths 151 = .ok (.aload_n 0, 1) := by decide +kernel
theorem dX12_lengths_152 : decode cX12_lengths 152 = .ok (.getfield 50, 3) := by decide +kernel
theorem dX12_lengths_155 : decode cX12_lengths 155 = .ok (.iload 9, 2) := by decide +kernel
theorem dX12_lengths_157 : decode cX12_lengths 157 = .ok (.iconst 1, 1) := by decide +kernel
theorem dX12_lengths_158 : decode cX12_lengths 158 = .ok (.isub, 1) := by decide +kernel
theorem dX12_lengths_159 : decode cX12_lengths 159 = .ok (.laload, 1) := by decide +kernel
theorem dX12_lengths_160 : decode cX12_lengths 160 = .ok (.lmul, 1) := by decide +kernel
theorem dX12_lengths_161 : decode cX12_lengths 161 = .ok (.goto 4, 3) := by decide +kernel
theorem dX12_lengths_164 : decode cX12_lengths 164 = .ok (.lconst 0, 1) := by decide +kernel
theorem dX12_lengths_165 : decode cX12_lengths 165 = .ok (.ladd, 1) := by decide +kernel
theorem dX12_lengths_166 : decode cX12_lengths 166 = .ok (.lastore, 1) := by decide +kernel
theorem dX12_lengths_167 : decode cX12_lengths 167 = .ok (.iinc 9 (-1), 3) := by decide +kernel
theorem dX12_lengths_170 : decode cX12_lengths 170 = .ok (.goto (-51), 3) := by decide +kernel
theorem dX12_lengths_173 : decode cX12_lengths 173 = .ok (.iinc 8 1, 3) := by decide +kernel
theorem dX12_lengths_176 : decode cX12_lengths 176 = .ok (.goto (-75), 3) := by decide +kernel
theorem dX12_lengths_179 : decode cX12_lengths 179 = .ok (.lconst 0, 1) := by decide +kernel
theorem dX12_lengths_180 : decode cX12_lengths 180 = .ok (.lstore 8, 2) := by decide +kernel
theorem dX12_lengths_182 : decode cX12_lengths 182 = .ok (.lconst 0, 1) := by decide +kernel
theorem dX12_lengths_183 : decode cX12_lengths 183 = .ok (.lstore 10, 2) := by decide +kernel
theorem dX12_lengths_185 : decode cX12_lengths 185 = .ok (.iconst 0, 1) := by decide +kernel
theorem dX12_lengths_186 : decode cX12_lengths 186 = .ok (.istore 12, 2) := by decide +kernel
theorem dX12_lengths_188 : decode cX12_lengths 188 = .ok (.iload 12, 2) := by decide +kernel
theorem dX12_lengths_190 : decode cX12_lengths 190 = .ok (.iload_n 2, 1) := by decide +kernel
theorem dX12_lengths_191 : decode cX12_lengths 191 = .ok (.if_icmp .gt 51, 3) := by decide +kernel
theorem dX12_lengths_194 : decode cX12_lengths 194 = .ok (.lload 8, 2) := by decide +kernel
theorem dX12_lengths_196 : decode cX12_lengths 196 = .ok (.iload 12, 2) := by decide +kernel
theorem dX12_lengths_198 : decode cX12_lengths 198 = .ok (.iload_n 1, 1) := by decide +kernel
theorem dX12_lengths_199 : decode cX12_lengths 199 = .ok (.if_icmp .lt 13, 3) := by decide +kernel
theorem dX12_lengths_202 : decode cX12_lengths 202 = .ok (.aload_n 0, 1) := by decide +kernel
theorem dX12_lengths_203 : decode cX12_lengths 203 = .ok (.getfield 50, 3) := by decide +kernel
theorem dX12_lengths_206 : decode cX12_lengths 206 = .ok (.iload 12, 2) := by decide +kernel
theorem dX12_lengths_208 : decode cX12_lengths 208 = .ok (.laload, 1) := by decide +kernel
theorem dX12_lengths_209 : decode cX12_lengths 209 = .ok (.goto 4, 3) := by decide +kernel
theorem dX12_lengths_212 : decode cX12_lengths 212 = .ok (.lconst 0, 1) := by decide +kernel
theorem dX12_lengths_213 : decode cX12_lengths 213 = .ok (.ladd, 1) := by decide +kernel
theorem dX12_lengths_214 : decode cX12_lengths 214 = .ok (.lstore 8, 2) := by decide +kernel
theorem dX12_lengths_216 : decode cX12_lengths 216 = .ok (.lload 10, 2) := by decide +kernel
theorem dX12_lengths_218 : decode cX12_lengths 218 = .ok (.iload 12, 2) := by decide +kernel
theorem dX12_lengths_220 : decode cX12_lengths 220 = .ok (.iload_n 1, 1) := by decide +kernel
theorem dX12_lengths_221 : decode cX12_lengths 221 = .ok (.invokestatic 198, 3) := by decide +kernel
theorem dX12_lengths_224 : decode cX12_lengths 224 = .ok (.i2l, 1) := by decide +kernel
theorem dX12_lengths_225 : decode cX12_lengths 225 = .ok (.aload_n 0, 1) := by decide +kernel
theorem dX12_lengths_226 : decode cX12_lengths 226 = .ok (.getfield 50, 3) := by decide +kernel
theorem dX12_lengths_229 : decode cX12_lengths 229 = .ok (.iload 12, 2) := by decide +kernel
theorem dX12_lengths_231 : decode cX12_lengths 231 = .ok (.laload, 1) := by decide +kernel
theorem dX12_lengths_232 : decode cX12_lengths 232 = .ok (.lmul, 1) := by decide +kernel
theorem dX12_lengths_233 : decode cX12_lengths 233 = .ok (.ladd, 1) := by decide +kernel
theorem dX12_lengths_234 : decode cX12_lengths 234 = .ok (.lstore 10, 2) := by decide +kernel
theorem dX12_lengths_236 : decode cX12_lengths 236 = .ok (.iinc 12 1, 3) := by decide +kernel
theorem dX12_lengths_239 : decode cX12_lengths 239 = .ok (.goto (-51), 3) := by decide +kernel
theorem dX12_lengths_242 : decode cX12_lengths 242 = .ok (.iload 4, 2) := by decide +kernel
theorem dX12_lengths_244 : decode cX12_lengths 244 = .ok (.ifCond .ne 8, 3) := by decide +kernel
theorem dX12_lengths_247 : decode cX12_lengths 247 = .ok (.lload 8, 2) := by decide +kernel
theorem dX12_lengths_249 : decode cX12_lengths 249 = .ok (.goto 5, 3) := by decide +kernel
theorem dX12_lengths_252 : decode cX12_lengths 252 = .ok (.lload 10, 2) := by decide +kernel
theorem dX12_lengths_254 : decode cX12_lengths 254 = .ok (.lload 6, 2) := by decide +kernel
theorem dX12_lengths_256 : decode cX12_lengths 256 = .ok (.iload 5, 2) := by decide +kernel
theorem dX12_lengths_258 : decode cX12_lengths 258 = .ok (.invokestatic 265, 3) := by decide +kernel
theorem dX12_lengths_261 : decode cX12_lengths 261 = .ok (.lreturn, 1) := by decide +kernel
theorem dX12_actBy_0 : decode cX12_actBy 0 = .ok (.iload_n 0, 1) := by decide +kernel
theorem dX12_actBy_1 : decode cX12_actBy 1 = .ok (.tableswitch 53 0 6 #[43, 43, 45, 45, 47, 49, 51], 43) := by decide +kernel
theorem dX12_actBy_44 : decode cX12_actBy 44 = .ok (.iconst 0, 1) := by decide +kernel
theorem dX12_actBy_45 : decode cX12_actBy 45 = .ok (.ireturn, 1) := by decide +kernel
theorem dX12_actBy_46 : decode cX12_actBy 46 = .ok (.iconst 1, 1) := by decide +kernel
theorem dX12_actBy_47 : decode cX12_actBy 47 = .ok (.ireturn, 1) := by decide +kernel
theorem dX12_actBy_48 : decode cX12_actBy 48 = .ok (.iconst 2, 1) := by decide +kernel
theorem dX12_actBy_49 : decode cX12_actBy 49 = .ok (.ireturn, 1) := by decide +kernel
theorem dX12_actBy_50 : decode cX12_actBy 50 = .ok (.iconst 3, 1) := by decide +kernel
theorem dX12_actBy_51 : decode cX12_actBy 51 = .ok (.ireturn, 1) := by decide +kernel
theorem dX12_actBy_52 : decode cX12_actBy 52 = .ok (.iconst 4, 1) := by decide +kernel
theorem dX12_actBy_53 : decode cX12_actBy 53 = .ok (.ireturn, 1) := by decide +kernel
theorem dX12_actBy_54 : decode cX12_actBy 54 = .ok (.iconst 5, 1) := by decide +kernel
theorem dX12_actBy_55 : decode cX12_actBy 55 = .ok (.ireturn, 1) := by decide +kernel
theorem dX12_year_0 : decode cX12_year 0 = .ok (.iload_n 1, 1) := by decide +kernel
theorem dX12_year_1 : decode cX12_year 1 = .ok (.i2l, 1) := by decide +kernel
theorem dX12_year_2 : decode cX12_year 2 = .ok (.lconst 0, 1) := by decide +kernel
theorem dX12_year_3 : decode cX12_year 3 = .ok (.ldc2_w 269, 3) := by decide +kernel
theorem dX12_year_6 : decode cX12_year 6 = .ok (.invokestatic 66, 3) := by decide +kernel
theorem dX12_year_9 : decode cX12_year 9 = .ok (.ifCond .eq 27, 3) := by decide +kernel
theorem dX12_year_12 : decode cX12_year 12 = .ok (.iload_n 2, 1) := by decide +kernel
theorem dX12_year_13 : decode cX12_year 13 = .ok (.i2l, 1) := by decide +kernel
theorem dX12_year_14 : decode cX12_year 14 = .ok (.lconst 1, 1) := by decide +kernel
theorem dX12_year_15 : decode cX12_year 15 = .ok (.ldc2_w 82, 3) := by decide +kernel
theorem dX12_year_18 : decode cX12_year 18 = .ok (.invokestatic 66, 3) := by decide +kernel
theorem dX12_year_21 : decode cX12_year 21 = .ok (.ifCond .eq 15, 3) := by decide +kernel
theorem dX12_year_24 : decode cX12_year 24 = .ok (.iload_n 3, 1) := by decide +kernel
theorem dX12_year_25 : decode cX12_year 25 = .ok (.i2l, 1) := by decide +kernel
theorem dX12_year_26 : decode cX12_year 26 = .ok (.lconst 0, 1) := by decide +kernel
theorem dX12_year_27 : decode cX12_year 27 = .ok (.ldc2_w 188, 3) := by decide +kernel
theorem dX12_year_30 : decode cX12_year 30 = .ok (.invokestatic 66, 3) := by decide +kernel
theorem dX12_year_33 : decode cX12_year 33 = .ok (.ifCond .ne 6, 3) := by decide +kernel
theorem dX12_year_36 : decode cX12_year 36 = .ok (.bipush (-2), 2) := by decide +kernel
theorem dX12_year_38 : decode cX12_year 38 = .ok (.ireturn, 1) := by decide +kernel
theorem dX12_year_39 : decode cX12_year 39 = .ok (.aload_n 0, 1) := by decide +kernel
theorem dX12_year_40 : decode cX12_year 40 = .ok (.invokevirtual 179, 3) := by decide +kernel
theorem dX12_year_43 : decode cX12_year 43 = .ok (.iload_n 1, 1) := by decide +kernel
theorem dX12_year_44 : decode cX12_year 44 = .ok (.istore 4, 2) := by decide +kernel
theorem dX12_year_46 : decode cX12_year 46 = .ok (.iconst 0, 1) := by decide +kernel
theorem dX12_year_47 : decode cX12_year 47 = .ok (.istore 5, 2) := by decide +kernel
theorem dX12_year_49 : decode cX12_year 49 = .ok (.iload 5, 2) := by decide +kernel
theorem dX12_year_51 : decode cX12_year 51 = .ok (.iload_n 2, 1) := by decide +kernel
theorem dX12_year_52 : decode cX12_year 52 = .ok (.if_icmp .ge 83, 3) := by decide +kernel
theorem dX12_year_55 : decode cX12_year 55 = .ok (.ldc2_w 271, 3) := by decide +kernel
theorem dX12_year_58 : decode cX12_year 58 = .ok (.iload 4, 2) := by decide +kernel
theorem dX12_year_60 : decode cX12_year 60 = .ok (.i2l, 1) := by decide +kernel
theorem dX12_year_61 : decode cX12_year 61 = .ok (.lmul, 1) := by decide +kernel
theorem dX12_year_62 : decode cX12_year 62 = .ok (.ldc2_w 108, 3) := by decide +kernel
theorem dX12_year_65 : decode cX12_year 65 = .ok (.ladd, 1) := by decide +kernel
theorem dX12_year_66 : decode cX12_year 66 = .ok (.ldc2_w 273, 3) := by decide +kernel
theorem dX12_year_69 : decode cX12_year 69 = .ok (.lrem, 1) := by decide +kernel
theorem dX12_year_70 : decode cX12_year 70 = .ok (.l2i, 1) := by decide +kernel
theorem dX12_year_71 : decode cX12_year 71 = .ok (.istore 4, 2) := by decide +kernel
theorem dX12_year_73 : decode cX12_year 73 = .ok (.iload 4, 2) := by decide +kernel
theorem dX12_year_75 : decode cX12_year 75 = .ok (.bipush 8, 2) := by decide +kernel
theorem dX12_year_77 : decode cX12_year 77 = .ok (.irem, 1) := by decide +kernel
theorem dX12_year_78 : decode cX12_year 78 = .ok (.invokestatic 275, 3) := by decide +kernel
theorem dX12_year_81 : decode cX12_year 81 = .ok (.istore 6, 2) := by decide +kernel
theorem dX12_year_83 : decode cX12_year 83 = .ok (.iload 4, 2) := by decide +kernel
theorem dX12_year_85 : decode cX12_year 85 = .ok (.bipush 8, 2) := by decide +kernel
theorem dX12_year_87 : decode cX12_year 87 = .ok (.idiv, 1) := by decide +kernel
theorem dX12_year_88 : decode cX12_year 88 = .ok (.iload 6, 2) := by decide +kernel
theorem dX12_year_90 : decode cX12_year 90 = .ok (.iconst 2, 1) := by decide +kernel
theorem dX12_year_91 : decode cX12_year 91 = .ok (.if_icmp .eq 9, 3) := by decide +kernel
theorem dX12_year_94 : decode cX12_year 94 = .ok (.iload 6, 2) := by decide +kernel
theorem dX12_year_96 : decode cX12_year 96 = .ok (.iconst 3, 1) := by decide +kernel
theorem dX12_year_97 : decode cX12_year 97 = .ok (.if_icmp .ne 8, 3) := by decide +kernel
theorem dX12_year_100 : decode cX12_year 100 = .ok (.bipush 8, 2) := by decide +kernel
theorem dX12_year_102 : decode cX12_year 102 = .ok (.goto 5, 3) := by decide +kernel
theorem dX12_year_105 : decode cX12_year 105 = .ok (.bipush 10, 2) := by decide +kernel
theorem dX12_year_107 : decode cX12_year 107 = .ok (.irem, 1) := by decide +kernel
theorem dX12_year_108 : decode cX12_year 108 = .ok (.istore 7, 2) := by decide +kernel
theorem dX12_year_110 : decode cX12_year 110 = .ok (.aload_n 0, 1) := by decide +kernel
theorem dX12_year_111 : decode cX12_year 111 = .ok (.iload 6, 2) := by decide +kernel
theorem dX12_year_113 : decode cX12_year 113 = .ok (.iload 7, 2) := by decide +kernel
theorem dX12_year_115 : decode cX12_year 115 = .ok (.invokevirtual 173, 3) := by decide +kernel
theorem dX12_year_118 : decode cX12_year 118 = .ok (.ifCond .ne 11, 3) := by decide +kernel
theorem dX12_year_121 : decode cX12_year 121 = .ok (.aload_n 0, 1) := by decide +kernel
theorem dX12_year_122 : decode cX12_year 122 = .ok (.iload 6, 2) := by decide +kernel
theorem dX12_year_124 : decode cX12_year 124 = .ok (.iload 7, 2) := by decide +kernel
theorem dX12_year_126 : decode cX12_year 126 = .ok (.invokevirtual 157, 3) := by decide +kernel
theorem dX12_year_129 : decode cX12_year 129 = .ok (.iinc 5 1, 3) := by decide +kernel
theorem dX12_year_132 : decode cX12_year 132 = .ok (.goto (-83), 3) := by decide +kernel
theorem dX12_year_135 : decode cX12_year 135 = .ok (.iload_n 3, 1) := by decide +kernel
theorem dX12_year_136 : decode cX12_year 136 = .ok (.ifCond .ne 10, 3) := by decide +kernel
theorem dX12_year_139 : decode cX12_year 139 = .ok (.aload_n 0, 1) := by decide +kernel
theorem dX12_year_140 : decode cX12_year 140 = .ok (.getfield 84, 3) := by decide +kernel
theorem dX12_year_143 : decode cX12_year 143 = .ok (.goto 22, 3) := by decide +kernel
theorem dX12_year_146 : decode cX12_year 146 = .ok (.iload_n 3, 1) := by decide +kernel
theorem dX12_year_147 : decode cX12_year 147 = .ok (.iconst 1, 1) := by decide +kernel
theorem dX12_year_148 : decode cX12_year 148 = .ok (.if_icmp .ne 13, 3) := by decide +kernel
theorem dX12_year_151 : decode cX12_year 151 = .ok (.aload_n 0, 1) := by decide +kernel
theorem dX12_year_152 : decode cX12_year 152 = .ok (.getfield 93, 3) := by decide +kernel
theorem dX12_year_155 : decode cX12_year 155 = .ok (.invokestatic 204, 3) := by decide +kernel
theorem dX12_year_158 : decode cX12_year 158 = .ok (.goto 7, 3) := by decide +kernel
theorem dX12_year_161 : decode cX12_year 161 = .ok (.aload_n 0, 1) := by decide +kernel
theorem dX12_year_162 : decode cX12_year 162 = .ok (.invokevirtual 78, 3) := by decide +kernel
theorem dX12_year_165 : decode cX12_year 165 = .ok (.istore 5, 2) := by decide +kernel
theorem dX12_year_167 : decode cX12_year 167 = .ok (.aload_n 0, 1) := by decide +kernel
theorem dX12_year_168 : decode cX12_year 168 = .ok (.iload 5, 2) := by decide +kernel
theorem dX12_year_170 : decode cX12_year 170 = .ok (.invokevirtual 193, 3) := by decide +kernel
theorem dX12_year_173 : decode cX12_year 173 = .ok (.ireturn, 1) := by decide +kernel
theorem dX12_pass_0 : decode cX12_pass 0 = .ok (.aload_n 0, 1) := by decide +kernel
theorem dX12_pass_1 : decode cX12_pass 1 = .ok (.getfield 278, 3) := by decide +kernel
theorem dX12_pass_4 : decode cX12_pass 4 = .ok (.ifCond .eq 7, 3) := by decide +kernel
theorem dX12_pass_7 : decode cX12_pass 7 = .ok (.iload_n 1, 1) := by decide +kernel
theorem dX12_pass_8 : decode cX12_pass 8 = .ok (.goto 12, 3) := by decide +kernel
theorem dX12_pass_11 : decode cX12_pass 11 = .ok (.aload_n 0, 1) := by decide +kernel
theorem dX12_pass_12 : decode cX12_pass 12 = .ok (.getfield 54, 3) := by decide +kernel
theorem dX12_pass_15 : decode cX12_pass 15 = .ok (.aload_n 0, 1) := by decide +kernel
theorem dX12_pass_16 : decode cX12_pass 16 = .ok (.getfield 282, 3) := by decide +kernel
theorem dX12_pass_19 : decode cX12_pass 19 = .ok (.iaload, 1) := by decide +kernel
theorem dX12_pass_20 : decode cX12_pass 20 = .ok (.istore_n 2, 1) := by decide +kernel
theorem dX12_pass_21 : decode cX12_pass 21 = .ok (.aload_n 0, 1) := by decide +kernel
theorem dX12_pass_22 : decode cX12_pass 22 = .ok (.getfield 54, 3) := by decide +kernel
theorem dX12_pass_25 : decode cX12_pass 25 = .ok (.aload_n 0, 1) := by decide +kernel
theorem dX12_pass_26 : decode cX12_pass 26 = .ok (.getfield 282, 3) := by decide +kernel
theorem dX12_pass_29 : decode cX12_pass 29 = .ok (.iload_n 2, 1) := by decide +kernel
theorem dX12_pass_30 : decode cX12_pass 30 = .ok (.iastore, 1) := by decide +kernel
theorem dX12_pass_31 : decode cX12_pass 31 = .ok (.aload_n 0, 1) := by decide +kernel
theorem dX12_pass_32 : decode cX12_pass 32 = .ok (.dup, 1) := by decide +kernel
theorem dX12_pass_33 : decode cX12_pass 33 = .ok (.getfield 282, 3) := by decide +kernel
theorem dX12_pass_36 : decode cX12_pass 36 = .ok (.iconst 1, 1) := by decide +kernel
theorem dX12_pass_37 : decode cX12_pass 37 = .ok (.iadd, 1) := by decide +kernel
theorem dX12_pass_38 : decode cX12_pass 38 = .ok (.putfield 282, 3) := by decide +kernel
theorem dX12_pass_41 : decode cX12_pass 41 = .ok (.iload_n 2, 1) := by decide +kernel
theorem dX12_pass_42 : decode cX12_pass 42 = .ok (.ireturn, 1) := by decide +kernel
theorem dX12_passRow_0 : decode cX12_passRow 0 = .ok (.iconst 0, 1) := by decide +kernel
theorem dX12_passRow_1 : decode cX12_passRow 1 = .ok (.istore_n 3, 1) := by decide +kernel
theorem dX12_passRow_2 : decode cX12_passRow 2 = .ok (.iload_n 3, 1) := by decide +kernel
theorem dX12_passRow_3 : decode cX12_passRow 3 = .ok (.iload_n 2, 1) := by decide +kernel
theorem dX12_passRow_4 : decode cX12_passRow 4 = .ok (.if_icmp .ge 19, 3) := by decide +kernel
theorem dX12_passRow_7 : decode cX12_passRow 7 = .ok (.aload_n 1, 1) := by decide +kernel
theorem dX12_passRow_8 : decode cX12_passRow 8 = .ok (.iload_n 3, 1) := by decide +kernel
theorem dX12_passRow_9 : decode cX12_passRow 9 = .ok (.aload_n 0, 1) := by decide +kernel
theorem dX12_passRow_10 : decode cX12_passRow 10 = .ok (.aload_n 1, 1) := by decide +kernel
theorem dX12_passRow_11 : decode cX12_passRow 11 = .ok (.iload_n 3, 1) := by decide +kernel
theorem dX12_passRow_12 : decode cX12_passRow 12 = .ok (.iaload, 1) := by decide +kernel
theorem dX12_passRow_13 : decode cX12_passRow 13 = .ok (.invokevirtual 285, 3) := by decide +kernel
theorem dX12_passRow_16 : decode cX12_passRow 16 = .ok (.iastore, 1) := by decide +kernel
theorem dX12_passRow_17 : decode cX12_passRow 17 = .ok (.iinc 3 1, 3) := by decide +kernel
theorem dX12_passRow_20 : decode cX12_passRow 20 = .ok (.goto (-18), 3) := by decide +kernel
theorem dX12_passRow_23 : decode cX12_passRow 23 = .ok (.return_, 1) := by decide +kernel
theorem dX12_passAll_0 : decode cX12_passAll 0 = .ok (.aload_n 0, 1) := by decide +kernel
theorem dX12_passAll_1 : decode cX12_passAll 1 = .ok (.aload_n 0, 1) := by decide +kernel
theorem dX12_passAll_2 : decode cX12_passAll 2 = .ok (.aload_n 0, 1) := by decide +kernel
theorem dX12_passAll_3 : decode cX12_passAll 3 = .ok (.getfield 87, 3) := by decide +kernel
theorem dX12_passAll_6 : decode cX12_passAll 6 = .ok (.invokevirtual 285, 3) := by decide +kernel
theorem dX12_passAll_9 : decode cX12_passAll 9 = .ok (.putfield 87, 3) := by decide +kernel
theorem dX12_passAll_12 : decode cX12_passAll 12 = .ok (.aload_n 0, 1) := by decide +kernel
theorem dX12_passAll_13 : decode cX12_passAll 13 = .ok (.aload_n 0, 1) := by decide +kernel
theorem dX12_passAll_14 : decode cX12_passAll 14 = .ok (.aload_n 0, 1) := by decide +kernel
theorem dX12_passAll_15 : decode cX12_passAll 15 = .ok (.getfield 90, 3) := by decide +kernel
theorem dX12_passAll_18 : decode cX12_passAll 18 = .ok (.invokevirtual 285, 3) := by decide +kernel
theorem dX12_passAll_21 : decode cX12_passAll 21 = .ok (.putfield 90, 3) := by decide +kernel
theorem dX12_passAll_24 : decode cX12_passAll 24 = .ok (.aload_n 0, 1) := by decide +kernel
theorem dX12_passAll_25 : decode cX12_passAll 25 = .ok (.aload_n 0, 1) := by decide +kernel
theorem dX12_passAll_26 : decode cX12_passAll 26 = .ok (.aload_n 0, 1) := by decide +kernel
theorem dX12_passAll_27 : decode cX12_passAll 27 = .ok (.getfield 93, 3) := by decide +kernel
theorem dX12_passAll_30 : decode cX12_passAll 30 = .ok (.invokevirtual 285, 3) := by decide +kernel
theorem dX12_passAll_33 : decode cX12_passAll 33 = .ok (.putfield 93, 3) := by decide +kernel
theorem dX12_passAll_36 : decode cX12_passAll 36 = .ok (.aload_n 0, 1) := by decide +kernel
theorem dX12_passAll_37 : decode cX12_passAll 37 = .ok (.aload_n 0, 1) := by decide +kernel
theorem dX12_passAll_38 : decode cX12_passAll 38 = .ok (.aload_n 0, 1) := by decide +kernel
theorem dX12_passAll_39 : decode cX12_passAll 39 = .ok (.getfield 84, 3) := by decide +kernel
theorem dX12_passAll_42 : decode cX12_passAll 42 = .ok (.invokevirtual 285, 3) := by decide +kernel
theorem dX12_passAll_45 : decode cX12_passAll 45 = .ok (.putfield 84, 3) := by decide +kernel
theorem dX12_passAll_48 : decode cX12_passAll 48 = .ok (.aload_n 0, 1) := by decide +kernel
theorem dX12_passAll_49 : decode cX12_passAll 49 = .ok (.aload_n 0, 1) := by decide +kernel
theorem dX12_passAll_50 : decode cX12_passAll 50 = .ok (.aload_n 0, 1) := by decide +kernel
theorem dX12_passAll_51 : decode cX12_passAll 51 = .ok (.getfield 60, 3) := by decide +kernel
theorem dX12_passAll_54 : decode cX12_passAll 54 = .ok (.invokevirtual 285, 3) := by decide +kernel
theorem dX12_passAll_57 : decode cX12_passAll 57 = .ok (.putfield 60, 3) := by decide +kernel
theorem dX12_passAll_60 : decode cX12_passAll 60 = .ok (.aload_n 0, 1) := by decide +kernel
theorem dX12_passAll_61 : decode cX12_passAll 61 = .ok (.aload_n 0, 1) := by decide +kernel
theorem dX12_passAll_62 : decode cX12_passAll 62 = .ok (.aload_n 0, 1) := by decide +kernel
theorem dX12_passAll_63 : decode cX12_passAll 63 = .ok (.getfield 239, 3) := by decide +kernel
theorem dX12_passAll_66 : decode cX12_passAll 66 = .ok (.invokevirtual 285, 3) := by decide +kernel
theorem dX12_passAll_69 : decode cX12_passAll 69 = .ok (.putfield 239, 3) := by decide +kernel
theorem dX12_passAll_72 : decode cX12_passAll 72 = .ok (.aload_n 0, 1) := by decide +kernel
theorem dX12_passAll_73 : decode cX12_passAll 73 = .ok (.aload_n 0, 1) := by decide +kernel
theorem dX12_passAll_74 : decode cX12_passAll 74 = .ok (.getfield 7, 3) := by decide +kernel
theorem dX12_passAll_77 : decode cX12_passAll 77 = .ok (.bipush 10, 2) := by decide +kernel
theorem dX12_passAll_79 : decode cX12_passAll 79 = .ok (.invokevirtual 288, 3) := by decide +kernel
theorem dX12_passAll_82 : decode cX12_passAll 82 = .ok (.aload_n 0, 1) := by decide +kernel
theorem dX12_passAll_83 : decode cX12_passAll 83 = .ok (.aload_n 0, 1) := by decide +kernel
theorem dX12_passAll_84 : decode cX12_passAll 84 = .ok (.getfield 13, 3) := by decide +kernel
theorem dX12_passAll_87 : decode cX12_passAll 87 = .ok (.bipush 10, 2) := by decide +kernel
theorem dX12_passAll_89 : decode cX12_passAll 89 = .ok (.invokevirtual 288, 3) := by decide +kernel
theorem dX12_passAll_92 : decode cX12_passAll 92 = .ok (.aload_n 0, 1) := by decide +kernel
theorem dX12_passAll_93 : decode cX12_passAll 93 = .ok (.aload_n 0, 1) := by decide +kernel
theorem dX12_passAll_94 : decode cX12_passAll 94 = .ok (.getfield 16, 3) := by decide +kernel
theorem dX12_passAll_97 : decode cX12_passAll 97 = .ok (.bipush 10, 2) := by decide +kernel
theorem dX12_passAll_99 : decode cX12_passAll 99 = .ok (.invokevirtual 288, 3) := by decide +kernel
theorem dX12_passAll_102 : decode cX12_passAll 102 = .ok (.aload_n 0, 1) := by decide +kernel
theorem dX12_passAll_103 : decode cX12_passAll 103 = .ok (.aload_n 0, 1) := by decide +kernel
theorem dX12_passAll_104 : decode cX12_passAll 104 = .ok (.getfield 19, 3) := by decide +kernel
theorem dX12_passAll_107 : decode cX12_passAll 107 = .ok (.bipush 8, 2) := by decide +kernel
theorem dX12_passAll_109 : decode cX12_passAll 109 = .ok (.invokevirtual 288, 3) := by decide +kernel
theorem dX12_passAll_112 : decode cX12_passAll 112 = .ok (.aload_n 0, 1) := by decide +kernel
theorem dX12_passAll_113 : decode cX12_passAll 113 = .ok (.aload_n 0, 1) := by decide +kernel
theorem dX12_passAll_114 : decode cX12_passAll 114 = .ok (.getfield 22, 3) := by decide +kernel
theorem dX12_passAll_117 : decode cX12_passAll 117 = .ok (.bipush 8, 2) := by decide +kernel
theorem dX12_passAll_119 : decode cX12_passAll 119 = .ok (.invokevirtual 288, 3) := by decide +kernel
theorem dX12_passAll_122 : decode cX12_passAll 122 = .ok (.return_, 1) := by decide +kernel
theorem dX12_image_0 : decode cX12_image 0 = .ok (.iload_n 1, 1) := by decide +kernel
theorem dX12_image_1 : decode cX12_image 1 = .ok (.i2l, 1) := by decide +kernel
theorem dX12_image_2 : decode cX12_image 2 = .ok (.lconst 0, 1) := by decide +kernel
theorem dX12_image_3 : decode cX12_image 3 = .ok (.lconst 1, 1) := by decide +kernel
theorem dX12_image_4 : decode cX12_image 4 = .ok (.invokestatic 66, 3) := by decide +kernel
theorem dX12_image_7 : decode cX12_image 7 = .ok (.ifCond .ne 6, 3) := by decide +kernel
theorem dX12_image_10 : decode cX12_image 10 = .ok (.bipush (-2), 2) := by decide +kernel
theorem dX12_image_12 : decode cX12_image 12 = .ok (.ireturn, 1) := by decide +kernel
theorem dX12_image_13 : decode cX12_image 13 = .ok (.aload_n 0, 1) := by decide +kernel
theorem dX12_image_14 : decode cX12_image 14 = .ok (.bipush 60, 2) := by decide +kernel
theorem dX12_image_16 : decode cX12_image 16 = .ok (.iload_n 1, 1) := by decide +kernel
theorem dX12_image_17 : decode cX12_image 17 = .ok (.imul, 1) := by decide +kernel
theorem dX12_image_18 : decode cX12_image 18 = .ok (.putfield 282, 3) := by decide +kernel
theorem dX12_image_21 : decode cX12_image 21 = .ok (.aload_n 0, 1) := by decide +kernel
theorem dX12_image_22 : decode cX12_image 22 = .ok (.iconst 1, 1) := by decide +kernel
theorem dX12_image_23 : decode cX12_image 23 = .ok (.putfield 278, 3) := by decide +kernel
theorem dX12_image_26 : decode cX12_image 26 = .ok (.aload_n 0, 1) := by decide +kernel
theorem dX12_image_27 : decode cX12_image 27 = .ok (.invokevirtual 292, 3) := by decide +kernel
theorem dX12_image_30 : decode cX12_image 30 = .ok (.aload_n 0, 1) := by decide +kernel
theorem dX12_image_31 : decode cX12_image 31 = .ok (.getfield 57, 3) := by decide +kernel
theorem dX12_image_34 : decode cX12_image 34 = .ok (.iload_n 1, 1) := by decide +kernel
theorem dX12_image_35 : decode cX12_image 35 = .ok (.iconst 1, 1) := by decide +kernel
theorem dX12_image_36 : decode cX12_image 36 = .ok (.bastore, 1) := by decide +kernel
theorem dX12_image_37 : decode cX12_image 37 = .ok (.iconst 1, 1) := by decide +kernel
theorem dX12_image_38 : decode cX12_image 38 = .ok (.ireturn, 1) := by decide +kernel
theorem dX12_restore_0 : decode cX12_restore 0 = .ok (.iload_n 1, 1) := by decide +kernel
theorem dX12_restore_1 : decode cX12_restore 1 = .ok (.i2l, 1) := by decide +kernel
theorem dX12_restore_2 : decode cX12_restore 2 = .ok (.lconst 0, 1) := by decide +kernel
theorem dX12_restore_3 : decode cX12_restore 3 = .ok (.lconst 1, 1) := by decide +kernel
theorem dX12_restore_4 : decode cX12_restore 4 = .ok (.invokestatic 66, 3) := by decide +kernel
theorem dX12_restore_7 : decode cX12_restore 7 = .ok (.ifCond .ne 6, 3) := by decide +kernel
theorem dX12_restore_10 : decode cX12_restore 10 = .ok (.bipush (-2), 2) := by decide +kernel
theorem dX12_restore_12 : decode cX12_restore 12 = .ok (.ireturn, 1) := by decide +kernel
theorem dX12_restore_13 : decode cX12_restore 13 = .ok (.aload_n 0, 1) := by decide +kernel
theorem dX12_restore_14 : decode cX12_restore 14 = .ok (.getfield 57, 3) := by decide +kernel
theorem dX12_restore_17 : decode cX12_restore 17 = .ok (.iload_n 1, 1) := by decide +kernel
theorem dX12_restore_18 : decode cX12_restore 18 = .ok (.baload, 1) := by decide +kernel
theorem dX12_restore_19 : decode cX12_restore 19 = .ok (.ifCond .ne 6, 3) := by decide +kernel
theorem dX12_restore_22 : decode cX12_restore 22 = .ok (.bipush (-3), 2) := by decide +kernel
theorem dX12_restore_24 : decode cX12_restore 24 = .ok (.ireturn, 1) := by decide +kernel
theorem dX12_restore_25 : decode cX12_restore 25 = .ok (.aload_n 0, 1) := by decide +kernel
theorem dX12_restore_26 : decode cX12_restore 26 = .ok (.bipush 60, 2) := by decide +kernel
theorem dX12_restore_28 : decode cX12_restore 28 = .ok (.iload_n 1, 1) := by decide +kernel
theorem dX12_restore_29 : decode cX12_restore 29 = .ok (.imul, 1) := by decide +kernel
theorem dX12_restore_30 : decode cX12_restore 30 = .ok (.putfield 282, 3) := by decide +kernel
theorem dX12_restore_33 : decode cX12_restore 33 = .ok (.aload_n 0, 1) := by decide +kernel
theorem dX12_restore_34 : decode cX12_restore 34 = .ok (.iconst 0, 1) := by decide +kernel
theorem dX12_restore_35 : decode cX12_restore 35 = .ok (.putfield 278, 3) := by decide +kernel
theorem dX12_restore_38 : decode cX12_restore 38 = .ok (.aload_n 0, 1) := by decide +kernel
theorem dX12_restore_39 : decode cX12_restore 39 = .ok (.invokevirtual 292, 3) := by decide +kernel
theorem dX12_restore_42 : decode cX12_restore 42 = .ok (.iconst 1, 1) := by decide +kernel
theorem dX12_restore_43 : decode cX12_restore 43 = .ok (.ireturn, 1) := by decide +kernel
theorem dX12_told_0 : decode cX12_told 0 = .ok (.iload_n 1, 1) := by decide +kernel
theorem dX12_told_1 : decode cX12_told 1 = .ok (.i2l, 1) := by decide +kernel
theorem dX12_told_2 : decode cX12_told 2 = .ok (.ldc2_w 295, 3) := by decide +kernel
theorem dX12_told_5 : decode cX12_told 5 = .ok (.ldc2_w 297, 3) := by decide +kernel
theorem dX12_told_8 : decode cX12_told 8 = .ok (.invokestatic 66, 3) := by decide +kernel
theorem dX12_told_11 : decode cX12_told 11 = .ok (.ifCond .eq 47, 3) := by decide +kernel
theorem dX12_told_14 : decode cX12_told 14 = .ok (.iload_n 1, 1) := by decide +kernel
theorem dX12_told_15 : decode cX12_told 15 = .ok (.bipush 100, 2) := by decide +kernel
theorem dX12_told_17 : decode cX12_told 17 = .ok (.isub, 1) := by decide +kernel
theorem dX12_told_18 : decode cX12_told 18 = .ok (.bipush 10, 2) := by decide +kernel
theorem dX12_told_20 : decode cX12_told 20 = .ok (.idiv, 1) := by decide +kernel
theorem dX12_told_21 : decode cX12_told 21 = .ok (.istore_n 2, 1) := by decide +kernel
theorem dX12_told_22 : decode cX12_told 22 = .ok (.iload_n 1, 1) := by decide +kernel
theorem dX12_told_23 : decode cX12_told 23 = .ok (.bipush 10, 2) := by decide +kernel
theorem dX12_told_25 : decode cX12_told 25 = .ok (.irem, 1) := by decide +kernel
theorem dX12_told_26 : decode cX12_told 26 = .ok (.ifCond .ne 12, 3) := by decide +kernel
theorem dX12_told_29 : decode cX12_told 29 = .ok (.aload_n 0, 1) := by decide +kernel
theorem dX12_told_30 : decode cX12_told 30 = .ok (.getfield 13, 3) := by decide +kernel
theorem dX12_told_33 : decode cX12_told 33 = .ok (.iload_n 2, 1) := by decide +kernel
theorem dX12_told_34 : decode cX12_told 34 = .ok (.iaload, 1) := by decide +kernel
theorem dX12_told_35 : decode cX12_told 35 = .ok (.goto 22, 3) := by decide +kernel
theorem dX12_told_38 : decode cX12_told 38 = .ok (.iload_n 1, 1) := by decide +kernel
theorem dX12_told_39 : decode cX12_told 39 = .ok (.bipush 10, 2) := by decide +kernel
theorem dX12_told_41 : decode cX12_told 41 = .ok (.irem, 1) := by decide +kernel
theorem dX12_told_42 : decode cX12_told 42 = .ok (.iconst 1, 1) := by decide +kernel
theorem dX12_told_43 : decode cX12_told 43 = .ok (.if_icmp .ne 12, 3) := by decide +kernel
theorem dX12_told_46 : decode cX12_told 46 = .ok (.aload_n 0, 1) := by decide +kernel
theorem dX12_told_47 : decode cX12_told 47 = .ok (.getfield 16, 3) := by decide +kernel
theorem dX12_told_50 : decode cX12_told 50 = .ok (.iload_n 2, 1) := by decide +kernel
theorem dX12_told_51 : decode cX12_told 51 = .ok (.iaload, 1) := by decide +kernel
theorem dX12_told_52 : decode cX12_told 52 = .ok (.goto 5, 3) := by decide +kernel
theorem dX12_told_55 : decode cX12_told 55 = .ok (.bipush (-2), 2) := by decide +kernel
theorem dX12_told_57 : decode cX12_told 57 = .ok (.ireturn, 1) := by decide +kernel
theorem dX12_told_58 : decode cX12_told 58 = .ok (.iload_n 1, 1) := by decide +kernel
theorem dX12_told_59 : decode cX12_told 59 = .ok (.i2l, 1) := by decide +kernel
theorem dX12_told_60 : decode cX12_told 60 = .ok (.ldc2_w 261, 3) := by decide +kernel
theorem dX12_told_63 : decode cX12_told 63 = .ok (.ldc2_w 299, 3) := by decide +kernel
theorem dX12_told_66 : decode cX12_told 66 = .ok (.invokestatic 66, 3) := by decide +kernel
theorem dX12_told_69 : decode cX12_told 69 = .ok (.ifCond .eq 13, 3) := by decide +kernel
theorem dX12_told_72 : decode cX12_told 72 = .ok (.aload_n 0, 1) := by decide +kernel
theorem dX12_told_73 : decode cX12_told 73 = .ok (.getfield 7, 3) := by decide +kernel
theorem dX12_told_76 : decode cX12_told 76 = .ok (.iload_n 1, 1) := by decide +kernel
theorem dX12_told_77 : decode cX12_told 77 = .ok (.bipush 10, 2) := by decide +kernel
theorem dX12_told_79 : decode cX12_told 79 = .ok (.isub, 1) := by decide +kernel
theorem dX12_told_80 : decode cX12_told 80 = .ok (.iaload, 1) := by decide +kernel
theorem dX12_told_81 : decode cX12_told 81 = .ok (.ireturn, 1) := by decide +kernel
theorem dX12_told_82 : decode cX12_told 82 = .ok (.iload_n 1, 1) := by decide +kernel
theorem dX12_told_83 : decode cX12_told 83 = .ok (.tableswitch 76 0 6 #[41, 46, 51, 56, 61, 66, 71], 41) := by decide +kernel
theorem dX12_told_124 : decode cX12_told 124 = .ok (.aload_n 0, 1) := by decide +kernel
theorem dX12_told_125 : decode cX12_told 125 = .ok (.getfield 100, 3) := by decide +kernel
theorem dX12_told_128 : decode cX12_told 128 = .ok (.ireturn, 1) := by decide +kernel
theorem dX12_told_129 : decode cX12_told 129 = .ok (.aload_n 0, 1) := by decide +kernel
theorem dX12_told_130 : decode cX12_told 130 = .ok (.getfield 87, 3) := by decide +kernel
theorem dX12_told_133 : decode cX12_told 133 = .ok (.ireturn, 1) := by decide +kernel
theorem dX12_told_134 : decode cX12_told 134 = .ok (.aload_n 0, 1) := by decide +kernel
theorem dX12_told_135 : decode cX12_told 135 = .ok (.getfield 90, 3) := by decide +kernel
theorem dX12_told_138 : decode cX12_told 138 = .ok (.ireturn, 1) := by decide +kernel
theorem dX12_told_139 : decode cX12_told 139 = .ok (.aload_n 0, 1) := by decide +kernel
theorem dX12_told_140 : decode cX12_told 140 = .ok (.getfield 93, 3) := by decide +kernel
theorem dX12_told_143 : decode cX12_told 143 = .ok (.ireturn, 1) := by decide +kernel
theorem dX12_told_144 : decode cX12_told 144 = .ok (.aload_n 0, 1) := by decide +kernel
theorem dX12_told_145 : decode cX12_told 145 = .ok (.getfield 84, 3) := by decide +kernel
theorem dX12_told_148 : decode cX12_told 148 = .ok (.ireturn, 1) := by decide +kernel
theorem dX12_told_149 : decode cX12_told 149 = .ok (.aload_n 0, 1) := by decide +kernel
theorem dX12_told_150 : decode cX12_told 150 = .ok (.getfield 60, 3) := by decide +kernel
theorem dX12_told_153 : decode cX12_told 153 = .ok (.ireturn, 1) := by decide +kernel
theorem dX12_told_154 : decode cX12_told 154 = .ok (.aload_n 0, 1) := by decide +kernel
theorem dX12_told_155 : decode cX12_told 155 = .ok (.getfield 239, 3) := by decide +kernel
theorem dX12_told_158 : decode cX12_told 158 = .ok (.ireturn, 1) := by decide +kernel
theorem dX12_told_159 : decode cX12_told 159 = .ok (.bipush (-2), 2) := by decide +kernel
theorem dX12_told_161 : decode cX12_told 161 = .ok (.ireturn, 1) := by decide +kernel
theorem dJ6_bitCount_0f7a4_0 : decode cJ6_bitCount_0f7a4 0 = .ok (.iload_n 0, 1) := by decide +kernel
theorem dJ6_bitCount_0f7a4_1 : decode cJ6_bitCount_0f7a4 1 = .ok (.iload_n 0, 1) := by decide +kernel
theorem dJ6_bitCount_0f7a4_2 : decode cJ6_bitCount_0f7a4 2 = .ok (.iconst 1, 1) := by decide +kernel
theorem dJ6_bitCount_0f7a4_3 : decode cJ6_bitCount_0f7a4 3 = .ok (.iushr, 1) := by decide +kernel
theorem dJ6_bitCount_0f7a4_4 : decode cJ6_bitCount_0f7a4 4 = .ok (.ldc_w 265, 3) := by decide +kernel
theorem dJ6_bitCount_0f7a4_7 : decode cJ6_bitCount_0f7a4 7 = .ok (.iand, 1) := by decide +kernel
theorem dJ6_bitCount_0f7a4_8 : decode cJ6_bitCount_0f7a4 8 = .ok (.isub, 1) := by decide +kernel
theorem dJ6_bitCount_0f7a4_9 : decode cJ6_bitCount_0f7a4 9 = .ok (.istore_n 0, 1) := by decide +kernel
theorem dJ6_bitCount_0f7a4_10 : decode cJ6_bitCount_0f7a4 10 = .ok (.iload_n 0, 1) := by decide +kernel
theorem dJ6_bitCount_0f7a4_11 : decode cJ6_bitCount_0f7a4 11 = .ok (.ldc_w 266, 3) := by decide +kernel
theorem dJ6_bitCount_0f7a4_14 : decode cJ6_bitCount_0f7a4 14 = .ok (.iand, 1) := by decide +kernel
theorem dJ6_bitCount_0f7a4_15 : decode cJ6_bitCount_0f7a4 15 = .ok (.iload_n 0, 1) := by decide +kernel
theorem dJ6_bitCount_0f7a4_16 : decode cJ6_bitCount_0f7a4 16 = .ok (.iconst 2, 1) := by decide +kernel
theorem dJ6_bitCount_0f7a4_17 : decode cJ6_bitCount_0f7a4 17 = .ok (.iushr, 1) := by decide +kernel
theorem dJ6_bitCount_0f7a4_18 : decode cJ6_bitCount_0f7a4 18 = .ok (.ldc_w 266, 3) := by decide +kernel
theorem dJ6_bitCount_0f7a4_21 : decode cJ6_bitCount_0f7a4 21 = .ok (.iand, 1) := by decide +kernel
theorem dJ6_bitCount_0f7a4_22 : decode cJ6_bitCount_0f7a4 22 = .ok (.iadd, 1) := by decide +kernel
theorem dJ6_bitCount_0f7a4_23 : decode cJ6_bitCount_0f7a4 23 = .ok (.istore_n 0, 1) := by decide +kernel
theorem dJ6_bitCount_0f7a4_24 : decode cJ6_bitCount_0f7a4 24 = .ok (.iload_n 0, 1) := by decide +kernel
theorem dJ6_bitCount_0f7a4_25 : decode cJ6_bitCount_0f7a4 25 = .ok (.iload_n 0, 1) := by decide +kernel
theorem dJ6_bitCount_0f7a4_26 : decode cJ6_bitCount_0f7a4 26 = .ok (.iconst 4, 1) := by decide +kernel
theorem dJ6_bitCount_0f7a4_27 : decode cJ6_bitCount_0f7a4 27 = .ok (.iushr, 1) := by decide +kernel
theorem dJ6_bitCount_0f7a4_28 : decode cJ6_bitCount_0f7a4 28 = .ok (.iadd, 1) := by decide +kernel
theorem dJ6_bitCount_0f7a4_29 : decode cJ6_bitCount_0f7a4 29 = .ok (.ldc_w 267, 3) := by decide +kernel
theorem dJ6_bitCount_0f7a4_32 : decode cJ6_bitCount_0f7a4 32 = .ok (.iand, 1) := by decide +kernel
theorem dJ6_bitCount_0f7a4_33 : decode cJ6_bitCount_0f7a4 33 = .ok (.istore_n 0, 1) := by decide +kernel
theorem dJ6_bitCount_0f7a4_34 : decode cJ6_bitCount_0f7a4 34 = .ok (.iload_n 0, 1) := by decide +kernel
theorem dJ6_bitCount_0f7a4_35 : decode cJ6_bitCount_0f7a4 35 = .ok (.iload_n 0, 1) := by decide +kernel
theorem dJ6_bitCount_0f7a4_36 : decode cJ6_bitCount_0f7a4 36 = .ok (.bipush 8, 2) := by decide +kernel
theorem dJ6_bitCount_0f7a4_38 : decode cJ6_bitCount_0f7a4 38 = .ok (.iushr, 1) := by decide +kernel
theorem dJ6_bitCount_0f7a4_39 : decode cJ6_bitCount_0f7a4 39 = .ok (.iadd, 1) := by decide +kernel
theorem dJ6_bitCount_0f7a4_40 : decode cJ6_bitCount_0f7a4 40 = .ok (.istore_n 0, 1) := by decide +kernel
theorem dJ6_bitCount_0f7a4_41 : decode cJ6_bitCount_0f7a4 41 = .ok (.iload_n 0, 1) := by decide +kernel
theorem dJ6_bitCount_0f7a4_42 : decode cJ6_bitCount_0f7a4 42 = .ok (.iload_n 0, 1) := by decide +kernel
theorem dJ6_bitCount_0f7a4_43 : decode cJ6_bitCount_0f7a4 43 = .ok (.bipush 16, 2) := by decide +kernel
theorem dJ6_bitCount_0f7a4_45 : decode cJ6_bitCount_0f7a4 45 = .ok (.iushr, 1) := by decide +kernel
theorem dJ6_bitCount_0f7a4_46 : decode cJ6_bitCount_0f7a4 46 = .ok (.iadd, 1) := by decide +kernel
theorem dJ6_bitCount_0f7a4_47 : decode cJ6_bitCount_0f7a4 47 = .ok (.istore_n 0, 1) := by decide +kernel
theorem dJ6_bitCount_0f7a4_48 : decode cJ6_bitCount_0f7a4 48 = .ok (.iload_n 0, 1) := by decide +kernel
theorem dJ6_bitCount_0f7a4_49 : decode cJ6_bitCount_0f7a4 49 = .ok (.bipush 63, 2) := by decide +kernel
theorem dJ6_bitCount_0f7a4_51 : decode cJ6_bitCount_0f7a4 51 = .ok (.iand, 1) := by decide +kernel
theorem dJ6_bitCount_0f7a4_52 : decode cJ6_bitCount_0f7a4 52 = .ok (.ireturn, 1) := by decide +kernel
theorem dJ9_floorDiv_7cf53_0 : decode cJ9_floorDiv_7cf53 0 = .ok (.iload_n 0, 1) := by decide +kernel
theorem dJ9_floorDiv_7cf53_1 : decode cJ9_floorDiv_7cf53 1 = .ok (.iload_n 1, 1) := by decide +kernel
theorem dJ9_floorDiv_7cf53_2 : decode cJ9_floorDiv_7cf53 2 = .ok (.idiv, 1) := by decide +kernel
theorem dJ9_floorDiv_7cf53_3 : decode cJ9_floorDiv_7cf53 3 = .ok (.istore_n 2, 1) := by decide +kernel
theorem dJ9_floorDiv_7cf53_4 : decode cJ9_floorDiv_7cf53 4 = .ok (.iload_n 0, 1) := by decide +kernel
theorem dJ9_floorDiv_7cf53_5 : decode cJ9_floorDiv_7cf53 5 = .ok (.iload_n 1, 1) := by decide +kernel
theorem dJ9_floorDiv_7cf53_6 : decode cJ9_floorDiv_7cf53 6 = .ok (.ixor, 1) := by decide +kernel
theorem dJ9_floorDiv_7cf53_7 : decode cJ9_floorDiv_7cf53 7 = .ok (.ifCond .ge 14, 3) := by decide +kernel
theorem dJ9_floorDiv_7cf53_10 : decode cJ9_floorDiv_7cf53 10 = .ok (.iload_n 2, 1) := by decide +kernel
theorem dJ9_floorDiv_7cf53_11 : decode cJ9_floorDiv_7cf53 11 = .ok (.iload_n 1, 1) := by decide +kernel
theorem dJ9_floorDiv_7cf53_12 : decode cJ9_floorDiv_7cf53 12 = .ok (.imul, 1) := by decide +kernel
theorem dJ9_floorDiv_7cf53_13 : decode cJ9_floorDiv_7cf53 13 = .ok (.iload_n 0, 1) := by decide +kernel
theorem dJ9_floorDiv_7cf53_14 : decode cJ9_floorDiv_7cf53 14 = .ok (.if_icmp .eq 7, 3) := by decide +kernel
theorem dJ9_floorDiv_7cf53_17 : decode cJ9_floorDiv_7cf53 17 = .ok (.iload_n 2, 1) := by decide +kernel
theorem dJ9_floorDiv_7cf53_18 : decode cJ9_floorDiv_7cf53 18 = .ok (.iconst 1, 1) := by decide +kernel
theorem dJ9_floorDiv_7cf53_19 : decode cJ9_floorDiv_7cf53 19 = .ok (.isub, 1) := by decide +kernel
theorem dJ9_floorDiv_7cf53_20 : decode cJ9_floorDiv_7cf53 20 = .ok (.ireturn, 1) := by decide +kernel
theorem dJ9_floorDiv_7cf53_21 : decode cJ9_floorDiv_7cf53 21 = .ok (.iload_n 2, 1) := by decide +kernel
theorem dJ9_floorDiv_7cf53_22 : decode cJ9_floorDiv_7cf53 22 = .ok (.ireturn, 1) := by decide +kernel
theorem dJ9_floorMod_7cf53_0 : decode cJ9_floorMod_7cf53 0 = .ok (.iload_n 0, 1) := by decide +kernel
theorem dJ9_floorMod_7cf53_1 : decode cJ9_floorMod_7cf53 1 = .ok (.iload_n 1, 1) := by decide +kernel
theorem dJ9_floorMod_7cf53_2 : decode cJ9_floorMod_7cf53 2 = .ok (.irem, 1) := by decide +kernel
theorem dJ9_floorMod_7cf53_3 : decode cJ9_floorMod_7cf53 3 = .ok (.istore_n 2, 1) := by decide +kernel
theorem dJ9_floorMod_7cf53_4 : decode cJ9_floorMod_7cf53 4 = .ok (.iload_n 0, 1) := by decide +kernel
theorem dJ9_floorMod_7cf53_5 : decode cJ9_floorMod_7cf53 5 = .ok (.iload_n 1, 1) := by decide +kernel
theorem dJ9_floorMod_7cf53_6 : decode cJ9_floorMod_7cf53 6 = .ok (.ixor, 1) := by decide +kernel
theorem dJ9_floorMod_7cf53_7 : decode cJ9_floorMod_7cf53 7 = .ok (.ifCond .ge 11, 3) := by decide +kernel
theorem dJ9_floorMod_7cf53_10 : decode cJ9_floorMod_7cf53 10 = .ok (.iload_n 2, 1) := by decide +kernel
theorem dJ9_floorMod_7cf53_11 : decode cJ9_floorMod_7cf53 11 = .ok (.ifCond .eq 7, 3) := by decide +kernel
theorem dJ9_floorMod_7cf53_14 : decode cJ9_floorMod_7cf53 14 = .ok (.iload_n 2, 1) := by decide +kernel
theorem dJ9_floorMod_7cf53_15 : decode cJ9_floorMod_7cf53 15 = .ok (.iload_n 1, 1) := by decide +kernel
theorem dJ9_floorMod_7cf53_16 : decode cJ9_floorMod_7cf53 16 = .ok (.iadd, 1) := by decide +kernel
theorem dJ9_floorMod_7cf53_17 : decode cJ9_floorMod_7cf53 17 = .ok (.ireturn, 1) := by decide +kernel
theorem dJ9_floorMod_7cf53_18 : decode cJ9_floorMod_7cf53 18 = .ok (.iload_n 2, 1) := by decide +kernel
theorem dJ9_floorMod_7cf53_19 : decode cJ9_floorMod_7cf53 19 = .ok (.ireturn, 1) := by decide +kernel
theorem dJ9_abs_0f7a4_0 : decode cJ9_abs_0f7a4 0 = .ok (.iload_n 0, 1) := by decide +kernel
theorem dJ9_abs_0f7a4_1 : decode cJ9_abs_0f7a4 1 = .ok (.ifCond .ge 8, 3) := by decide +kernel
theorem dJ9_abs_0f7a4_4 : decode cJ9_abs_0f7a4 4 = .ok (.iload_n 0, 1) := by decide +kernel
theorem dJ9_abs_0f7a4_5 : decode cJ9_abs_0f7a4 5 = .ok (.ineg, 1) := by decide +kernel
theorem dJ9_abs_0f7a4_6 : decode cJ9_abs_0f7a4 6 = .ok (.goto 4, 3) := by decide +kernel
theorem dJ9_abs_0f7a4_9 : decode cJ9_abs_0f7a4 9 = .ok (.iload_n 0, 1) := by decide +kernel
theorem dJ9_abs_0f7a4_10 : decode cJ9_abs_0f7a4 10 = .ok (.ireturn, 1) := by decide +kernel
theorem dJ9_max_7cf53_0 : decode cJ9_max_7cf53 0 = .ok (.iload_n 0, 1) := by decide +kernel
theorem dJ9_max_7cf53_1 : decode cJ9_max_7cf53 1 = .ok (.iload_n 1, 1) := by decide +kernel
theorem dJ9_max_7cf53_2 : decode cJ9_max_7cf53 2 = .ok (.if_icmp .lt 7, 3) := by decide +kernel
theorem dJ9_max_7cf53_5 : decode cJ9_max_7cf53 5 = .ok (.iload_n 0, 1) := by decide +kernel
theorem dJ9_max_7cf53_6 : decode cJ9_max_7cf53 6 = .ok (.goto 4, 3) := by decide +kernel
theorem dJ9_max_7cf53_9 : decode cJ9_max_7cf53 9 = .ok (.iload_n 1, 1) := by decide +kernel
theorem dJ9_max_7cf53_10 : decode cJ9_max_7cf53 10 = .ok (.ireturn, 1) := by decide +kernel
theorem dJ9_max_f86c9_0 : decode cJ9_max_f86c9 0 = .ok (.lload_n 0, 1) := by decide +kernel
theorem dJ9_max_f86c9_1 : decode cJ9_max_f86c9 1 = .ok (.lload_n 2, 1) := by decide +kernel
theorem dJ9_max_f86c9_2 : decode cJ9_max_f86c9 2 = .ok (.lcmp, 1) := by decide +kernel
theorem dJ9_max_f86c9_3 : decode cJ9_max_f86c9 3 = .ok (.ifCond .lt 7, 3) := by decide +kernel
theorem dJ9_max_f86c9_6 : decode cJ9_max_f86c9 6 = .ok (.lload_n 0, 1) := by decide +kernel
theorem dJ9_max_f86c9_7 : decode cJ9_max_f86c9 7 = .ok (.goto 4, 3) := by decide +kernel
theorem dJ9_max_f86c9_10 : decode cJ9_max_f86c9 10 = .ok (.lload_n 2, 1) := by decide +kernel
theorem dJ9_max_f86c9_11 : decode cJ9_max_f86c9 11 = .ok (.lreturn, 1) := by decide +kernel
theorem dJ9_min_7cf53_0 : decode cJ9_min_7cf53 0 = .ok (.iload_n 0, 1) := by decide +kernel
theorem dJ9_min_7cf53_1 : decode cJ9_min_7cf53 1 = .ok (.iload_n 1, 1) := by decide +kernel
theorem dJ9_min_7cf53_2 : decode cJ9_min_7cf53 2 = .ok (.if_icmp .gt 7, 3) := by decide +kernel
theorem dJ9_min_7cf53_5 : decode cJ9_min_7cf53 5 = .ok (.iload_n 0, 1) := by decide +kernel
theorem dJ9_min_7cf53_6 : decode cJ9_min_7cf53 6 = .ok (.goto 4, 3) := by decide +kernel
theorem dJ9_min_7cf53_9 : decode cJ9_min_7cf53 9 = .ok (.iload_n 1, 1) := by decide +kernel
theorem dJ9_min_7cf53_10 : decode cJ9_min_7cf53 10 = .ok (.ireturn, 1) := by decide +kernel
