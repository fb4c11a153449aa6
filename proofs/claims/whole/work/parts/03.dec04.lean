theorem dX12_init_0 : decode cX12_init 0 = .ok (.aload_n 0, 1) := by decide +kernel
theorem dX12_init_1 : decode cX12_init 1 = .ok (.invokespecial 1, 3) := by decide +kernel
theorem dX12_init_4 : decode cX12_init 4 = .ok (.aload_n 0, 1) := by decide +kernel
theorem dX12_init_5 : decode cX12_init 5 = .ok (.bipush 10, 2) := by decide +kernel
theorem dX12_init_7 : decode cX12_init 7 = .ok (.newarray .int, 2) := by decide +kernel
theorem dX12_init_9 : decode cX12_init 9 = .ok (.putfield 7, 3) := by decide +kernel
theorem dX12_init_12 : decode cX12_init 12 = .ok (.aload_n 0, 1) := by decide +kernel
theorem dX12_init_13 : decode cX12_init 13 = .ok (.bipush 10, 2) := by decide +kernel
theorem dX12_init_15 : decode cX12_init 15 = .ok (.newarray .int, 2) := by decide +kernel
theorem dX12_init_17 : decode cX12_init 17 = .ok (.putfield 13, 3) := by decide +kernel
theorem dX12_init_20 : decode cX12_init 20 = .ok (.aload_n 0, 1) := by decide +kernel
theorem dX12_init_21 : decode cX12_init 21 = .ok (.bipush 10, 2) := by decide +kernel
theorem dX12_init_23 : decode cX12_init 23 = .ok (.newarray .int, 2) := by decide +kernel
theorem dX12_init_25 : decode cX12_init 25 = .ok (.putfield 16, 3) := by decide +kernel
theorem dX12_init_28 : decode cX12_init 28 = .ok (.aload_n 0, 1) := by decide +kernel
theorem dX12_init_29 : decode cX12_init 29 = .ok (.bipush 8, 2) := by decide +kernel
theorem dX12_init_31 : decode cX12_init 31 = .ok (.newarray .int, 2) := by decide +kernel
theorem dX12_init_33 : decode cX12_init 33 = .ok (.putfield 19, 3) := by decide +kernel
theorem dX12_init_36 : decode cX12_init 36 = .ok (.aload_n 0, 1) := by decide +kernel
theorem dX12_init_37 : decode cX12_init 37 = .ok (.bipush 8, 2) := by decide +kernel
theorem dX12_init_39 : decode cX12_init 39 = .ok (.newarray .int, 2) := by decide +kernel
theorem dX12_init_41 : decode cX12_init 41 = .ok (.putfield 22, 3) := by decide +kernel
theorem dX12_init_44 : decode cX12_init 44 = .ok (.aload_n 0, 1) := by decide +kernel
theorem dX12_init_45 : decode cX12_init 45 = .ok (.bipush 60, 2) := by decide +kernel
theorem dX12_init_47 : decode cX12_init 47 = .ok (.newarray .int, 2) := by decide +kernel
theorem dX12_init_49 : decode cX12_init 49 = .ok (.putfield 25, 3) := by decide +kernel
theorem dX12_init_52 : decode cX12_init 52 = .ok (.aload_n 0, 1) := by decide +kernel
theorem dX12_init_53 : decode cX12_init 53 = .ok (.bipush 60, 2) := by decide +kernel
theorem dX12_init_55 : decode cX12_init 55 = .ok (.newarray .int, 2) := by decide +kernel
theorem dX12_init_57 : decode cX12_init 57 = .ok (.putfield 28, 3) := by decide +kernel
theorem dX12_init_60 : decode cX12_init 60 = .ok (.aload_n 0, 1) := by decide +kernel
theorem dX12_init_61 : decode cX12_init 61 = .ok (.bipush 60, 2) := by decide +kernel
theorem dX12_init_63 : decode cX12_init 63 = .ok (.newarray .int, 2) := by decide +kernel
theorem dX12_init_65 : decode cX12_init 65 = .ok (.putfield 31, 3) := by decide +kernel
theorem dX12_init_68 : decode cX12_init 68 = .ok (.aload_n 0, 1) := by decide +kernel
theorem dX12_init_69 : decode cX12_init 69 = .ok (.bipush 24, 2) := by decide +kernel
theorem dX12_init_71 : decode cX12_init 71 = .ok (.newarray .int, 2) := by decide +kernel
theorem dX12_init_73 : decode cX12_init 73 = .ok (.putfield 34, 3) := by decide +kernel
theorem dX12_init_76 : decode cX12_init 76 = .ok (.aload_n 0, 1) := by decide +kernel
theorem dX12_init_77 : decode cX12_init 77 = .ok (.sipush 9216, 3) := by decide +kernel
theorem dX12_init_80 : decode cX12_init 80 = .ok (.newarray .int, 2) := by decide +kernel
theorem dX12_init_82 : decode cX12_init 82 = .ok (.putfield 37, 3) := by decide +kernel
theorem dX12_init_85 : decode cX12_init 85 = .ok (.aload_n 0, 1) := by decide +kernel
theorem dX12_init_86 : decode cX12_init 86 = .ok (.bipush 6, 2) := by decide +kernel
theorem dX12_init_88 : decode cX12_init 88 = .ok (.newarray .int, 2) := by decide +kernel
theorem dX12_init_90 : decode cX12_init 90 = .ok (.putfield 40, 3) := by decide +kernel
theorem dX12_init_93 : decode cX12_init 93 = .ok (.aload_n 0, 1) := by decide +kernel
theorem dX12_init_94 : decode cX12_init 94 = .ok (.bipush 8, 2) := by decide +kernel
theorem dX12_init_96 : decode cX12_init 96 = .ok (.newarray .int, 2) := by decide +kernel
theorem dX12_init_98 : decode cX12_init 98 = .ok (.putfield 43, 3) := by decide +kernel
theorem dX12_init_101 : decode cX12_init 101 = .ok (.aload_n 0, 1) := by decide +kernel
theorem dX12_init_102 : decode cX12_init 102 = .ok (.sipush 441, 3) := by decide +kernel
theorem dX12_init_105 : decode cX12_init 105 = .ok (.newarray .boolean, 2) := by decide +kernel
theorem dX12_init_107 : decode cX12_init 107 = .ok (.putfield 46, 3) := by decide +kernel
theorem dX12_init_110 : decode cX12_init 110 = .ok (.aload_n 0, 1) := by decide +kernel
theorem dX12_init_111 : decode cX12_init 111 = .ok (.bipush 14, 2) := by decide +kernel
theorem dX12_init_113 : decode cX12_init 113 = .ok (.newarray .long, 2) := by decide +kernel
theorem dX12_init_115 : decode cX12_init 115 = .ok (.putfield 50, 3) := by decide +kernel
theorem dX12_init_118 : decode cX12_init 118 = .ok (.aload_n 0, 1) := by decide +kernel
theorem dX12_init_119 : decode cX12_init 119 = .ok (.bipush 120, 2) := by decide +kernel
theorem dX12_init_121 : decode cX12_init 121 = .ok (.newarray .int, 2) := by decide +kernel
theorem dX12_init_123 : decode cX12_init 123 = .ok (.putfield 54, 3) := by decide +kernel
theorem dX12_init_126 : decode cX12_init 126 = .ok (.aload_n 0, 1) := by decide +kernel
theorem dX12_init_127 : decode cX12_init 127 = .ok (.iconst 2, 1) := by decide +kernel
theorem dX12_init_128 : decode cX12_init 128 = .ok (.newarray .boolean, 2) := by decide +kernel
theorem dX12_init_130 : decode cX12_init 130 = .ok (.putfield 57, 3) := by decide +kernel
theorem dX12_init_133 : decode cX12_init 133 = .ok (.aload_n 0, 1) := by decide +kernel
theorem dX12_init_134 : decode cX12_init 134 = .ok (.bipush 60, 2) := by decide +kernel
theorem dX12_init_136 : decode cX12_init 136 = .ok (.putfield 60, 3) := by decide +kernel
theorem dX12_init_139 : decode cX12_init 139 = .ok (.iconst 0, 1) := by decide +kernel
theorem dX12_init_140 : decode cX12_init 140 = .ok (.istore_n 1, 1) := by decide +kernel
theorem dX12_init_141 : decode cX12_init 141 = .ok (.iload_n 1, 1) := by decide +kernel
theorem dX12_init_142 : decode cX12_init 142 = .ok (.bipush 10, 2) := by decide +kernel
theorem dX12_init_144 : decode cX12_init 144 = .ok (.if_icmp .ge 23, 3) := by decide +kernel
theorem dX12_init_147 : decode cX12_init 147 = .ok (.aload_n 0, 1) := by decide +kernel
theorem dX12_init_148 : decode cX12_init 148 = .ok (.getfield 7, 3) := by decide +kernel
theorem dX12_init_151 : decode cX12_init 151 = .ok (.iload_n 1, 1) := by decide +kernel
theorem dX12_init_152 : decode cX12_init 152 = .ok (.iload_n 1, 1) := by decide +kernel
theorem dX12_init_153 : decode cX12_init 153 = .ok (.iastore, 1) := by decide +kernel
theorem dX12_init_154 : decode cX12_init 154 = .ok (.aload_n 0, 1) := by decide +kernel
theorem dX12_init_155 : decode cX12_init 155 = .ok (.getfield 16, 3) := by decide +kernel
theorem dX12_init_158 : decode cX12_init 158 = .ok (.iload_n 1, 1) := by decide +kernel
theorem dX12_init_159 : decode cX12_init 159 = .ok (.iconst 3, 1) := by decide +kernel
theorem dX12_init_160 : decode cX12_init 160 = .ok (.iastore, 1) := by decide +kernel
theorem dX12_init_161 : decode cX12_init 161 = .ok (.iinc 1 1, 3) := by decide +kernel
theorem dX12_init_164 : decode cX12_init 164 = .ok (.goto (-23), 3) := by decide +kernel
theorem dX12_init_167 : decode cX12_init 167 = .ok (.return_, 1) := by decide +kernel
theorem dX12_in_0 : decode cX12_in 0 = .ok (.lload_n 0, 1) := by decide +kernel
theorem dX12_in_1 : decode cX12_in 1 = .ok (.lload_n 2, 1) := by decide +kernel
theorem dX12_in_2 : decode cX12_in 2 = .ok (.lcmp, 1) := by decide +kernel
theorem dX12_in_3 : decode cX12_in 3 = .ok (.ifCond .lt 14, 3) := by decide +kernel
theorem dX12_in_6 : decode cX12_in 6 = .ok (.lload_n 0, 1) := by decide +kernel
theorem dX12_in_7 : decode cX12_in 7 = .ok (.lload 4, 2) := by decide +kernel
theorem dX12_in_9 : decode cX12_in 9 = .ok (.lcmp, 1) := by decide +kernel
theorem dX12_in_10 : decode cX12_in 10 = .ok (.ifCond .gt 7, 3) := by decide +kernel
theorem dX12_in_13 : decode cX12_in 13 = .ok (.iconst 1, 1) := by decide +kernel
theorem dX12_in_14 : decode cX12_in 14 = .ok (.goto 4, 3) := by decide +kernel
theorem dX12_in_17 : decode cX12_in 17 = .ok (.iconst 0, 1) := by decide +kernel
theorem dX12_in_18 : decode cX12_in 18 = .ok (.ireturn, 1) := by decide +kernel
theorem dX12_ones_0 : decode cX12_ones 0 = .ok (.iconst 0, 1) := by decide +kernel
theorem dX12_ones_1 : decode cX12_ones 1 = .ok (.istore_n 1, 1) := by decide +kernel
theorem dX12_ones_2 : decode cX12_ones 2 = .ok (.iload_n 0, 1) := by decide +kernel
theorem dX12_ones_3 : decode cX12_ones 3 = .ok (.istore_n 2, 1) := by decide +kernel
theorem dX12_ones_4 : decode cX12_ones 4 = .ok (.iload_n 2, 1) := by decide +kernel
theorem dX12_ones_5 : decode cX12_ones 5 = .ok (.ifCond .eq 15, 3) := by decide +kernel
theorem dX12_ones_8 : decode cX12_ones 8 = .ok (.iinc 1 1, 3) := by decide +kernel
theorem dX12_ones_11 : decode cX12_ones 11 = .ok (.iload_n 2, 1) := by decide +kernel
theorem dX12_ones_12 : decode cX12_ones 12 = .ok (.iload_n 2, 1) := by decide +kernel
theorem dX12_ones_13 : decode cX12_ones 13 = .ok (.iconst 1, 1) := by decide +kernel
theorem dX12_ones_14 : decode cX12_ones 14 = .ok (.isub, 1) := by decide +kernel
theorem dX12_ones_15 : decode cX12_ones 15 = .ok (.iand, 1) := by decide +kernel
theorem dX12_ones_16 : decode cX12_ones 16 = .ok (.istore_n 2, 1) := by decide +kernel
theorem dX12_ones_17 : decode cX12_ones 17 = .ok (.goto (-13), 3) := by decide +kernel
theorem dX12_ones_20 : decode cX12_ones 20 = .ok (.iload_n 1, 1) := by decide +kernel
theorem dX12_ones_21 : decode cX12_ones 21 = .ok (.ireturn, 1) := by decide +kernel
theorem dX12_isCabin_0 : decode cX12_isCabin 0 = .ok (.iload_n 0, 1) := by decide +kernel
theorem dX12_isCabin_1 : decode cX12_isCabin 1 = .ok (.i2l, 1) := by decide +kernel
theorem dX12_isCabin_2 : decode cX12_isCabin 2 = .ok (.lconst 0, 1) := by decide +kernel
theorem dX12_isCabin_3 : decode cX12_isCabin 3 = .ok (.ldc2_w 64, 3) := by decide +kernel
theorem dX12_isCabin_6 : decode cX12_isCabin 6 = .ok (.invokestatic 66, 3) := by decide +kernel
theorem dX12_isCabin_9 : decode cX12_isCabin 9 = .ok (.ireturn, 1) := by decide +kernel
theorem dX12_isThing_0 : decode cX12_isThing 0 = .ok (.iload_n 0, 1) := by decide +kernel
theorem dX12_isThing_1 : decode cX12_isThing 1 = .ok (.i2l, 1) := by decide +kernel
theorem dX12_isThing_2 : decode cX12_isThing 2 = .ok (.lconst 0, 1) := by decide +kernel
theorem dX12_isThing_3 : decode cX12_isThing 3 = .ok (.ldc2_w 70, 3) := by decide +kernel
theorem dX12_isThing_6 : decode cX12_isThing 6 = .ok (.invokestatic 66, 3) := by decide +kernel
theorem dX12_isThing_9 : decode cX12_isThing 9 = .ok (.ireturn, 1) := by decide +kernel
theorem dX12_isIn_0 : decode cX12_isIn 0 = .ok (.iload_n 0, 1) := by decide +kernel
theorem dX12_isIn_1 : decode cX12_isIn 1 = .ok (.iload_n 1, 1) := by decide +kernel
theorem dX12_isIn_2 : decode cX12_isIn 2 = .ok (.ishr, 1) := by decide +kernel
theorem dX12_isIn_3 : decode cX12_isIn 3 = .ok (.iconst 1, 1) := by decide +kernel
theorem dX12_isIn_4 : decode cX12_isIn 4 = .ok (.iand, 1) := by decide +kernel
theorem dX12_isIn_5 : decode cX12_isIn 5 = .ok (.iconst 1, 1) := by decide +kernel
theorem dX12_isIn_6 : decode cX12_isIn 6 = .ok (.if_icmp .ne 7, 3) := by decide +kernel
theorem dX12_isIn_9 : decode cX12_isIn 9 = .ok (.iconst 1, 1) := by decide +kernel
theorem dX12_isIn_10 : decode cX12_isIn 10 = .ok (.goto 4, 3) := by decide +kernel
theorem dX12_isIn_13 : decode cX12_isIn 13 = .ok (.iconst 0, 1) := by decide +kernel
theorem dX12_isIn_14 : decode cX12_isIn 14 = .ok (.ireturn, 1) := by decide +kernel
theorem dX12_apart_0 : decode cX12_apart 0 = .ok (.iload_n 0, 1) := by decide +kernel
theorem dX12_apart_1 : decode cX12_apart 1 = .ok (.iload_n 1, 1) := by decide +kernel
theorem dX12_apart_2 : decode cX12_apart 2 = .ok (.if_icmp .le 9, 3) := by decide +kernel
theorem dX12_apart_5 : decode cX12_apart 5 = .ok (.iload_n 0, 1) := by decide +kernel
theorem dX12_apart_6 : decode cX12_apart 6 = .ok (.iload_n 1, 1) := by decide +kernel
theorem dX12_apart_7 : decode cX12_apart 7 = .ok (.isub, 1) := by decide +kernel
theorem dX12_apart_8 : decode cX12_apart 8 = .ok (.goto 6, 3) := by decide +kernel
theorem dX12_apart_11 : decode cX12_apart 11 = .ok (.iload_n 1, 1) := by decide +kernel
theorem dX12_apart_12 : decode cX12_apart 12 = .ok (.iload_n 0, 1) := by decide +kernel
theorem dX12_apart_13 : decode cX12_apart 13 = .ok (.isub, 1) := by decide +kernel
theorem dX12_apart_14 : decode cX12_apart 14 = .ok (.ireturn, 1) := by decide +kernel
theorem dX12_basket_0 : decode cX12_basket 0 = .ok (.iload_n 1, 1) := by decide +kernel
theorem dX12_basket_1 : decode cX12_basket 1 = .ok (.invokestatic 72, 3) := by decide +kernel
theorem dX12_basket_4 : decode cX12_basket 4 = .ok (.ifCond .ne 5, 3) := by decide +kernel
theorem dX12_basket_7 : decode cX12_basket 7 = .ok (.iconst (-1), 1) := by decide +kernel
theorem dX12_basket_8 : decode cX12_basket 8 = .ok (.ireturn, 1) := by decide +kernel
theorem dX12_basket_9 : decode cX12_basket 9 = .ok (.iload_n 2, 1) := by decide +kernel
theorem dX12_basket_10 : decode cX12_basket 10 = .ok (.i2l, 1) := by decide +kernel
theorem dX12_basket_11 : decode cX12_basket 11 = .ok (.lconst 0, 1) := by decide +kernel
theorem dX12_basket_12 : decode cX12_basket 12 = .ok (.ldc2_w 76, 3) := by decide +kernel
theorem dX12_basket_15 : decode cX12_basket 15 = .ok (.invokestatic 66, 3) := by decide +kernel
theorem dX12_basket_18 : decode cX12_basket 18 = .ok (.ifCond .eq 15, 3) := by decide +kernel
theorem dX12_basket_21 : decode cX12_basket 21 = .ok (.iload_n 3, 1) := by decide +kernel
theorem dX12_basket_22 : decode cX12_basket 22 = .ok (.i2l, 1) := by decide +kernel
theorem dX12_basket_23 : decode cX12_basket 23 = .ok (.lconst 1, 1) := by decide +kernel
theorem dX12_basket_24 : decode cX12_basket 24 = .ok (.ldc2_w 64, 3) := by decide +kernel
theorem dX12_basket_27 : decode cX12_basket 27 = .ok (.invokestatic 66, 3) := by decide +kernel
theorem dX12_basket_30 : decode cX12_basket 30 = .ok (.ifCond .ne 6, 3) := by decide +kernel
theorem dX12_basket_33 : decode cX12_basket 33 = .ok (.bipush (-2), 2) := by decide +kernel
theorem dX12_basket_35 : decode cX12_basket 35 = .ok (.ireturn, 1) := by decide +kernel
theorem dX12_basket_36 : decode cX12_basket 36 = .ok (.bipush 10, 2) := by decide +kernel
theorem dX12_basket_38 : decode cX12_basket 38 = .ok (.aload_n 0, 1) := by decide +kernel
theorem dX12_basket_39 : decode cX12_basket 39 = .ok (.getfield 13, 3) := by decide +kernel
theorem dX12_basket_42 : decode cX12_basket 42 = .ok (.iload_n 1, 1) := by decide +kernel
theorem dX12_basket_43 : decode cX12_basket 43 = .ok (.iaload, 1) := by decide +kernel
theorem dX12_basket_44 : decode cX12_basket 44 = .ok (.imul, 1) := by decide +kernel
theorem dX12_basket_45 : decode cX12_basket 45 = .ok (.aload_n 0, 1) := by decide +kernel
theorem dX12_basket_46 : decode cX12_basket 46 = .ok (.getfield 16, 3) := by decide +kernel
theorem dX12_basket_49 : decode cX12_basket 49 = .ok (.iload_n 1, 1) := by decide +kernel
theorem dX12_basket_50 : decode cX12_basket 50 = .ok (.iaload, 1) := by decide +kernel
theorem dX12_basket_51 : decode cX12_basket 51 = .ok (.iadd, 1) := by decide +kernel
theorem dX12_basket_52 : decode cX12_basket 52 = .ok (.istore 4, 2) := by decide +kernel
theorem dX12_basket_54 : decode cX12_basket 54 = .ok (.aload_n 0, 1) := by decide +kernel
theorem dX12_basket_55 : decode cX12_basket 55 = .ok (.getfield 13, 3) := by decide +kernel
theorem dX12_basket_58 : decode cX12_basket 58 = .ok (.iload_n 1, 1) := by decide +kernel
theorem dX12_basket_59 : decode cX12_basket 59 = .ok (.iload_n 2, 1) := by decide +kernel
theorem dX12_basket_60 : decode cX12_basket 60 = .ok (.iastore, 1) := by decide +kernel
theorem dX12_basket_61 : decode cX12_basket 61 = .ok (.aload_n 0, 1) := by decide +kernel
theorem dX12_basket_62 : decode cX12_basket 62 = .ok (.getfield 16, 3) := by decide +kernel
theorem dX12_basket_65 : decode cX12_basket 65 = .ok (.iload_n 1, 1) := by decide +kernel
theorem dX12_basket_66 : decode cX12_basket 66 = .ok (.iload_n 3, 1) := by decide +kernel
theorem dX12_basket_67 : decode cX12_basket 67 = .ok (.iastore, 1) := by decide +kernel
theorem dX12_basket_68 : decode cX12_basket 68 = .ok (.iload 4, 2) := by decide +kernel
theorem dX12_basket_70 : decode cX12_basket 70 = .ok (.ireturn, 1) := by decide +kernel
theorem dX12_wrongMany_0 : decode cX12_wrongMany 0 = .ok (.iconst 0, 1) := by decide +kernel
theorem dX12_wrongMany_1 : decode cX12_wrongMany 1 = .ok (.istore_n 1, 1) := by decide +kernel
theorem dX12_wrongMany_2 : decode cX12_wrongMany 2 = .ok (.iconst 0, 1) := by decide +kernel
theorem dX12_wrongMany_3 : decode cX12_wrongMany 3 = .ok (.istore_n 2, 1) := by decide +kernel
theorem dX12_wrongMany_4 : decode cX12_wrongMany 4 = .ok (.iload_n 2, 1) := by decide +kernel
theorem dX12_wrongMany_5 : decode cX12_wrongMany 5 = .ok (.bipush 10, 2) := by decide +kernel
theorem dX12_wrongMany_7 : decode cX12_wrongMany 7 = .ok (.if_icmp .ge 27, 3) := by decide +kernel
theorem dX12_wrongMany_10 : decode cX12_wrongMany 10 = .ok (.iload_n 1, 1) := by decide +kernel
theorem dX12_wrongMany_11 : decode cX12_wrongMany 11 = .ok (.aload_n 0, 1) := by decide +kernel
theorem dX12_wrongMany_12 : decode cX12_wrongMany 12 = .ok (.getfield 7, 3) := by decide +kernel
theorem dX12_wrongMany_15 : decode cX12_wrongMany 15 = .ok (.iload_n 2, 1) := by decide +kernel
theorem dX12_wrongMany_16 : decode cX12_wrongMany 16 = .ok (.iaload, 1) := by decide +kernel
theorem dX12_wrongMany_17 : decode cX12_wrongMany 17 = .ok (.iload_n 2, 1) := by decide +kernel
theorem dX12_wrongMany_18 : decode cX12_wrongMany 18 = .ok (.if_icmp .ne 7, 3) := by decide +kernel
theorem dX12_wrongMany_21 : decode cX12_wrongMany 21 = .ok (.iconst 0, 1) := by decide +kernel
theorem dX12_wrongMany_22 : decode cX12_wrongMany 22 = .ok (.goto 4, 3) := by decide +kernel
theorem dX12_wrongMany_25 : decode cX12_wrongMany 25 = .ok (.iconst 1, 1) := by decide +kernel
theorem dX12_wrongMany_26 : decode cX12_wrongMany 26 = .ok (.iadd, 1) := by decide +kernel
theorem dX12_wrongMany_27 : decode cX12_wrongMany 27 = .ok (.istore_n 1, 1) := by decide +kernel
theorem dX12_wrongMany_28 : decode cX12_wrongMany 28 = .ok (.iinc 2 1, 3) := by decide +kernel
theorem dX12_wrongMany_31 : decode cX12_wrongMany 31 = .ok (.goto (-27), 3) := by decide +kernel
theorem dX12_wrongMany_34 : decode cX12_wrongMany 34 = .ok (.iload_n 1, 1) := by decide +kernel
theorem dX12_wrongMany_35 : decode cX12_wrongMany 35 = .ok (.ireturn, 1) := by decide +kernel
theorem dX12_right_0 : decode cX12_right 0 = .ok (.aload_n 0, 1) := by decide +kernel
theorem dX12_right_1 : decode cX12_right 1 = .ok (.invokevirtual 78, 3) := by decide +kernel
theorem dX12_right_4 : decode cX12_right 4 = .ok (.istore_n 1, 1) := by decide +kernel
theorem dX12_right_5 : decode cX12_right 5 = .ok (.iconst 0, 1) := by decide +kernel
theorem dX12_right_6 : decode cX12_right 6 = .ok (.istore_n 2, 1) := by decide +kernel
theorem dX12_right_7 : decode cX12_right 7 = .ok (.iload_n 2, 1) := by decide +kernel
theorem dX12_right_8 : decode cX12_right 8 = .ok (.bipush 10, 2) := by decide +kernel
theorem dX12_right_10 : decode cX12_right 10 = .ok (.if_icmp .ge 16, 3) := by decide +kernel
theorem dX12_right_13 : decode cX12_right 13 = .ok (.aload_n 0, 1) := by decide +kernel
theorem dX12_right_14 : decode cX12_right 14 = .ok (.getfield 7, 3) := by decide +kernel
theorem dX12_right_17 : decode cX12_right 17 = .ok (.iload_n 2, 1) := by decide +kernel
theorem dX12_right_18 : decode cX12_right 18 = .ok (.iload_n 2, 1) := by decide +kernel
theorem dX12_right_19 : decode cX12_right 19 = .ok (.iastore, 1) := by decide +kernel
theorem dX12_right_20 : decode cX12_right 20 = .ok (.iinc 2 1, 3) := by decide +kernel
theorem dX12_right_23 : decode cX12_right 23 = .ok (.goto (-16), 3) := by decide +kernel
theorem dX12_right_26 : decode cX12_right 26 = .ok (.iload_n 1, 1) := by decide +kernel
theorem dX12_right_27 : decode cX12_right 27 = .ok (.ireturn, 1) := by decide +kernel
theorem dX12_clock_0 : decode cX12_clock 0 = .ok (.iload_n 1, 1) := by decide +kernel
theorem dX12_clock_1 : decode cX12_clock 1 = .ok (.i2l, 1) := by decide +kernel
theorem dX12_clock_2 : decode cX12_clock 2 = .ok (.lconst 0, 1) := by decide +kernel
theorem dX12_clock_3 : decode cX12_clock 3 = .ok (.ldc2_w 82, 3) := by decide +kernel
theorem dX12_clock_6 : decode cX12_clock 6 = .ok (.invokestatic 66, 3) := by decide +kernel
theorem dX12_clock_9 : decode cX12_clock 9 = .ok (.ifCond .eq 15, 3) := by decide +kernel
theorem dX12_clock_12 : decode cX12_clock 12 = .ok (.iload_n 2, 1) := by decide +kernel
theorem dX12_clock_13 : decode cX12_clock 13 = .ok (.i2l, 1) := by decide +kernel
theorem dX12_clock_14 : decode cX12_clock 14 = .ok (.lconst 0, 1) := by decide +kernel
theorem dX12_clock_15 : decode cX12_clock 15 = .ok (.ldc2_w 82, 3) := by decide +kernel
theorem dX12_clock_18 : decode cX12_clock 18 = .ok (.invokestatic 66, 3) := by decide +kernel
theorem dX12_clock_21 : decode cX12_clock 21 = .ok (.ifCond .ne 6, 3) := by decide +kernel
theorem dX12_clock_24 : decode cX12_clock 24 = .ok (.bipush (-2), 2) := by decide +kernel
theorem dX12_clock_26 : decode cX12_clock 26 = .ok (.ireturn, 1) := by decide +kernel
theorem dX12_clock_27 : decode cX12_clock 27 = .ok (.bipush 100, 2) := by decide +kernel
theorem dX12_clock_29 : decode cX12_clock 29 = .ok (.aload_n 0, 1) := by decide +kernel
theorem dX12_clock_30 : decode cX12_clock 30 = .ok (.getfield 84, 3) := by decide +kernel
theorem dX12_clock_33 : decode cX12_clock 33 = .ok (.imul, 1) := by decide +kernel
theorem dX12_clock_34 : decode cX12_clock 34 = .ok (.aload_n 0, 1) := by decide +kernel
theorem dX12_clock_35 : decode cX12_clock 35 = .ok (.getfield 60, 3) := by decide +kernel
theorem dX12_clock_38 : decode cX12_clock 38 = .ok (.iadd, 1) := by decide +kernel
theorem dX12_clock_39 : decode cX12_clock 39 = .ok (.istore_n 3, 1) := by decide +kernel
theorem dX12_clock_40 : decode cX12_clock 40 = .ok (.aload_n 0, 1) := by decide +kernel
theorem dX12_clock_41 : decode cX12_clock 41 = .ok (.iload_n 1, 1) := by decide +kernel
theorem dX12_clock_42 : decode cX12_clock 42 = .ok (.putfield 84, 3) := by decide +kernel
theorem dX12_clock_45 : decode cX12_clock 45 = .ok (.aload_n 0, 1) := by decide +kernel
theorem dX12_clock_46 : decode cX12_clock 46 = .ok (.iload_n 2, 1) := by decide +kernel
theorem dX12_clock_47 : decode cX12_clock 47 = .ok (.putfield 60, 3) := by decide +kernel
theorem dX12_clock_50 : decode cX12_clock 50 = .ok (.iload_n 3, 1) := by decide +kernel
theorem dX12_clock_51 : decode cX12_clock 51 = .ok (.ireturn, 1) := by decide +kernel
theorem dX12_attendant_0 : decode cX12_attendant 0 = .ok (.iload_n 1, 1) := by decide +kernel
theorem dX12_attendant_1 : decode cX12_attendant 1 = .ok (.invokestatic 72, 3) := by decide +kernel
theorem dX12_attendant_4 : decode cX12_attendant 4 = .ok (.ifCond .ne 5, 3) := by decide +kernel
theorem dX12_attendant_7 : decode cX12_attendant 7 = .ok (.iconst (-1), 1) := by decide +kernel
theorem dX12_attendant_8 : decode cX12_attendant 8 = .ok (.ireturn, 1) := by decide +kernel
theorem dX12_attendant_9 : decode cX12_attendant 9 = .ok (.iload_n 2, 1) := by decide +kernel
theorem dX12_attendant_10 : decode cX12_attendant 10 = .ok (.i2l, 1) := by decide +kernel
theorem dX12_attendant_11 : decode cX12_attendant 11 = .ok (.lconst 0, 1) := by decide +kernel
theorem dX12_attendant_12 : decode cX12_attendant 12 = .ok (.ldc2_w 76, 3) := by decide +kernel
theorem dX12_attendant_15 : decode cX12_attendant 15 = .ok (.invokestatic 66, 3) := by decide +kernel
theorem dX12_attendant_18 : decode cX12_attendant 18 = .ok (.ifCond .eq 15, 3) := by decide +kernel
theorem dX12_attendant_21 : decode cX12_attendant 21 = .ok (.iload_n 3, 1) := by decide +kernel
theorem dX12_attendant_22 : decode cX12_attendant 22 = .ok (.i2l, 1) := by decide +kernel
theorem dX12_attendant_23 : decode cX12_attendant 23 = .ok (.lconst 0, 1) := by decide +kernel
theorem dX12_attendant_24 : decode cX12_attendant 24 = .ok (.ldc2_w 76, 3) := by decide +kernel
theorem dX12_attendant_27 : decode cX12_attendant 27 = .ok (.invokestatic 66, 3) := by decide +kernel
theorem dX12_attendant_30 : decode cX12_attendant 30 = .ok (.ifCond .ne 6, 3) := by decide +kernel
theorem dX12_attendant_33 : decode cX12_attendant 33 = .ok (.bipush (-2), 2) := by decide +kernel
theorem dX12_attendant_35 : decode cX12_attendant 35 = .ok (.ireturn, 1) := by decide +kernel
theorem dX12_attendant_36 : decode cX12_attendant 36 = .ok (.aload_n 0, 1) := by decide +kernel
theorem dX12_attendant_37 : decode cX12_attendant 37 = .ok (.getfield 87, 3) := by decide +kernel
theorem dX12_attendant_40 : decode cX12_attendant 40 = .ok (.istore 4, 2) := by decide +kernel
theorem dX12_attendant_42 : decode cX12_attendant 42 = .ok (.aload_n 0, 1) := by decide +kernel
theorem dX12_attendant_43 : decode cX12_attendant 43 = .ok (.iload_n 1, 1) := by decide +kernel
theorem dX12_attendant_44 : decode cX12_attendant 44 = .ok (.putfield 87, 3) := by decide +kernel
theorem dX12_attendant_47 : decode cX12_attendant 47 = .ok (.aload_n 0, 1) := by decide +kernel
theorem dX12_attendant_48 : decode cX12_attendant 48 = .ok (.iload_n 2, 1) := by decide +kernel
theorem dX12_attendant_49 : decode cX12_attendant 49 = .ok (.putfield 90, 3) := by decide +kernel
theorem dX12_attendant_52 : decode cX12_attendant 52 = .ok (.aload_n 0, 1) := by decide +kernel
theorem dX12_attendant_53 : decode cX12_attendant 53 = .ok (.iload_n 3, 1) := by decide +kernel
theorem dX12_attendant_54 : decode cX12_attendant 54 = .ok (.putfield 93, 3) := by decide +kernel
theorem dX12_attendant_57 : decode cX12_attendant 57 = .ok (.iload 4, 2) := by decide +kernel
theorem dX12_attendant_59 : decode cX12_attendant 59 = .ok (.ireturn, 1) := by decide +kernel
theorem dX12_say_0 : decode cX12_say 0 = .ok (.iload_n 1, 1) := by decide +kernel
theorem dX12_say_1 : decode cX12_say 1 = .ok (.i2l, 1) := by decide +kernel
theorem dX12_say_2 : decode cX12_say 2 = .ok (.ldc2_w 96, 3) := by decide +kernel
theorem dX12_say_5 : decode cX12_say 5 = .ok (.ldc2_w 98, 3) := by decide +kernel
theorem dX12_say_8 : decode cX12_say 8 = .ok (.invokestatic 66, 3) := by decide +kernel
theorem dX12_say_11 : decode cX12_say 11 = .ok (.ifCond .ne 6, 3) := by decide +kernel
theorem dX12_say_14 : decode cX12_say 14 = .ok (.bipush (-2), 2) := by decide +kernel
theorem dX12_say_16 : decode cX12_say 16 = .ok (.ireturn, 1) := by decide +kernel
theorem dX12_say_17 : decode cX12_say 17 = .ok (.aload_n 0, 1) := by decide +kernel
theorem dX12_say_18 : decode cX12_say 18 = .ok (.getfield 100, 3) := by decide +kernel
theorem dX12_say_21 : decode cX12_say 21 = .ok (.bipush 60, 2) := by decide +kernel
theorem dX12_say_23 : decode cX12_say 23 = .ok (.if_icmp .ne 6, 3) := by decide +kernel
theorem dX12_say_26 : decode cX12_say 26 = .ok (.bipush (-4), 2) := by decide +kernel
theorem dX12_say_28 : decode cX12_say 28 = .ok (.ireturn, 1) := by decide +kernel
theorem dX12_say_29 : decode cX12_say 29 = .ok (.aload_n 0, 1) := by decide +kernel
theorem dX12_say_30 : decode cX12_say 30 = .ok (.getfield 25, 3) := by decide +kernel
theorem dX12_say_33 : decode cX12_say 33 = .ok (.aload_n 0, 1) := by decide +kernel
theorem dX12_say_34 : decode cX12_say 34 = .ok (.getfield 100, 3) := by decide +kernel
theorem dX12_say_37 : decode cX12_say 37 = .ok (.iload_n 1, 1) := by decide +kernel
theorem dX12_say_38 : decode cX12_say 38 = .ok (.iastore, 1) := by decide +kernel
theorem dX12_say_39 : decode cX12_say 39 = .ok (.aload_n 0, 1) := by decide +kernel
theorem dX12_say_40 : decode cX12_say 40 = .ok (.dup, 1) := by decide +kernel
theorem dX12_say_41 : decode cX12_say 41 = .ok (.getfield 100, 3) := by decide +kernel
theorem dX12_say_44 : decode cX12_say 44 = .ok (.iconst 1, 1) := by decide +kernel
theorem dX12_say_45 : decode cX12_say 45 = .ok (.iadd, 1) := by decide +kernel
theorem dX12_say_46 : decode cX12_say 46 = .ok (.putfield 100, 3) := by decide +kernel
theorem dX12_say_49 : decode cX12_say 49 = .ok (.aload_n 0, 1) := by decide +kernel
theorem dX12_say_50 : decode cX12_say 50 = .ok (.getfield 100, 3) := by decide +kernel
theorem dX12_say_53 : decode cX12_say 53 = .ok (.ireturn, 1) := by decide +kernel
theorem dX12_wipe_0 : decode cX12_wipe 0 = .ok (.aload_n 0, 1) := by decide +kernel
theorem dX12_wipe_1 : decode cX12_wipe 1 = .ok (.getfield 100, 3) := by decide +kernel
theorem dX12_wipe_4 : decode cX12_wipe 4 = .ok (.istore_n 1, 1) := by decide +kernel
theorem dX12_wipe_5 : decode cX12_wipe 5 = .ok (.aload_n 0, 1) := by decide +kernel
theorem dX12_wipe_6 : decode cX12_wipe 6 = .ok (.iconst 0, 1) := by decide +kernel
theorem dX12_wipe_7 : decode cX12_wipe 7 = .ok (.putfield 100, 3) := by decide +kernel
theorem dX12_wipe_10 : decode cX12_wipe 10 = .ok (.iload_n 1, 1) := by decide +kernel
theorem dX12_wipe_11 : decode cX12_wipe 11 = .ok (.ireturn, 1) := by decide +kernel
theorem dX12_close_0 : decode cX12_close 0 = .ok (.aload_n 0, 1) := by decide +kernel
theorem dX12_close_1 : decode cX12_close 1 = .ok (.getfield 28, 3) := by decide +kernel
theorem dX12_close_4 : decode cX12_close 4 = .ok (.aload_n 0, 1) := by decide +kernel
theorem dX12_close_5 : decode cX12_close 5 = .ok (.getfield 103, 3) := by decide +kernel
theorem dX12_close_8 : decode cX12_close 8 = .ok (.iload_n 1, 1) := by decide +kernel
theorem dX12_close_9 : decode cX12_close 9 = .ok (.iastore, 1) := by decide +kernel
theorem dX12_close_10 : decode cX12_close 10 = .ok (.aload_n 0, 1) := by decide +kernel
theorem dX12_close_11 : decode cX12_close 11 = .ok (.getfield 31, 3) := by decide +kernel
theorem dX12_close_14 : decode cX12_close 14 = .ok (.aload_n 0, 1) := by decide +kernel
theorem dX12_close_15 : decode cX12_close 15 = .ok (.getfield 103, 3) := by decide +kernel
theorem dX12_close_18 : decode cX12_close 18 = .ok (.iload_n 2, 1) := by decide +kernel
theorem dX12_close_19 : decode cX12_close 19 = .ok (.iastore, 1) := by decide +kernel
theorem dX12_close_20 : decode cX12_close 20 = .ok (.aload_n 0, 1) := by decide +kernel
theorem dX12_close_21 : decode cX12_close 21 = .ok (.dup, 1) := by decide +kernel
theorem dX12_close_22 : decode cX12_close 22 = .ok (.getfield 103, 3) := by decide +kernel
theorem dX12_close_25 : decode cX12_close 25 = .ok (.iconst 1, 1) := by decide +kernel
theorem dX12_close_26 : decode cX12_close 26 = .ok (.iadd, 1) := by decide +kernel
theorem dX12_close_27 : decode cX12_close 27 = .ok (.putfield 103, 3) := by decide +kernel
theorem dX12_close_30 : decode cX12_close 30 = .ok (.iconst 0, 1) := by decide +kernel
theorem dX12_close_31 : decode cX12_close 31 = .ok (.ireturn, 1) := by decide +kernel
theorem dX12_isLetter_0 : decode cX12_isLetter 0 = .ok (.iload_n 0, 1) := by decide +kernel
theorem dX12_isLetter_1 : decode cX12_isLetter 1 = .ok (.i2l, 1) := by decide +kernel
theorem dX12_isLetter_2 : decode cX12_isLetter 2 = .ok (.ldc2_w 106, 3) := by decide +kernel
theorem dX12_isLetter_5 : decode cX12_isLetter 5 = .ok (.ldc2_w 108, 3) := by decide +kernel
theorem dX12_isLetter_8 : decode cX12_isLetter 8 = .ok (.invokestatic 66, 3) := by decide +kernel
theorem dX12_isLetter_11 : decode cX12_isLetter 11 = .ok (.ireturn, 1) := by decide +kernel
theorem dX12_begin_0 : decode cX12_begin 0 = .ok (.iload_n 1, 1) := by decide +kernel
theorem dX12_begin_1 : decode cX12_begin 1 = .ok (.lookupswitch 71 #[(43, 65), (45, 67), (46, 58), (61, 69), (63, 51)], 51) := by decide +kernel
theorem dX12_begin_52 : decode cX12_begin 52 = .ok (.aload_n 0, 1) := by decide +kernel
theorem dX12_begin_53 : decode cX12_begin 53 = .ok (.iconst 1, 1) := by decide +kernel
theorem dX12_begin_54 : decode cX12_begin 54 = .ok (.iconst 0, 1) := by decide +kernel
theorem dX12_begin_55 : decode cX12_begin 55 = .ok (.invokevirtual 110, 3) := by decide +kernel
theorem dX12_begin_58 : decode cX12_begin 58 = .ok (.ireturn, 1) := by decide +kernel
theorem dX12_begin_59 : decode cX12_begin 59 = .ok (.aload_n 0, 1) := by decide +kernel
theorem dX12_begin_60 : decode cX12_begin 60 = .ok (.iconst 5, 1) := by decide +kernel
theorem dX12_begin_61 : decode cX12_begin 61 = .ok (.iconst 0, 1) := by decide +kernel
theorem dX12_begin_62 : decode cX12_begin 62 = .ok (.invokevirtual 110, 3) := by decide +kernel
theorem dX12_begin_65 : decode cX12_begin 65 = .ok (.ireturn, 1) := by decide +kernel
theorem dX12_begin_66 : decode cX12_begin 66 = .ok (.iconst 1, 1) := by decide +kernel
theorem dX12_begin_67 : decode cX12_begin 67 = .ok (.ireturn, 1) := by decide +kernel
theorem dX12_begin_68 : decode cX12_begin 68 = .ok (.iconst 2, 1) := by decide +kernel
theorem dX12_begin_69 : decode cX12_begin 69 = .ok (.ireturn, 1) := by decide +kernel
theorem dX12_begin_70 : decode cX12_begin 70 = .ok (.iconst 3, 1) := by decide +kernel
theorem dX12_begin_71 : decode cX12_begin 71 = .ok (.ireturn, 1) := by decide +kernel
theorem dX12_begin_72 : decode cX12_begin 72 = .ok (.iload_n 1, 1) := by decide +kernel
theorem dX12_begin_73 : decode cX12_begin 73 = .ok (.invokestatic 114, 3) := by decide +kernel
theorem dX12_begin_76 : decode cX12_begin 76 = .ok (.ifCond .eq 15, 3) := by decide +kernel
theorem dX12_begin_79 : decode cX12_begin 79 = .ok (.aload_n 0, 1) := by decide +kernel
theorem dX12_begin_80 : decode cX12_begin 80 = .ok (.iconst 0, 1) := by decide +kernel
theorem dX12_begin_81 : decode cX12_begin 81 = .ok (.iload_n 1, 1) := by decide +kernel
theorem dX12_begin_82 : decode cX12_begin 82 = .ok (.bipush 65, 2) := by decide +kernel
theorem dX12_begin_84 : decode cX12_begin 84 = .ok (.isub, 1) := by decide +kernel
theorem dX12_begin_85 : decode cX12_begin 85 = .ok (.invokevirtual 110, 3) := by decide +kernel
theorem dX12_begin_88 : decode cX12_begin 88 = .ok (.goto 5, 3) := by decide +kernel
theorem dX12_begin_91 : decode cX12_begin 91 = .ok (.bipush (-6), 2) := by decide +kernel
theorem dX12_begin_93 : decode cX12_begin 93 = .ok (.ireturn, 1) := by decide +kernel
theorem dX12_readOn_0 : decode cX12_readOn 0 = .ok (.iload_n 1, 1) := by decide +kernel
theorem dX12_readOn_1 : decode cX12_readOn 1 = .ok (.ifCond .ne 9, 3) := by decide +kernel
theorem dX12_readOn_4 : decode cX12_readOn 4 = .ok (.aload_n 0, 1) := by decide +kernel
theorem dX12_readOn_5 : decode cX12_readOn 5 = .ok (.iload_n 2, 1) := by decide +kernel
theorem dX12_readOn_6 : decode cX12_readOn 6 = .ok (.invokevirtual 117, 3) := by decide +kernel
theorem dX12_readOn_9 : decode cX12_readOn 9 = .ok (.ireturn, 1) := by decide +kernel
theorem dX12_readOn_10 : decode cX12_readOn 10 = .ok (.iload_n 1, 1) := by decide +kernel
theorem dX12_readOn_11 : decode cX12_readOn 11 = .ok (.iconst 3, 1) := by decide +kernel
theorem dX12_readOn_12 : decode cX12_readOn 12 = .ok (.if_icmp .ne 25, 3) := by decide +kernel
theorem dX12_readOn_15 : decode cX12_readOn 15 = .ok (.iload_n 2, 1) := by decide +kernel
theorem dX12_readOn_16 : decode cX12_readOn 16 = .ok (.invokestatic 114, 3) := by decide +kernel
theorem dX12_readOn_19 : decode cX12_readOn 19 = .ok (.ifCond .eq 15, 3) := by decide +kernel
theorem dX12_readOn_22 : decode cX12_readOn 22 = .ok (.aload_n 0, 1) := by decide +kernel
theorem dX12_readOn_23 : decode cX12_readOn 23 = .ok (.iconst 4, 1) := by decide +kernel
theorem dX12_readOn_24 : decode cX12_readOn 24 = .ok (.iload_n 2, 1) := by decide +kernel
theorem dX12_readOn_25 : decode cX12_readOn 25 = .ok (.bipush 65, 2) := by decide +kernel
theorem dX12_readOn_27 : decode cX12_readOn 27 = .ok (.isub, 1) := by decide +kernel
theorem dX12_readOn_28 : decode cX12_readOn 28 = .ok (.invokevirtual 110, 3) := by decide +kernel
theorem dX12_readOn_31 : decode cX12_readOn 31 = .ok (.goto 5, 3) := by decide +kernel
theorem dX12_readOn_34 : decode cX12_readOn 34 = .ok (.bipush (-6), 2) := by decide +kernel
theorem dX12_readOn_36 : decode cX12_readOn 36 = .ok (.ireturn, 1) := by decide +kernel
theorem dX12_readOn_37 : decode cX12_readOn 37 = .ok (.iload_n 2, 1) := by decide +kernel
theorem dX12_readOn_38 : decode cX12_readOn 38 = .ok (.i2l, 1) := by decide +kernel
theorem dX12_readOn_39 : decode cX12_readOn 39 = .ok (.ldc2_w 121, 3) := by decide +kernel
theorem dX12_readOn_42 : decode cX12_readOn 42 = .ok (.ldc2_w 123, 3) := by decide +kernel
theorem dX12_readOn_45 : decode cX12_readOn 45 = .ok (.invokestatic 66, 3) := by decide +kernel
theorem dX12_readOn_48 : decode cX12_readOn 48 = .ok (.ifCond .eq 24, 3) := by decide +kernel
theorem dX12_readOn_51 : decode cX12_readOn 51 = .ok (.aload_n 0, 1) := by decide +kernel
theorem dX12_readOn_52 : decode cX12_readOn 52 = .ok (.iload_n 1, 1) := by decide +kernel
theorem dX12_readOn_53 : decode cX12_readOn 53 = .ok (.iconst 1, 1) := by decide +kernel
theorem dX12_readOn_54 : decode cX12_readOn 54 = .ok (.if_icmp .ne 7, 3) := by decide +kernel
theorem dX12_readOn_57 : decode cX12_readOn 57 = .ok (.iconst 2, 1) := by decide +kernel
theorem dX12_readOn_58 : decode cX12_readOn 58 = .ok (.goto 4, 3) := by decide +kernel
theorem dX12_readOn_61 : decode cX12_readOn 61 = .ok (.iconst 3, 1) := by decide +kernel
theorem dX12_readOn_62 : decode cX12_readOn 62 = .ok (.iload_n 2, 1) := by decide +kernel
theorem dX12_readOn_63 : decode cX12_readOn 63 = .ok (.bipush 48, 2) := by decide +kernel
theorem dX12_readOn_65 : decode cX12_readOn 65 = .ok (.isub, 1) := by decide +kernel
theorem dX12_readOn_66 : decode cX12_readOn 66 = .ok (.invokevirtual 110, 3) := by decide +kernel
theorem dX12_readOn_69 : decode cX12_readOn 69 = .ok (.goto 5, 3) := by decide +kernel
theorem dX12_readOn_72 : decode cX12_readOn 72 = .ok (.bipush (-6), 2) := by decide +kernel
theorem dX12_readOn_74 : decode cX12_readOn 74 = .ok (.ireturn, 1) := by decide +kernel
theorem dX12_fault_0 : decode cX12_fault 0 = .ok (.aload_n 0, 1) := by decide +kernel
theorem dX12_fault_1 : decode cX12_fault 1 = .ok (.iconst 0, 1) := by decide +kernel
theorem dX12_fault_2 : decode cX12_fault 2 = .ok (.putfield 103, 3) := by decide +kernel
theorem dX12_fault_5 : decode cX12_fault 5 = .ok (.iconst 0, 1) := by decide +kernel
theorem dX12_fault_6 : decode cX12_fault 6 = .ok (.istore_n 1, 1) := by decide +kernel
theorem dX12_fault_7 : decode cX12_fault 7 = .ok (.iconst 0, 1) := by decide +kernel
theorem dX12_fault_8 : decode cX12_fault 8 = .ok (.istore_n 2, 1) := by decide +kernel
theorem dX12_fault_9 : decode cX12_fault 9 = .ok (.iload_n 2, 1) := by decide +kernel
theorem dX12_fault_10 : decode cX12_fault 10 = .ok (.aload_n 0, 1) := by decide +kernel
theorem dX12_fault_11 : decode cX12_fault 11 = .ok (.getfield 100, 3) := by decide +kernel
theorem dX12_fault_14 : decode cX12_fault 14 = .ok (.if_icmp .ge 27, 3) := by decide +kernel
theorem dX12_fault_17 : decode cX12_fault 17 = .ok (.aload_n 0, 1) := by decide +kernel
theorem dX12_fault_18 : decode cX12_fault 18 = .ok (.iload_n 1, 1) := by decide +kernel
theorem dX12_fault_19 : decode cX12_fault 19 = .ok (.aload_n 0, 1) := by decide +kernel
theorem dX12_fault_20 : decode cX12_fault 20 = .ok (.getfield 25, 3) := by decide +kernel
theorem dX12_fault_23 : decode cX12_fault 23 = .ok (.iload_n 2, 1) := by decide +kernel
theorem dX12_fault_24 : decode cX12_fault 24 = .ok (.iaload, 1) := by decide +kernel
theorem dX12_fault_25 : decode cX12_fault 25 = .ok (.invokevirtual 125, 3) := by decide +kernel
theorem dX12_fault_28 : decode cX12_fault 28 = .ok (.istore_n 1, 1) := by decide +kernel
theorem dX12_fault_29 : decode cX12_fault 29 = .ok (.iload_n 1, 1) := by decide +kernel
theorem dX12_fault_30 : decode cX12_fault 30 = .ok (.ifCond .ge 5, 3) := by decide +kernel
theorem dX12_fault_33 : decode cX12_fault 33 = .ok (.iload_n 2, 1) := by decide +kernel
theorem dX12_fault_34 : decode cX12_fault 34 = .ok (.ireturn, 1) := by decide +kernel
theorem dX12_fault_35 : decode cX12_fault 35 = .ok (.iinc 2 1, 3) := by decide +kernel
theorem dX12_fault_38 : decode cX12_fault 38 = .ok (.goto (-29), 3) := by decide +kernel
theorem dX12_fault_41 : decode cX12_fault 41 = .ok (.iload_n 1, 1) := by decide +kernel
theorem dX12_fault_42 : decode cX12_fault 42 = .ok (.ifCond .ne 8, 3) := by decide +kernel
theorem dX12_fault_45 : decode cX12_fault 45 = .ok (.bipush (-6), 2) := by decide +kernel
theorem dX12_fault_47 : decode cX12_fault 47 = .ok (.goto 7, 3) := by decide +kernel
theorem dX12_fault_50 : decode cX12_fault 50 = .ok (.aload_n 0, 1) := by decide +kernel
theorem dX12_fault_51 : decode cX12_fault 51 = .ok (.getfield 100, 3) := by decide +kernel
theorem dX12_fault_54 : decode cX12_fault 54 = .ok (.ireturn, 1) := by decide +kernel
theorem dX12_inHere_0 : decode cX12_inHere 0 = .ok (.aload_n 0, 1) := by decide +kernel
theorem dX12_inHere_1 : decode cX12_inHere 1 = .ok (.getfield 13, 3) := by decide +kernel
theorem dX12_inHere_4 : decode cX12_inHere 4 = .ok (.aload_n 0, 1) := by decide +kernel
theorem dX12_inHere_5 : decode cX12_inHere 5 = .ok (.getfield 7, 3) := by decide +kernel
theorem dX12_inHere_8 : decode cX12_inHere 8 = .ok (.aload_n 0, 1) := by decide +kernel
theorem dX12_inHere_9 : decode cX12_inHere 9 = .ok (.getfield 87, 3) := by decide +kernel
theorem dX12_inHere_12 : decode cX12_inHere 12 = .ok (.iaload, 1) := by decide +kernel
theorem dX12_inHere_13 : decode cX12_inHere 13 = .ok (.iaload, 1) := by decide +kernel
theorem dX12_inHere_14 : decode cX12_inHere 14 = .ok (.ireturn, 1) := by decide +kernel
theorem dX12_whyNot_0 : decode cX12_whyNot 0 = .ok (.iload_n 1, 1) := by decide +kernel
theorem dX12_whyNot_1 : decode cX12_whyNot 1 = .ok (.tableswitch 183 0 4 #[35, 73, 105, 137, 169], 35) := by decide +kernel
theorem dX12_whyNot_36 : decode cX12_whyNot 36 = .ok (.iload_n 2, 1) := by decide +kernel
theorem dX12_whyNot_37 : decode cX12_whyNot 37 = .ok (.aload_n 0, 1) := by decide +kernel
theorem dX12_whyNot_38 : decode cX12_whyNot 38 = .ok (.getfield 87, 3) := by decide +kernel
theorem dX12_whyNot_41 : decode cX12_whyNot 41 = .ok (.if_icmp .ne 7, 3) := by decide +kernel
theorem dX12_whyNot_44 : decode cX12_whyNot 44 = .ok (.iconst 1, 1) := by decide +kernel
theorem dX12_whyNot_45 : decode cX12_whyNot 45 = .ok (.goto 28, 3) := by decide +kernel
theorem dX12_whyNot_48 : decode cX12_whyNot 48 = .ok (.aload_n 0, 1) := by decide +kernel
theorem dX12_whyNot_49 : decode cX12_whyNot 49 = .ok (.getfield 84, 3) := by decide +kernel
theorem dX12_whyNot_52 : decode cX12_whyNot 52 = .ok (.iload_n 2, 1) := by decide +kernel
theorem dX12_whyNot_53 : decode cX12_whyNot 53 = .ok (.aload_n 0, 1) := by decide +kernel
theorem dX12_whyNot_54 : decode cX12_whyNot 54 = .ok (.getfield 87, 3) := by decide +kernel
theorem dX12_whyNot_57 : decode cX12_whyNot 57 = .ok (.invokestatic 128, 3) := by decide +kernel
theorem dX12_whyNot_60 : decode cX12_whyNot 60 = .ok (.iadd, 1) := by decide +kernel
theorem dX12_whyNot_61 : decode cX12_whyNot 61 = .ok (.aload_n 0, 1) := by decide +kernel
theorem dX12_whyNot_62 : decode cX12_whyNot 62 = .ok (.getfield 60, 3) := by decide +kernel
theorem dX12_whyNot_65 : decode cX12_whyNot 65 = .ok (.if_icmp .le 7, 3) := by decide +kernel
theorem dX12_whyNot_68 : decode cX12_whyNot 68 = .ok (.iconst 4, 1) := by decide +kernel
theorem dX12_whyNot_69 : decode cX12_whyNot 69 = .ok (.goto 4, 3) := by decide +kernel
theorem dX12_whyNot_72 : decode cX12_whyNot 72 = .ok (.iconst 0, 1) := by decide +kernel
theorem dX12_whyNot_73 : decode cX12_whyNot 73 = .ok (.ireturn, 1) := by decide +kernel
theorem dX12_whyNot_74 : decode cX12_whyNot 74 = .ok (.aload_n 0, 1) := by decide +kernel
theorem dX12_whyNot_75 : decode cX12_whyNot 75 = .ok (.getfield 84, 3) := by decide +kernel
theorem dX12_whyNot_78 : decode cX12_whyNot 78 = .ok (.aload_n 0, 1) := by decide +kernel
theorem dX12_whyNot_79 : decode cX12_whyNot 79 = .ok (.getfield 16, 3) := by decide +kernel
theorem dX12_whyNot_82 : decode cX12_whyNot 82 = .ok (.aload_n 0, 1) := by decide +kernel
theorem dX12_whyNot_83 : decode cX12_whyNot 83 = .ok (.getfield 7, 3) := by decide +kernel
theorem dX12_whyNot_86 : decode cX12_whyNot 86 = .ok (.aload_n 0, 1) := by decide +kernel
theorem dX12_whyNot_87 : decode cX12_whyNot 87 = .ok (.getfield 87, 3) := by decide +kernel
theorem dX12_whyNot_90 : decode cX12_whyNot 90 = .ok (.iaload, 1) := by decide +kernel
theorem dX12_whyNot_91 : decode cX12_whyNot 91 = .ok (.iaload, 1) := by decide +kernel
theorem dX12_whyNot_92 : decode cX12_whyNot 92 = .ok (.iadd, 1) := by decide +kernel
theorem dX12_whyNot_93 : decode cX12_whyNot 93 = .ok (.aload_n 0, 1) := by decide +kernel
theorem dX12_whyNot_94 : decode cX12_whyNot 94 = .ok (.getfield 60, 3) := by decide +kernel
theorem dX12_whyNot_97 : decode cX12_whyNot 97 = .ok (.if_icmp .le 7, 3) := by decide +kernel
theorem dX12_whyNot_100 : decode cX12_whyNot 100 = .ok (.iconst 4, 1) := by decide +kernel
theorem dX12_whyNot_101 : decode cX12_whyNot 101 = .ok (.goto 4, 3) := by decide +kernel
theorem dX12_whyNot_104 : decode cX12_whyNot 104 = .ok (.iconst 0, 1) := by decide +kernel
theorem dX12_whyNot_105 : decode cX12_whyNot 105 = .ok (.ireturn, 1) := by decide +kernel
theorem dX12_whyNot_106 : decode cX12_whyNot 106 = .ok (.aload_n 0, 1) := by decide +kernel
theorem dX12_whyNot_107 : decode cX12_whyNot 107 = .ok (.getfield 90, 3) := by decide +kernel
theorem dX12_whyNot_110 : decode cX12_whyNot 110 = .ok (.iload_n 2, 1) := by decide +kernel
theorem dX12_whyNot_111 : decode cX12_whyNot 111 = .ok (.invokestatic 131, 3) := by decide +kernel
theorem dX12_whyNot_114 : decode cX12_whyNot 114 = .ok (.ifCond .ne 7, 3) := by decide +kernel
theorem dX12_whyNot_117 : decode cX12_whyNot 117 = .ok (.iconst 2, 1) := by decide +kernel
theorem dX12_whyNot_118 : decode cX12_whyNot 118 = .ok (.goto 19, 3) := by decide +kernel
theorem dX12_whyNot_121 : decode cX12_whyNot 121 = .ok (.aload_n 0, 1) := by decide +kernel
theorem dX12_whyNot_122 : decode cX12_whyNot 122 = .ok (.invokevirtual 135, 3) := by decide +kernel
theorem dX12_whyNot_125 : decode cX12_whyNot 125 = .ok (.iload_n 2, 1) := by decide +kernel
theorem dX12_whyNot_126 : decode cX12_whyNot 126 = .ok (.invokestatic 131, 3) := by decide +kernel
theorem dX12_whyNot_129 : decode cX12_whyNot 129 = .ok (.ifCond .eq 7, 3) := by decide +kernel
theorem dX12_whyNot_132 : decode cX12_whyNot 132 = .ok (.iconst 3, 1) := by decide +kernel
theorem dX12_whyNot_133 : decode cX12_whyNot 133 = .ok (.goto 4, 3) := by decide +kernel
theorem dX12_whyNot_136 : decode cX12_whyNot 136 = .ok (.iconst 0, 1) := by decide +kernel
theorem dX12_whyNot_137 : decode cX12_whyNot 137 = .ok (.ireturn, 1) := by decide +kernel
theorem dX12_whyNot_138 : decode cX12_whyNot 138 = .ok (.aload_n 0, 1) := by decide +kernel
theorem dX12_whyNot_139 : decode cX12_whyNot 139 = .ok (.invokevirtual 135, 3) := by decide +kernel
theorem dX12_whyNot_142 : decode cX12_whyNot 142 = .ok (.iload_n 2, 1) := by decide +kernel
theorem dX12_whyNot_143 : decode cX12_whyNot 143 = .ok (.invokestatic 131, 3) := by decide +kernel
theorem dX12_whyNot_146 : decode cX12_whyNot 146 = .ok (.ifCond .ne 7, 3) := by decide +kernel
theorem dX12_whyNot_149 : decode cX12_whyNot 149 = .ok (.iconst 2, 1) := by decide +kernel
theorem dX12_whyNot_150 : decode cX12_whyNot 150 = .ok (.goto 19, 3) := by decide +kernel
theorem dX12_whyNot_153 : decode cX12_whyNot 153 = .ok (.aload_n 0, 1) := by decide +kernel
theorem dX12_whyNot_154 : decode cX12_whyNot 154 = .ok (.getfield 90, 3) := by decide +kernel
theorem dX12_whyNot_157 : decode cX12_whyNot 157 = .ok (.iload_n 2, 1) := by decide +kernel
theorem dX12_whyNot_158 : decode cX12_whyNot 158 = .ok (.invokestatic 131, 3) := by decide +kernel
theorem dX12_whyNot_161 : decode cX12_whyNot 161 = .ok (.ifCond .eq 7, 3) := by decide +kernel
theorem dX12_whyNot_164 : decode cX12_whyNot 164 = .ok (.iconst 3, 1) := by decide +kernel
theorem dX12_whyNot_165 : decode cX12_whyNot 165 = .ok (.goto 4, 3) := by decide +kernel
theorem dX12_whyNot_168 : decode cX12_whyNot 168 = .ok (.iconst 0, 1) := by decide +kernel
theorem dX12_whyNot_169 : decode cX12_whyNot 169 = .ok (.ireturn, 1) := by decide +kernel
theorem dX12_whyNot_170 : decode cX12_whyNot 170 = .ok (.iload_n 2, 1) := by decide +kernel
theorem dX12_whyNot_171 : decode cX12_whyNot 171 = .ok (.aload_n 0, 1) := by decide +kernel
theorem dX12_whyNot_172 : decode cX12_whyNot 172 = .ok (.getfield 87, 3) := by decide +kernel
theorem dX12_whyNot_175 : decode cX12_whyNot 175 = .ok (.if_icmp .ne 7, 3) := by decide +kernel
theorem dX12_whyNot_178 : decode cX12_whyNot 178 = .ok (.iconst 1, 1) := by decide +kernel
theorem dX12_whyNot_179 : decode cX12_whyNot 179 = .ok (.goto 4, 3) := by decide +kernel
theorem dX12_whyNot_182 : decode cX12_whyNot 182 = .ok (.iconst 0, 1) := by decide +kernel
theorem dX12_whyNot_183 : decode cX12_whyNot 183 = .ok (.ireturn, 1) := by decide +kernel
theorem dX12_whyNot_184 : decode cX12_whyNot 184 = .ok (.aload_n 0, 1) := by decide +kernel
theorem dX12_whyNot_185 : decode cX12_whyNot 185 = .ok (.getfield 84, 3) := by decide +kernel
theorem dX12_whyNot_188 : decode cX12_whyNot 188 = .ok (.iconst 1, 1) := by decide +kernel
theorem dX12_whyNot_189 : decode cX12_whyNot 189 = .ok (.iadd, 1) := by decide +kernel
theorem dX12_whyNot_190 : decode cX12_whyNot 190 = .ok (.aload_n 0, 1) := by decide +kernel
theorem dX12_whyNot_191 : decode cX12_whyNot 191 = .ok (.getfield 60, 3) := by decide +kernel
theorem dX12_whyNot_194 : decode cX12_whyNot 194 = .ok (.if_icmp .le 7, 3) := by decide +kernel
theorem dX12_whyNot_197 : decode cX12_whyNot 197 = .ok (.iconst 4, 1) := by decide +kernel
theorem dX12_whyNot_198 : decode cX12_whyNot 198 = .ok (.goto 4, 3) := by decide +kernel
theorem dX12_whyNot_201 : decode cX12_whyNot 201 = .ok (.iconst 0, 1) := by decide +kernel
theorem dX12_whyNot_202 : decode cX12_whyNot 202 = .ok (.ireturn, 1) := by decide +kernel
theorem dX12_go_0 : decode cX12_go 0 = .ok (.aload_n 0, 1) := by decide +kernel
theorem dX12_go_1 : decode cX12_go 1 = .ok (.dup, 1) := by decide +kernel
theorem dX12_go_2 : decode cX12_go 2 = .ok (.getfield 84, 3) := by decide +kernel
theorem dX12_go_5 : decode cX12_go 5 = .ok (.iload_n 1, 1) := by decide +kernel
theorem dX12_go_6 : decode cX12_go 6 = .ok (.aload_n 0, 1) := by decide +kernel
theorem dX12_go_7 : decode cX12_go 7 = .ok (.getfield 87, 3) := by decide +kernel
theorem dX12_go_10 : decode cX12_go 10 = .ok (.invokestatic 128, 3) := by decide +kernel
theorem dX12_go_13 : decode cX12_go 13 = .ok (.iadd, 1) := by decide +kernel
theorem dX12_go_14 : decode cX12_go 14 = .ok (.putfield 84, 3) := by decide +kernel
theorem dX12_go_17 : decode cX12_go 17 = .ok (.aload_n 0, 1) := by decide +kernel
theorem dX12_go_18 : decode cX12_go 18 = .ok (.iload_n 1, 1) := by decide +kernel
theorem dX12_go_19 : decode cX12_go 19 = .ok (.putfield 87, 3) := by decide +kernel
theorem dX12_go_22 : decode cX12_go 22 = .ok (.return_, 1) := by decide +kernel
theorem dX12_look_0 : decode cX12_look 0 = .ok (.aload_n 0, 1) := by decide +kernel
theorem dX12_look_1 : decode cX12_look 1 = .ok (.dup, 1) := by decide +kernel
theorem dX12_look_2 : decode cX12_look 2 = .ok (.getfield 84, 3) := by decide +kernel
theorem dX12_look_5 : decode cX12_look 5 = .ok (.aload_n 0, 1) := by decide +kernel
theorem dX12_look_6 : decode cX12_look 6 = .ok (.getfield 16, 3) := by decide +kernel
theorem dX12_look_9 : decode cX12_look 9 = .ok (.aload_n 0, 1) := by decide +kernel
theorem dX12_look_10 : decode cX12_look 10 = .ok (.getfield 7, 3) := by decide +kernel
theorem dX12_look_13 : decode cX12_look 13 = .ok (.aload_n 0, 1) := by decide +kernel
theorem dX12_look_14 : decode cX12_look 14 = .ok (.getfield 87, 3) := by decide +kernel
theorem dX12_look_17 : decode cX12_look 17 = .ok (.iaload, 1) := by decide +kernel
theorem dX12_look_18 : decode cX12_look 18 = .ok (.iaload, 1) := by decide +kernel
theorem dX12_look_19 : decode cX12_look 19 = .ok (.iadd, 1) := by decide +kernel
theorem dX12_look_20 : decode cX12_look 20 = .ok (.putfield 84, 3) := by decide +kernel
theorem dX12_look_23 : decode cX12_look 23 = .ok (.aload_n 0, 1) := by decide +kernel
theorem dX12_look_24 : decode cX12_look 24 = .ok (.dup, 1) := by decide +kernel
theorem dX12_look_25 : decode cX12_look 25 = .ok (.getfield 93, 3) := by decide +kernel
theorem dX12_look_28 : decode cX12_look 28 = .ok (.aload_n 0, 1) := by decide +kernel
theorem dX12_look_29 : decode cX12_look 29 = .ok (.invokevirtual 135, 3) := by decide +kernel
theorem dX12_look_32 : decode cX12_look 32 = .ok (.ior, 1) := by decide +kernel
theorem dX12_look_33 : decode cX12_look 33 = .ok (.putfield 93, 3) := by decide +kernel
theorem dX12_look_36 : decode cX12_look 36 = .ok (.aload_n 0, 1) := by decide +kernel
theorem dX12_look_37 : decode cX12_look 37 = .ok (.dup, 1) := by decide +kernel
theorem dX12_look_38 : decode cX12_look 38 = .ok (.getfield 138, 3) := by decide +kernel
theorem dX12_look_41 : decode cX12_look 41 = .ok (.iconst 1, 1) := by decide +kernel
theorem dX12_look_42 : decode cX12_look 42 = .ok (.aload_n 0, 1) := by decide +kernel
theorem dX12_look_43 : decode cX12_look 43 = .ok (.getfield 7, 3) := by decide +kernel
theorem dX12_look_46 : decode cX12_look 46 = .ok (.aload_n 0, 1) := by decide +kernel
theorem dX12_look_47 : decode cX12_look 47 = .ok (.getfield 87, 3) := by decide +kernel
theorem dX12_look_50 : decode cX12_look 50 = .ok (.iaload, 1) := by decide +kernel
theorem dX12_look_51 : decode cX12_look 51 = .ok (.ishl, 1) := by decide +kernel
theorem dX12_look_52 : decode cX12_look 52 = .ok (.ior, 1) := by decide +kernel
theorem dX12_look_53 : decode cX12_look 53 = .ok (.putfield 138, 3) := by decide +kernel
theorem dX12_look_56 : decode cX12_look 56 = .ok (.return_, 1) := by decide +kernel
theorem dX12_take_0 : decode cX12_take 0 = .ok (.aload_n 0, 1) := by decide +kernel
theorem dX12_take_1 : decode cX12_take 1 = .ok (.getfield 13, 3) := by decide +kernel
theorem dX12_take_4 : decode cX12_take 4 = .ok (.aload_n 0, 1) := by decide +kernel
theorem dX12_take_5 : decode cX12_take 5 = .ok (.getfield 7, 3) := by decide +kernel
theorem dX12_take_8 : decode cX12_take 8 = .ok (.aload_n 0, 1) := by decide +kernel
theorem dX12_take_9 : decode cX12_take 9 = .ok (.getfield 87, 3) := by decide +kernel
theorem dX12_take_12 : decode cX12_take 12 = .ok (.iaload, 1) := by decide +kernel
theorem dX12_take_13 : decode cX12_take 13 = .ok (.dup2, 1) := by decide +kernel
theorem dX12_take_14 : decode cX12_take 14 = .ok (.iaload, 1) := by decide +kernel
theorem dX12_take_15 : decode cX12_take 15 = .ok (.iconst 1, 1) := by decide +kernel
theorem dX12_take_16 : decode cX12_take 16 = .ok (.iload_n 1, 1) := by decide +kernel
theorem dX12_take_17 : decode cX12_take 17 = .ok (.ishl, 1) := by decide +kernel
theorem dX12_take_18 : decode cX12_take 18 = .ok (.iconst (-1), 1) := by decide +kernel
theorem dX12_take_19 : decode cX12_take 19 = .ok (.ixor, 1) := by decide +kernel
theorem dX12_take_20 : decode cX12_take 20 = .ok (.iand, 1) := by decide +kernel
theorem dX12_take_21 : decode cX12_take 21 = .ok (.iastore, 1) := by decide +kernel
theorem dX12_take_22 : decode cX12_take 22 = .ok (.aload_n 0, 1) := by decide +kernel
theorem dX12_take_23 : decode cX12_take 23 = .ok (.dup, 1) := by decide +kernel
theorem dX12_take_24 : decode cX12_take 24 = .ok (.getfield 90, 3) := by decide +kernel
theorem dX12_take_27 : decode cX12_take 27 = .ok (.iconst 1, 1) := by decide +kernel
theorem dX12_take_28 : decode cX12_take 28 = .ok (.iload_n 1, 1) := by decide +kernel
theorem dX12_take_29 : decode cX12_take 29 = .ok (.ishl, 1) := by decide +kernel
theorem dX12_take_30 : decode cX12_take 30 = .ok (.ior, 1) := by decide +kernel
theorem dX12_take_31 : decode cX12_take 31 = .ok (.putfield 90, 3) := by decide +kernel
theorem dX12_take_34 : decode cX12_take 34 = .ok (.aload_n 0, 1) := by decide +kernel
theorem dX12_take_35 : decode cX12_take 35 = .ok (.dup, 1) := by decide +kernel
theorem dX12_take_36 : decode cX12_take 36 = .ok (.getfield 93, 3) := by decide +kernel
theorem dX12_take_39 : decode cX12_take 39 = .ok (.iconst 1, 1) := by decide +kernel
theorem dX12_take_40 : decode cX12_take 40 = .ok (.iload_n 1, 1) := by decide +kernel
theorem dX12_take_41 : decode cX12_take 41 = .ok (.ishl, 1) := by decide +kernel
theorem dX12_take_42 : decode cX12_take 42 = .ok (.ior, 1) := by decide +kernel
theorem dX12_take_43 : decode cX12_take 43 = .ok (.putfield 93, 3) := by decide +kernel
theorem dX12_take_46 : decode cX12_take 46 = .ok (.return_, 1) := by decide +kernel
theorem dX12_lay_0 : decode cX12_lay 0 = .ok (.aload_n 0, 1) := by decide +kernel
theorem dX12_lay_1 : decode cX12_lay 1 = .ok (.getfield 13, 3) := by decide +kernel
theorem dX12_lay_4 : decode cX12_lay 4 = .ok (.aload_n 0, 1) := by decide +kernel
theorem dX12_lay_5 : decode cX12_lay 5 = .ok (.getfield 7, 3) := by decide +kernel
theorem dX12_lay_8 : decode cX12_lay 8 = .ok (.aload_n 0, 1) := by decide +kernel
theorem dX12_lay_9 : decode cX12_lay 9 = .ok (.getfield 87, 3) := by decide +kernel
theorem dX12_lay_12 : decode cX12_lay 12 = .ok (.iaload, 1) := by decide +kernel
theorem dX12_lay_13 : decode cX12_lay 13 = .ok (.dup2, 1) := by decide +kernel
theorem dX12_lay_14 : decode cX12_lay 14 = .ok (.iaload, 1) := by decide +kernel
theorem dX12_lay_15 : decode cX12_lay 15 = .ok (.iconst 1, 1) := by decide +kernel
theorem dX12_lay_16 : decode cX12_lay 16 = .ok (.iload_n 1, 1) := by decide +kernel
theorem dX12_lay_17 : decode cX12_lay 17 = .ok (.ishl, 1) := by decide +kernel
theorem dX12_lay_18 : decode cX12_lay 18 = .ok (.ior, 1) := by decide +kernel
theorem dX12_lay_19 : decode cX12_lay 19 = .ok (.iastore, 1) := by decide +kernel
theorem dX12_lay_20 : decode cX12_lay 20 = .ok (.aload_n 0, 1) := by decide +kernel
theorem dX12_lay_21 : decode cX12_lay 21 = .ok (.dup, 1) := by decide +kernel
theorem dX12_lay_22 : decode cX12_lay 22 = .ok (.getfield 90, 3) := by decide +kernel
theorem dX12_lay_25 : decode cX12_lay 25 = .ok (.iconst 1, 1) := by decide +kernel
theorem dX12_lay_26 : decode cX12_lay 26 = .ok (.iload_n 1, 1) := by decide +kernel
theorem dX12_lay_27 : decode cX12_lay 27 = .ok (.ishl, 1) := by decide +kernel
theorem dX12_lay_28 : decode cX12_lay 28 = .ok (.iconst (-1), 1) := by decide +kernel
theorem dX12_lay_29 : decode cX12_lay 29 = .ok (.ixor, 1) := by decide +kernel
theorem dX12_lay_30 : decode cX12_lay 30 = .ok (.iand, 1) := by decide +kernel
theorem dX12_lay_31 : decode cX12_lay 31 = .ok (.putfield 90, 3) := by decide +kernel
theorem dX12_lay_34 : decode cX12_lay 34 = .ok (.return_, 1) := by decide +kernel
theorem dX12_change_0 : decode cX12_change 0 = .ok (.aload_n 0, 1) := by decide +kernel
theorem dX12_change_1 : decode cX12_change 1 = .ok (.getfield 7, 3) := by decide +kernel
theorem dX12_change_4 : decode cX12_change 4 = .ok (.aload_n 0, 1) := by decide +kernel
theorem dX12_change_5 : decode cX12_change 5 = .ok (.getfield 87, 3) := by decide +kernel
theorem dX12_change_8 : decode cX12_change 8 = .ok (.iaload, 1) := by decide +kernel
theorem dX12_change_9 : decode cX12_change 9 = .ok (.istore_n 2, 1) := by decide +kernel
theorem dX12_change_10 : decode cX12_change 10 = .ok (.aload_n 0, 1) := by decide +kernel
theorem dX12_change_11 : decode cX12_change 11 = .ok (.getfield 7, 3) := by decide +kernel
theorem dX12_change_14 : decode cX12_change 14 = .ok (.aload_n 0, 1) := by decide +kernel
theorem dX12_change_15 : decode cX12_change 15 = .ok (.getfield 87, 3) := by decide +kernel
theorem dX12_change_18 : decode cX12_change 18 = .ok (.aload_n 0, 1) := by decide +kernel
theorem dX12_change_19 : decode cX12_change 19 = .ok (.getfield 7, 3) := by decide +kernel
theorem dX12_change_22 : decode cX12_change 22 = .ok (.iload_n 1, 1) := by decide +kernel
theorem dX12_change_23 : decode cX12_change 23 = .ok (.iaload, 1) := by decide +kernel
theorem dX12_change_24 : decode cX12_change 24 = .ok (.iastore, 1) := by decide +kernel
theorem dX12_change_25 : decode cX12_change 25 = .ok (.aload_n 0, 1) := by decide +kernel
theorem dX12_change_26 : decode cX12_change 26 = .ok (.getfield 7, 3) := by decide +kernel
theorem dX12_change_29 : decode cX12_change 29 = .ok (.iload_n 1, 1) := by decide +kernel
theorem dX12_change_30 : decode cX12_change 30 = .ok (.iload_n 2, 1) := by decide +kernel
theorem dX12_change_31 : decode cX12_change 31 = .ok (.iastore, 1) := by decide +kernel
theorem dX12_change_32 : decode cX12_change 32 = .ok (.return_, 1) := by decide +kernel
