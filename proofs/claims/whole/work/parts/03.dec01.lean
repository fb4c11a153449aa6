theorem dX2_draw_0 : decode cX2_draw 0 = .ok (.aload_n 0, 1) := by decide +kernel
theorem dX2_draw_1 : decode cX2_draw 1 = .ok (.getfield 12, 3) := by decide +kernel
theorem dX2_draw_4 : decode cX2_draw 4 = .ok (.aload_n 1, 1) := by decide +kernel
theorem dX2_draw_5 : decode cX2_draw 5 = .ok (.invokevirtual 18, 3) := by decide +kernel
theorem dX2_draw_8 : decode cX2_draw 8 = .ok (.iload_n 2, 1) := by decide +kernel
theorem dX2_draw_9 : decode cX2_draw 9 = .ok (.istore 4, 2) := by decide +kernel
theorem dX2_draw_11 : decode cX2_draw 11 = .ok (.iconst 0, 1) := by decide +kernel
theorem dX2_draw_12 : decode cX2_draw 12 = .ok (.istore 5, 2) := by decide +kernel
theorem dX2_draw_14 : decode cX2_draw 14 = .ok (.iload 5, 2) := by decide +kernel
theorem dX2_draw_16 : decode cX2_draw 16 = .ok (.iload_n 3, 1) := by decide +kernel
theorem dX2_draw_17 : decode cX2_draw 17 = .ok (.if_icmp .ge 94, 3) := by decide +kernel
theorem dX2_draw_20 : decode cX2_draw 20 = .ok (.bipush 75, 2) := by decide +kernel
theorem dX2_draw_22 : decode cX2_draw 22 = .ok (.iload 4, 2) := by decide +kernel
theorem dX2_draw_24 : decode cX2_draw 24 = .ok (.imul, 1) := by decide +kernel
theorem dX2_draw_25 : decode cX2_draw 25 = .ok (.bipush 74, 2) := by decide +kernel
theorem dX2_draw_27 : decode cX2_draw 27 = .ok (.iadd, 1) := by decide +kernel
theorem dX2_draw_28 : decode cX2_draw 28 = .ok (.ldc 89, 2) := by decide +kernel
theorem dX2_draw_30 : decode cX2_draw 30 = .ok (.irem, 1) := by decide +kernel
theorem dX2_draw_31 : decode cX2_draw 31 = .ok (.istore 4, 2) := by decide +kernel
theorem dX2_draw_33 : decode cX2_draw 33 = .ok (.getstatic 90, 3) := by decide +kernel
theorem dX2_draw_36 : decode cX2_draw 36 = .ok (.iload 4, 2) := by decide +kernel
theorem dX2_draw_38 : decode cX2_draw 38 = .ok (.bipush 8, 2) := by decide +kernel
theorem dX2_draw_40 : decode cX2_draw 40 = .ok (.irem, 1) := by decide +kernel
theorem dX2_draw_41 : decode cX2_draw 41 = .ok (.iaload, 1) := by decide +kernel
theorem dX2_draw_42 : decode cX2_draw 42 = .ok (.istore 6, 2) := by decide +kernel
theorem dX2_draw_44 : decode cX2_draw 44 = .ok (.iload 4, 2) := by decide +kernel
theorem dX2_draw_46 : decode cX2_draw 46 = .ok (.bipush 8, 2) := by decide +kernel
theorem dX2_draw_48 : decode cX2_draw 48 = .ok (.idiv, 1) := by decide +kernel
theorem dX2_draw_49 : decode cX2_draw 49 = .ok (.istore 7, 2) := by decide +kernel
theorem dX2_draw_51 : decode cX2_draw 51 = .ok (.iload 6, 2) := by decide +kernel
theorem dX2_draw_53 : decode cX2_draw 53 = .ok (.bipush 43, 2) := by decide +kernel
theorem dX2_draw_55 : decode cX2_draw 55 = .ok (.if_icmp .eq 10, 3) := by decide +kernel
theorem dX2_draw_58 : decode cX2_draw 58 = .ok (.iload 6, 2) := by decide +kernel
theorem dX2_draw_60 : decode cX2_draw 60 = .ok (.bipush 45, 2) := by decide +kernel
theorem dX2_draw_62 : decode cX2_draw 62 = .ok (.if_icmp .ne 11, 3) := by decide +kernel
theorem dX2_draw_65 : decode cX2_draw 65 = .ok (.iload 7, 2) := by decide +kernel
theorem dX2_draw_67 : decode cX2_draw 67 = .ok (.bipush 8, 2) := by decide +kernel
theorem dX2_draw_69 : decode cX2_draw 69 = .ok (.irem, 1) := by decide +kernel
theorem dX2_draw_70 : decode cX2_draw 70 = .ok (.goto 8, 3) := by decide +kernel
theorem dX2_draw_73 : decode cX2_draw 73 = .ok (.iload 7, 2) := by decide +kernel
theorem dX2_draw_75 : decode cX2_draw 75 = .ok (.bipush 10, 2) := by decide +kernel
theorem dX2_draw_77 : decode cX2_draw 77 = .ok (.irem, 1) := by decide +kernel
theorem dX2_draw_78 : decode cX2_draw 78 = .ok (.istore 8, 2) := by decide +kernel
theorem dX2_draw_80 : decode cX2_draw 80 = .ok (.aload_n 0, 1) := by decide +kernel
theorem dX2_draw_81 : decode cX2_draw 81 = .ok (.getfield 12, 3) := by decide +kernel
theorem dX2_draw_84 : decode cX2_draw 84 = .ok (.iload 6, 2) := by decide +kernel
theorem dX2_draw_86 : decode cX2_draw 86 = .ok (.iload 8, 2) := by decide +kernel
theorem dX2_draw_88 : decode cX2_draw 88 = .ok (.invokevirtual 60, 3) := by decide +kernel
theorem dX2_draw_91 : decode cX2_draw 91 = .ok (.ifCond .ne 14, 3) := by decide +kernel
theorem dX2_draw_94 : decode cX2_draw 94 = .ok (.aload_n 0, 1) := by decide +kernel
theorem dX2_draw_95 : decode cX2_draw 95 = .ok (.getfield 12, 3) := by decide +kernel
theorem dX2_draw_98 : decode cX2_draw 98 = .ok (.iload 6, 2) := by decide +kernel
theorem dX2_draw_100 : decode cX2_draw 100 = .ok (.iload 8, 2) := by decide +kernel
theorem dX2_draw_102 : decode cX2_draw 102 = .ok (.invokevirtual 82, 3) := by decide +kernel
theorem dX2_draw_105 : decode cX2_draw 105 = .ok (.iinc 5 1, 3) := by decide +kernel
theorem dX2_draw_108 : decode cX2_draw 108 = .ok (.goto (-94), 3) := by decide +kernel
theorem dX2_draw_111 : decode cX2_draw 111 = .ok (.return_, 1) := by decide +kernel
theorem dX3_init_0 : decode cX3_init 0 = .ok (.aload_n 0, 1) := by decide +kernel
theorem dX3_init_1 : decode cX3_init 1 = .ok (.invokespecial 1, 3) := by decide +kernel
theorem dX3_init_4 : decode cX3_init 4 = .ok (.aload_n 0, 1) := by decide +kernel
theorem dX3_init_5 : decode cX3_init 5 = .ok (.bipush 6, 2) := by decide +kernel
theorem dX3_init_7 : decode cX3_init 7 = .ok (.newarray .int, 2) := by decide +kernel
theorem dX3_init_9 : decode cX3_init 9 = .ok (.putfield 7, 3) := by decide +kernel
theorem dX3_init_12 : decode cX3_init 12 = .ok (.return_, 1) := by decide +kernel
theorem dX3_hang_0 : decode cX3_hang 0 = .ok (.iload_n 1, 1) := by decide +kernel
theorem dX3_hang_1 : decode cX3_hang 1 = .ok (.istore_n 2, 1) := by decide +kernel
theorem dX3_hang_2 : decode cX3_hang 2 = .ok (.iconst 0, 1) := by decide +kernel
theorem dX3_hang_3 : decode cX3_hang 3 = .ok (.istore_n 3, 1) := by decide +kernel
theorem dX3_hang_4 : decode cX3_hang 4 = .ok (.aload_n 0, 1) := by decide +kernel
theorem dX3_hang_5 : decode cX3_hang 5 = .ok (.getfield 7, 3) := by decide +kernel
theorem dX3_hang_8 : decode cX3_hang 8 = .ok (.arraylength, 1) := by decide +kernel
theorem dX3_hang_9 : decode cX3_hang 9 = .ok (.iconst 1, 1) := by decide +kernel
theorem dX3_hang_10 : decode cX3_hang 10 = .ok (.isub, 1) := by decide +kernel
theorem dX3_hang_11 : decode cX3_hang 11 = .ok (.istore 4, 2) := by decide +kernel
theorem dX3_hang_13 : decode cX3_hang 13 = .ok (.iload 4, 2) := by decide +kernel
theorem dX3_hang_15 : decode cX3_hang 15 = .ok (.ifCond .lt 63, 3) := by decide +kernel
theorem dX3_hang_18 : decode cX3_hang 18 = .ok (.iload_n 2, 1) := by decide +kernel
theorem dX3_hang_19 : decode cX3_hang 19 = .ok (.bipush 10, 2) := by decide +kernel
theorem dX3_hang_21 : decode cX3_hang 21 = .ok (.irem, 1) := by decide +kernel
theorem dX3_hang_22 : decode cX3_hang 22 = .ok (.istore 5, 2) := by decide +kernel
theorem dX3_hang_24 : decode cX3_hang 24 = .ok (.iload 5, 2) := by decide +kernel
theorem dX3_hang_26 : decode cX3_hang 26 = .ok (.iconst 0, 1) := by decide +kernel
theorem dX3_hang_27 : decode cX3_hang 27 = .ok (.aload_n 0, 1) := by decide +kernel
theorem dX3_hang_28 : decode cX3_hang 28 = .ok (.getfield 7, 3) := by decide +kernel
theorem dX3_hang_31 : decode cX3_hang 31 = .ok (.arraylength, 1) := by decide +kernel
theorem dX3_hang_32 : decode cX3_hang 32 = .ok (.iconst 1, 1) := by decide +kernel
theorem dX3_hang_33 : decode cX3_hang 33 = .ok (.isub, 1) := by decide +kernel
theorem dX3_hang_34 : decode cX3_hang 34 = .ok (.invokestatic 13, 3) := by decide +kernel
theorem dX3_hang_37 : decode cX3_hang 37 = .ok (.ifCond .eq 12, 3) := by decide +kernel
theorem dX3_hang_40 : decode cX3_hang 40 = .ok (.iload_n 3, 1) := by decide +kernel
theorem dX3_hang_41 : decode cX3_hang 41 = .ok (.iload 5, 2) := by decide +kernel
theorem dX3_hang_43 : decode cX3_hang 43 = .ok (.invokestatic 19, 3) := by decide +kernel
theorem dX3_hang_46 : decode cX3_hang 46 = .ok (.ifCond .eq 5, 3) := by decide +kernel
theorem dX3_hang_49 : decode cX3_hang 49 = .ok (.iconst 0, 1) := by decide +kernel
theorem dX3_hang_50 : decode cX3_hang 50 = .ok (.ireturn, 1) := by decide +kernel
theorem dX3_hang_51 : decode cX3_hang 51 = .ok (.iload_n 3, 1) := by decide +kernel
theorem dX3_hang_52 : decode cX3_hang 52 = .ok (.iconst 1, 1) := by decide +kernel
theorem dX3_hang_53 : decode cX3_hang 53 = .ok (.iload 5, 2) := by decide +kernel
theorem dX3_hang_55 : decode cX3_hang 55 = .ok (.ishl, 1) := by decide +kernel
theorem dX3_hang_56 : decode cX3_hang 56 = .ok (.ior, 1) := by decide +kernel
theorem dX3_hang_57 : decode cX3_hang 57 = .ok (.istore_n 3, 1) := by decide +kernel
theorem dX3_hang_58 : decode cX3_hang 58 = .ok (.aload_n 0, 1) := by decide +kernel
theorem dX3_hang_59 : decode cX3_hang 59 = .ok (.getfield 7, 3) := by decide +kernel
theorem dX3_hang_62 : decode cX3_hang 62 = .ok (.iload 4, 2) := by decide +kernel
theorem dX3_hang_64 : decode cX3_hang 64 = .ok (.iload 5, 2) := by decide +kernel
theorem dX3_hang_66 : decode cX3_hang 66 = .ok (.iastore, 1) := by decide +kernel
theorem dX3_hang_67 : decode cX3_hang 67 = .ok (.iload_n 2, 1) := by decide +kernel
theorem dX3_hang_68 : decode cX3_hang 68 = .ok (.bipush 10, 2) := by decide +kernel
theorem dX3_hang_70 : decode cX3_hang 70 = .ok (.idiv, 1) := by decide +kernel
theorem dX3_hang_71 : decode cX3_hang 71 = .ok (.istore_n 2, 1) := by decide +kernel
theorem dX3_hang_72 : decode cX3_hang 72 = .ok (.iinc 4 (-1), 3) := by decide +kernel
theorem dX3_hang_75 : decode cX3_hang 75 = .ok (.goto (-62), 3) := by decide +kernel
theorem dX3_hang_78 : decode cX3_hang 78 = .ok (.iload_n 2, 1) := by decide +kernel
theorem dX3_hang_79 : decode cX3_hang 79 = .ok (.ifCond .ne 7, 3) := by decide +kernel
theorem dX3_hang_82 : decode cX3_hang 82 = .ok (.iconst 1, 1) := by decide +kernel
theorem dX3_hang_83 : decode cX3_hang 83 = .ok (.goto 4, 3) := by decide +kernel
theorem dX3_hang_86 : decode cX3_hang 86 = .ok (.iconst 0, 1) := by decide +kernel
theorem dX3_hang_87 : decode cX3_hang 87 = .ok (.ireturn, 1) := by decide +kernel
theorem dX3_follow_0 : decode cX3_follow 0 = .ok (.aload_n 0, 1) := by decide +kernel
theorem dX3_follow_1 : decode cX3_follow 1 = .ok (.iconst 0, 1) := by decide +kernel
theorem dX3_follow_2 : decode cX3_follow 2 = .ok (.putfield 23, 3) := by decide +kernel
theorem dX3_follow_5 : decode cX3_follow 5 = .ok (.aload_n 0, 1) := by decide +kernel
theorem dX3_follow_6 : decode cX3_follow 6 = .ok (.iconst 1, 1) := by decide +kernel
theorem dX3_follow_7 : decode cX3_follow 7 = .ok (.putfield 27, 3) := by decide +kernel
theorem dX3_follow_10 : decode cX3_follow 10 = .ok (.iconst 0, 1) := by decide +kernel
theorem dX3_follow_11 : decode cX3_follow 11 = .ok (.istore_n 1, 1) := by decide +kernel
theorem dX3_follow_12 : decode cX3_follow 12 = .ok (.iconst 0, 1) := by decide +kernel
theorem dX3_follow_13 : decode cX3_follow 13 = .ok (.istore_n 2, 1) := by decide +kernel
theorem dX3_follow_14 : decode cX3_follow 14 = .ok (.iload_n 2, 1) := by decide +kernel
theorem dX3_follow_15 : decode cX3_follow 15 = .ok (.aload_n 0, 1) := by decide +kernel
theorem dX3_follow_16 : decode cX3_follow 16 = .ok (.getfield 7, 3) := by decide +kernel
theorem dX3_follow_19 : decode cX3_follow 19 = .ok (.arraylength, 1) := by decide +kernel
theorem dX3_follow_20 : decode cX3_follow 20 = .ok (.if_icmp .ge 82, 3) := by decide +kernel
theorem dX3_follow_23 : decode cX3_follow 23 = .ok (.iconst 0, 1) := by decide +kernel
theorem dX3_follow_24 : decode cX3_follow 24 = .ok (.istore_n 3, 1) := by decide +kernel
theorem dX3_follow_25 : decode cX3_follow 25 = .ok (.iload_n 2, 1) := by decide +kernel
theorem dX3_follow_26 : decode cX3_follow 26 = .ok (.istore 4, 2) := by decide +kernel
theorem dX3_follow_28 : decode cX3_follow 28 = .ok (.iload_n 3, 1) := by decide +kernel
theorem dX3_follow_29 : decode cX3_follow 29 = .ok (.aload_n 0, 1) := by decide +kernel
theorem dX3_follow_30 : decode cX3_follow 30 = .ok (.getfield 7, 3) := by decide +kernel
theorem dX3_follow_33 : decode cX3_follow 33 = .ok (.arraylength, 1) := by decide +kernel
theorem dX3_follow_34 : decode cX3_follow 34 = .ok (.if_icmp .ge 34, 3) := by decide +kernel
theorem dX3_follow_37 : decode cX3_follow 37 = .ok (.iload_n 1, 1) := by decide +kernel
theorem dX3_follow_38 : decode cX3_follow 38 = .ok (.iload 4, 2) := by decide +kernel
theorem dX3_follow_40 : decode cX3_follow 40 = .ok (.invokestatic 19, 3) := by decide +kernel
theorem dX3_follow_43 : decode cX3_follow 43 = .ok (.ifCond .ne 25, 3) := by decide +kernel
theorem dX3_follow_46 : decode cX3_follow 46 = .ok (.iload_n 1, 1) := by decide +kernel
theorem dX3_follow_47 : decode cX3_follow 47 = .ok (.iconst 1, 1) := by decide +kernel
theorem dX3_follow_48 : decode cX3_follow 48 = .ok (.iload 4, 2) := by decide +kernel
theorem dX3_follow_50 : decode cX3_follow 50 = .ok (.ishl, 1) := by decide +kernel
theorem dX3_follow_51 : decode cX3_follow 51 = .ok (.ior, 1) := by decide +kernel
theorem dX3_follow_52 : decode cX3_follow 52 = .ok (.istore_n 1, 1) := by decide +kernel
theorem dX3_follow_53 : decode cX3_follow 53 = .ok (.aload_n 0, 1) := by decide +kernel
theorem dX3_follow_54 : decode cX3_follow 54 = .ok (.getfield 7, 3) := by decide +kernel
theorem dX3_follow_57 : decode cX3_follow 57 = .ok (.iload 4, 2) := by decide +kernel
theorem dX3_follow_59 : decode cX3_follow 59 = .ok (.iaload, 1) := by decide +kernel
theorem dX3_follow_60 : decode cX3_follow 60 = .ok (.istore 4, 2) := by decide +kernel
theorem dX3_follow_62 : decode cX3_follow 62 = .ok (.iinc 3 1, 3) := by decide +kernel
theorem dX3_follow_65 : decode cX3_follow 65 = .ok (.goto (-37), 3) := by decide +kernel
theorem dX3_follow_68 : decode cX3_follow 68 = .ok (.iload_n 3, 1) := by decide +kernel
theorem dX3_follow_69 : decode cX3_follow 69 = .ok (.ifCond .le 27, 3) := by decide +kernel
theorem dX3_follow_72 : decode cX3_follow 72 = .ok (.aload_n 0, 1) := by decide +kernel
theorem dX3_follow_73 : decode cX3_follow 73 = .ok (.dup, 1) := by decide +kernel
theorem dX3_follow_74 : decode cX3_follow 74 = .ok (.getfield 23, 3) := by decide +kernel
theorem dX3_follow_77 : decode cX3_follow 77 = .ok (.iload_n 3, 1) := by decide +kernel
theorem dX3_follow_78 : decode cX3_follow 78 = .ok (.iconst 1, 1) := by decide +kernel
theorem dX3_follow_79 : decode cX3_follow 79 = .ok (.isub, 1) := by decide +kernel
theorem dX3_follow_80 : decode cX3_follow 80 = .ok (.iadd, 1) := by decide +kernel
theorem dX3_follow_81 : decode cX3_follow 81 = .ok (.putfield 23, 3) := by decide +kernel
theorem dX3_follow_84 : decode cX3_follow 84 = .ok (.aload_n 0, 1) := by decide +kernel
theorem dX3_follow_85 : decode cX3_follow 85 = .ok (.aload_n 0, 1) := by decide +kernel
theorem dX3_follow_86 : decode cX3_follow 86 = .ok (.getfield 27, 3) := by decide +kernel
theorem dX3_follow_89 : decode cX3_follow 89 = .ok (.iload_n 3, 1) := by decide +kernel
theorem dX3_follow_90 : decode cX3_follow 90 = .ok (.invokestatic 30, 3) := by decide +kernel
theorem dX3_follow_93 : decode cX3_follow 93 = .ok (.putfield 27, 3) := by decide +kernel
theorem dX3_follow_96 : decode cX3_follow 96 = .ok (.iinc 2 1, 3) := by decide +kernel
theorem dX3_follow_99 : decode cX3_follow 99 = .ok (.goto (-85), 3) := by decide +kernel
theorem dX3_follow_102 : decode cX3_follow 102 = .ok (.return_, 1) := by decide +kernel
theorem dX3_leastMultiple_0 : decode cX3_leastMultiple 0 = .ok (.iload_n 0, 1) := by decide +kernel
theorem dX3_leastMultiple_1 : decode cX3_leastMultiple 1 = .ok (.istore_n 2, 1) := by decide +kernel
theorem dX3_leastMultiple_2 : decode cX3_leastMultiple 2 = .ok (.iconst 1, 1) := by decide +kernel
theorem dX3_leastMultiple_3 : decode cX3_leastMultiple 3 = .ok (.istore_n 3, 1) := by decide +kernel
theorem dX3_leastMultiple_4 : decode cX3_leastMultiple 4 = .ok (.iload_n 3, 1) := by decide +kernel
theorem dX3_leastMultiple_5 : decode cX3_leastMultiple 5 = .ok (.iload_n 1, 1) := by decide +kernel
theorem dX3_leastMultiple_6 : decode cX3_leastMultiple 6 = .ok (.if_icmp .ge 19, 3) := by decide +kernel
theorem dX3_leastMultiple_9 : decode cX3_leastMultiple 9 = .ok (.iload_n 2, 1) := by decide +kernel
theorem dX3_leastMultiple_10 : decode cX3_leastMultiple 10 = .ok (.iload_n 1, 1) := by decide +kernel
theorem dX3_leastMultiple_11 : decode cX3_leastMultiple 11 = .ok (.irem, 1) := by decide +kernel
theorem dX3_leastMultiple_12 : decode cX3_leastMultiple 12 = .ok (.ifCond .eq 13, 3) := by decide +kernel
theorem dX3_leastMultiple_15 : decode cX3_leastMultiple 15 = .ok (.iload_n 2, 1) := by decide +kernel
theorem dX3_leastMultiple_16 : decode cX3_leastMultiple 16 = .ok (.iload_n 0, 1) := by decide +kernel
theorem dX3_leastMultiple_17 : decode cX3_leastMultiple 17 = .ok (.iadd, 1) := by decide +kernel
theorem dX3_leastMultiple_18 : decode cX3_leastMultiple 18 = .ok (.istore_n 2, 1) := by decide +kernel
theorem dX3_leastMultiple_19 : decode cX3_leastMultiple 19 = .ok (.iinc 3 1, 3) := by decide +kernel
theorem dX3_leastMultiple_22 : decode cX3_leastMultiple 22 = .ok (.goto (-18), 3) := by decide +kernel
theorem dX3_leastMultiple_25 : decode cX3_leastMultiple 25 = .ok (.iload_n 2, 1) := by decide +kernel
theorem dX3_leastMultiple_26 : decode cX3_leastMultiple 26 = .ok (.ireturn, 1) := by decide +kernel
theorem dX4_init_0 : decode cX4_init 0 = .ok (.aload_n 0, 1) := by decide +kernel
theorem dX4_init_1 : decode cX4_init 1 = .ok (.invokespecial 1, 3) := by decide +kernel
theorem dX4_init_4 : decode cX4_init 4 = .ok (.aload_n 0, 1) := by decide +kernel
theorem dX4_init_5 : decode cX4_init 5 = .ok (.new 7, 3) := by decide +kernel
theorem dX4_init_8 : decode cX4_init 8 = .ok (.dup, 1) := by decide +kernel
theorem dX4_init_9 : decode cX4_init 9 = .ok (.invokespecial 9, 3) := by decide +kernel
theorem dX4_init_12 : decode cX4_init 12 = .ok (.putfield 10, 3) := by decide +kernel
theorem dX4_init_15 : decode cX4_init 15 = .ok (.aload_n 0, 1) := by decide +kernel
theorem dX4_init_16 : decode cX4_init 16 = .ok (.new 16, 3) := by decide +kernel
theorem dX4_init_19 : decode cX4_init 19 = .ok (.dup, 1) := by decide +kernel
theorem dX4_init_20 : decode cX4_init 20 = .ok (.invokespecial 18, 3) := by decide +kernel
theorem dX4_init_23 : decode cX4_init 23 = .ok (.putfield 19, 3) := by decide +kernel
theorem dX4_init_26 : decode cX4_init 26 = .ok (.return_, 1) := by decide +kernel
theorem dX5_init_0 : decode cX5_init 0 = .ok (.aload_n 0, 1) := by decide +kernel
theorem dX5_init_1 : decode cX5_init 1 = .ok (.invokespecial 3, 3) := by decide +kernel
theorem dX5_init_4 : decode cX5_init 4 = .ok (.aload_n 0, 1) := by decide +kernel
theorem dX5_init_5 : decode cX5_init 5 = .ok (.bipush 64, 2) := by decide +kernel
theorem dX5_init_7 : decode cX5_init 7 = .ok (.newarray .int, 2) := by decide +kernel
theorem dX5_init_9 : decode cX5_init 9 = .ok (.putfield 9, 3) := by decide +kernel
theorem dX5_init_12 : decode cX5_init 12 = .ok (.aload_n 0, 1) := by decide +kernel
theorem dX5_init_13 : decode cX5_init 13 = .ok (.bipush 8, 2) := by decide +kernel
theorem dX5_init_15 : decode cX5_init 15 = .ok (.newarray .int, 2) := by decide +kernel
theorem dX5_init_17 : decode cX5_init 17 = .ok (.putfield 15, 3) := by decide +kernel
theorem dX5_init_20 : decode cX5_init 20 = .ok (.return_, 1) := by decide +kernel
theorem dX5_gather_0 : decode cX5_gather 0 = .ok (.aload_n 0, 1) := by decide +kernel
theorem dX5_gather_1 : decode cX5_gather 1 = .ok (.iconst 0, 1) := by decide +kernel
theorem dX5_gather_2 : decode cX5_gather 2 = .ok (.putfield 18, 3) := by decide +kernel
theorem dX5_gather_5 : decode cX5_gather 5 = .ok (.iconst 0, 1) := by decide +kernel
theorem dX5_gather_6 : decode cX5_gather 6 = .ok (.istore_n 2, 1) := by decide +kernel
theorem dX5_gather_7 : decode cX5_gather 7 = .ok (.iload_n 2, 1) := by decide +kernel
theorem dX5_gather_8 : decode cX5_gather 8 = .ok (.bipush 8, 2) := by decide +kernel
theorem dX5_gather_10 : decode cX5_gather 10 = .ok (.if_icmp .ge 57, 3) := by decide +kernel
theorem dX5_gather_13 : decode cX5_gather 13 = .ok (.iconst 0, 1) := by decide +kernel
theorem dX5_gather_14 : decode cX5_gather 14 = .ok (.istore_n 3, 1) := by decide +kernel
theorem dX5_gather_15 : decode cX5_gather 15 = .ok (.iload_n 3, 1) := by decide +kernel
theorem dX5_gather_16 : decode cX5_gather 16 = .ok (.bipush 8, 2) := by decide +kernel
theorem dX5_gather_18 : decode cX5_gather 18 = .ok (.if_icmp .ge 43, 3) := by decide +kernel
theorem dX5_gather_21 : decode cX5_gather 21 = .ok (.aload_n 1, 1) := by decide +kernel
theorem dX5_gather_22 : decode cX5_gather 22 = .ok (.iload_n 2, 1) := by decide +kernel
theorem dX5_gather_23 : decode cX5_gather 23 = .ok (.iload_n 3, 1) := by decide +kernel
theorem dX5_gather_24 : decode cX5_gather 24 = .ok (.invokestatic 22, 3) := by decide +kernel
theorem dX5_gather_27 : decode cX5_gather 27 = .ok (.ifCond .eq 28, 3) := by decide +kernel
theorem dX5_gather_30 : decode cX5_gather 30 = .ok (.aload_n 0, 1) := by decide +kernel
theorem dX5_gather_31 : decode cX5_gather 31 = .ok (.getfield 9, 3) := by decide +kernel
theorem dX5_gather_34 : decode cX5_gather 34 = .ok (.aload_n 0, 1) := by decide +kernel
theorem dX5_gather_35 : decode cX5_gather 35 = .ok (.getfield 18, 3) := by decide +kernel
theorem dX5_gather_38 : decode cX5_gather 38 = .ok (.bipush 10, 2) := by decide +kernel
theorem dX5_gather_40 : decode cX5_gather 40 = .ok (.iload_n 2, 1) := by decide +kernel
theorem dX5_gather_41 : decode cX5_gather 41 = .ok (.imul, 1) := by decide +kernel
theorem dX5_gather_42 : decode cX5_gather 42 = .ok (.iload_n 3, 1) := by decide +kernel
theorem dX5_gather_43 : decode cX5_gather 43 = .ok (.iadd, 1) := by decide +kernel
theorem dX5_gather_44 : decode cX5_gather 44 = .ok (.iastore, 1) := by decide +kernel
theorem dX5_gather_45 : decode cX5_gather 45 = .ok (.aload_n 0, 1) := by decide +kernel
theorem dX5_gather_46 : decode cX5_gather 46 = .ok (.dup, 1) := by decide +kernel
theorem dX5_gather_47 : decode cX5_gather 47 = .ok (.getfield 18, 3) := by decide +kernel
theorem dX5_gather_50 : decode cX5_gather 50 = .ok (.iconst 1, 1) := by decide +kernel
theorem dX5_gather_51 : decode cX5_gather 51 = .ok (.iadd, 1) := by decide +kernel
theorem dX5_gather_52 : decode cX5_gather 52 = .ok (.putfield 18, 3) := by decide +kernel
theorem dX5_gather_55 : decode cX5_gather 55 = .ok (.iinc 3 1, 3) := by decide +kernel
theorem dX5_gather_58 : decode cX5_gather 58 = .ok (.goto (-43), 3) := by decide +kernel
theorem dX5_gather_61 : decode cX5_gather 61 = .ok (.iinc 2 1, 3) := by decide +kernel
theorem dX5_gather_64 : decode cX5_gather 64 = .ok (.goto (-57), 3) := by decide +kernel
theorem dX5_gather_67 : decode cX5_gather 67 = .ok (.return_, 1) := by decide +kernel
theorem dX5_agree_0 : decode cX5_agree 0 = .ok (.iconst 0, 1) := by decide +kernel
theorem dX5_agree_1 : decode cX5_agree 1 = .ok (.istore_n 3, 1) := by decide +kernel
theorem dX5_agree_2 : decode cX5_agree 2 = .ok (.iload_n 3, 1) := by decide +kernel
theorem dX5_agree_3 : decode cX5_agree 3 = .ok (.aload_n 0, 1) := by decide +kernel
theorem dX5_agree_4 : decode cX5_agree 4 = .ok (.getfield 26, 3) := by decide +kernel
theorem dX5_agree_7 : decode cX5_agree 7 = .ok (.if_icmp .ge 31, 3) := by decide +kernel
theorem dX5_agree_10 : decode cX5_agree 10 = .ok (.aload_n 0, 1) := by decide +kernel
theorem dX5_agree_11 : decode cX5_agree 11 = .ok (.getfield 29, 3) := by decide +kernel
theorem dX5_agree_14 : decode cX5_agree 14 = .ok (.iload_n 3, 1) := by decide +kernel
theorem dX5_agree_15 : decode cX5_agree 15 = .ok (.iaload, 1) := by decide +kernel
theorem dX5_agree_16 : decode cX5_agree 16 = .ok (.iload_n 1, 1) := by decide +kernel
theorem dX5_agree_17 : decode cX5_agree 17 = .ok (.iload_n 2, 1) := by decide +kernel
theorem dX5_agree_18 : decode cX5_agree 18 = .ok (.invokestatic 32, 3) := by decide +kernel
theorem dX5_agree_21 : decode cX5_agree 21 = .ok (.aload_n 0, 1) := by decide +kernel
theorem dX5_agree_22 : decode cX5_agree 22 = .ok (.getfield 36, 3) := by decide +kernel
theorem dX5_agree_25 : decode cX5_agree 25 = .ok (.iload_n 3, 1) := by decide +kernel
theorem dX5_agree_26 : decode cX5_agree 26 = .ok (.iaload, 1) := by decide +kernel
theorem dX5_agree_27 : decode cX5_agree 27 = .ok (.if_icmp .eq 5, 3) := by decide +kernel
theorem dX5_agree_30 : decode cX5_agree 30 = .ok (.iconst 0, 1) := by decide +kernel
theorem dX5_agree_31 : decode cX5_agree 31 = .ok (.ireturn, 1) := by decide +kernel
theorem dX5_agree_32 : decode cX5_agree 32 = .ok (.iinc 3 1, 3) := by decide +kernel
theorem dX5_agree_35 : decode cX5_agree 35 = .ok (.goto (-33), 3) := by decide +kernel
theorem dX5_agree_38 : decode cX5_agree 38 = .ok (.iconst 1, 1) := by decide +kernel
theorem dX5_agree_39 : decode cX5_agree 39 = .ok (.ireturn, 1) := by decide +kernel
theorem dX5_thingOn_0 : decode cX5_thingOn 0 = .ok (.iload_n 1, 1) := by decide +kernel
theorem dX5_thingOn_1 : decode cX5_thingOn 1 = .ok (.iload_n 0, 1) := by decide +kernel
theorem dX5_thingOn_2 : decode cX5_thingOn 2 = .ok (.imul, 1) := by decide +kernel
theorem dX5_thingOn_3 : decode cX5_thingOn 3 = .ok (.iload_n 2, 1) := by decide +kernel
theorem dX5_thingOn_4 : decode cX5_thingOn 4 = .ok (.iadd, 1) := by decide +kernel
theorem dX5_thingOn_5 : decode cX5_thingOn 5 = .ok (.bipush 8, 2) := by decide +kernel
theorem dX5_thingOn_7 : decode cX5_thingOn 7 = .ok (.irem, 1) := by decide +kernel
theorem dX5_thingOn_8 : decode cX5_thingOn 8 = .ok (.ireturn, 1) := by decide +kernel
theorem dX5_chooseDay_0 : decode cX5_chooseDay 0 = .ok (.aload_n 0, 1) := by decide +kernel
theorem dX5_chooseDay_1 : decode cX5_chooseDay 1 = .ok (.bipush (-6), 2) := by decide +kernel
theorem dX5_chooseDay_3 : decode cX5_chooseDay 3 = .ok (.putfield 39, 3) := by decide +kernel
theorem dX5_chooseDay_6 : decode cX5_chooseDay 6 = .ok (.aload_n 0, 1) := by decide +kernel
theorem dX5_chooseDay_7 : decode cX5_chooseDay 7 = .ok (.bipush (-6), 2) := by decide +kernel
theorem dX5_chooseDay_9 : decode cX5_chooseDay 9 = .ok (.putfield 42, 3) := by decide +kernel
theorem dX5_chooseDay_12 : decode cX5_chooseDay 12 = .ok (.aload_n 0, 1) := by decide +kernel
theorem dX5_chooseDay_13 : decode cX5_chooseDay 13 = .ok (.getfield 18, 3) := by decide +kernel
theorem dX5_chooseDay_16 : decode cX5_chooseDay 16 = .ok (.ifCond .ne 4, 3) := by decide +kernel
theorem dX5_chooseDay_19 : decode cX5_chooseDay 19 = .ok (.return_, 1) := by decide +kernel
theorem dX5_chooseDay_20 : decode cX5_chooseDay 20 = .ok (.iconst 0, 1) := by decide +kernel
theorem dX5_chooseDay_21 : decode cX5_chooseDay 21 = .ok (.istore_n 1, 1) := by decide +kernel
theorem dX5_chooseDay_22 : decode cX5_chooseDay 22 = .ok (.iload_n 1, 1) := by decide +kernel
theorem dX5_chooseDay_23 : decode cX5_chooseDay 23 = .ok (.bipush 8, 2) := by decide +kernel
theorem dX5_chooseDay_25 : decode cX5_chooseDay 25 = .ok (.if_icmp .ge 42, 3) := by decide +kernel
theorem dX5_chooseDay_28 : decode cX5_chooseDay 28 = .ok (.aload_n 0, 1) := by decide +kernel
theorem dX5_chooseDay_29 : decode cX5_chooseDay 29 = .ok (.iload_n 1, 1) := by decide +kernel
theorem dX5_chooseDay_30 : decode cX5_chooseDay 30 = .ok (.invokevirtual 45, 3) := by decide +kernel
theorem dX5_chooseDay_33 : decode cX5_chooseDay 33 = .ok (.istore_n 2, 1) := by decide +kernel
theorem dX5_chooseDay_34 : decode cX5_chooseDay 34 = .ok (.aload_n 0, 1) := by decide +kernel
theorem dX5_chooseDay_35 : decode cX5_chooseDay 35 = .ok (.getfield 39, 3) := by decide +kernel
theorem dX5_chooseDay_38 : decode cX5_chooseDay 38 = .ok (.bipush (-6), 2) := by decide +kernel
theorem dX5_chooseDay_40 : decode cX5_chooseDay 40 = .ok (.if_icmp .eq 11, 3) := by decide +kernel
theorem dX5_chooseDay_43 : decode cX5_chooseDay 43 = .ok (.iload_n 2, 1) := by decide +kernel
theorem dX5_chooseDay_44 : decode cX5_chooseDay 44 = .ok (.aload_n 0, 1) := by decide +kernel
theorem dX5_chooseDay_45 : decode cX5_chooseDay 45 = .ok (.getfield 42, 3) := by decide +kernel
theorem dX5_chooseDay_48 : decode cX5_chooseDay 48 = .ok (.if_icmp .ge 13, 3) := by decide +kernel
theorem dX5_chooseDay_51 : decode cX5_chooseDay 51 = .ok (.aload_n 0, 1) := by decide +kernel
theorem dX5_chooseDay_52 : decode cX5_chooseDay 52 = .ok (.iload_n 1, 1) := by decide +kernel
theorem dX5_chooseDay_53 : decode cX5_chooseDay 53 = .ok (.putfield 39, 3) := by decide +kernel
theorem dX5_chooseDay_56 : decode cX5_chooseDay 56 = .ok (.aload_n 0, 1) := by decide +kernel
theorem dX5_chooseDay_57 : decode cX5_chooseDay 57 = .ok (.iload_n 2, 1) := by decide +kernel
theorem dX5_chooseDay_58 : decode cX5_chooseDay 58 = .ok (.putfield 42, 3) := by decide +kernel
theorem dX5_chooseDay_61 : decode cX5_chooseDay 61 = .ok (.iinc 1 1, 3) := by decide +kernel
theorem dX5_chooseDay_64 : decode cX5_chooseDay 64 = .ok (.goto (-42), 3) := by decide +kernel
theorem dX5_chooseDay_67 : decode cX5_chooseDay 67 = .ok (.return_, 1) := by decide +kernel
theorem dX5_mostLeftAfter_0 : decode cX5_mostLeftAfter 0 = .ok (.iconst 0, 1) := by decide +kernel
theorem dX5_mostLeftAfter_1 : decode cX5_mostLeftAfter 1 = .ok (.istore_n 2, 1) := by decide +kernel
theorem dX5_mostLeftAfter_2 : decode cX5_mostLeftAfter 2 = .ok (.iload_n 2, 1) := by decide +kernel
theorem dX5_mostLeftAfter_3 : decode cX5_mostLeftAfter 3 = .ok (.bipush 8, 2) := by decide +kernel
theorem dX5_mostLeftAfter_5 : decode cX5_mostLeftAfter 5 = .ok (.if_icmp .ge 16, 3) := by decide +kernel
theorem dX5_mostLeftAfter_8 : decode cX5_mostLeftAfter 8 = .ok (.aload_n 0, 1) := by decide +kernel
theorem dX5_mostLeftAfter_9 : decode cX5_mostLeftAfter 9 = .ok (.getfield 15, 3) := by decide +kernel
theorem dX5_mostLeftAfter_12 : decode cX5_mostLeftAfter 12 = .ok (.iload_n 2, 1) := by decide +kernel
theorem dX5_mostLeftAfter_13 : decode cX5_mostLeftAfter 13 = .ok (.iconst 0, 1) := by decide +kernel
theorem dX5_mostLeftAfter_14 : decode cX5_mostLeftAfter 14 = .ok (.iastore, 1) := by decide +kernel
theorem dX5_mostLeftAfter_15 : decode cX5_mostLeftAfter 15 = .ok (.iinc 2 1, 3) := by decide +kernel
theorem dX5_mostLeftAfter_18 : decode cX5_mostLeftAfter 18 = .ok (.goto (-16), 3) := by decide +kernel
theorem dX5_mostLeftAfter_21 : decode cX5_mostLeftAfter 21 = .ok (.iconst 0, 1) := by decide +kernel
theorem dX5_mostLeftAfter_22 : decode cX5_mostLeftAfter 22 = .ok (.istore_n 2, 1) := by decide +kernel
theorem dX5_mostLeftAfter_23 : decode cX5_mostLeftAfter 23 = .ok (.iconst 0, 1) := by decide +kernel
theorem dX5_mostLeftAfter_24 : decode cX5_mostLeftAfter 24 = .ok (.istore_n 3, 1) := by decide +kernel
theorem dX5_mostLeftAfter_25 : decode cX5_mostLeftAfter 25 = .ok (.iload_n 3, 1) := by decide +kernel
theorem dX5_mostLeftAfter_26 : decode cX5_mostLeftAfter 26 = .ok (.aload_n 0, 1) := by decide +kernel
theorem dX5_mostLeftAfter_27 : decode cX5_mostLeftAfter 27 = .ok (.getfield 18, 3) := by decide +kernel
theorem dX5_mostLeftAfter_30 : decode cX5_mostLeftAfter 30 = .ok (.if_icmp .ge 56, 3) := by decide +kernel
theorem dX5_mostLeftAfter_33 : decode cX5_mostLeftAfter 33 = .ok (.iload_n 1, 1) := by decide +kernel
theorem dX5_mostLeftAfter_34 : decode cX5_mostLeftAfter 34 = .ok (.aload_n 0, 1) := by decide +kernel
theorem dX5_mostLeftAfter_35 : decode cX5_mostLeftAfter 35 = .ok (.getfield 9, 3) := by decide +kernel
theorem dX5_mostLeftAfter_38 : decode cX5_mostLeftAfter 38 = .ok (.iload_n 3, 1) := by decide +kernel
theorem dX5_mostLeftAfter_39 : decode cX5_mostLeftAfter 39 = .ok (.iaload, 1) := by decide +kernel
theorem dX5_mostLeftAfter_40 : decode cX5_mostLeftAfter 40 = .ok (.bipush 10, 2) := by decide +kernel
theorem dX5_mostLeftAfter_42 : decode cX5_mostLeftAfter 42 = .ok (.idiv, 1) := by decide +kernel
theorem dX5_mostLeftAfter_43 : decode cX5_mostLeftAfter 43 = .ok (.aload_n 0, 1) := by decide +kernel
theorem dX5_mostLeftAfter_44 : decode cX5_mostLeftAfter 44 = .ok (.getfield 9, 3) := by decide +kernel
theorem dX5_mostLeftAfter_47 : decode cX5_mostLeftAfter 47 = .ok (.iload_n 3, 1) := by decide +kernel
theorem dX5_mostLeftAfter_48 : decode cX5_mostLeftAfter 48 = .ok (.iaload, 1) := by decide +kernel
theorem dX5_mostLeftAfter_49 : decode cX5_mostLeftAfter 49 = .ok (.bipush 10, 2) := by decide +kernel
theorem dX5_mostLeftAfter_51 : decode cX5_mostLeftAfter 51 = .ok (.irem, 1) := by decide +kernel
theorem dX5_mostLeftAfter_52 : decode cX5_mostLeftAfter 52 = .ok (.invokestatic 32, 3) := by decide +kernel
theorem dX5_mostLeftAfter_55 : decode cX5_mostLeftAfter 55 = .ok (.istore 4, 2) := by decide +kernel
theorem dX5_mostLeftAfter_57 : decode cX5_mostLeftAfter 57 = .ok (.aload_n 0, 1) := by decide +kernel
theorem dX5_mostLeftAfter_58 : decode cX5_mostLeftAfter 58 = .ok (.getfield 15, 3) := by decide +kernel
theorem dX5_mostLeftAfter_61 : decode cX5_mostLeftAfter 61 = .ok (.iload 4, 2) := by decide +kernel
theorem dX5_mostLeftAfter_63 : decode cX5_mostLeftAfter 63 = .ok (.dup2, 1) := by decide +kernel
theorem dX5_mostLeftAfter_64 : decode cX5_mostLeftAfter 64 = .ok (.iaload, 1) := by decide +kernel
theorem dX5_mostLeftAfter_65 : decode cX5_mostLeftAfter 65 = .ok (.iconst 1, 1) := by decide +kernel
theorem dX5_mostLeftAfter_66 : decode cX5_mostLeftAfter 66 = .ok (.iadd, 1) := by decide +kernel
theorem dX5_mostLeftAfter_67 : decode cX5_mostLeftAfter 67 = .ok (.iastore, 1) := by decide +kernel
theorem dX5_mostLeftAfter_68 : decode cX5_mostLeftAfter 68 = .ok (.iload_n 2, 1) := by decide +kernel
theorem dX5_mostLeftAfter_69 : decode cX5_mostLeftAfter 69 = .ok (.aload_n 0, 1) := by decide +kernel
theorem dX5_mostLeftAfter_70 : decode cX5_mostLeftAfter 70 = .ok (.getfield 15, 3) := by decide +kernel
theorem dX5_mostLeftAfter_73 : decode cX5_mostLeftAfter 73 = .ok (.iload 4, 2) := by decide +kernel
theorem dX5_mostLeftAfter_75 : decode cX5_mostLeftAfter 75 = .ok (.iaload, 1) := by decide +kernel
theorem dX5_mostLeftAfter_76 : decode cX5_mostLeftAfter 76 = .ok (.invokestatic 49, 3) := by decide +kernel
theorem dX5_mostLeftAfter_79 : decode cX5_mostLeftAfter 79 = .ok (.istore_n 2, 1) := by decide +kernel
theorem dX5_mostLeftAfter_80 : decode cX5_mostLeftAfter 80 = .ok (.iinc 3 1, 3) := by decide +kernel
theorem dX5_mostLeftAfter_83 : decode cX5_mostLeftAfter 83 = .ok (.goto (-58), 3) := by decide +kernel
theorem dX5_mostLeftAfter_86 : decode cX5_mostLeftAfter 86 = .ok (.iload_n 2, 1) := by decide +kernel
theorem dX5_mostLeftAfter_87 : decode cX5_mostLeftAfter 87 = .ok (.ireturn, 1) := by decide +kernel
theorem dX6_init_0 : decode cX6_init 0 = .ok (.aload_n 0, 1) := by decide +kernel
theorem dX6_init_1 : decode cX6_init 1 = .ok (.invokespecial 3, 3) := by decide +kernel
theorem dX6_init_4 : decode cX6_init 4 = .ok (.aload_n 0, 1) := by decide +kernel
theorem dX6_init_5 : decode cX6_init 5 = .ok (.sipush 256, 3) := by decide +kernel
theorem dX6_init_8 : decode cX6_init 8 = .ok (.newarray .int, 2) := by decide +kernel
theorem dX6_init_10 : decode cX6_init 10 = .ok (.putfield 9, 3) := by decide +kernel
theorem dX6_init_13 : decode cX6_init 13 = .ok (.aload_n 0, 1) := by decide +kernel
theorem dX6_init_14 : decode cX6_init 14 = .ok (.bipush 8, 2) := by decide +kernel
theorem dX6_init_16 : decode cX6_init 16 = .ok (.newarray .int, 2) := by decide +kernel
theorem dX6_init_18 : decode cX6_init 18 = .ok (.putfield 15, 3) := by decide +kernel
theorem dX6_init_21 : decode cX6_init 21 = .ok (.return_, 1) := by decide +kernel
theorem dX6_pair_0 : decode cX6_pair 0 = .ok (.aload_n 0, 1) := by decide +kernel
theorem dX6_pair_1 : decode cX6_pair 1 = .ok (.aload_n 1, 1) := by decide +kernel
theorem dX6_pair_2 : decode cX6_pair 2 = .ok (.invokevirtual 18, 3) := by decide +kernel
theorem dX6_pair_5 : decode cX6_pair 5 = .ok (.sipush 1023, 3) := by decide +kernel
theorem dX6_pair_8 : decode cX6_pair 8 = .ok (.istore_n 3, 1) := by decide +kernel
theorem dX6_pair_9 : decode cX6_pair 9 = .ok (.iload_n 2, 1) := by decide +kernel
theorem dX6_pair_10 : decode cX6_pair 10 = .ok (.istore 4, 2) := by decide +kernel
theorem dX6_pair_12 : decode cX6_pair 12 = .ok (.aload_n 0, 1) := by decide +kernel
theorem dX6_pair_13 : decode cX6_pair 13 = .ok (.aload_n 0, 1) := by decide +kernel
theorem dX6_pair_14 : decode cX6_pair 14 = .ok (.iload_n 2, 1) := by decide +kernel
theorem dX6_pair_15 : decode cX6_pair 15 = .ok (.iload_n 3, 1) := by decide +kernel
theorem dX6_pair_16 : decode cX6_pair 16 = .ok (.invokevirtual 22, 3) := by decide +kernel
theorem dX6_pair_19 : decode cX6_pair 19 = .ok (.putfield 26, 3) := by decide +kernel
theorem dX6_pair_22 : decode cX6_pair 22 = .ok (.aload_n 0, 1) := by decide +kernel
theorem dX6_pair_23 : decode cX6_pair 23 = .ok (.getfield 26, 3) := by decide +kernel
theorem dX6_pair_26 : decode cX6_pair 26 = .ok (.istore 5, 2) := by decide +kernel
theorem dX6_pair_28 : decode cX6_pair 28 = .ok (.iconst 0, 1) := by decide +kernel
theorem dX6_pair_29 : decode cX6_pair 29 = .ok (.istore 6, 2) := by decide +kernel
theorem dX6_pair_31 : decode cX6_pair 31 = .ok (.iload 6, 2) := by decide +kernel
theorem dX6_pair_33 : decode cX6_pair 33 = .ok (.bipush 8, 2) := by decide +kernel
theorem dX6_pair_35 : decode cX6_pair 35 = .ok (.if_icmp .ge 90, 3) := by decide +kernel
theorem dX6_pair_38 : decode cX6_pair 38 = .ok (.iload 4, 2) := by decide +kernel
theorem dX6_pair_40 : decode cX6_pair 40 = .ok (.iconst 1, 1) := by decide +kernel
theorem dX6_pair_41 : decode cX6_pair 41 = .ok (.iload 6, 2) := by decide +kernel
theorem dX6_pair_43 : decode cX6_pair 43 = .ok (.ishl, 1) := by decide +kernel
theorem dX6_pair_44 : decode cX6_pair 44 = .ok (.iconst (-1), 1) := by decide +kernel
theorem dX6_pair_45 : decode cX6_pair 45 = .ok (.ixor, 1) := by decide +kernel
theorem dX6_pair_46 : decode cX6_pair 46 = .ok (.iand, 1) := by decide +kernel
theorem dX6_pair_47 : decode cX6_pair 47 = .ok (.istore 4, 2) := by decide +kernel
theorem dX6_pair_49 : decode cX6_pair 49 = .ok (.aload_n 0, 1) := by decide +kernel
theorem dX6_pair_50 : decode cX6_pair 50 = .ok (.getfield 15, 3) := by decide +kernel
theorem dX6_pair_53 : decode cX6_pair 53 = .ok (.iload 6, 2) := by decide +kernel
theorem dX6_pair_55 : decode cX6_pair 55 = .ok (.iload_n 2, 1) := by decide +kernel
theorem dX6_pair_56 : decode cX6_pair 56 = .ok (.iload 6, 2) := by decide +kernel
theorem dX6_pair_58 : decode cX6_pair 58 = .ok (.invokestatic 30, 3) := by decide +kernel
theorem dX6_pair_61 : decode cX6_pair 61 = .ok (.ifCond .eq 26, 3) := by decide +kernel
theorem dX6_pair_64 : decode cX6_pair 64 = .ok (.aload_n 0, 1) := by decide +kernel
theorem dX6_pair_65 : decode cX6_pair 65 = .ok (.aload_n 0, 1) := by decide +kernel
theorem dX6_pair_66 : decode cX6_pair 66 = .ok (.getfield 9, 3) := by decide +kernel
theorem dX6_pair_69 : decode cX6_pair 69 = .ok (.iconst 1, 1) := by decide +kernel
theorem dX6_pair_70 : decode cX6_pair 70 = .ok (.iload 6, 2) := by decide +kernel
theorem dX6_pair_72 : decode cX6_pair 72 = .ok (.ishl, 1) := by decide +kernel
theorem dX6_pair_73 : decode cX6_pair 73 = .ok (.iaload, 1) := by decide +kernel
theorem dX6_pair_74 : decode cX6_pair 74 = .ok (.iload_n 3, 1) := by decide +kernel
theorem dX6_pair_75 : decode cX6_pair 75 = .ok (.iand, 1) := by decide +kernel
theorem dX6_pair_76 : decode cX6_pair 76 = .ok (.iload 4, 2) := by decide +kernel
theorem dX6_pair_78 : decode cX6_pair 78 = .ok (.iload_n 3, 1) := by decide +kernel
theorem dX6_pair_79 : decode cX6_pair 79 = .ok (.iload 5, 2) := by decide +kernel
theorem dX6_pair_81 : decode cX6_pair 81 = .ok (.invokevirtual 34, 3) := by decide +kernel
theorem dX6_pair_84 : decode cX6_pair 84 = .ok (.goto 5, 3) := by decide +kernel
theorem dX6_pair_87 : decode cX6_pair 87 = .ok (.bipush (-6), 2) := by decide +kernel
theorem dX6_pair_89 : decode cX6_pair 89 = .ok (.iastore, 1) := by decide +kernel
theorem dX6_pair_90 : decode cX6_pair 90 = .ok (.aload_n 0, 1) := by decide +kernel
theorem dX6_pair_91 : decode cX6_pair 91 = .ok (.getfield 15, 3) := by decide +kernel
theorem dX6_pair_94 : decode cX6_pair 94 = .ok (.iload 6, 2) := by decide +kernel
theorem dX6_pair_96 : decode cX6_pair 96 = .ok (.iaload, 1) := by decide +kernel
theorem dX6_pair_97 : decode cX6_pair 97 = .ok (.bipush (-6), 2) := by decide +kernel
theorem dX6_pair_99 : decode cX6_pair 99 = .ok (.if_icmp .eq 20, 3) := by decide +kernel
theorem dX6_pair_102 : decode cX6_pair 102 = .ok (.iload_n 3, 1) := by decide +kernel
theorem dX6_pair_103 : decode cX6_pair 103 = .ok (.iconst 1, 1) := by decide +kernel
theorem dX6_pair_104 : decode cX6_pair 104 = .ok (.aload_n 0, 1) := by decide +kernel
theorem dX6_pair_105 : decode cX6_pair 105 = .ok (.getfield 15, 3) := by decide +kernel
theorem dX6_pair_108 : decode cX6_pair 108 = .ok (.iload 6, 2) := by decide +kernel
theorem dX6_pair_110 : decode cX6_pair 110 = .ok (.iaload, 1) := by decide +kernel
theorem dX6_pair_111 : decode cX6_pair 111 = .ok (.ishl, 1) := by decide +kernel
theorem dX6_pair_112 : decode cX6_pair 112 = .ok (.iconst (-1), 1) := by decide +kernel
theorem dX6_pair_113 : decode cX6_pair 113 = .ok (.ixor, 1) := by decide +kernel
theorem dX6_pair_114 : decode cX6_pair 114 = .ok (.iand, 1) := by decide +kernel
theorem dX6_pair_115 : decode cX6_pair 115 = .ok (.istore_n 3, 1) := by decide +kernel
theorem dX6_pair_116 : decode cX6_pair 116 = .ok (.iinc 5 (-1), 3) := by decide +kernel
theorem dX6_pair_119 : decode cX6_pair 119 = .ok (.iinc 6 1, 3) := by decide +kernel
theorem dX6_pair_122 : decode cX6_pair 122 = .ok (.goto (-91), 3) := by decide +kernel
theorem dX6_pair_125 : decode cX6_pair 125 = .ok (.return_, 1) := by decide +kernel
theorem dX6_joinHomes_0 : decode cX6_joinHomes 0 = .ok (.aload_n 0, 1) := by decide +kernel
theorem dX6_joinHomes_1 : decode cX6_joinHomes 1 = .ok (.getfield 9, 3) := by decide +kernel
theorem dX6_joinHomes_4 : decode cX6_joinHomes 4 = .ok (.iconst 0, 1) := by decide +kernel
theorem dX6_joinHomes_5 : decode cX6_joinHomes 5 = .ok (.iconst 0, 1) := by decide +kernel
theorem dX6_joinHomes_6 : decode cX6_joinHomes 6 = .ok (.iastore, 1) := by decide +kernel
theorem dX6_joinHomes_7 : decode cX6_joinHomes 7 = .ok (.iconst 0, 1) := by decide +kernel
theorem dX6_joinHomes_8 : decode cX6_joinHomes 8 = .ok (.istore_n 2, 1) := by decide +kernel
theorem dX6_joinHomes_9 : decode cX6_joinHomes 9 = .ok (.iload_n 2, 1) := by decide +kernel
theorem dX6_joinHomes_10 : decode cX6_joinHomes 10 = .ok (.bipush 8, 2) := by decide +kernel
theorem dX6_joinHomes_12 : decode cX6_joinHomes 12 = .ok (.if_icmp .ge 89, 3) := by decide +kernel
theorem dX6_joinHomes_15 : decode cX6_joinHomes 15 = .ok (.iconst 1, 1) := by decide +kernel
theorem dX6_joinHomes_16 : decode cX6_joinHomes 16 = .ok (.iload_n 2, 1) := by decide +kernel
theorem dX6_joinHomes_17 : decode cX6_joinHomes 17 = .ok (.ishl, 1) := by decide +kernel
theorem dX6_joinHomes_18 : decode cX6_joinHomes 18 = .ok (.istore_n 3, 1) := by decide +kernel
theorem dX6_joinHomes_19 : decode cX6_joinHomes 19 = .ok (.iconst 0, 1) := by decide +kernel
theorem dX6_joinHomes_20 : decode cX6_joinHomes 20 = .ok (.istore 4, 2) := by decide +kernel
theorem dX6_joinHomes_22 : decode cX6_joinHomes 22 = .ok (.iconst 0, 1) := by decide +kernel
theorem dX6_joinHomes_23 : decode cX6_joinHomes 23 = .ok (.istore 5, 2) := by decide +kernel
theorem dX6_joinHomes_25 : decode cX6_joinHomes 25 = .ok (.iload 5, 2) := by decide +kernel
theorem dX6_joinHomes_27 : decode cX6_joinHomes 27 = .ok (.bipush 10, 2) := by decide +kernel
theorem dX6_joinHomes_29 : decode cX6_joinHomes 29 = .ok (.if_icmp .ge 32, 3) := by decide +kernel
theorem dX6_joinHomes_32 : decode cX6_joinHomes 32 = .ok (.aload_n 1, 1) := by decide +kernel
theorem dX6_joinHomes_33 : decode cX6_joinHomes 33 = .ok (.getfield 38, 3) := by decide +kernel
theorem dX6_joinHomes_36 : decode cX6_joinHomes 36 = .ok (.iload 5, 2) := by decide +kernel
theorem dX6_joinHomes_38 : decode cX6_joinHomes 38 = .ok (.iaload, 1) := by decide +kernel
theorem dX6_joinHomes_39 : decode cX6_joinHomes 39 = .ok (.iload_n 2, 1) := by decide +kernel
theorem dX6_joinHomes_40 : decode cX6_joinHomes 40 = .ok (.invokestatic 30, 3) := by decide +kernel
theorem dX6_joinHomes_43 : decode cX6_joinHomes 43 = .ok (.ifCond .eq 12, 3) := by decide +kernel
theorem dX6_joinHomes_46 : decode cX6_joinHomes 46 = .ok (.iload 4, 2) := by decide +kernel
theorem dX6_joinHomes_48 : decode cX6_joinHomes 48 = .ok (.iconst 1, 1) := by decide +kernel
theorem dX6_joinHomes_49 : decode cX6_joinHomes 49 = .ok (.iload 5, 2) := by decide +kernel
theorem dX6_joinHomes_51 : decode cX6_joinHomes 51 = .ok (.ishl, 1) := by decide +kernel
theorem dX6_joinHomes_52 : decode cX6_joinHomes 52 = .ok (.ior, 1) := by decide +kernel
theorem dX6_joinHomes_53 : decode cX6_joinHomes 53 = .ok (.istore 4, 2) := by decide +kernel
theorem dX6_joinHomes_55 : decode cX6_joinHomes 55 = .ok (.iinc 5 1, 3) := by decide +kernel
theorem dX6_joinHomes_58 : decode cX6_joinHomes 58 = .ok (.goto (-33), 3) := by decide +kernel
theorem dX6_joinHomes_61 : decode cX6_joinHomes 61 = .ok (.iconst 0, 1) := by decide +kernel
theorem dX6_joinHomes_62 : decode cX6_joinHomes 62 = .ok (.istore 5, 2) := by decide +kernel
theorem dX6_joinHomes_64 : decode cX6_joinHomes 64 = .ok (.iload 5, 2) := by decide +kernel
theorem dX6_joinHomes_66 : decode cX6_joinHomes 66 = .ok (.iload_n 3, 1) := by decide +kernel
theorem dX6_joinHomes_67 : decode cX6_joinHomes 67 = .ok (.if_icmp .ge 28, 3) := by decide +kernel
theorem dX6_joinHomes_70 : decode cX6_joinHomes 70 = .ok (.aload_n 0, 1) := by decide +kernel
theorem dX6_joinHomes_71 : decode cX6_joinHomes 71 = .ok (.getfield 9, 3) := by decide +kernel
theorem dX6_joinHomes_74 : decode cX6_joinHomes 74 = .ok (.iload_n 3, 1) := by decide +kernel
theorem dX6_joinHomes_75 : decode cX6_joinHomes 75 = .ok (.iload 5, 2) := by decide +kernel
theorem dX6_joinHomes_77 : decode cX6_joinHomes 77 = .ok (.ior, 1) := by decide +kernel
theorem dX6_joinHomes_78 : decode cX6_joinHomes 78 = .ok (.aload_n 0, 1) := by decide +kernel
theorem dX6_joinHomes_79 : decode cX6_joinHomes 79 = .ok (.getfield 9, 3) := by decide +kernel
theorem dX6_joinHomes_82 : decode cX6_joinHomes 82 = .ok (.iload 5, 2) := by decide +kernel
theorem dX6_joinHomes_84 : decode cX6_joinHomes 84 = .ok (.iaload, 1) := by decide +kernel
theorem dX6_joinHomes_85 : decode cX6_joinHomes 85 = .ok (.iload 4, 2) := by decide +kernel
theorem dX6_joinHomes_87 : decode cX6_joinHomes 87 = .ok (.ior, 1) := by decide +kernel
theorem dX6_joinHomes_88 : decode cX6_joinHomes 88 = .ok (.iastore, 1) := by decide +kernel
theorem dX6_joinHomes_89 : decode cX6_joinHomes 89 = .ok (.iinc 5 1, 3) := by decide +kernel
theorem dX6_joinHomes_92 : decode cX6_joinHomes 92 = .ok (.goto (-28), 3) := by decide +kernel
theorem dX6_joinHomes_95 : decode cX6_joinHomes 95 = .ok (.iinc 2 1, 3) := by decide +kernel
theorem dX6_joinHomes_98 : decode cX6_joinHomes 98 = .ok (.goto (-89), 3) := by decide +kernel
theorem dX6_joinHomes_101 : decode cX6_joinHomes 101 = .ok (.return_, 1) := by decide +kernel
theorem dX6_leastBasket_0 : decode cX6_leastBasket 0 = .ok (.iconst 0, 1) := by decide +kernel
theorem dX6_leastBasket_1 : decode cX6_leastBasket 1 = .ok (.istore 5, 2) := by decide +kernel
theorem dX6_leastBasket_3 : decode cX6_leastBasket 3 = .ok (.iload 5, 2) := by decide +kernel
theorem dX6_leastBasket_5 : decode cX6_leastBasket 5 = .ok (.bipush 10, 2) := by decide +kernel
theorem dX6_leastBasket_7 : decode cX6_leastBasket 7 = .ok (.if_icmp .ge 41, 3) := by decide +kernel
theorem dX6_leastBasket_10 : decode cX6_leastBasket 10 = .ok (.iload_n 1, 1) := by decide +kernel
theorem dX6_leastBasket_11 : decode cX6_leastBasket 11 = .ok (.iload 5, 2) := by decide +kernel
theorem dX6_leastBasket_13 : decode cX6_leastBasket 13 = .ok (.invokestatic 30, 3) := by decide +kernel
theorem dX6_leastBasket_16 : decode cX6_leastBasket 16 = .ok (.ifCond .eq 26, 3) := by decide +kernel
theorem dX6_leastBasket_19 : decode cX6_leastBasket 19 = .ok (.aload_n 0, 1) := by decide +kernel
theorem dX6_leastBasket_20 : decode cX6_leastBasket 20 = .ok (.iload_n 2, 1) := by decide +kernel
theorem dX6_leastBasket_21 : decode cX6_leastBasket 21 = .ok (.iload_n 3, 1) := by decide +kernel
theorem dX6_leastBasket_22 : decode cX6_leastBasket 22 = .ok (.iconst 1, 1) := by decide +kernel
theorem dX6_leastBasket_23 : decode cX6_leastBasket 23 = .ok (.iload 5, 2) := by decide +kernel
theorem dX6_leastBasket_25 : decode cX6_leastBasket 25 = .ok (.ishl, 1) := by decide +kernel
theorem dX6_leastBasket_26 : decode cX6_leastBasket 26 = .ok (.iconst (-1), 1) := by decide +kernel
theorem dX6_leastBasket_27 : decode cX6_leastBasket 27 = .ok (.ixor, 1) := by decide +kernel
theorem dX6_leastBasket_28 : decode cX6_leastBasket 28 = .ok (.iand, 1) := by decide +kernel
theorem dX6_leastBasket_29 : decode cX6_leastBasket 29 = .ok (.invokevirtual 22, 3) := by decide +kernel
theorem dX6_leastBasket_32 : decode cX6_leastBasket 32 = .ok (.iconst 1, 1) := by decide +kernel
theorem dX6_leastBasket_33 : decode cX6_leastBasket 33 = .ok (.iadd, 1) := by decide +kernel
theorem dX6_leastBasket_34 : decode cX6_leastBasket 34 = .ok (.iload 4, 2) := by decide +kernel
theorem dX6_leastBasket_36 : decode cX6_leastBasket 36 = .ok (.if_icmp .ne 6, 3) := by decide +kernel
theorem dX6_leastBasket_39 : decode cX6_leastBasket 39 = .ok (.iload 5, 2) := by decide +kernel
theorem dX6_leastBasket_41 : decode cX6_leastBasket 41 = .ok (.ireturn, 1) := by decide +kernel
theorem dX6_leastBasket_42 : decode cX6_leastBasket 42 = .ok (.iinc 5 1, 3) := by decide +kernel
theorem dX6_leastBasket_45 : decode cX6_leastBasket 45 = .ok (.goto (-42), 3) := by decide +kernel
theorem dX6_leastBasket_48 : decode cX6_leastBasket 48 = .ok (.bipush (-6), 2) := by decide +kernel
theorem dX6_leastBasket_50 : decode cX6_leastBasket 50 = .ok (.ireturn, 1) := by decide +kernel
theorem dX6_mostAtOnce_0 : decode cX6_mostAtOnce 0 = .ok (.iload_n 1, 1) := by decide +kernel
theorem dX6_mostAtOnce_1 : decode cX6_mostAtOnce 1 = .ok (.invokestatic 43, 3) := by decide +kernel
theorem dX6_mostAtOnce_4 : decode cX6_mostAtOnce 4 = .ok (.istore_n 3, 1) := by decide +kernel
theorem dX6_mostAtOnce_5 : decode cX6_mostAtOnce 5 = .ok (.iload_n 1, 1) := by decide +kernel
theorem dX6_mostAtOnce_6 : decode cX6_mostAtOnce 6 = .ok (.istore 4, 2) := by decide +kernel
theorem dX6_mostAtOnce_8 : decode cX6_mostAtOnce 8 = .ok (.iload 4, 2) := by decide +kernel
theorem dX6_mostAtOnce_10 : decode cX6_mostAtOnce 10 = .ok (.ifCond .le 45, 3) := by decide +kernel
theorem dX6_mostAtOnce_13 : decode cX6_mostAtOnce 13 = .ok (.iload_n 1, 1) := by decide +kernel
theorem dX6_mostAtOnce_14 : decode cX6_mostAtOnce 14 = .ok (.iload 4, 2) := by decide +kernel
theorem dX6_mostAtOnce_16 : decode cX6_mostAtOnce 16 = .ok (.iconst (-1), 1) := by decide +kernel
theorem dX6_mostAtOnce_17 : decode cX6_mostAtOnce 17 = .ok (.ixor, 1) := by decide +kernel
theorem dX6_mostAtOnce_18 : decode cX6_mostAtOnce 18 = .ok (.iand, 1) := by decide +kernel
theorem dX6_mostAtOnce_19 : decode cX6_mostAtOnce 19 = .ok (.invokestatic 43, 3) := by decide +kernel
theorem dX6_mostAtOnce_22 : decode cX6_mostAtOnce 22 = .ok (.aload_n 0, 1) := by decide +kernel
theorem dX6_mostAtOnce_23 : decode cX6_mostAtOnce 23 = .ok (.getfield 9, 3) := by decide +kernel
theorem dX6_mostAtOnce_26 : decode cX6_mostAtOnce 26 = .ok (.iload 4, 2) := by decide +kernel
theorem dX6_mostAtOnce_28 : decode cX6_mostAtOnce 28 = .ok (.iaload, 1) := by decide +kernel
theorem dX6_mostAtOnce_29 : decode cX6_mostAtOnce 29 = .ok (.iload_n 2, 1) := by decide +kernel
theorem dX6_mostAtOnce_30 : decode cX6_mostAtOnce 30 = .ok (.iand, 1) := by decide +kernel
theorem dX6_mostAtOnce_31 : decode cX6_mostAtOnce 31 = .ok (.invokestatic 43, 3) := by decide +kernel
theorem dX6_mostAtOnce_34 : decode cX6_mostAtOnce 34 = .ok (.iadd, 1) := by decide +kernel
theorem dX6_mostAtOnce_35 : decode cX6_mostAtOnce 35 = .ok (.istore 5, 2) := by decide +kernel
theorem dX6_mostAtOnce_37 : decode cX6_mostAtOnce 37 = .ok (.iload_n 3, 1) := by decide +kernel
theorem dX6_mostAtOnce_38 : decode cX6_mostAtOnce 38 = .ok (.iload 5, 2) := by decide +kernel
theorem dX6_mostAtOnce_40 : decode cX6_mostAtOnce 40 = .ok (.invokestatic 49, 3) := by decide +kernel
theorem dX6_mostAtOnce_43 : decode cX6_mostAtOnce 43 = .ok (.istore_n 3, 1) := by decide +kernel
theorem dX6_mostAtOnce_44 : decode cX6_mostAtOnce 44 = .ok (.iload 4, 2) := by decide +kernel
theorem dX6_mostAtOnce_46 : decode cX6_mostAtOnce 46 = .ok (.iconst 1, 1) := by decide +kernel
theorem dX6_mostAtOnce_47 : decode cX6_mostAtOnce 47 = .ok (.isub, 1) := by decide +kernel
theorem dX6_mostAtOnce_48 : decode cX6_mostAtOnce 48 = .ok (.iload_n 1, 1) := by decide +kernel
theorem dX6_mostAtOnce_49 : decode cX6_mostAtOnce 49 = .ok (.iand, 1) := by decide +kernel
theorem dX6_mostAtOnce_50 : decode cX6_mostAtOnce 50 = .ok (.istore 4, 2) := by decide +kernel
theorem dX6_mostAtOnce_52 : decode cX6_mostAtOnce 52 = .ok (.goto (-44), 3) := by decide +kernel
theorem dX6_mostAtOnce_55 : decode cX6_mostAtOnce 55 = .ok (.iload_n 3, 1) := by decide +kernel
theorem dX6_mostAtOnce_56 : decode cX6_mostAtOnce 56 = .ok (.ireturn, 1) := by decide +kernel
theorem dX7_init_0 : decode cX7_init 0 = .ok (.aload_n 0, 1) := by decide +kernel
theorem dX7_init_1 : decode cX7_init 1 = .ok (.invokespecial 1, 3) := by decide +kernel
theorem dX7_init_4 : decode cX7_init 4 = .ok (.aload_n 0, 1) := by decide +kernel
theorem dX7_init_5 : decode cX7_init 5 = .ok (.bipush 8, 2) := by decide +kernel
theorem dX7_init_7 : decode cX7_init 7 = .ok (.newarray .int, 2) := by decide +kernel
theorem dX7_init_9 : decode cX7_init 9 = .ok (.putfield 7, 3) := by decide +kernel
theorem dX7_init_12 : decode cX7_init 12 = .ok (.aload_n 0, 1) := by decide +kernel
theorem dX7_init_13 : decode cX7_init 13 = .ok (.bipush 8, 2) := by decide +kernel
theorem dX7_init_15 : decode cX7_init 15 = .ok (.newarray .int, 2) := by decide +kernel
theorem dX7_init_17 : decode cX7_init 17 = .ok (.putfield 13, 3) := by decide +kernel
theorem dX7_init_20 : decode cX7_init 20 = .ok (.return_, 1) := by decide +kernel
theorem dX7_takeOver_0 : decode cX7_takeOver 0 = .ok (.aload_n 1, 1) := by decide +kernel
theorem dX7_takeOver_1 : decode cX7_takeOver 1 = .ok (.getfield 7, 3) := by decide +kernel
theorem dX7_takeOver_4 : decode cX7_takeOver 4 = .ok (.iconst 0, 1) := by decide +kernel
theorem dX7_takeOver_5 : decode cX7_takeOver 5 = .ok (.aload_n 0, 1) := by decide +kernel
theorem dX7_takeOver_6 : decode cX7_takeOver 6 = .ok (.getfield 7, 3) := by decide +kernel
theorem dX7_takeOver_9 : decode cX7_takeOver 9 = .ok (.iconst 0, 1) := by decide +kernel
theorem dX7_takeOver_10 : decode cX7_takeOver 10 = .ok (.aload_n 0, 1) := by decide +kernel
theorem dX7_takeOver_11 : decode cX7_takeOver 11 = .ok (.getfield 7, 3) := by decide +kernel
theorem dX7_takeOver_14 : decode cX7_takeOver 14 = .ok (.arraylength, 1) := by decide +kernel
theorem dX7_takeOver_15 : decode cX7_takeOver 15 = .ok (.invokestatic 16, 3) := by decide +kernel
theorem dX7_takeOver_18 : decode cX7_takeOver 18 = .ok (.aload_n 1, 1) := by decide +kernel
theorem dX7_takeOver_19 : decode cX7_takeOver 19 = .ok (.getfield 13, 3) := by decide +kernel
theorem dX7_takeOver_22 : decode cX7_takeOver 22 = .ok (.iconst 0, 1) := by decide +kernel
theorem dX7_takeOver_23 : decode cX7_takeOver 23 = .ok (.aload_n 0, 1) := by decide +kernel
theorem dX7_takeOver_24 : decode cX7_takeOver 24 = .ok (.getfield 13, 3) := by decide +kernel
theorem dX7_takeOver_27 : decode cX7_takeOver 27 = .ok (.iconst 0, 1) := by decide +kernel
theorem dX7_takeOver_28 : decode cX7_takeOver 28 = .ok (.aload_n 0, 1) := by decide +kernel
theorem dX7_takeOver_29 : decode cX7_takeOver 29 = .ok (.getfield 13, 3) := by decide +kernel
theorem dX7_takeOver_32 : decode cX7_takeOver 32 = .ok (.arraylength, 1) := by decide +kernel
theorem dX7_takeOver_33 : decode cX7_takeOver 33 = .ok (.invokestatic 16, 3) := by decide +kernel
theorem dX7_takeOver_36 : decode cX7_takeOver 36 = .ok (.aload_n 0, 1) := by decide +kernel
theorem dX7_takeOver_37 : decode cX7_takeOver 37 = .ok (.aload_n 1, 1) := by decide +kernel
theorem dX7_takeOver_38 : decode cX7_takeOver 38 = .ok (.getfield 22, 3) := by decide +kernel
theorem dX7_takeOver_41 : decode cX7_takeOver 41 = .ok (.putfield 22, 3) := by decide +kernel
theorem dX7_takeOver_44 : decode cX7_takeOver 44 = .ok (.return_, 1) := by decide +kernel
theorem dX7_write_0 : decode cX7_write 0 = .ok (.aload_n 0, 1) := by decide +kernel
theorem dX7_write_1 : decode cX7_write 1 = .ok (.getfield 22, 3) := by decide +kernel
theorem dX7_write_4 : decode cX7_write 4 = .ok (.aload_n 0, 1) := by decide +kernel
theorem dX7_write_5 : decode cX7_write 5 = .ok (.getfield 7, 3) := by decide +kernel
theorem dX7_write_8 : decode cX7_write 8 = .ok (.arraylength, 1) := by decide +kernel
theorem dX7_write_9 : decode cX7_write 9 = .ok (.if_icmp .lt 5, 3) := by decide +kernel
theorem dX7_write_12 : decode cX7_write 12 = .ok (.iconst 0, 1) := by decide +kernel
theorem dX7_write_13 : decode cX7_write 13 = .ok (.ireturn, 1) := by decide +kernel
theorem dX7_write_14 : decode cX7_write 14 = .ok (.aload_n 0, 1) := by decide +kernel
theorem dX7_write_15 : decode cX7_write 15 = .ok (.getfield 7, 3) := by decide +kernel
theorem dX7_write_18 : decode cX7_write 18 = .ok (.aload_n 0, 1) := by decide +kernel
theorem dX7_write_19 : decode cX7_write 19 = .ok (.getfield 22, 3) := by decide +kernel
theorem dX7_write_22 : decode cX7_write 22 = .ok (.iload_n 1, 1) := by decide +kernel
theorem dX7_write_23 : decode cX7_write 23 = .ok (.iastore, 1) := by decide +kernel
theorem dX7_write_24 : decode cX7_write 24 = .ok (.aload_n 0, 1) := by decide +kernel
theorem dX7_write_25 : decode cX7_write 25 = .ok (.getfield 13, 3) := by decide +kernel
theorem dX7_write_28 : decode cX7_write 28 = .ok (.aload_n 0, 1) := by decide +kernel
theorem dX7_write_29 : decode cX7_write 29 = .ok (.getfield 22, 3) := by decide +kernel
theorem dX7_write_32 : decode cX7_write 32 = .ok (.iload_n 2, 1) := by decide +kernel
theorem dX7_write_33 : decode cX7_write 33 = .ok (.iastore, 1) := by decide +kernel
theorem dX7_write_34 : decode cX7_write 34 = .ok (.aload_n 0, 1) := by decide +kernel
theorem dX7_write_35 : decode cX7_write 35 = .ok (.dup, 1) := by decide +kernel
theorem dX7_write_36 : decode cX7_write 36 = .ok (.getfield 22, 3) := by decide +kernel
theorem dX7_write_39 : decode cX7_write 39 = .ok (.iconst 1, 1) := by decide +kernel
theorem dX7_write_40 : decode cX7_write 40 = .ok (.iadd, 1) := by decide +kernel
theorem dX7_write_41 : decode cX7_write 41 = .ok (.putfield 22, 3) := by decide +kernel
theorem dX7_write_44 : decode cX7_write 44 = .ok (.iconst 1, 1) := by decide +kernel
theorem dX7_write_45 : decode cX7_write 45 = .ok (.ireturn, 1) := by decide +kernel
theorem dX8_init_0 : decode cX8_init 0 = .ok (.aload_n 0, 1) := by decide +kernel
theorem dX8_init_1 : decode cX8_init 1 = .ok (.invokespecial 3, 3) := by decide +kernel
theorem dX8_init_4 : decode cX8_init 4 = .ok (.aload_n 0, 1) := by decide +kernel
theorem dX8_init_5 : decode cX8_init 5 = .ok (.bipush 60, 2) := by decide +kernel
theorem dX8_init_7 : decode cX8_init 7 = .ok (.newarray .int, 2) := by decide +kernel
theorem dX8_init_9 : decode cX8_init 9 = .ok (.putfield 9, 3) := by decide +kernel
theorem dX8_init_12 : decode cX8_init 12 = .ok (.return_, 1) := by decide +kernel
theorem dX8_write_0 : decode cX8_write 0 = .ok (.aload_n 0, 1) := by decide +kernel
theorem dX8_write_1 : decode cX8_write 1 = .ok (.getfield 15, 3) := by decide +kernel
theorem dX8_write_4 : decode cX8_write 4 = .ok (.aload_n 0, 1) := by decide +kernel
theorem dX8_write_5 : decode cX8_write 5 = .ok (.getfield 9, 3) := by decide +kernel
theorem dX8_write_8 : decode cX8_write 8 = .ok (.arraylength, 1) := by decide +kernel
theorem dX8_write_9 : decode cX8_write 9 = .ok (.if_icmp .lt 5, 3) := by decide +kernel
theorem dX8_write_12 : decode cX8_write 12 = .ok (.iconst 0, 1) := by decide +kernel
theorem dX8_write_13 : decode cX8_write 13 = .ok (.ireturn, 1) := by decide +kernel
theorem dX8_write_14 : decode cX8_write 14 = .ok (.aload_n 0, 1) := by decide +kernel
theorem dX8_write_15 : decode cX8_write 15 = .ok (.getfield 9, 3) := by decide +kernel
theorem dX8_write_18 : decode cX8_write 18 = .ok (.aload_n 0, 1) := by decide +kernel
theorem dX8_write_19 : decode cX8_write 19 = .ok (.getfield 15, 3) := by decide +kernel
theorem dX8_write_22 : decode cX8_write 22 = .ok (.iload_n 1, 1) := by decide +kernel
theorem dX8_write_23 : decode cX8_write 23 = .ok (.iastore, 1) := by decide +kernel
theorem dX8_write_24 : decode cX8_write 24 = .ok (.aload_n 0, 1) := by decide +kernel
theorem dX8_write_25 : decode cX8_write 25 = .ok (.dup, 1) := by decide +kernel
theorem dX8_write_26 : decode cX8_write 26 = .ok (.getfield 15, 3) := by decide +kernel
theorem dX8_write_29 : decode cX8_write 29 = .ok (.iconst 1, 1) := by decide +kernel
theorem dX8_write_30 : decode cX8_write 30 = .ok (.iadd, 1) := by decide +kernel
theorem dX8_write_31 : decode cX8_write 31 = .ok (.putfield 15, 3) := by decide +kernel
theorem dX8_write_34 : decode cX8_write 34 = .ok (.iconst 1, 1) := by decide +kernel
theorem dX8_write_35 : decode cX8_write 35 = .ok (.ireturn, 1) := by decide +kernel
