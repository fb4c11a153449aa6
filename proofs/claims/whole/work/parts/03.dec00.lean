theorem dX0_init_0 : decode cX0_init 0 = .ok (.aload_n 0, 1) := by decide +kernel
theorem dX0_init_1 : decode cX0_init 1 = .ok (.invokespecial 3, 3) := by decide +kernel
theorem dX0_init_4 : decode cX0_init 4 = .ok (.aload_n 0, 1) := by decide +kernel
theorem dX0_init_5 : decode cX0_init 5 = .ok (.bipush 10, 2) := by decide +kernel
theorem dX0_init_7 : decode cX0_init 7 = .ok (.newarray .int, 2) := by decide +kernel
theorem dX0_init_9 : decode cX0_init 9 = .ok (.putfield 9, 3) := by decide +kernel
theorem dX0_init_12 : decode cX0_init 12 = .ok (.aload_n 0, 1) := by decide +kernel
theorem dX0_init_13 : decode cX0_init 13 = .ok (.bipush 10, 2) := by decide +kernel
theorem dX0_init_15 : decode cX0_init 15 = .ok (.newarray .int, 2) := by decide +kernel
theorem dX0_init_17 : decode cX0_init 17 = .ok (.putfield 15, 3) := by decide +kernel
theorem dX0_init_20 : decode cX0_init 20 = .ok (.aload_n 0, 1) := by decide +kernel
theorem dX0_init_21 : decode cX0_init 21 = .ok (.bipush 10, 2) := by decide +kernel
theorem dX0_init_23 : decode cX0_init 23 = .ok (.newarray .int, 2) := by decide +kernel
theorem dX0_init_25 : decode cX0_init 25 = .ok (.putfield 18, 3) := by decide +kernel
theorem dX0_init_28 : decode cX0_init 28 = .ok (.iconst 0, 1) := by decide +kernel
theorem dX0_init_29 : decode cX0_init 29 = .ok (.istore_n 1, 1) := by decide +kernel
theorem dX0_init_30 : decode cX0_init 30 = .ok (.iload_n 1, 1) := by decide +kernel
theorem dX0_init_31 : decode cX0_init 31 = .ok (.bipush 10, 2) := by decide +kernel
theorem dX0_init_33 : decode cX0_init 33 = .ok (.if_icmp .ge 23, 3) := by decide +kernel
theorem dX0_init_36 : decode cX0_init 36 = .ok (.aload_n 0, 1) := by decide +kernel
theorem dX0_init_37 : decode cX0_init 37 = .ok (.getfield 9, 3) := by decide +kernel
theorem dX0_init_40 : decode cX0_init 40 = .ok (.iload_n 1, 1) := by decide +kernel
theorem dX0_init_41 : decode cX0_init 41 = .ok (.iload_n 1, 1) := by decide +kernel
theorem dX0_init_42 : decode cX0_init 42 = .ok (.iastore, 1) := by decide +kernel
theorem dX0_init_43 : decode cX0_init 43 = .ok (.aload_n 0, 1) := by decide +kernel
theorem dX0_init_44 : decode cX0_init 44 = .ok (.getfield 18, 3) := by decide +kernel
theorem dX0_init_47 : decode cX0_init 47 = .ok (.iload_n 1, 1) := by decide +kernel
theorem dX0_init_48 : decode cX0_init 48 = .ok (.iconst 3, 1) := by decide +kernel
theorem dX0_init_49 : decode cX0_init 49 = .ok (.iastore, 1) := by decide +kernel
theorem dX0_init_50 : decode cX0_init 50 = .ok (.iinc 1 1, 3) := by decide +kernel
theorem dX0_init_53 : decode cX0_init 53 = .ok (.goto (-23), 3) := by decide +kernel
theorem dX0_init_56 : decode cX0_init 56 = .ok (.aload_n 0, 1) := by decide +kernel
theorem dX0_init_57 : decode cX0_init 57 = .ok (.bipush 60, 2) := by decide +kernel
theorem dX0_init_59 : decode cX0_init 59 = .ok (.putfield 21, 3) := by decide +kernel
theorem dX0_init_62 : decode cX0_init 62 = .ok (.return_, 1) := by decide +kernel
theorem dX0_takeOver_0 : decode cX0_takeOver 0 = .ok (.aload_n 1, 1) := by decide +kernel
theorem dX0_takeOver_1 : decode cX0_takeOver 1 = .ok (.getfield 9, 3) := by decide +kernel
theorem dX0_takeOver_4 : decode cX0_takeOver 4 = .ok (.iconst 0, 1) := by decide +kernel
theorem dX0_takeOver_5 : decode cX0_takeOver 5 = .ok (.aload_n 0, 1) := by decide +kernel
theorem dX0_takeOver_6 : decode cX0_takeOver 6 = .ok (.getfield 9, 3) := by decide +kernel
theorem dX0_takeOver_9 : decode cX0_takeOver 9 = .ok (.iconst 0, 1) := by decide +kernel
theorem dX0_takeOver_10 : decode cX0_takeOver 10 = .ok (.bipush 10, 2) := by decide +kernel
theorem dX0_takeOver_12 : decode cX0_takeOver 12 = .ok (.invokestatic 25, 3) := by decide +kernel
theorem dX0_takeOver_15 : decode cX0_takeOver 15 = .ok (.aload_n 1, 1) := by decide +kernel
theorem dX0_takeOver_16 : decode cX0_takeOver 16 = .ok (.getfield 15, 3) := by decide +kernel
theorem dX0_takeOver_19 : decode cX0_takeOver 19 = .ok (.iconst 0, 1) := by decide +kernel
theorem dX0_takeOver_20 : decode cX0_takeOver 20 = .ok (.aload_n 0, 1) := by decide +kernel
theorem dX0_takeOver_21 : decode cX0_takeOver 21 = .ok (.getfield 15, 3) := by decide +kernel
theorem dX0_takeOver_24 : decode cX0_takeOver 24 = .ok (.iconst 0, 1) := by decide +kernel
theorem dX0_takeOver_25 : decode cX0_takeOver 25 = .ok (.bipush 10, 2) := by decide +kernel
theorem dX0_takeOver_27 : decode cX0_takeOver 27 = .ok (.invokestatic 25, 3) := by decide +kernel
theorem dX0_takeOver_30 : decode cX0_takeOver 30 = .ok (.aload_n 1, 1) := by decide +kernel
theorem dX0_takeOver_31 : decode cX0_takeOver 31 = .ok (.getfield 18, 3) := by decide +kernel
theorem dX0_takeOver_34 : decode cX0_takeOver 34 = .ok (.iconst 0, 1) := by decide +kernel
theorem dX0_takeOver_35 : decode cX0_takeOver 35 = .ok (.aload_n 0, 1) := by decide +kernel
theorem dX0_takeOver_36 : decode cX0_takeOver 36 = .ok (.getfield 18, 3) := by decide +kernel
theorem dX0_takeOver_39 : decode cX0_takeOver 39 = .ok (.iconst 0, 1) := by decide +kernel
theorem dX0_takeOver_40 : decode cX0_takeOver 40 = .ok (.bipush 10, 2) := by decide +kernel
theorem dX0_takeOver_42 : decode cX0_takeOver 42 = .ok (.invokestatic 25, 3) := by decide +kernel
theorem dX0_takeOver_45 : decode cX0_takeOver 45 = .ok (.aload_n 0, 1) := by decide +kernel
theorem dX0_takeOver_46 : decode cX0_takeOver 46 = .ok (.aload_n 1, 1) := by decide +kernel
theorem dX0_takeOver_47 : decode cX0_takeOver 47 = .ok (.getfield 31, 3) := by decide +kernel
theorem dX0_takeOver_50 : decode cX0_takeOver 50 = .ok (.putfield 31, 3) := by decide +kernel
theorem dX0_takeOver_53 : decode cX0_takeOver 53 = .ok (.aload_n 0, 1) := by decide +kernel
theorem dX0_takeOver_54 : decode cX0_takeOver 54 = .ok (.aload_n 1, 1) := by decide +kernel
theorem dX0_takeOver_55 : decode cX0_takeOver 55 = .ok (.getfield 34, 3) := by decide +kernel
theorem dX0_takeOver_58 : decode cX0_takeOver 58 = .ok (.putfield 34, 3) := by decide +kernel
theorem dX0_takeOver_61 : decode cX0_takeOver 61 = .ok (.aload_n 0, 1) := by decide +kernel
theorem dX0_takeOver_62 : decode cX0_takeOver 62 = .ok (.aload_n 1, 1) := by decide +kernel
theorem dX0_takeOver_63 : decode cX0_takeOver 63 = .ok (.getfield 37, 3) := by decide +kernel
theorem dX0_takeOver_66 : decode cX0_takeOver 66 = .ok (.putfield 37, 3) := by decide +kernel
theorem dX0_takeOver_69 : decode cX0_takeOver 69 = .ok (.aload_n 0, 1) := by decide +kernel
theorem dX0_takeOver_70 : decode cX0_takeOver 70 = .ok (.aload_n 1, 1) := by decide +kernel
theorem dX0_takeOver_71 : decode cX0_takeOver 71 = .ok (.getfield 40, 3) := by decide +kernel
theorem dX0_takeOver_74 : decode cX0_takeOver 74 = .ok (.putfield 40, 3) := by decide +kernel
theorem dX0_takeOver_77 : decode cX0_takeOver 77 = .ok (.aload_n 0, 1) := by decide +kernel
theorem dX0_takeOver_78 : decode cX0_takeOver 78 = .ok (.aload_n 1, 1) := by decide +kernel
theorem dX0_takeOver_79 : decode cX0_takeOver 79 = .ok (.getfield 21, 3) := by decide +kernel
theorem dX0_takeOver_82 : decode cX0_takeOver 82 = .ok (.putfield 21, 3) := by decide +kernel
theorem dX0_takeOver_85 : decode cX0_takeOver 85 = .ok (.return_, 1) := by decide +kernel
theorem dX0_putRight_0 : decode cX0_putRight 0 = .ok (.iconst 0, 1) := by decide +kernel
theorem dX0_putRight_1 : decode cX0_putRight 1 = .ok (.istore_n 1, 1) := by decide +kernel
theorem dX0_putRight_2 : decode cX0_putRight 2 = .ok (.iload_n 1, 1) := by decide +kernel
theorem dX0_putRight_3 : decode cX0_putRight 3 = .ok (.bipush 10, 2) := by decide +kernel
theorem dX0_putRight_5 : decode cX0_putRight 5 = .ok (.if_icmp .ge 16, 3) := by decide +kernel
theorem dX0_putRight_8 : decode cX0_putRight 8 = .ok (.aload_n 0, 1) := by decide +kernel
theorem dX0_putRight_9 : decode cX0_putRight 9 = .ok (.getfield 9, 3) := by decide +kernel
theorem dX0_putRight_12 : decode cX0_putRight 12 = .ok (.iload_n 1, 1) := by decide +kernel
theorem dX0_putRight_13 : decode cX0_putRight 13 = .ok (.iload_n 1, 1) := by decide +kernel
theorem dX0_putRight_14 : decode cX0_putRight 14 = .ok (.iastore, 1) := by decide +kernel
theorem dX0_putRight_15 : decode cX0_putRight 15 = .ok (.iinc 1 1, 3) := by decide +kernel
theorem dX0_putRight_18 : decode cX0_putRight 18 = .ok (.goto (-16), 3) := by decide +kernel
theorem dX0_putRight_21 : decode cX0_putRight 21 = .ok (.return_, 1) := by decide +kernel
theorem dX0_strangers_0 : decode cX0_strangers 0 = .ok (.iconst 0, 1) := by decide +kernel
theorem dX0_strangers_1 : decode cX0_strangers 1 = .ok (.istore_n 1, 1) := by decide +kernel
theorem dX0_strangers_2 : decode cX0_strangers 2 = .ok (.iconst 0, 1) := by decide +kernel
theorem dX0_strangers_3 : decode cX0_strangers 3 = .ok (.istore_n 2, 1) := by decide +kernel
theorem dX0_strangers_4 : decode cX0_strangers 4 = .ok (.iload_n 2, 1) := by decide +kernel
theorem dX0_strangers_5 : decode cX0_strangers 5 = .ok (.bipush 10, 2) := by decide +kernel
theorem dX0_strangers_7 : decode cX0_strangers 7 = .ok (.if_icmp .ge 22, 3) := by decide +kernel
theorem dX0_strangers_10 : decode cX0_strangers 10 = .ok (.aload_n 0, 1) := by decide +kernel
theorem dX0_strangers_11 : decode cX0_strangers 11 = .ok (.getfield 9, 3) := by decide +kernel
theorem dX0_strangers_14 : decode cX0_strangers 14 = .ok (.iload_n 2, 1) := by decide +kernel
theorem dX0_strangers_15 : decode cX0_strangers 15 = .ok (.iaload, 1) := by decide +kernel
theorem dX0_strangers_16 : decode cX0_strangers 16 = .ok (.iload_n 2, 1) := by decide +kernel
theorem dX0_strangers_17 : decode cX0_strangers 17 = .ok (.if_icmp .eq 6, 3) := by decide +kernel
theorem dX0_strangers_20 : decode cX0_strangers 20 = .ok (.iinc 1 1, 3) := by decide +kernel
theorem dX0_strangers_23 : decode cX0_strangers 23 = .ok (.iinc 2 1, 3) := by decide +kernel
theorem dX0_strangers_26 : decode cX0_strangers 26 = .ok (.goto (-22), 3) := by decide +kernel
theorem dX0_strangers_29 : decode cX0_strangers 29 = .ok (.iload_n 1, 1) := by decide +kernel
theorem dX0_strangers_30 : decode cX0_strangers 30 = .ok (.ireturn, 1) := by decide +kernel
theorem dX0_basketHere_0 : decode cX0_basketHere 0 = .ok (.aload_n 0, 1) := by decide +kernel
theorem dX0_basketHere_1 : decode cX0_basketHere 1 = .ok (.getfield 9, 3) := by decide +kernel
theorem dX0_basketHere_4 : decode cX0_basketHere 4 = .ok (.aload_n 0, 1) := by decide +kernel
theorem dX0_basketHere_5 : decode cX0_basketHere 5 = .ok (.getfield 31, 3) := by decide +kernel
theorem dX0_basketHere_8 : decode cX0_basketHere 8 = .ok (.iaload, 1) := by decide +kernel
theorem dX0_basketHere_9 : decode cX0_basketHere 9 = .ok (.ireturn, 1) := by decide +kernel
theorem dX0_whyNot_0 : decode cX0_whyNot 0 = .ok (.iload_n 1, 1) := by decide +kernel
theorem dX0_whyNot_1 : decode cX0_whyNot 1 = .ok (.lookupswitch 143 #[(43, 91), (45, 110), (61, 129), (63, 77), (65, 51)], 51) := by decide +kernel
theorem dX0_whyNot_52 : decode cX0_whyNot 52 = .ok (.iload_n 2, 1) := by decide +kernel
theorem dX0_whyNot_53 : decode cX0_whyNot 53 = .ok (.aload_n 0, 1) := by decide +kernel
theorem dX0_whyNot_54 : decode cX0_whyNot 54 = .ok (.getfield 31, 3) := by decide +kernel
theorem dX0_whyNot_57 : decode cX0_whyNot 57 = .ok (.if_icmp .ne 7, 3) := by decide +kernel
theorem dX0_whyNot_60 : decode cX0_whyNot 60 = .ok (.iconst 1, 1) := by decide +kernel
theorem dX0_whyNot_61 : decode cX0_whyNot 61 = .ok (.goto 16, 3) := by decide +kernel
theorem dX0_whyNot_64 : decode cX0_whyNot 64 = .ok (.aload_n 0, 1) := by decide +kernel
theorem dX0_whyNot_65 : decode cX0_whyNot 65 = .ok (.iload_n 2, 1) := by decide +kernel
theorem dX0_whyNot_66 : decode cX0_whyNot 66 = .ok (.aload_n 0, 1) := by decide +kernel
theorem dX0_whyNot_67 : decode cX0_whyNot 67 = .ok (.getfield 31, 3) := by decide +kernel
theorem dX0_whyNot_70 : decode cX0_whyNot 70 = .ok (.isub, 1) := by decide +kernel
theorem dX0_whyNot_71 : decode cX0_whyNot 71 = .ok (.invokestatic 43, 3) := by decide +kernel
theorem dX0_whyNot_74 : decode cX0_whyNot 74 = .ok (.invokevirtual 49, 3) := by decide +kernel
theorem dX0_whyNot_77 : decode cX0_whyNot 77 = .ok (.ireturn, 1) := by decide +kernel
theorem dX0_whyNot_78 : decode cX0_whyNot 78 = .ok (.aload_n 0, 1) := by decide +kernel
theorem dX0_whyNot_79 : decode cX0_whyNot 79 = .ok (.aload_n 0, 1) := by decide +kernel
theorem dX0_whyNot_80 : decode cX0_whyNot 80 = .ok (.getfield 18, 3) := by decide +kernel
theorem dX0_whyNot_83 : decode cX0_whyNot 83 = .ok (.aload_n 0, 1) := by decide +kernel
theorem dX0_whyNot_84 : decode cX0_whyNot 84 = .ok (.invokevirtual 52, 3) := by decide +kernel
theorem dX0_whyNot_87 : decode cX0_whyNot 87 = .ok (.iaload, 1) := by decide +kernel
theorem dX0_whyNot_88 : decode cX0_whyNot 88 = .ok (.invokevirtual 49, 3) := by decide +kernel
theorem dX0_whyNot_91 : decode cX0_whyNot 91 = .ok (.ireturn, 1) := by decide +kernel
theorem dX0_whyNot_92 : decode cX0_whyNot 92 = .ok (.aload_n 0, 1) := by decide +kernel
theorem dX0_whyNot_93 : decode cX0_whyNot 93 = .ok (.aload_n 0, 1) := by decide +kernel
theorem dX0_whyNot_94 : decode cX0_whyNot 94 = .ok (.getfield 34, 3) := by decide +kernel
theorem dX0_whyNot_97 : decode cX0_whyNot 97 = .ok (.aload_n 0, 1) := by decide +kernel
theorem dX0_whyNot_98 : decode cX0_whyNot 98 = .ok (.getfield 15, 3) := by decide +kernel
theorem dX0_whyNot_101 : decode cX0_whyNot 101 = .ok (.aload_n 0, 1) := by decide +kernel
theorem dX0_whyNot_102 : decode cX0_whyNot 102 = .ok (.invokevirtual 52, 3) := by decide +kernel
theorem dX0_whyNot_105 : decode cX0_whyNot 105 = .ok (.iaload, 1) := by decide +kernel
theorem dX0_whyNot_106 : decode cX0_whyNot 106 = .ok (.iload_n 2, 1) := by decide +kernel
theorem dX0_whyNot_107 : decode cX0_whyNot 107 = .ok (.invokevirtual 56, 3) := by decide +kernel
theorem dX0_whyNot_110 : decode cX0_whyNot 110 = .ok (.ireturn, 1) := by decide +kernel
theorem dX0_whyNot_111 : decode cX0_whyNot 111 = .ok (.aload_n 0, 1) := by decide +kernel
theorem dX0_whyNot_112 : decode cX0_whyNot 112 = .ok (.aload_n 0, 1) := by decide +kernel
theorem dX0_whyNot_113 : decode cX0_whyNot 113 = .ok (.getfield 15, 3) := by decide +kernel
theorem dX0_whyNot_116 : decode cX0_whyNot 116 = .ok (.aload_n 0, 1) := by decide +kernel
theorem dX0_whyNot_117 : decode cX0_whyNot 117 = .ok (.invokevirtual 52, 3) := by decide +kernel
theorem dX0_whyNot_120 : decode cX0_whyNot 120 = .ok (.iaload, 1) := by decide +kernel
theorem dX0_whyNot_121 : decode cX0_whyNot 121 = .ok (.aload_n 0, 1) := by decide +kernel
theorem dX0_whyNot_122 : decode cX0_whyNot 122 = .ok (.getfield 34, 3) := by decide +kernel
theorem dX0_whyNot_125 : decode cX0_whyNot 125 = .ok (.iload_n 2, 1) := by decide +kernel
theorem dX0_whyNot_126 : decode cX0_whyNot 126 = .ok (.invokevirtual 56, 3) := by decide +kernel
theorem dX0_whyNot_129 : decode cX0_whyNot 129 = .ok (.ireturn, 1) := by decide +kernel
theorem dX0_whyNot_130 : decode cX0_whyNot 130 = .ok (.iload_n 2, 1) := by decide +kernel
theorem dX0_whyNot_131 : decode cX0_whyNot 131 = .ok (.aload_n 0, 1) := by decide +kernel
theorem dX0_whyNot_132 : decode cX0_whyNot 132 = .ok (.getfield 31, 3) := by decide +kernel
theorem dX0_whyNot_135 : decode cX0_whyNot 135 = .ok (.if_icmp .ne 7, 3) := by decide +kernel
theorem dX0_whyNot_138 : decode cX0_whyNot 138 = .ok (.iconst 1, 1) := by decide +kernel
theorem dX0_whyNot_139 : decode cX0_whyNot 139 = .ok (.goto 4, 3) := by decide +kernel
theorem dX0_whyNot_142 : decode cX0_whyNot 142 = .ok (.iconst 0, 1) := by decide +kernel
theorem dX0_whyNot_143 : decode cX0_whyNot 143 = .ok (.ireturn, 1) := by decide +kernel
theorem dX0_whyNot_144 : decode cX0_whyNot 144 = .ok (.aload_n 0, 1) := by decide +kernel
theorem dX0_whyNot_145 : decode cX0_whyNot 145 = .ok (.iconst 1, 1) := by decide +kernel
theorem dX0_whyNot_146 : decode cX0_whyNot 146 = .ok (.invokevirtual 49, 3) := by decide +kernel
theorem dX0_whyNot_149 : decode cX0_whyNot 149 = .ok (.ireturn, 1) := by decide +kernel
theorem dX0_whyNotMoved_0 : decode cX0_whyNotMoved 0 = .ok (.iload_n 1, 1) := by decide +kernel
theorem dX0_whyNotMoved_1 : decode cX0_whyNotMoved 1 = .ok (.iload_n 3, 1) := by decide +kernel
theorem dX0_whyNotMoved_2 : decode cX0_whyNotMoved 2 = .ok (.invokestatic 60, 3) := by decide +kernel
theorem dX0_whyNotMoved_5 : decode cX0_whyNotMoved 5 = .ok (.ifCond .ne 5, 3) := by decide +kernel
theorem dX0_whyNotMoved_8 : decode cX0_whyNotMoved 8 = .ok (.iconst 2, 1) := by decide +kernel
theorem dX0_whyNotMoved_9 : decode cX0_whyNotMoved 9 = .ok (.ireturn, 1) := by decide +kernel
theorem dX0_whyNotMoved_10 : decode cX0_whyNotMoved 10 = .ok (.iload_n 2, 1) := by decide +kernel
theorem dX0_whyNotMoved_11 : decode cX0_whyNotMoved 11 = .ok (.iload_n 3, 1) := by decide +kernel
theorem dX0_whyNotMoved_12 : decode cX0_whyNotMoved 12 = .ok (.invokestatic 60, 3) := by decide +kernel
theorem dX0_whyNotMoved_15 : decode cX0_whyNotMoved 15 = .ok (.ifCond .eq 7, 3) := by decide +kernel
theorem dX0_whyNotMoved_18 : decode cX0_whyNotMoved 18 = .ok (.iconst 3, 1) := by decide +kernel
theorem dX0_whyNotMoved_19 : decode cX0_whyNotMoved 19 = .ok (.goto 4, 3) := by decide +kernel
theorem dX0_whyNotMoved_22 : decode cX0_whyNotMoved 22 = .ok (.iconst 0, 1) := by decide +kernel
theorem dX0_whyNotMoved_23 : decode cX0_whyNotMoved 23 = .ok (.ireturn, 1) := by decide +kernel
theorem dX0_whyTooLate_0 : decode cX0_whyTooLate 0 = .ok (.aload_n 0, 1) := by decide +kernel
theorem dX0_whyTooLate_1 : decode cX0_whyTooLate 1 = .ok (.getfield 40, 3) := by decide +kernel
theorem dX0_whyTooLate_4 : decode cX0_whyTooLate 4 = .ok (.iload_n 1, 1) := by decide +kernel
theorem dX0_whyTooLate_5 : decode cX0_whyTooLate 5 = .ok (.iadd, 1) := by decide +kernel
theorem dX0_whyTooLate_6 : decode cX0_whyTooLate 6 = .ok (.aload_n 0, 1) := by decide +kernel
theorem dX0_whyTooLate_7 : decode cX0_whyTooLate 7 = .ok (.getfield 21, 3) := by decide +kernel
theorem dX0_whyTooLate_10 : decode cX0_whyTooLate 10 = .ok (.if_icmp .le 7, 3) := by decide +kernel
theorem dX0_whyTooLate_13 : decode cX0_whyTooLate 13 = .ok (.iconst 4, 1) := by decide +kernel
theorem dX0_whyTooLate_14 : decode cX0_whyTooLate 14 = .ok (.goto 4, 3) := by decide +kernel
theorem dX0_whyTooLate_17 : decode cX0_whyTooLate 17 = .ok (.iconst 0, 1) := by decide +kernel
theorem dX0_whyTooLate_18 : decode cX0_whyTooLate 18 = .ok (.ireturn, 1) := by decide +kernel
theorem dX0_perform_0 : decode cX0_perform 0 = .ok (.aload_n 0, 1) := by decide +kernel
theorem dX0_perform_1 : decode cX0_perform 1 = .ok (.invokevirtual 52, 3) := by decide +kernel
theorem dX0_perform_4 : decode cX0_perform 4 = .ok (.istore_n 3, 1) := by decide +kernel
theorem dX0_perform_5 : decode cX0_perform 5 = .ok (.iload_n 1, 1) := by decide +kernel
theorem dX0_perform_6 : decode cX0_perform 6 = .ok (.lookupswitch 204 #[(43, 109), (45, 138), (61, 179), (63, 76), (65, 50)], 50) := by decide +kernel
theorem dX0_perform_56 : decode cX0_perform 56 = .ok (.aload_n 0, 1) := by decide +kernel
theorem dX0_perform_57 : decode cX0_perform 57 = .ok (.dup, 1) := by decide +kernel
theorem dX0_perform_58 : decode cX0_perform 58 = .ok (.getfield 40, 3) := by decide +kernel
theorem dX0_perform_61 : decode cX0_perform 61 = .ok (.iload_n 2, 1) := by decide +kernel
theorem dX0_perform_62 : decode cX0_perform 62 = .ok (.aload_n 0, 1) := by decide +kernel
theorem dX0_perform_63 : decode cX0_perform 63 = .ok (.getfield 31, 3) := by decide +kernel
theorem dX0_perform_66 : decode cX0_perform 66 = .ok (.isub, 1) := by decide +kernel
theorem dX0_perform_67 : decode cX0_perform 67 = .ok (.invokestatic 43, 3) := by decide +kernel
theorem dX0_perform_70 : decode cX0_perform 70 = .ok (.iadd, 1) := by decide +kernel
theorem dX0_perform_71 : decode cX0_perform 71 = .ok (.putfield 40, 3) := by decide +kernel
theorem dX0_perform_74 : decode cX0_perform 74 = .ok (.aload_n 0, 1) := by decide +kernel
theorem dX0_perform_75 : decode cX0_perform 75 = .ok (.iload_n 2, 1) := by decide +kernel
theorem dX0_perform_76 : decode cX0_perform 76 = .ok (.putfield 31, 3) := by decide +kernel
theorem dX0_perform_79 : decode cX0_perform 79 = .ok (.goto 141, 3) := by decide +kernel
theorem dX0_perform_82 : decode cX0_perform 82 = .ok (.aload_n 0, 1) := by decide +kernel
theorem dX0_perform_83 : decode cX0_perform 83 = .ok (.dup, 1) := by decide +kernel
theorem dX0_perform_84 : decode cX0_perform 84 = .ok (.getfield 40, 3) := by decide +kernel
theorem dX0_perform_87 : decode cX0_perform 87 = .ok (.aload_n 0, 1) := by decide +kernel
theorem dX0_perform_88 : decode cX0_perform 88 = .ok (.getfield 18, 3) := by decide +kernel
theorem dX0_perform_91 : decode cX0_perform 91 = .ok (.iload_n 3, 1) := by decide +kernel
theorem dX0_perform_92 : decode cX0_perform 92 = .ok (.iaload, 1) := by decide +kernel
theorem dX0_perform_93 : decode cX0_perform 93 = .ok (.iadd, 1) := by decide +kernel
theorem dX0_perform_94 : decode cX0_perform 94 = .ok (.putfield 40, 3) := by decide +kernel
theorem dX0_perform_97 : decode cX0_perform 97 = .ok (.aload_n 0, 1) := by decide +kernel
theorem dX0_perform_98 : decode cX0_perform 98 = .ok (.dup, 1) := by decide +kernel
theorem dX0_perform_99 : decode cX0_perform 99 = .ok (.getfield 37, 3) := by decide +kernel
theorem dX0_perform_102 : decode cX0_perform 102 = .ok (.aload_n 0, 1) := by decide +kernel
theorem dX0_perform_103 : decode cX0_perform 103 = .ok (.getfield 15, 3) := by decide +kernel
theorem dX0_perform_106 : decode cX0_perform 106 = .ok (.iload_n 3, 1) := by decide +kernel
theorem dX0_perform_107 : decode cX0_perform 107 = .ok (.iaload, 1) := by decide +kernel
theorem dX0_perform_108 : decode cX0_perform 108 = .ok (.ior, 1) := by decide +kernel
theorem dX0_perform_109 : decode cX0_perform 109 = .ok (.putfield 37, 3) := by decide +kernel
theorem dX0_perform_112 : decode cX0_perform 112 = .ok (.goto 108, 3) := by decide +kernel
theorem dX0_perform_115 : decode cX0_perform 115 = .ok (.aload_n 0, 1) := by decide +kernel
theorem dX0_perform_116 : decode cX0_perform 116 = .ok (.dup, 1) := by decide +kernel
theorem dX0_perform_117 : decode cX0_perform 117 = .ok (.getfield 34, 3) := by decide +kernel
theorem dX0_perform_120 : decode cX0_perform 120 = .ok (.iconst 1, 1) := by decide +kernel
theorem dX0_perform_121 : decode cX0_perform 121 = .ok (.iload_n 2, 1) := by decide +kernel
theorem dX0_perform_122 : decode cX0_perform 122 = .ok (.ishl, 1) := by decide +kernel
theorem dX0_perform_123 : decode cX0_perform 123 = .ok (.iconst (-1), 1) := by decide +kernel
theorem dX0_perform_124 : decode cX0_perform 124 = .ok (.ixor, 1) := by decide +kernel
theorem dX0_perform_125 : decode cX0_perform 125 = .ok (.iand, 1) := by decide +kernel
theorem dX0_perform_126 : decode cX0_perform 126 = .ok (.putfield 34, 3) := by decide +kernel
theorem dX0_perform_129 : decode cX0_perform 129 = .ok (.aload_n 0, 1) := by decide +kernel
theorem dX0_perform_130 : decode cX0_perform 130 = .ok (.getfield 15, 3) := by decide +kernel
theorem dX0_perform_133 : decode cX0_perform 133 = .ok (.iload_n 3, 1) := by decide +kernel
theorem dX0_perform_134 : decode cX0_perform 134 = .ok (.dup2, 1) := by decide +kernel
theorem dX0_perform_135 : decode cX0_perform 135 = .ok (.iaload, 1) := by decide +kernel
theorem dX0_perform_136 : decode cX0_perform 136 = .ok (.iconst 1, 1) := by decide +kernel
theorem dX0_perform_137 : decode cX0_perform 137 = .ok (.iload_n 2, 1) := by decide +kernel
theorem dX0_perform_138 : decode cX0_perform 138 = .ok (.ishl, 1) := by decide +kernel
theorem dX0_perform_139 : decode cX0_perform 139 = .ok (.ior, 1) := by decide +kernel
theorem dX0_perform_140 : decode cX0_perform 140 = .ok (.iastore, 1) := by decide +kernel
theorem dX0_perform_141 : decode cX0_perform 141 = .ok (.goto 79, 3) := by decide +kernel
theorem dX0_perform_144 : decode cX0_perform 144 = .ok (.aload_n 0, 1) := by decide +kernel
theorem dX0_perform_145 : decode cX0_perform 145 = .ok (.getfield 15, 3) := by decide +kernel
theorem dX0_perform_148 : decode cX0_perform 148 = .ok (.iload_n 3, 1) := by decide +kernel
theorem dX0_perform_149 : decode cX0_perform 149 = .ok (.dup2, 1) := by decide +kernel
theorem dX0_perform_150 : decode cX0_perform 150 = .ok (.iaload, 1) := by decide +kernel
theorem dX0_perform_151 : decode cX0_perform 151 = .ok (.iconst 1, 1) := by decide +kernel
theorem dX0_perform_152 : decode cX0_perform 152 = .ok (.iload_n 2, 1) := by decide +kernel
theorem dX0_perform_153 : decode cX0_perform 153 = .ok (.ishl, 1) := by decide +kernel
theorem dX0_perform_154 : decode cX0_perform 154 = .ok (.iconst (-1), 1) := by decide +kernel
theorem dX0_perform_155 : decode cX0_perform 155 = .ok (.ixor, 1) := by decide +kernel
theorem dX0_perform_156 : decode cX0_perform 156 = .ok (.iand, 1) := by decide +kernel
theorem dX0_perform_157 : decode cX0_perform 157 = .ok (.iastore, 1) := by decide +kernel
theorem dX0_perform_158 : decode cX0_perform 158 = .ok (.aload_n 0, 1) := by decide +kernel
theorem dX0_perform_159 : decode cX0_perform 159 = .ok (.dup, 1) := by decide +kernel
theorem dX0_perform_160 : decode cX0_perform 160 = .ok (.getfield 34, 3) := by decide +kernel
theorem dX0_perform_163 : decode cX0_perform 163 = .ok (.iconst 1, 1) := by decide +kernel
theorem dX0_perform_164 : decode cX0_perform 164 = .ok (.iload_n 2, 1) := by decide +kernel
theorem dX0_perform_165 : decode cX0_perform 165 = .ok (.ishl, 1) := by decide +kernel
theorem dX0_perform_166 : decode cX0_perform 166 = .ok (.ior, 1) := by decide +kernel
theorem dX0_perform_167 : decode cX0_perform 167 = .ok (.putfield 34, 3) := by decide +kernel
theorem dX0_perform_170 : decode cX0_perform 170 = .ok (.aload_n 0, 1) := by decide +kernel
theorem dX0_perform_171 : decode cX0_perform 171 = .ok (.dup, 1) := by decide +kernel
theorem dX0_perform_172 : decode cX0_perform 172 = .ok (.getfield 37, 3) := by decide +kernel
theorem dX0_perform_175 : decode cX0_perform 175 = .ok (.iconst 1, 1) := by decide +kernel
theorem dX0_perform_176 : decode cX0_perform 176 = .ok (.iload_n 2, 1) := by decide +kernel
theorem dX0_perform_177 : decode cX0_perform 177 = .ok (.ishl, 1) := by decide +kernel
theorem dX0_perform_178 : decode cX0_perform 178 = .ok (.ior, 1) := by decide +kernel
theorem dX0_perform_179 : decode cX0_perform 179 = .ok (.putfield 37, 3) := by decide +kernel
theorem dX0_perform_182 : decode cX0_perform 182 = .ok (.goto 38, 3) := by decide +kernel
theorem dX0_perform_185 : decode cX0_perform 185 = .ok (.aload_n 0, 1) := by decide +kernel
theorem dX0_perform_186 : decode cX0_perform 186 = .ok (.getfield 9, 3) := by decide +kernel
theorem dX0_perform_189 : decode cX0_perform 189 = .ok (.aload_n 0, 1) := by decide +kernel
theorem dX0_perform_190 : decode cX0_perform 190 = .ok (.getfield 31, 3) := by decide +kernel
theorem dX0_perform_193 : decode cX0_perform 193 = .ok (.aload_n 0, 1) := by decide +kernel
theorem dX0_perform_194 : decode cX0_perform 194 = .ok (.getfield 9, 3) := by decide +kernel
theorem dX0_perform_197 : decode cX0_perform 197 = .ok (.iload_n 2, 1) := by decide +kernel
theorem dX0_perform_198 : decode cX0_perform 198 = .ok (.iaload, 1) := by decide +kernel
theorem dX0_perform_199 : decode cX0_perform 199 = .ok (.iastore, 1) := by decide +kernel
theorem dX0_perform_200 : decode cX0_perform 200 = .ok (.aload_n 0, 1) := by decide +kernel
theorem dX0_perform_201 : decode cX0_perform 201 = .ok (.getfield 9, 3) := by decide +kernel
theorem dX0_perform_204 : decode cX0_perform 204 = .ok (.iload_n 2, 1) := by decide +kernel
theorem dX0_perform_205 : decode cX0_perform 205 = .ok (.iload_n 3, 1) := by decide +kernel
theorem dX0_perform_206 : decode cX0_perform 206 = .ok (.iastore, 1) := by decide +kernel
theorem dX0_perform_207 : decode cX0_perform 207 = .ok (.goto 13, 3) := by decide +kernel
theorem dX0_perform_210 : decode cX0_perform 210 = .ok (.aload_n 0, 1) := by decide +kernel
theorem dX0_perform_211 : decode cX0_perform 211 = .ok (.dup, 1) := by decide +kernel
theorem dX0_perform_212 : decode cX0_perform 212 = .ok (.getfield 40, 3) := by decide +kernel
theorem dX0_perform_215 : decode cX0_perform 215 = .ok (.iconst 1, 1) := by decide +kernel
theorem dX0_perform_216 : decode cX0_perform 216 = .ok (.iadd, 1) := by decide +kernel
theorem dX0_perform_217 : decode cX0_perform 217 = .ok (.putfield 40, 3) := by decide +kernel
theorem dX0_perform_220 : decode cX0_perform 220 = .ok (.return_, 1) := by decide +kernel
theorem dX1_init_0 : decode cX1_init 0 = .ok (.aload_n 0, 1) := by decide +kernel
theorem dX1_init_1 : decode cX1_init 1 = .ok (.invokespecial 3, 3) := by decide +kernel
theorem dX1_init_4 : decode cX1_init 4 = .ok (.aload_n 0, 1) := by decide +kernel
theorem dX1_init_5 : decode cX1_init 5 = .ok (.sipush 1024, 3) := by decide +kernel
theorem dX1_init_8 : decode cX1_init 8 = .ok (.newarray .int, 2) := by decide +kernel
theorem dX1_init_10 : decode cX1_init 10 = .ok (.putfield 9, 3) := by decide +kernel
theorem dX1_init_13 : decode cX1_init 13 = .ok (.return_, 1) := by decide +kernel
theorem dX1_planRound_0 : decode cX1_planRound 0 = .ok (.aload_n 0, 1) := by decide +kernel
theorem dX1_planRound_1 : decode cX1_planRound 1 = .ok (.aload_n 1, 1) := by decide +kernel
theorem dX1_planRound_2 : decode cX1_planRound 2 = .ok (.invokevirtual 15, 3) := by decide +kernel
theorem dX1_planRound_5 : decode cX1_planRound 5 = .ok (.aload_n 0, 1) := by decide +kernel
theorem dX1_planRound_6 : decode cX1_planRound 6 = .ok (.bipush (-6), 2) := by decide +kernel
theorem dX1_planRound_8 : decode cX1_planRound 8 = .ok (.putfield 19, 3) := by decide +kernel
theorem dX1_planRound_11 : decode cX1_planRound 11 = .ok (.aload_n 0, 1) := by decide +kernel
theorem dX1_planRound_12 : decode cX1_planRound 12 = .ok (.bipush (-6), 2) := by decide +kernel
theorem dX1_planRound_14 : decode cX1_planRound 14 = .ok (.putfield 23, 3) := by decide +kernel
theorem dX1_planRound_17 : decode cX1_planRound 17 = .ok (.aload_n 1, 1) := by decide +kernel
theorem dX1_planRound_18 : decode cX1_planRound 18 = .ok (.getfield 26, 3) := by decide +kernel
theorem dX1_planRound_21 : decode cX1_planRound 21 = .ok (.aload_n 1, 1) := by decide +kernel
theorem dX1_planRound_22 : decode cX1_planRound 22 = .ok (.getfield 31, 3) := by decide +kernel
theorem dX1_planRound_25 : decode cX1_planRound 25 = .ok (.isub, 1) := by decide +kernel
theorem dX1_planRound_26 : decode cX1_planRound 26 = .ok (.istore_n 3, 1) := by decide +kernel
theorem dX1_planRound_27 : decode cX1_planRound 27 = .ok (.iconst 0, 1) := by decide +kernel
theorem dX1_planRound_28 : decode cX1_planRound 28 = .ok (.istore 4, 2) := by decide +kernel
theorem dX1_planRound_30 : decode cX1_planRound 30 = .ok (.iload 4, 2) := by decide +kernel
theorem dX1_planRound_32 : decode cX1_planRound 32 = .ok (.sipush 1024, 3) := by decide +kernel
theorem dX1_planRound_35 : decode cX1_planRound 35 = .ok (.if_icmp .ge 59, 3) := by decide +kernel
theorem dX1_planRound_38 : decode cX1_planRound 38 = .ok (.iload 4, 2) := by decide +kernel
theorem dX1_planRound_40 : decode cX1_planRound 40 = .ok (.invokestatic 34, 3) := by decide +kernel
theorem dX1_planRound_43 : decode cX1_planRound 43 = .ok (.istore 5, 2) := by decide +kernel
theorem dX1_planRound_45 : decode cX1_planRound 45 = .ok (.iload 5, 2) := by decide +kernel
theorem dX1_planRound_47 : decode cX1_planRound 47 = .ok (.aload_n 0, 1) := by decide +kernel
theorem dX1_planRound_48 : decode cX1_planRound 48 = .ok (.getfield 19, 3) := by decide +kernel
theorem dX1_planRound_51 : decode cX1_planRound 51 = .ok (.if_icmp .le 37, 3) := by decide +kernel
theorem dX1_planRound_54 : decode cX1_planRound 54 = .ok (.aload_n 0, 1) := by decide +kernel
theorem dX1_planRound_55 : decode cX1_planRound 55 = .ok (.getfield 9, 3) := by decide +kernel
theorem dX1_planRound_58 : decode cX1_planRound 58 = .ok (.iload 4, 2) := by decide +kernel
theorem dX1_planRound_60 : decode cX1_planRound 60 = .ok (.iaload, 1) := by decide +kernel
theorem dX1_planRound_61 : decode cX1_planRound 61 = .ok (.iload 4, 2) := by decide +kernel
theorem dX1_planRound_63 : decode cX1_planRound 63 = .ok (.aload_n 1, 1) := by decide +kernel
theorem dX1_planRound_64 : decode cX1_planRound 64 = .ok (.getfield 40, 3) := by decide +kernel
theorem dX1_planRound_67 : decode cX1_planRound 67 = .ok (.iload_n 2, 1) := by decide +kernel
theorem dX1_planRound_68 : decode cX1_planRound 68 = .ok (.invokestatic 43, 3) := by decide +kernel
theorem dX1_planRound_71 : decode cX1_planRound 71 = .ok (.iadd, 1) := by decide +kernel
theorem dX1_planRound_72 : decode cX1_planRound 72 = .ok (.iload_n 3, 1) := by decide +kernel
theorem dX1_planRound_73 : decode cX1_planRound 73 = .ok (.if_icmp .gt 15, 3) := by decide +kernel
theorem dX1_planRound_76 : decode cX1_planRound 76 = .ok (.aload_n 0, 1) := by decide +kernel
theorem dX1_planRound_77 : decode cX1_planRound 77 = .ok (.iload 5, 2) := by decide +kernel
theorem dX1_planRound_79 : decode cX1_planRound 79 = .ok (.putfield 19, 3) := by decide +kernel
theorem dX1_planRound_82 : decode cX1_planRound 82 = .ok (.aload_n 0, 1) := by decide +kernel
theorem dX1_planRound_83 : decode cX1_planRound 83 = .ok (.iload 4, 2) := by decide +kernel
theorem dX1_planRound_85 : decode cX1_planRound 85 = .ok (.putfield 23, 3) := by decide +kernel
theorem dX1_planRound_88 : decode cX1_planRound 88 = .ok (.iinc 4 1, 3) := by decide +kernel
theorem dX1_planRound_91 : decode cX1_planRound 91 = .ok (.goto (-61), 3) := by decide +kernel
theorem dX1_planRound_94 : decode cX1_planRound 94 = .ok (.return_, 1) := by decide +kernel
theorem dX1_sumMinutes_0 : decode cX1_sumMinutes 0 = .ok (.aload_n 0, 1) := by decide +kernel
theorem dX1_sumMinutes_1 : decode cX1_sumMinutes 1 = .ok (.getfield 9, 3) := by decide +kernel
theorem dX1_sumMinutes_4 : decode cX1_sumMinutes 4 = .ok (.iconst 0, 1) := by decide +kernel
theorem dX1_sumMinutes_5 : decode cX1_sumMinutes 5 = .ok (.iconst 0, 1) := by decide +kernel
theorem dX1_sumMinutes_6 : decode cX1_sumMinutes 6 = .ok (.iastore, 1) := by decide +kernel
theorem dX1_sumMinutes_7 : decode cX1_sumMinutes 7 = .ok (.iconst 0, 1) := by decide +kernel
theorem dX1_sumMinutes_8 : decode cX1_sumMinutes 8 = .ok (.istore_n 2, 1) := by decide +kernel
theorem dX1_sumMinutes_9 : decode cX1_sumMinutes 9 = .ok (.iload_n 2, 1) := by decide +kernel
theorem dX1_sumMinutes_10 : decode cX1_sumMinutes 10 = .ok (.bipush 10, 2) := by decide +kernel
theorem dX1_sumMinutes_12 : decode cX1_sumMinutes 12 = .ok (.if_icmp .ge 60, 3) := by decide +kernel
theorem dX1_sumMinutes_15 : decode cX1_sumMinutes 15 = .ok (.iconst 1, 1) := by decide +kernel
theorem dX1_sumMinutes_16 : decode cX1_sumMinutes 16 = .ok (.iload_n 2, 1) := by decide +kernel
theorem dX1_sumMinutes_17 : decode cX1_sumMinutes 17 = .ok (.ishl, 1) := by decide +kernel
theorem dX1_sumMinutes_18 : decode cX1_sumMinutes 18 = .ok (.istore_n 3, 1) := by decide +kernel
theorem dX1_sumMinutes_19 : decode cX1_sumMinutes 19 = .ok (.aload_n 1, 1) := by decide +kernel
theorem dX1_sumMinutes_20 : decode cX1_sumMinutes 20 = .ok (.getfield 47, 3) := by decide +kernel
theorem dX1_sumMinutes_23 : decode cX1_sumMinutes 23 = .ok (.aload_n 1, 1) := by decide +kernel
theorem dX1_sumMinutes_24 : decode cX1_sumMinutes 24 = .ok (.getfield 50, 3) := by decide +kernel
theorem dX1_sumMinutes_27 : decode cX1_sumMinutes 27 = .ok (.iload_n 2, 1) := by decide +kernel
theorem dX1_sumMinutes_28 : decode cX1_sumMinutes 28 = .ok (.iaload, 1) := by decide +kernel
theorem dX1_sumMinutes_29 : decode cX1_sumMinutes 29 = .ok (.iaload, 1) := by decide +kernel
theorem dX1_sumMinutes_30 : decode cX1_sumMinutes 30 = .ok (.istore 4, 2) := by decide +kernel
theorem dX1_sumMinutes_32 : decode cX1_sumMinutes 32 = .ok (.iconst 0, 1) := by decide +kernel
theorem dX1_sumMinutes_33 : decode cX1_sumMinutes 33 = .ok (.istore 5, 2) := by decide +kernel
theorem dX1_sumMinutes_35 : decode cX1_sumMinutes 35 = .ok (.iload 5, 2) := by decide +kernel
theorem dX1_sumMinutes_37 : decode cX1_sumMinutes 37 = .ok (.iload_n 3, 1) := by decide +kernel
theorem dX1_sumMinutes_38 : decode cX1_sumMinutes 38 = .ok (.if_icmp .ge 28, 3) := by decide +kernel
theorem dX1_sumMinutes_41 : decode cX1_sumMinutes 41 = .ok (.aload_n 0, 1) := by decide +kernel
theorem dX1_sumMinutes_42 : decode cX1_sumMinutes 42 = .ok (.getfield 9, 3) := by decide +kernel
theorem dX1_sumMinutes_45 : decode cX1_sumMinutes 45 = .ok (.iload_n 3, 1) := by decide +kernel
theorem dX1_sumMinutes_46 : decode cX1_sumMinutes 46 = .ok (.iload 5, 2) := by decide +kernel
theorem dX1_sumMinutes_48 : decode cX1_sumMinutes 48 = .ok (.ior, 1) := by decide +kernel
theorem dX1_sumMinutes_49 : decode cX1_sumMinutes 49 = .ok (.aload_n 0, 1) := by decide +kernel
theorem dX1_sumMinutes_50 : decode cX1_sumMinutes 50 = .ok (.getfield 9, 3) := by decide +kernel
theorem dX1_sumMinutes_53 : decode cX1_sumMinutes 53 = .ok (.iload 5, 2) := by decide +kernel
theorem dX1_sumMinutes_55 : decode cX1_sumMinutes 55 = .ok (.iaload, 1) := by decide +kernel
theorem dX1_sumMinutes_56 : decode cX1_sumMinutes 56 = .ok (.iload 4, 2) := by decide +kernel
theorem dX1_sumMinutes_58 : decode cX1_sumMinutes 58 = .ok (.iadd, 1) := by decide +kernel
theorem dX1_sumMinutes_59 : decode cX1_sumMinutes 59 = .ok (.iastore, 1) := by decide +kernel
theorem dX1_sumMinutes_60 : decode cX1_sumMinutes 60 = .ok (.iinc 5 1, 3) := by decide +kernel
theorem dX1_sumMinutes_63 : decode cX1_sumMinutes 63 = .ok (.goto (-28), 3) := by decide +kernel
theorem dX1_sumMinutes_66 : decode cX1_sumMinutes 66 = .ok (.iinc 2 1, 3) := by decide +kernel
theorem dX1_sumMinutes_69 : decode cX1_sumMinutes 69 = .ok (.goto (-60), 3) := by decide +kernel
theorem dX1_sumMinutes_72 : decode cX1_sumMinutes 72 = .ok (.return_, 1) := by decide +kernel
theorem dX1_walk_0 : decode cX1_walk 0 = .ok (.iload_n 0, 1) := by decide +kernel
theorem dX1_walk_1 : decode cX1_walk 1 = .ok (.iconst 1, 1) := by decide +kernel
theorem dX1_walk_2 : decode cX1_walk 2 = .ok (.iload_n 1, 1) := by decide +kernel
theorem dX1_walk_3 : decode cX1_walk 3 = .ok (.ishl, 1) := by decide +kernel
theorem dX1_walk_4 : decode cX1_walk 4 = .ok (.ior, 1) := by decide +kernel
theorem dX1_walk_5 : decode cX1_walk 5 = .ok (.iconst 1, 1) := by decide +kernel
theorem dX1_walk_6 : decode cX1_walk 6 = .ok (.iload_n 2, 1) := by decide +kernel
theorem dX1_walk_7 : decode cX1_walk 7 = .ok (.ishl, 1) := by decide +kernel
theorem dX1_walk_8 : decode cX1_walk 8 = .ok (.ior, 1) := by decide +kernel
theorem dX1_walk_9 : decode cX1_walk 9 = .ok (.istore_n 3, 1) := by decide +kernel
theorem dX1_walk_10 : decode cX1_walk 10 = .ok (.iconst 0, 1) := by decide +kernel
theorem dX1_walk_11 : decode cX1_walk 11 = .ok (.istore 4, 2) := by decide +kernel
theorem dX1_walk_13 : decode cX1_walk 13 = .ok (.iload 4, 2) := by decide +kernel
theorem dX1_walk_15 : decode cX1_walk 15 = .ok (.bipush 10, 2) := by decide +kernel
theorem dX1_walk_17 : decode cX1_walk 17 = .ok (.if_icmp .ge 18, 3) := by decide +kernel
theorem dX1_walk_20 : decode cX1_walk 20 = .ok (.iload_n 3, 1) := by decide +kernel
theorem dX1_walk_21 : decode cX1_walk 21 = .ok (.iload 4, 2) := by decide +kernel
theorem dX1_walk_23 : decode cX1_walk 23 = .ok (.invokestatic 53, 3) := by decide +kernel
theorem dX1_walk_26 : decode cX1_walk 26 = .ok (.ifCond .ne 9, 3) := by decide +kernel
theorem dX1_walk_29 : decode cX1_walk 29 = .ok (.iinc 4 1, 3) := by decide +kernel
theorem dX1_walk_32 : decode cX1_walk 32 = .ok (.goto (-19), 3) := by decide +kernel
theorem dX1_walk_35 : decode cX1_walk 35 = .ok (.bipush 9, 2) := by decide +kernel
theorem dX1_walk_37 : decode cX1_walk 37 = .ok (.istore 5, 2) := by decide +kernel
theorem dX1_walk_39 : decode cX1_walk 39 = .ok (.iload 5, 2) := by decide +kernel
theorem dX1_walk_41 : decode cX1_walk 41 = .ok (.ifCond .le 18, 3) := by decide +kernel
theorem dX1_walk_44 : decode cX1_walk 44 = .ok (.iload_n 3, 1) := by decide +kernel
theorem dX1_walk_45 : decode cX1_walk 45 = .ok (.iload 5, 2) := by decide +kernel
theorem dX1_walk_47 : decode cX1_walk 47 = .ok (.invokestatic 53, 3) := by decide +kernel
theorem dX1_walk_50 : decode cX1_walk 50 = .ok (.ifCond .ne 9, 3) := by decide +kernel
theorem dX1_walk_53 : decode cX1_walk 53 = .ok (.iinc 5 (-1), 3) := by decide +kernel
theorem dX1_walk_56 : decode cX1_walk 56 = .ok (.goto (-17), 3) := by decide +kernel
theorem dX1_walk_59 : decode cX1_walk 59 = .ok (.iload_n 1, 1) := by decide +kernel
theorem dX1_walk_60 : decode cX1_walk 60 = .ok (.iload 4, 2) := by decide +kernel
theorem dX1_walk_62 : decode cX1_walk 62 = .ok (.isub, 1) := by decide +kernel
theorem dX1_walk_63 : decode cX1_walk 63 = .ok (.iload 5, 2) := by decide +kernel
theorem dX1_walk_65 : decode cX1_walk 65 = .ok (.iadd, 1) := by decide +kernel
theorem dX1_walk_66 : decode cX1_walk 66 = .ok (.iload_n 2, 1) := by decide +kernel
theorem dX1_walk_67 : decode cX1_walk 67 = .ok (.isub, 1) := by decide +kernel
theorem dX1_walk_68 : decode cX1_walk 68 = .ok (.istore 6, 2) := by decide +kernel
theorem dX1_walk_70 : decode cX1_walk 70 = .ok (.iload 5, 2) := by decide +kernel
theorem dX1_walk_72 : decode cX1_walk 72 = .ok (.iload_n 1, 1) := by decide +kernel
theorem dX1_walk_73 : decode cX1_walk 73 = .ok (.isub, 1) := by decide +kernel
theorem dX1_walk_74 : decode cX1_walk 74 = .ok (.iload_n 2, 1) := by decide +kernel
theorem dX1_walk_75 : decode cX1_walk 75 = .ok (.iadd, 1) := by decide +kernel
theorem dX1_walk_76 : decode cX1_walk 76 = .ok (.iload 4, 2) := by decide +kernel
theorem dX1_walk_78 : decode cX1_walk 78 = .ok (.isub, 1) := by decide +kernel
theorem dX1_walk_79 : decode cX1_walk 79 = .ok (.istore 7, 2) := by decide +kernel
theorem dX1_walk_81 : decode cX1_walk 81 = .ok (.iload 5, 2) := by decide +kernel
theorem dX1_walk_83 : decode cX1_walk 83 = .ok (.iload 4, 2) := by decide +kernel
theorem dX1_walk_85 : decode cX1_walk 85 = .ok (.isub, 1) := by decide +kernel
theorem dX1_walk_86 : decode cX1_walk 86 = .ok (.iload 6, 2) := by decide +kernel
theorem dX1_walk_88 : decode cX1_walk 88 = .ok (.iload 7, 2) := by decide +kernel
theorem dX1_walk_90 : decode cX1_walk 90 = .ok (.invokestatic 57, 3) := by decide +kernel
theorem dX1_walk_93 : decode cX1_walk 93 = .ok (.iadd, 1) := by decide +kernel
theorem dX1_walk_94 : decode cX1_walk 94 = .ok (.ireturn, 1) := by decide +kernel
theorem dX1_uncover_0 : decode cX1_uncover 0 = .ok (.aload_n 0, 1) := by decide +kernel
theorem dX1_uncover_1 : decode cX1_uncover 1 = .ok (.aload_n 1, 1) := by decide +kernel
theorem dX1_uncover_2 : decode cX1_uncover 2 = .ok (.invokevirtual 63, 3) := by decide +kernel
theorem dX1_uncover_5 : decode cX1_uncover 5 = .ok (.aload_n 0, 1) := by decide +kernel
theorem dX1_uncover_6 : decode cX1_uncover 6 = .ok (.bipush (-6), 2) := by decide +kernel
theorem dX1_uncover_8 : decode cX1_uncover 8 = .ok (.putfield 19, 3) := by decide +kernel
theorem dX1_uncover_11 : decode cX1_uncover 11 = .ok (.aload_n 0, 1) := by decide +kernel
theorem dX1_uncover_12 : decode cX1_uncover 12 = .ok (.bipush (-6), 2) := by decide +kernel
theorem dX1_uncover_14 : decode cX1_uncover 14 = .ok (.putfield 23, 3) := by decide +kernel
theorem dX1_uncover_17 : decode cX1_uncover 17 = .ok (.iload_n 2, 1) := by decide +kernel
theorem dX1_uncover_18 : decode cX1_uncover 18 = .ok (.aload_n 1, 1) := by decide +kernel
theorem dX1_uncover_19 : decode cX1_uncover 19 = .ok (.getfield 66, 3) := by decide +kernel
theorem dX1_uncover_22 : decode cX1_uncover 22 = .ok (.iconst (-1), 1) := by decide +kernel
theorem dX1_uncover_23 : decode cX1_uncover 23 = .ok (.ixor, 1) := by decide +kernel
theorem dX1_uncover_24 : decode cX1_uncover 24 = .ok (.iand, 1) := by decide +kernel
theorem dX1_uncover_25 : decode cX1_uncover 25 = .ok (.istore_n 3, 1) := by decide +kernel
theorem dX1_uncover_26 : decode cX1_uncover 26 = .ok (.iconst 0, 1) := by decide +kernel
theorem dX1_uncover_27 : decode cX1_uncover 27 = .ok (.istore 4, 2) := by decide +kernel
theorem dX1_uncover_29 : decode cX1_uncover 29 = .ok (.iload 4, 2) := by decide +kernel
theorem dX1_uncover_31 : decode cX1_uncover 31 = .ok (.sipush 1024, 3) := by decide +kernel
theorem dX1_uncover_34 : decode cX1_uncover 34 = .ok (.if_icmp .ge 60, 3) := by decide +kernel
theorem dX1_uncover_37 : decode cX1_uncover 37 = .ok (.iload_n 3, 1) := by decide +kernel
theorem dX1_uncover_38 : decode cX1_uncover 38 = .ok (.aload_n 0, 1) := by decide +kernel
theorem dX1_uncover_39 : decode cX1_uncover 39 = .ok (.getfield 9, 3) := by decide +kernel
theorem dX1_uncover_42 : decode cX1_uncover 42 = .ok (.iload 4, 2) := by decide +kernel
theorem dX1_uncover_44 : decode cX1_uncover 44 = .ok (.iaload, 1) := by decide +kernel
theorem dX1_uncover_45 : decode cX1_uncover 45 = .ok (.iconst (-1), 1) := by decide +kernel
theorem dX1_uncover_46 : decode cX1_uncover 46 = .ok (.ixor, 1) := by decide +kernel
theorem dX1_uncover_47 : decode cX1_uncover 47 = .ok (.iand, 1) := by decide +kernel
theorem dX1_uncover_48 : decode cX1_uncover 48 = .ok (.ifCond .ne 40, 3) := by decide +kernel
theorem dX1_uncover_51 : decode cX1_uncover 51 = .ok (.iload 4, 2) := by decide +kernel
theorem dX1_uncover_53 : decode cX1_uncover 53 = .ok (.invokestatic 34, 3) := by decide +kernel
theorem dX1_uncover_56 : decode cX1_uncover 56 = .ok (.istore 5, 2) := by decide +kernel
theorem dX1_uncover_58 : decode cX1_uncover 58 = .ok (.aload_n 0, 1) := by decide +kernel
theorem dX1_uncover_59 : decode cX1_uncover 59 = .ok (.getfield 19, 3) := by decide +kernel
theorem dX1_uncover_62 : decode cX1_uncover 62 = .ok (.bipush (-6), 2) := by decide +kernel
theorem dX1_uncover_64 : decode cX1_uncover 64 = .ok (.if_icmp .eq 12, 3) := by decide +kernel
theorem dX1_uncover_67 : decode cX1_uncover 67 = .ok (.iload 5, 2) := by decide +kernel
theorem dX1_uncover_69 : decode cX1_uncover 69 = .ok (.aload_n 0, 1) := by decide +kernel
theorem dX1_uncover_70 : decode cX1_uncover 70 = .ok (.getfield 19, 3) := by decide +kernel
theorem dX1_uncover_73 : decode cX1_uncover 73 = .ok (.if_icmp .ge 15, 3) := by decide +kernel
theorem dX1_uncover_76 : decode cX1_uncover 76 = .ok (.aload_n 0, 1) := by decide +kernel
theorem dX1_uncover_77 : decode cX1_uncover 77 = .ok (.iload 5, 2) := by decide +kernel
theorem dX1_uncover_79 : decode cX1_uncover 79 = .ok (.putfield 19, 3) := by decide +kernel
theorem dX1_uncover_82 : decode cX1_uncover 82 = .ok (.aload_n 0, 1) := by decide +kernel
theorem dX1_uncover_83 : decode cX1_uncover 83 = .ok (.iload 4, 2) := by decide +kernel
theorem dX1_uncover_85 : decode cX1_uncover 85 = .ok (.putfield 23, 3) := by decide +kernel
theorem dX1_uncover_88 : decode cX1_uncover 88 = .ok (.iinc 4 1, 3) := by decide +kernel
theorem dX1_uncover_91 : decode cX1_uncover 91 = .ok (.goto (-62), 3) := by decide +kernel
theorem dX1_uncover_94 : decode cX1_uncover 94 = .ok (.return_, 1) := by decide +kernel
theorem dX1_joinThings_0 : decode cX1_joinThings 0 = .ok (.aload_n 0, 1) := by decide +kernel
theorem dX1_joinThings_1 : decode cX1_joinThings 1 = .ok (.getfield 9, 3) := by decide +kernel
theorem dX1_joinThings_4 : decode cX1_joinThings 4 = .ok (.iconst 0, 1) := by decide +kernel
theorem dX1_joinThings_5 : decode cX1_joinThings 5 = .ok (.iconst 0, 1) := by decide +kernel
theorem dX1_joinThings_6 : decode cX1_joinThings 6 = .ok (.iastore, 1) := by decide +kernel
theorem dX1_joinThings_7 : decode cX1_joinThings 7 = .ok (.iconst 0, 1) := by decide +kernel
theorem dX1_joinThings_8 : decode cX1_joinThings 8 = .ok (.istore_n 2, 1) := by decide +kernel
theorem dX1_joinThings_9 : decode cX1_joinThings 9 = .ok (.iload_n 2, 1) := by decide +kernel
theorem dX1_joinThings_10 : decode cX1_joinThings 10 = .ok (.bipush 10, 2) := by decide +kernel
theorem dX1_joinThings_12 : decode cX1_joinThings 12 = .ok (.if_icmp .ge 51, 3) := by decide +kernel
theorem dX1_joinThings_15 : decode cX1_joinThings 15 = .ok (.iconst 1, 1) := by decide +kernel
theorem dX1_joinThings_16 : decode cX1_joinThings 16 = .ok (.iload_n 2, 1) := by decide +kernel
theorem dX1_joinThings_17 : decode cX1_joinThings 17 = .ok (.ishl, 1) := by decide +kernel
theorem dX1_joinThings_18 : decode cX1_joinThings 18 = .ok (.istore_n 3, 1) := by decide +kernel
theorem dX1_joinThings_19 : decode cX1_joinThings 19 = .ok (.iconst 0, 1) := by decide +kernel
theorem dX1_joinThings_20 : decode cX1_joinThings 20 = .ok (.istore 4, 2) := by decide +kernel
theorem dX1_joinThings_22 : decode cX1_joinThings 22 = .ok (.iload 4, 2) := by decide +kernel
theorem dX1_joinThings_24 : decode cX1_joinThings 24 = .ok (.iload_n 3, 1) := by decide +kernel
theorem dX1_joinThings_25 : decode cX1_joinThings 25 = .ok (.if_icmp .ge 32, 3) := by decide +kernel
theorem dX1_joinThings_28 : decode cX1_joinThings 28 = .ok (.aload_n 0, 1) := by decide +kernel
theorem dX1_joinThings_29 : decode cX1_joinThings 29 = .ok (.getfield 9, 3) := by decide +kernel
theorem dX1_joinThings_32 : decode cX1_joinThings 32 = .ok (.iload_n 3, 1) := by decide +kernel
theorem dX1_joinThings_33 : decode cX1_joinThings 33 = .ok (.iload 4, 2) := by decide +kernel
theorem dX1_joinThings_35 : decode cX1_joinThings 35 = .ok (.ior, 1) := by decide +kernel
theorem dX1_joinThings_36 : decode cX1_joinThings 36 = .ok (.aload_n 0, 1) := by decide +kernel
theorem dX1_joinThings_37 : decode cX1_joinThings 37 = .ok (.getfield 9, 3) := by decide +kernel
theorem dX1_joinThings_40 : decode cX1_joinThings 40 = .ok (.iload 4, 2) := by decide +kernel
theorem dX1_joinThings_42 : decode cX1_joinThings 42 = .ok (.iaload, 1) := by decide +kernel
theorem dX1_joinThings_43 : decode cX1_joinThings 43 = .ok (.aload_n 1, 1) := by decide +kernel
theorem dX1_joinThings_44 : decode cX1_joinThings 44 = .ok (.getfield 69, 3) := by decide +kernel
theorem dX1_joinThings_47 : decode cX1_joinThings 47 = .ok (.iload_n 2, 1) := by decide +kernel
theorem dX1_joinThings_48 : decode cX1_joinThings 48 = .ok (.iaload, 1) := by decide +kernel
theorem dX1_joinThings_49 : decode cX1_joinThings 49 = .ok (.ior, 1) := by decide +kernel
theorem dX1_joinThings_50 : decode cX1_joinThings 50 = .ok (.iastore, 1) := by decide +kernel
theorem dX1_joinThings_51 : decode cX1_joinThings 51 = .ok (.iinc 4 1, 3) := by decide +kernel
theorem dX1_joinThings_54 : decode cX1_joinThings 54 = .ok (.goto (-32), 3) := by decide +kernel
theorem dX1_joinThings_57 : decode cX1_joinThings 57 = .ok (.iinc 2 1, 3) := by decide +kernel
theorem dX1_joinThings_60 : decode cX1_joinThings 60 = .ok (.goto (-51), 3) := by decide +kernel
theorem dX1_joinThings_63 : decode cX1_joinThings 63 = .ok (.return_, 1) := by decide +kernel
theorem dX2_init_0 : decode cX2_init 0 = .ok (.aload_n 0, 1) := by decide +kernel
theorem dX2_init_1 : decode cX2_init 1 = .ok (.invokespecial 3, 3) := by decide +kernel
theorem dX2_init_4 : decode cX2_init 4 = .ok (.aload_n 0, 1) := by decide +kernel
theorem dX2_init_5 : decode cX2_init 5 = .ok (.new 9, 3) := by decide +kernel
theorem dX2_init_8 : decode cX2_init 8 = .ok (.dup, 1) := by decide +kernel
theorem dX2_init_9 : decode cX2_init 9 = .ok (.invokespecial 11, 3) := by decide +kernel
theorem dX2_init_12 : decode cX2_init 12 = .ok (.putfield 12, 3) := by decide +kernel
theorem dX2_init_15 : decode cX2_init 15 = .ok (.return_, 1) := by decide +kernel
theorem dX2_play_0 : decode cX2_play 0 = .ok (.aload_n 0, 1) := by decide +kernel
theorem dX2_play_1 : decode cX2_play 1 = .ok (.getfield 12, 3) := by decide +kernel
theorem dX2_play_4 : decode cX2_play 4 = .ok (.aload_n 1, 1) := by decide +kernel
theorem dX2_play_5 : decode cX2_play 5 = .ok (.invokevirtual 18, 3) := by decide +kernel
theorem dX2_play_8 : decode cX2_play 8 = .ok (.aload_n 0, 1) := by decide +kernel
theorem dX2_play_9 : decode cX2_play 9 = .ok (.iconst 0, 1) := by decide +kernel
theorem dX2_play_10 : decode cX2_play 10 = .ok (.putfield 22, 3) := by decide +kernel
theorem dX2_play_13 : decode cX2_play 13 = .ok (.aload_n 0, 1) := by decide +kernel
theorem dX2_play_14 : decode cX2_play 14 = .ok (.bipush (-6), 2) := by decide +kernel
theorem dX2_play_16 : decode cX2_play 16 = .ok (.putfield 26, 3) := by decide +kernel
theorem dX2_play_19 : decode cX2_play 19 = .ok (.aload_n 0, 1) := by decide +kernel
theorem dX2_play_20 : decode cX2_play 20 = .ok (.bipush (-6), 2) := by decide +kernel
theorem dX2_play_22 : decode cX2_play 22 = .ok (.putfield 29, 3) := by decide +kernel
theorem dX2_play_25 : decode cX2_play 25 = .ok (.aload_n 0, 1) := by decide +kernel
theorem dX2_play_26 : decode cX2_play 26 = .ok (.iconst 0, 1) := by decide +kernel
theorem dX2_play_27 : decode cX2_play 27 = .ok (.putfield 32, 3) := by decide +kernel
theorem dX2_play_30 : decode cX2_play 30 = .ok (.aload_n 0, 1) := by decide +kernel
theorem dX2_play_31 : decode cX2_play 31 = .ok (.bipush (-6), 2) := by decide +kernel
theorem dX2_play_33 : decode cX2_play 33 = .ok (.putfield 35, 3) := by decide +kernel
theorem dX2_play_36 : decode cX2_play 36 = .ok (.aload_n 0, 1) := by decide +kernel
theorem dX2_play_37 : decode cX2_play 37 = .ok (.bipush (-6), 2) := by decide +kernel
theorem dX2_play_39 : decode cX2_play 39 = .ok (.putfield 38, 3) := by decide +kernel
theorem dX2_play_42 : decode cX2_play 42 = .ok (.iconst 0, 1) := by decide +kernel
theorem dX2_play_43 : decode cX2_play 43 = .ok (.istore_n 3, 1) := by decide +kernel
theorem dX2_play_44 : decode cX2_play 44 = .ok (.iload_n 3, 1) := by decide +kernel
theorem dX2_play_45 : decode cX2_play 45 = .ok (.aload_n 2, 1) := by decide +kernel
theorem dX2_play_46 : decode cX2_play 46 = .ok (.getfield 41, 3) := by decide +kernel
theorem dX2_play_49 : decode cX2_play 49 = .ok (.if_icmp .ge 37, 3) := by decide +kernel
theorem dX2_play_52 : decode cX2_play 52 = .ok (.aload_n 0, 1) := by decide +kernel
theorem dX2_play_53 : decode cX2_play 53 = .ok (.getfield 26, 3) := by decide +kernel
theorem dX2_play_56 : decode cX2_play 56 = .ok (.bipush (-6), 2) := by decide +kernel
theorem dX2_play_58 : decode cX2_play 58 = .ok (.if_icmp .ne 28, 3) := by decide +kernel
theorem dX2_play_61 : decode cX2_play 61 = .ok (.aload_n 0, 1) := by decide +kernel
theorem dX2_play_62 : decode cX2_play 62 = .ok (.aload_n 2, 1) := by decide +kernel
theorem dX2_play_63 : decode cX2_play 63 = .ok (.iload_n 3, 1) := by decide +kernel
theorem dX2_play_64 : decode cX2_play 64 = .ok (.invokevirtual 46, 3) := by decide +kernel
theorem dX2_play_67 : decode cX2_play 67 = .ok (.aload_n 2, 1) := by decide +kernel
theorem dX2_play_68 : decode cX2_play 68 = .ok (.iload_n 3, 1) := by decide +kernel
theorem dX2_play_69 : decode cX2_play 69 = .ok (.invokevirtual 50, 3) := by decide +kernel
theorem dX2_play_72 : decode cX2_play 72 = .ok (.invokevirtual 53, 3) := by decide +kernel
theorem dX2_play_75 : decode cX2_play 75 = .ok (.iload_n 3, 1) := by decide +kernel
theorem dX2_play_76 : decode cX2_play 76 = .ok (.aload_n 2, 1) := by decide +kernel
theorem dX2_play_77 : decode cX2_play 77 = .ok (.iload_n 3, 1) := by decide +kernel
theorem dX2_play_78 : decode cX2_play 78 = .ok (.invokevirtual 57, 3) := by decide +kernel
theorem dX2_play_81 : decode cX2_play 81 = .ok (.iadd, 1) := by decide +kernel
theorem dX2_play_82 : decode cX2_play 82 = .ok (.istore_n 3, 1) := by decide +kernel
theorem dX2_play_83 : decode cX2_play 83 = .ok (.goto (-39), 3) := by decide +kernel
theorem dX2_play_86 : decode cX2_play 86 = .ok (.return_, 1) := by decide +kernel
theorem dX2_playAct_0 : decode cX2_playAct 0 = .ok (.aload_n 0, 1) := by decide +kernel
theorem dX2_playAct_1 : decode cX2_playAct 1 = .ok (.getfield 12, 3) := by decide +kernel
theorem dX2_playAct_4 : decode cX2_playAct 4 = .ok (.iload_n 1, 1) := by decide +kernel
theorem dX2_playAct_5 : decode cX2_playAct 5 = .ok (.iload_n 2, 1) := by decide +kernel
theorem dX2_playAct_6 : decode cX2_playAct 6 = .ok (.invokevirtual 60, 3) := by decide +kernel
theorem dX2_playAct_9 : decode cX2_playAct 9 = .ok (.istore_n 3, 1) := by decide +kernel
theorem dX2_playAct_10 : decode cX2_playAct 10 = .ok (.iload_n 3, 1) := by decide +kernel
theorem dX2_playAct_11 : decode cX2_playAct 11 = .ok (.ifCond .eq 17, 3) := by decide +kernel
theorem dX2_playAct_14 : decode cX2_playAct 14 = .ok (.aload_n 0, 1) := by decide +kernel
theorem dX2_playAct_15 : decode cX2_playAct 15 = .ok (.aload_n 0, 1) := by decide +kernel
theorem dX2_playAct_16 : decode cX2_playAct 16 = .ok (.getfield 22, 3) := by decide +kernel
theorem dX2_playAct_19 : decode cX2_playAct 19 = .ok (.putfield 26, 3) := by decide +kernel
theorem dX2_playAct_22 : decode cX2_playAct 22 = .ok (.aload_n 0, 1) := by decide +kernel
theorem dX2_playAct_23 : decode cX2_playAct 23 = .ok (.iload_n 3, 1) := by decide +kernel
theorem dX2_playAct_24 : decode cX2_playAct 24 = .ok (.putfield 29, 3) := by decide +kernel
theorem dX2_playAct_27 : decode cX2_playAct 27 = .ok (.return_, 1) := by decide +kernel
theorem dX2_playAct_28 : decode cX2_playAct 28 = .ok (.iload_n 1, 1) := by decide +kernel
theorem dX2_playAct_29 : decode cX2_playAct 29 = .ok (.bipush 63, 2) := by decide +kernel
theorem dX2_playAct_31 : decode cX2_playAct 31 = .ok (.if_icmp .ne 21, 3) := by decide +kernel
theorem dX2_playAct_34 : decode cX2_playAct 34 = .ok (.aload_n 0, 1) := by decide +kernel
theorem dX2_playAct_35 : decode cX2_playAct 35 = .ok (.dup, 1) := by decide +kernel
theorem dX2_playAct_36 : decode cX2_playAct 36 = .ok (.getfield 32, 3) := by decide +kernel
theorem dX2_playAct_39 : decode cX2_playAct 39 = .ok (.iconst 1, 1) := by decide +kernel
theorem dX2_playAct_40 : decode cX2_playAct 40 = .ok (.aload_n 0, 1) := by decide +kernel
theorem dX2_playAct_41 : decode cX2_playAct 41 = .ok (.getfield 12, 3) := by decide +kernel
theorem dX2_playAct_44 : decode cX2_playAct 44 = .ok (.invokevirtual 64, 3) := by decide +kernel
theorem dX2_playAct_47 : decode cX2_playAct 47 = .ok (.ishl, 1) := by decide +kernel
theorem dX2_playAct_48 : decode cX2_playAct 48 = .ok (.ior, 1) := by decide +kernel
theorem dX2_playAct_49 : decode cX2_playAct 49 = .ok (.putfield 32, 3) := by decide +kernel
theorem dX2_playAct_52 : decode cX2_playAct 52 = .ok (.iload_n 1, 1) := by decide +kernel
theorem dX2_playAct_53 : decode cX2_playAct 53 = .ok (.bipush 61, 2) := by decide +kernel
theorem dX2_playAct_55 : decode cX2_playAct 55 = .ok (.if_icmp .ne 38, 3) := by decide +kernel
theorem dX2_playAct_58 : decode cX2_playAct 58 = .ok (.aload_n 0, 1) := by decide +kernel
theorem dX2_playAct_59 : decode cX2_playAct 59 = .ok (.getfield 35, 3) := by decide +kernel
theorem dX2_playAct_62 : decode cX2_playAct 62 = .ok (.bipush (-6), 2) := by decide +kernel
theorem dX2_playAct_64 : decode cX2_playAct 64 = .ok (.if_icmp .ne 29, 3) := by decide +kernel
theorem dX2_playAct_67 : decode cX2_playAct 67 = .ok (.aload_n 0, 1) := by decide +kernel
theorem dX2_playAct_68 : decode cX2_playAct 68 = .ok (.aload_n 0, 1) := by decide +kernel
theorem dX2_playAct_69 : decode cX2_playAct 69 = .ok (.getfield 12, 3) := by decide +kernel
theorem dX2_playAct_72 : decode cX2_playAct 72 = .ok (.getfield 68, 3) := by decide +kernel
theorem dX2_playAct_75 : decode cX2_playAct 75 = .ok (.iload_n 2, 1) := by decide +kernel
theorem dX2_playAct_76 : decode cX2_playAct 76 = .ok (.invokestatic 71, 3) := by decide +kernel
theorem dX2_playAct_79 : decode cX2_playAct 79 = .ok (.aload_n 0, 1) := by decide +kernel
theorem dX2_playAct_80 : decode cX2_playAct 80 = .ok (.getfield 12, 3) := by decide +kernel
theorem dX2_playAct_83 : decode cX2_playAct 83 = .ok (.getfield 68, 3) := by decide +kernel
theorem dX2_playAct_86 : decode cX2_playAct 86 = .ok (.iload_n 2, 1) := by decide +kernel
theorem dX2_playAct_87 : decode cX2_playAct 87 = .ok (.invokestatic 76, 3) := by decide +kernel
theorem dX2_playAct_90 : decode cX2_playAct 90 = .ok (.invokevirtual 79, 3) := by decide +kernel
theorem dX2_playAct_93 : decode cX2_playAct 93 = .ok (.aload_n 0, 1) := by decide +kernel
theorem dX2_playAct_94 : decode cX2_playAct 94 = .ok (.getfield 12, 3) := by decide +kernel
theorem dX2_playAct_97 : decode cX2_playAct 97 = .ok (.iload_n 1, 1) := by decide +kernel
theorem dX2_playAct_98 : decode cX2_playAct 98 = .ok (.iload_n 2, 1) := by decide +kernel
theorem dX2_playAct_99 : decode cX2_playAct 99 = .ok (.invokevirtual 82, 3) := by decide +kernel
theorem dX2_playAct_102 : decode cX2_playAct 102 = .ok (.aload_n 0, 1) := by decide +kernel
theorem dX2_playAct_103 : decode cX2_playAct 103 = .ok (.dup, 1) := by decide +kernel
theorem dX2_playAct_104 : decode cX2_playAct 104 = .ok (.getfield 22, 3) := by decide +kernel
theorem dX2_playAct_107 : decode cX2_playAct 107 = .ok (.iconst 1, 1) := by decide +kernel
theorem dX2_playAct_108 : decode cX2_playAct 108 = .ok (.iadd, 1) := by decide +kernel
theorem dX2_playAct_109 : decode cX2_playAct 109 = .ok (.putfield 22, 3) := by decide +kernel
theorem dX2_playAct_112 : decode cX2_playAct 112 = .ok (.return_, 1) := by decide +kernel
theorem dX2_noteLoss_0 : decode cX2_noteLoss 0 = .ok (.aload_n 0, 1) := by decide +kernel
theorem dX2_noteLoss_1 : decode cX2_noteLoss 1 = .ok (.getfield 12, 3) := by decide +kernel
theorem dX2_noteLoss_4 : decode cX2_noteLoss 4 = .ok (.getfield 85, 3) := by decide +kernel
theorem dX2_noteLoss_7 : decode cX2_noteLoss 7 = .ok (.iload_n 1, 1) := by decide +kernel
theorem dX2_noteLoss_8 : decode cX2_noteLoss 8 = .ok (.iaload, 1) := by decide +kernel
theorem dX2_noteLoss_9 : decode cX2_noteLoss 9 = .ok (.iload_n 1, 1) := by decide +kernel
theorem dX2_noteLoss_10 : decode cX2_noteLoss 10 = .ok (.if_icmp .ne 19, 3) := by decide +kernel
theorem dX2_noteLoss_13 : decode cX2_noteLoss 13 = .ok (.aload_n 0, 1) := by decide +kernel
theorem dX2_noteLoss_14 : decode cX2_noteLoss 14 = .ok (.aload_n 0, 1) := by decide +kernel
theorem dX2_noteLoss_15 : decode cX2_noteLoss 15 = .ok (.getfield 22, 3) := by decide +kernel
theorem dX2_noteLoss_18 : decode cX2_noteLoss 18 = .ok (.putfield 35, 3) := by decide +kernel
theorem dX2_noteLoss_21 : decode cX2_noteLoss 21 = .ok (.aload_n 0, 1) := by decide +kernel
theorem dX2_noteLoss_22 : decode cX2_noteLoss 22 = .ok (.iload_n 1, 1) := by decide +kernel
theorem dX2_noteLoss_23 : decode cX2_noteLoss 23 = .ok (.putfield 38, 3) := by decide +kernel
theorem dX2_noteLoss_26 : decode cX2_noteLoss 26 = .ok (.goto 29, 3) := by decide +kernel
theorem dX2_noteLoss_29 : decode cX2_noteLoss 29 = .ok (.aload_n 0, 1) := by decide +kernel
theorem dX2_noteLoss_30 : decode cX2_noteLoss 30 = .ok (.getfield 12, 3) := by decide +kernel
theorem dX2_noteLoss_33 : decode cX2_noteLoss 33 = .ok (.getfield 85, 3) := by decide +kernel
theorem dX2_noteLoss_36 : decode cX2_noteLoss 36 = .ok (.iload_n 2, 1) := by decide +kernel
theorem dX2_noteLoss_37 : decode cX2_noteLoss 37 = .ok (.iaload, 1) := by decide +kernel
theorem dX2_noteLoss_38 : decode cX2_noteLoss 38 = .ok (.iload_n 2, 1) := by decide +kernel
theorem dX2_noteLoss_39 : decode cX2_noteLoss 39 = .ok (.if_icmp .ne 16, 3) := by decide +kernel
theorem dX2_noteLoss_42 : decode cX2_noteLoss 42 = .ok (.aload_n 0, 1) := by decide +kernel
theorem dX2_noteLoss_43 : decode cX2_noteLoss 43 = .ok (.aload_n 0, 1) := by decide +kernel
theorem dX2_noteLoss_44 : decode cX2_noteLoss 44 = .ok (.getfield 22, 3) := by decide +kernel
theorem dX2_noteLoss_47 : decode cX2_noteLoss 47 = .ok (.putfield 35, 3) := by decide +kernel
theorem dX2_noteLoss_50 : decode cX2_noteLoss 50 = .ok (.aload_n 0, 1) := by decide +kernel
theorem dX2_noteLoss_51 : decode cX2_noteLoss 51 = .ok (.iload_n 2, 1) := by decide +kernel
theorem dX2_noteLoss_52 : decode cX2_noteLoss 52 = .ok (.putfield 38, 3) := by decide +kernel
theorem dX2_noteLoss_55 : decode cX2_noteLoss 55 = .ok (.return_, 1) := by decide +kernel
