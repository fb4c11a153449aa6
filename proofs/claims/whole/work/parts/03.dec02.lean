theorem dX8_faultPlace_0 : decode cX8_faultPlace 0 = .ok (.iconst 0, 1) := by decide +kernel
theorem dX8_faultPlace_1 : decode cX8_faultPlace 1 = .ok (.istore_n 1, 1) := by decide +kernel
theorem dX8_faultPlace_2 : decode cX8_faultPlace 2 = .ok (.iconst 0, 1) := by decide +kernel
theorem dX8_faultPlace_3 : decode cX8_faultPlace 3 = .ok (.istore_n 2, 1) := by decide +kernel
theorem dX8_faultPlace_4 : decode cX8_faultPlace 4 = .ok (.iload_n 2, 1) := by decide +kernel
theorem dX8_faultPlace_5 : decode cX8_faultPlace 5 = .ok (.aload_n 0, 1) := by decide +kernel
theorem dX8_faultPlace_6 : decode cX8_faultPlace 6 = .ok (.getfield 15, 3) := by decide +kernel
theorem dX8_faultPlace_9 : decode cX8_faultPlace 9 = .ok (.if_icmp .ge 72, 3) := by decide +kernel
theorem dX8_faultPlace_12 : decode cX8_faultPlace 12 = .ok (.iload_n 1, 1) := by decide +kernel
theorem dX8_faultPlace_13 : decode cX8_faultPlace 13 = .ok (.ifCond .eq 26, 3) := by decide +kernel
theorem dX8_faultPlace_16 : decode cX8_faultPlace 16 = .ok (.aload_n 0, 1) := by decide +kernel
theorem dX8_faultPlace_17 : decode cX8_faultPlace 17 = .ok (.getfield 9, 3) := by decide +kernel
theorem dX8_faultPlace_20 : decode cX8_faultPlace 20 = .ok (.iload_n 2, 1) := by decide +kernel
theorem dX8_faultPlace_21 : decode cX8_faultPlace 21 = .ok (.iconst 1, 1) := by decide +kernel
theorem dX8_faultPlace_22 : decode cX8_faultPlace 22 = .ok (.isub, 1) := by decide +kernel
theorem dX8_faultPlace_23 : decode cX8_faultPlace 23 = .ok (.iaload, 1) := by decide +kernel
theorem dX8_faultPlace_24 : decode cX8_faultPlace 24 = .ok (.aload_n 0, 1) := by decide +kernel
theorem dX8_faultPlace_25 : decode cX8_faultPlace 25 = .ok (.getfield 9, 3) := by decide +kernel
theorem dX8_faultPlace_28 : decode cX8_faultPlace 28 = .ok (.iload_n 2, 1) := by decide +kernel
theorem dX8_faultPlace_29 : decode cX8_faultPlace 29 = .ok (.iaload, 1) := by decide +kernel
theorem dX8_faultPlace_30 : decode cX8_faultPlace 30 = .ok (.invokestatic 19, 3) := by decide +kernel
theorem dX8_faultPlace_33 : decode cX8_faultPlace 33 = .ok (.ifCond .ne 20, 3) := by decide +kernel
theorem dX8_faultPlace_36 : decode cX8_faultPlace 36 = .ok (.goto 15, 3) := by decide +kernel
theorem dX8_faultPlace_39 : decode cX8_faultPlace 39 = .ok (.aload_n 0, 1) := by decide +kernel
theorem dX8_faultPlace_40 : decode cX8_faultPlace 40 = .ok (.getfield 9, 3) := by decide +kernel
theorem dX8_faultPlace_43 : decode cX8_faultPlace 43 = .ok (.iload_n 2, 1) := by decide +kernel
theorem dX8_faultPlace_44 : decode cX8_faultPlace 44 = .ok (.iaload, 1) := by decide +kernel
theorem dX8_faultPlace_45 : decode cX8_faultPlace 45 = .ok (.invokestatic 23, 3) := by decide +kernel
theorem dX8_faultPlace_48 : decode cX8_faultPlace 48 = .ok (.ifCond .ne 5, 3) := by decide +kernel
theorem dX8_faultPlace_51 : decode cX8_faultPlace 51 = .ok (.iload_n 2, 1) := by decide +kernel
theorem dX8_faultPlace_52 : decode cX8_faultPlace 52 = .ok (.ireturn, 1) := by decide +kernel
theorem dX8_faultPlace_53 : decode cX8_faultPlace 53 = .ok (.iload_n 1, 1) := by decide +kernel
theorem dX8_faultPlace_54 : decode cX8_faultPlace 54 = .ok (.ifCond .ne 19, 3) := by decide +kernel
theorem dX8_faultPlace_57 : decode cX8_faultPlace 57 = .ok (.aload_n 0, 1) := by decide +kernel
theorem dX8_faultPlace_58 : decode cX8_faultPlace 58 = .ok (.getfield 9, 3) := by decide +kernel
theorem dX8_faultPlace_61 : decode cX8_faultPlace 61 = .ok (.iload_n 2, 1) := by decide +kernel
theorem dX8_faultPlace_62 : decode cX8_faultPlace 62 = .ok (.iaload, 1) := by decide +kernel
theorem dX8_faultPlace_63 : decode cX8_faultPlace 63 = .ok (.invokestatic 27, 3) := by decide +kernel
theorem dX8_faultPlace_66 : decode cX8_faultPlace 66 = .ok (.ifCond .eq 7, 3) := by decide +kernel
theorem dX8_faultPlace_69 : decode cX8_faultPlace 69 = .ok (.iconst 1, 1) := by decide +kernel
theorem dX8_faultPlace_70 : decode cX8_faultPlace 70 = .ok (.goto 4, 3) := by decide +kernel
theorem dX8_faultPlace_73 : decode cX8_faultPlace 73 = .ok (.iconst 0, 1) := by decide +kernel
theorem dX8_faultPlace_74 : decode cX8_faultPlace 74 = .ok (.istore_n 1, 1) := by decide +kernel
theorem dX8_faultPlace_75 : decode cX8_faultPlace 75 = .ok (.iinc 2 1, 3) := by decide +kernel
theorem dX8_faultPlace_78 : decode cX8_faultPlace 78 = .ok (.goto (-74), 3) := by decide +kernel
theorem dX8_faultPlace_81 : decode cX8_faultPlace 81 = .ok (.iload_n 1, 1) := by decide +kernel
theorem dX8_faultPlace_82 : decode cX8_faultPlace 82 = .ok (.ifCond .eq 10, 3) := by decide +kernel
theorem dX8_faultPlace_85 : decode cX8_faultPlace 85 = .ok (.aload_n 0, 1) := by decide +kernel
theorem dX8_faultPlace_86 : decode cX8_faultPlace 86 = .ok (.getfield 15, 3) := by decide +kernel
theorem dX8_faultPlace_89 : decode cX8_faultPlace 89 = .ok (.goto 5, 3) := by decide +kernel
theorem dX8_faultPlace_92 : decode cX8_faultPlace 92 = .ok (.bipush (-6), 2) := by decide +kernel
theorem dX8_faultPlace_94 : decode cX8_faultPlace 94 = .ok (.ireturn, 1) := by decide +kernel
theorem dX8_kindAt_0 : decode cX8_kindAt 0 = .ok (.aload_n 0, 1) := by decide +kernel
theorem dX8_kindAt_1 : decode cX8_kindAt 1 = .ok (.getfield 9, 3) := by decide +kernel
theorem dX8_kindAt_4 : decode cX8_kindAt 4 = .ok (.iload_n 1, 1) := by decide +kernel
theorem dX8_kindAt_5 : decode cX8_kindAt 5 = .ok (.iaload, 1) := by decide +kernel
theorem dX8_kindAt_6 : decode cX8_kindAt 6 = .ok (.invokestatic 30, 3) := by decide +kernel
theorem dX8_kindAt_9 : decode cX8_kindAt 9 = .ok (.ifCond .eq 8, 3) := by decide +kernel
theorem dX8_kindAt_12 : decode cX8_kindAt 12 = .ok (.bipush 65, 2) := by decide +kernel
theorem dX8_kindAt_14 : decode cX8_kindAt 14 = .ok (.goto 9, 3) := by decide +kernel
theorem dX8_kindAt_17 : decode cX8_kindAt 17 = .ok (.aload_n 0, 1) := by decide +kernel
theorem dX8_kindAt_18 : decode cX8_kindAt 18 = .ok (.getfield 9, 3) := by decide +kernel
theorem dX8_kindAt_21 : decode cX8_kindAt 21 = .ok (.iload_n 1, 1) := by decide +kernel
theorem dX8_kindAt_22 : decode cX8_kindAt 22 = .ok (.iaload, 1) := by decide +kernel
theorem dX8_kindAt_23 : decode cX8_kindAt 23 = .ok (.ireturn, 1) := by decide +kernel
theorem dX8_operandAt_0 : decode cX8_operandAt 0 = .ok (.aload_n 0, 1) := by decide +kernel
theorem dX8_operandAt_1 : decode cX8_operandAt 1 = .ok (.getfield 9, 3) := by decide +kernel
theorem dX8_operandAt_4 : decode cX8_operandAt 4 = .ok (.iload_n 1, 1) := by decide +kernel
theorem dX8_operandAt_5 : decode cX8_operandAt 5 = .ok (.iaload, 1) := by decide +kernel
theorem dX8_operandAt_6 : decode cX8_operandAt 6 = .ok (.invokestatic 27, 3) := by decide +kernel
theorem dX8_operandAt_9 : decode cX8_operandAt 9 = .ok (.ifCond .ne 13, 3) := by decide +kernel
theorem dX8_operandAt_12 : decode cX8_operandAt 12 = .ok (.aload_n 0, 1) := by decide +kernel
theorem dX8_operandAt_13 : decode cX8_operandAt 13 = .ok (.getfield 9, 3) := by decide +kernel
theorem dX8_operandAt_16 : decode cX8_operandAt 16 = .ok (.iload_n 1, 1) := by decide +kernel
theorem dX8_operandAt_17 : decode cX8_operandAt 17 = .ok (.iaload, 1) := by decide +kernel
theorem dX8_operandAt_18 : decode cX8_operandAt 18 = .ok (.bipush 65, 2) := by decide +kernel
theorem dX8_operandAt_20 : decode cX8_operandAt 20 = .ok (.isub, 1) := by decide +kernel
theorem dX8_operandAt_21 : decode cX8_operandAt 21 = .ok (.ireturn, 1) := by decide +kernel
theorem dX8_operandAt_22 : decode cX8_operandAt 22 = .ok (.iload_n 1, 1) := by decide +kernel
theorem dX8_operandAt_23 : decode cX8_operandAt 23 = .ok (.iconst 1, 1) := by decide +kernel
theorem dX8_operandAt_24 : decode cX8_operandAt 24 = .ok (.iadd, 1) := by decide +kernel
theorem dX8_operandAt_25 : decode cX8_operandAt 25 = .ok (.aload_n 0, 1) := by decide +kernel
theorem dX8_operandAt_26 : decode cX8_operandAt 26 = .ok (.getfield 15, 3) := by decide +kernel
theorem dX8_operandAt_29 : decode cX8_operandAt 29 = .ok (.if_icmp .ge 14, 3) := by decide +kernel
theorem dX8_operandAt_32 : decode cX8_operandAt 32 = .ok (.aload_n 0, 1) := by decide +kernel
theorem dX8_operandAt_33 : decode cX8_operandAt 33 = .ok (.getfield 9, 3) := by decide +kernel
theorem dX8_operandAt_36 : decode cX8_operandAt 36 = .ok (.iload_n 1, 1) := by decide +kernel
theorem dX8_operandAt_37 : decode cX8_operandAt 37 = .ok (.iconst 1, 1) := by decide +kernel
theorem dX8_operandAt_38 : decode cX8_operandAt 38 = .ok (.iadd, 1) := by decide +kernel
theorem dX8_operandAt_39 : decode cX8_operandAt 39 = .ok (.iaload, 1) := by decide +kernel
theorem dX8_operandAt_40 : decode cX8_operandAt 40 = .ok (.goto 5, 3) := by decide +kernel
theorem dX8_operandAt_43 : decode cX8_operandAt 43 = .ok (.bipush 65, 2) := by decide +kernel
theorem dX8_operandAt_45 : decode cX8_operandAt 45 = .ok (.istore_n 2, 1) := by decide +kernel
theorem dX8_operandAt_46 : decode cX8_operandAt 46 = .ok (.iload_n 2, 1) := by decide +kernel
theorem dX8_operandAt_47 : decode cX8_operandAt 47 = .ok (.invokestatic 30, 3) := by decide +kernel
theorem dX8_operandAt_50 : decode cX8_operandAt 50 = .ok (.ifCond .eq 10, 3) := by decide +kernel
theorem dX8_operandAt_53 : decode cX8_operandAt 53 = .ok (.iload_n 2, 1) := by decide +kernel
theorem dX8_operandAt_54 : decode cX8_operandAt 54 = .ok (.bipush 65, 2) := by decide +kernel
theorem dX8_operandAt_56 : decode cX8_operandAt 56 = .ok (.isub, 1) := by decide +kernel
theorem dX8_operandAt_57 : decode cX8_operandAt 57 = .ok (.goto 7, 3) := by decide +kernel
theorem dX8_operandAt_60 : decode cX8_operandAt 60 = .ok (.iload_n 2, 1) := by decide +kernel
theorem dX8_operandAt_61 : decode cX8_operandAt 61 = .ok (.bipush 48, 2) := by decide +kernel
theorem dX8_operandAt_63 : decode cX8_operandAt 63 = .ok (.isub, 1) := by decide +kernel
theorem dX8_operandAt_64 : decode cX8_operandAt 64 = .ok (.ireturn, 1) := by decide +kernel
theorem dX8_widthAt_0 : decode cX8_widthAt 0 = .ok (.aload_n 0, 1) := by decide +kernel
theorem dX8_widthAt_1 : decode cX8_widthAt 1 = .ok (.getfield 9, 3) := by decide +kernel
theorem dX8_widthAt_4 : decode cX8_widthAt 4 = .ok (.iload_n 1, 1) := by decide +kernel
theorem dX8_widthAt_5 : decode cX8_widthAt 5 = .ok (.iaload, 1) := by decide +kernel
theorem dX8_widthAt_6 : decode cX8_widthAt 6 = .ok (.invokestatic 27, 3) := by decide +kernel
theorem dX8_widthAt_9 : decode cX8_widthAt 9 = .ok (.ifCond .eq 7, 3) := by decide +kernel
theorem dX8_widthAt_12 : decode cX8_widthAt 12 = .ok (.iconst 2, 1) := by decide +kernel
theorem dX8_widthAt_13 : decode cX8_widthAt 13 = .ok (.goto 4, 3) := by decide +kernel
theorem dX8_widthAt_16 : decode cX8_widthAt 16 = .ok (.iconst 1, 1) := by decide +kernel
theorem dX8_widthAt_17 : decode cX8_widthAt 17 = .ok (.ireturn, 1) := by decide +kernel
theorem dX8_begins_0 : decode cX8_begins 0 = .ok (.iload_n 0, 1) := by decide +kernel
theorem dX8_begins_1 : decode cX8_begins 1 = .ok (.invokestatic 30, 3) := by decide +kernel
theorem dX8_begins_4 : decode cX8_begins 4 = .ok (.ifCond .ne 22, 3) := by decide +kernel
theorem dX8_begins_7 : decode cX8_begins 7 = .ok (.iload_n 0, 1) := by decide +kernel
theorem dX8_begins_8 : decode cX8_begins 8 = .ok (.bipush 63, 2) := by decide +kernel
theorem dX8_begins_10 : decode cX8_begins 10 = .ok (.if_icmp .eq 16, 3) := by decide +kernel
theorem dX8_begins_13 : decode cX8_begins 13 = .ok (.iload_n 0, 1) := by decide +kernel
theorem dX8_begins_14 : decode cX8_begins 14 = .ok (.bipush 46, 2) := by decide +kernel
theorem dX8_begins_16 : decode cX8_begins 16 = .ok (.if_icmp .eq 10, 3) := by decide +kernel
theorem dX8_begins_19 : decode cX8_begins 19 = .ok (.iload_n 0, 1) := by decide +kernel
theorem dX8_begins_20 : decode cX8_begins 20 = .ok (.invokestatic 27, 3) := by decide +kernel
theorem dX8_begins_23 : decode cX8_begins 23 = .ok (.ifCond .eq 7, 3) := by decide +kernel
theorem dX8_begins_26 : decode cX8_begins 26 = .ok (.iconst 1, 1) := by decide +kernel
theorem dX8_begins_27 : decode cX8_begins 27 = .ok (.goto 4, 3) := by decide +kernel
theorem dX8_begins_30 : decode cX8_begins 30 = .ok (.iconst 0, 1) := by decide +kernel
theorem dX8_begins_31 : decode cX8_begins 31 = .ok (.ireturn, 1) := by decide +kernel
theorem dX8_ends_0 : decode cX8_ends 0 = .ok (.iload_n 0, 1) := by decide +kernel
theorem dX8_ends_1 : decode cX8_ends 1 = .ok (.bipush 61, 2) := by decide +kernel
theorem dX8_ends_3 : decode cX8_ends 3 = .ok (.if_icmp .ne 10, 3) := by decide +kernel
theorem dX8_ends_6 : decode cX8_ends 6 = .ok (.iload_n 1, 1) := by decide +kernel
theorem dX8_ends_7 : decode cX8_ends 7 = .ok (.invokestatic 30, 3) := by decide +kernel
theorem dX8_ends_10 : decode cX8_ends 10 = .ok (.goto 10, 3) := by decide +kernel
theorem dX8_ends_13 : decode cX8_ends 13 = .ok (.iload_n 1, 1) := by decide +kernel
theorem dX8_ends_14 : decode cX8_ends 14 = .ok (.bipush 48, 2) := by decide +kernel
theorem dX8_ends_16 : decode cX8_ends 16 = .ok (.isub, 1) := by decide +kernel
theorem dX8_ends_17 : decode cX8_ends 17 = .ok (.invokestatic 33, 3) := by decide +kernel
theorem dX8_ends_20 : decode cX8_ends 20 = .ok (.ireturn, 1) := by decide +kernel
theorem dX8_isOfTwo_0 : decode cX8_isOfTwo 0 = .ok (.iload_n 0, 1) := by decide +kernel
theorem dX8_isOfTwo_1 : decode cX8_isOfTwo 1 = .ok (.bipush 43, 2) := by decide +kernel
theorem dX8_isOfTwo_3 : decode cX8_isOfTwo 3 = .ok (.if_icmp .eq 15, 3) := by decide +kernel
theorem dX8_isOfTwo_6 : decode cX8_isOfTwo 6 = .ok (.iload_n 0, 1) := by decide +kernel
theorem dX8_isOfTwo_7 : decode cX8_isOfTwo 7 = .ok (.bipush 45, 2) := by decide +kernel
theorem dX8_isOfTwo_9 : decode cX8_isOfTwo 9 = .ok (.if_icmp .eq 9, 3) := by decide +kernel
theorem dX8_isOfTwo_12 : decode cX8_isOfTwo 12 = .ok (.iload_n 0, 1) := by decide +kernel
theorem dX8_isOfTwo_13 : decode cX8_isOfTwo 13 = .ok (.bipush 61, 2) := by decide +kernel
theorem dX8_isOfTwo_15 : decode cX8_isOfTwo 15 = .ok (.if_icmp .ne 7, 3) := by decide +kernel
theorem dX8_isOfTwo_18 : decode cX8_isOfTwo 18 = .ok (.iconst 1, 1) := by decide +kernel
theorem dX8_isOfTwo_19 : decode cX8_isOfTwo 19 = .ok (.goto 4, 3) := by decide +kernel
theorem dX8_isOfTwo_22 : decode cX8_isOfTwo 22 = .ok (.iconst 0, 1) := by decide +kernel
theorem dX8_isOfTwo_23 : decode cX8_isOfTwo 23 = .ok (.ireturn, 1) := by decide +kernel
theorem dX8_isLetter_0 : decode cX8_isLetter 0 = .ok (.iload_n 0, 1) := by decide +kernel
theorem dX8_isLetter_1 : decode cX8_isLetter 1 = .ok (.bipush 65, 2) := by decide +kernel
theorem dX8_isLetter_3 : decode cX8_isLetter 3 = .ok (.isub, 1) := by decide +kernel
theorem dX8_isLetter_4 : decode cX8_isLetter 4 = .ok (.invokestatic 36, 3) := by decide +kernel
theorem dX8_isLetter_7 : decode cX8_isLetter 7 = .ok (.ireturn, 1) := by decide +kernel
theorem dX9_init_0 : decode cX9_init 0 = .ok (.aload_n 0, 1) := by decide +kernel
theorem dX9_init_1 : decode cX9_init 1 = .ok (.invokespecial 3, 3) := by decide +kernel
theorem dX9_init_4 : decode cX9_init 4 = .ok (.aload_n 0, 1) := by decide +kernel
theorem dX9_init_5 : decode cX9_init 5 = .ok (.bipush 13, 2) := by decide +kernel
theorem dX9_init_7 : decode cX9_init 7 = .ok (.newarray .long, 2) := by decide +kernel
theorem dX9_init_9 : decode cX9_init 9 = .ok (.putfield 9, 3) := by decide +kernel
theorem dX9_init_12 : decode cX9_init 12 = .ok (.return_, 1) := by decide +kernel
theorem dX9_spread_0 : decode cX9_spread 0 = .ok (.iconst 0, 1) := by decide +kernel
theorem dX9_spread_1 : decode cX9_spread 1 = .ok (.istore_n 3, 1) := by decide +kernel
theorem dX9_spread_2 : decode cX9_spread 2 = .ok (.iload_n 3, 1) := by decide +kernel
theorem dX9_spread_3 : decode cX9_spread 3 = .ok (.bipush 12, 2) := by decide +kernel
theorem dX9_spread_5 : decode cX9_spread 5 = .ok (.if_icmp .gt 16, 3) := by decide +kernel
theorem dX9_spread_8 : decode cX9_spread 8 = .ok (.aload_n 0, 1) := by decide +kernel
theorem dX9_spread_9 : decode cX9_spread 9 = .ok (.getfield 9, 3) := by decide +kernel
theorem dX9_spread_12 : decode cX9_spread 12 = .ok (.iload_n 3, 1) := by decide +kernel
theorem dX9_spread_13 : decode cX9_spread 13 = .ok (.lconst 0, 1) := by decide +kernel
theorem dX9_spread_14 : decode cX9_spread 14 = .ok (.lastore, 1) := by decide +kernel
theorem dX9_spread_15 : decode cX9_spread 15 = .ok (.iinc 3 1, 3) := by decide +kernel
theorem dX9_spread_18 : decode cX9_spread 18 = .ok (.goto (-16), 3) := by decide +kernel
theorem dX9_spread_21 : decode cX9_spread 21 = .ok (.aload_n 0, 1) := by decide +kernel
theorem dX9_spread_22 : decode cX9_spread 22 = .ok (.getfield 9, 3) := by decide +kernel
theorem dX9_spread_25 : decode cX9_spread 25 = .ok (.iconst 0, 1) := by decide +kernel
theorem dX9_spread_26 : decode cX9_spread 26 = .ok (.lconst 1, 1) := by decide +kernel
theorem dX9_spread_27 : decode cX9_spread 27 = .ok (.lastore, 1) := by decide +kernel
theorem dX9_spread_28 : decode cX9_spread 28 = .ok (.aload_n 0, 1) := by decide +kernel
theorem dX9_spread_29 : decode cX9_spread 29 = .ok (.lconst 1, 1) := by decide +kernel
theorem dX9_spread_30 : decode cX9_spread 30 = .ok (.putfield 15, 3) := by decide +kernel
theorem dX9_spread_33 : decode cX9_spread 33 = .ok (.iconst 0, 1) := by decide +kernel
theorem dX9_spread_34 : decode cX9_spread 34 = .ok (.istore_n 3, 1) := by decide +kernel
theorem dX9_spread_35 : decode cX9_spread 35 = .ok (.iload_n 3, 1) := by decide +kernel
theorem dX9_spread_36 : decode cX9_spread 36 = .ok (.iload_n 1, 1) := by decide +kernel
theorem dX9_spread_37 : decode cX9_spread 37 = .ok (.if_icmp .ge 83, 3) := by decide +kernel
theorem dX9_spread_40 : decode cX9_spread 40 = .ok (.bipush 12, 2) := by decide +kernel
theorem dX9_spread_42 : decode cX9_spread 42 = .ok (.istore 4, 2) := by decide +kernel
theorem dX9_spread_44 : decode cX9_spread 44 = .ok (.iload 4, 2) := by decide +kernel
theorem dX9_spread_46 : decode cX9_spread 46 = .ok (.ifCond .le 42, 3) := by decide +kernel
theorem dX9_spread_49 : decode cX9_spread 49 = .ok (.aload_n 0, 1) := by decide +kernel
theorem dX9_spread_50 : decode cX9_spread 50 = .ok (.getfield 9, 3) := by decide +kernel
theorem dX9_spread_53 : decode cX9_spread 53 = .ok (.iload 4, 2) := by decide +kernel
theorem dX9_spread_55 : decode cX9_spread 55 = .ok (.aload_n 0, 1) := by decide +kernel
theorem dX9_spread_56 : decode cX9_spread 56 = .ok (.getfield 9, 3) := by decide +kernel
theorem dX9_spread_59 : decode cX9_spread 59 = .ok (.iload 4, 2) := by decide +kernel
theorem dX9_spread_61 : decode cX9_spread 61 = .ok (.laload, 1) := by decide +kernel
theorem dX9_spread_62 : decode cX9_spread 62 = .ok (.bipush 10, 2) := by decide +kernel
theorem dX9_spread_64 : decode cX9_spread 64 = .ok (.iload_n 2, 1) := by decide +kernel
theorem dX9_spread_65 : decode cX9_spread 65 = .ok (.isub, 1) := by decide +kernel
theorem dX9_spread_66 : decode cX9_spread 66 = .ok (.i2l, 1) := by decide +kernel
theorem dX9_spread_67 : decode cX9_spread 67 = .ok (.lmul, 1) := by decide +kernel
theorem dX9_spread_68 : decode cX9_spread 68 = .ok (.aload_n 0, 1) := by decide +kernel
theorem dX9_spread_69 : decode cX9_spread 69 = .ok (.getfield 9, 3) := by decide +kernel
theorem dX9_spread_72 : decode cX9_spread 72 = .ok (.iload 4, 2) := by decide +kernel
theorem dX9_spread_74 : decode cX9_spread 74 = .ok (.iconst 1, 1) := by decide +kernel
theorem dX9_spread_75 : decode cX9_spread 75 = .ok (.isub, 1) := by decide +kernel
theorem dX9_spread_76 : decode cX9_spread 76 = .ok (.laload, 1) := by decide +kernel
theorem dX9_spread_77 : decode cX9_spread 77 = .ok (.iload_n 2, 1) := by decide +kernel
theorem dX9_spread_78 : decode cX9_spread 78 = .ok (.i2l, 1) := by decide +kernel
theorem dX9_spread_79 : decode cX9_spread 79 = .ok (.lmul, 1) := by decide +kernel
theorem dX9_spread_80 : decode cX9_spread 80 = .ok (.ladd, 1) := by decide +kernel
theorem dX9_spread_81 : decode cX9_spread 81 = .ok (.lastore, 1) := by decide +kernel
theorem dX9_spread_82 : decode cX9_spread 82 = .ok (.iinc 4 (-1), 3) := by decide +kernel
theorem dX9_spread_85 : decode cX9_spread 85 = .ok (.goto (-41), 3) := by decide +kernel
theorem dX9_spread_88 : decode cX9_spread 88 = .ok (.aload_n 0, 1) := by decide +kernel
theorem dX9_spread_89 : decode cX9_spread 89 = .ok (.getfield 9, 3) := by decide +kernel
theorem dX9_spread_92 : decode cX9_spread 92 = .ok (.iconst 0, 1) := by decide +kernel
theorem dX9_spread_93 : decode cX9_spread 93 = .ok (.dup2, 1) := by decide +kernel
theorem dX9_spread_94 : decode cX9_spread 94 = .ok (.laload, 1) := by decide +kernel
theorem dX9_spread_95 : decode cX9_spread 95 = .ok (.bipush 10, 2) := by decide +kernel
theorem dX9_spread_97 : decode cX9_spread 97 = .ok (.iload_n 2, 1) := by decide +kernel
theorem dX9_spread_98 : decode cX9_spread 98 = .ok (.isub, 1) := by decide +kernel
theorem dX9_spread_99 : decode cX9_spread 99 = .ok (.i2l, 1) := by decide +kernel
theorem dX9_spread_100 : decode cX9_spread 100 = .ok (.lmul, 1) := by decide +kernel
theorem dX9_spread_101 : decode cX9_spread 101 = .ok (.lastore, 1) := by decide +kernel
theorem dX9_spread_102 : decode cX9_spread 102 = .ok (.aload_n 0, 1) := by decide +kernel
theorem dX9_spread_103 : decode cX9_spread 103 = .ok (.dup, 1) := by decide +kernel
theorem dX9_spread_104 : decode cX9_spread 104 = .ok (.getfield 15, 3) := by decide +kernel
theorem dX9_spread_107 : decode cX9_spread 107 = .ok (.ldc2_w 19, 3) := by decide +kernel
theorem dX9_spread_110 : decode cX9_spread 110 = .ok (.lmul, 1) := by decide +kernel
theorem dX9_spread_111 : decode cX9_spread 111 = .ok (.putfield 15, 3) := by decide +kernel
theorem dX9_spread_114 : decode cX9_spread 114 = .ok (.iinc 3 1, 3) := by decide +kernel
theorem dX9_spread_117 : decode cX9_spread 117 = .ok (.goto (-82), 3) := by decide +kernel
theorem dX9_spread_120 : decode cX9_spread 120 = .ok (.return_, 1) := by decide +kernel
theorem dX9_waysToReach_0 : decode cX9_waysToReach 0 = .ok (.lconst 0, 1) := by decide +kernel
theorem dX9_waysToReach_1 : decode cX9_waysToReach 1 = .ok (.lstore_n 2, 1) := by decide +kernel
theorem dX9_waysToReach_2 : decode cX9_waysToReach 2 = .ok (.iload_n 1, 1) := by decide +kernel
theorem dX9_waysToReach_3 : decode cX9_waysToReach 3 = .ok (.istore 4, 2) := by decide +kernel
theorem dX9_waysToReach_5 : decode cX9_waysToReach 5 = .ok (.iload 4, 2) := by decide +kernel
theorem dX9_waysToReach_7 : decode cX9_waysToReach 7 = .ok (.bipush 12, 2) := by decide +kernel
theorem dX9_waysToReach_9 : decode cX9_waysToReach 9 = .ok (.if_icmp .gt 19, 3) := by decide +kernel
theorem dX9_waysToReach_12 : decode cX9_waysToReach 12 = .ok (.lload_n 2, 1) := by decide +kernel
theorem dX9_waysToReach_13 : decode cX9_waysToReach 13 = .ok (.aload_n 0, 1) := by decide +kernel
theorem dX9_waysToReach_14 : decode cX9_waysToReach 14 = .ok (.getfield 9, 3) := by decide +kernel
theorem dX9_waysToReach_17 : decode cX9_waysToReach 17 = .ok (.iload 4, 2) := by decide +kernel
theorem dX9_waysToReach_19 : decode cX9_waysToReach 19 = .ok (.laload, 1) := by decide +kernel
theorem dX9_waysToReach_20 : decode cX9_waysToReach 20 = .ok (.ladd, 1) := by decide +kernel
theorem dX9_waysToReach_21 : decode cX9_waysToReach 21 = .ok (.lstore_n 2, 1) := by decide +kernel
theorem dX9_waysToReach_22 : decode cX9_waysToReach 22 = .ok (.iinc 4 1, 3) := by decide +kernel
theorem dX9_waysToReach_25 : decode cX9_waysToReach 25 = .ok (.goto (-20), 3) := by decide +kernel
theorem dX9_waysToReach_28 : decode cX9_waysToReach 28 = .ok (.lload_n 2, 1) := by decide +kernel
theorem dX9_waysToReach_29 : decode cX9_waysToReach 29 = .ok (.lreturn, 1) := by decide +kernel
theorem dX9_lengthsUpTo_0 : decode cX9_lengthsUpTo 0 = .ok (.lconst 0, 1) := by decide +kernel
theorem dX9_lengthsUpTo_1 : decode cX9_lengthsUpTo 1 = .ok (.lstore_n 2, 1) := by decide +kernel
theorem dX9_lengthsUpTo_2 : decode cX9_lengthsUpTo 2 = .ok (.iconst 1, 1) := by decide +kernel
theorem dX9_lengthsUpTo_3 : decode cX9_lengthsUpTo 3 = .ok (.istore 4, 2) := by decide +kernel
theorem dX9_lengthsUpTo_5 : decode cX9_lengthsUpTo 5 = .ok (.iload 4, 2) := by decide +kernel
theorem dX9_lengthsUpTo_7 : decode cX9_lengthsUpTo 7 = .ok (.bipush 12, 2) := by decide +kernel
theorem dX9_lengthsUpTo_9 : decode cX9_lengthsUpTo 9 = .ok (.if_icmp .gt 27, 3) := by decide +kernel
theorem dX9_lengthsUpTo_12 : decode cX9_lengthsUpTo 12 = .ok (.lload_n 2, 1) := by decide +kernel
theorem dX9_lengthsUpTo_13 : decode cX9_lengthsUpTo 13 = .ok (.iload 4, 2) := by decide +kernel
theorem dX9_lengthsUpTo_15 : decode cX9_lengthsUpTo 15 = .ok (.iload_n 1, 1) := by decide +kernel
theorem dX9_lengthsUpTo_16 : decode cX9_lengthsUpTo 16 = .ok (.invokestatic 21, 3) := by decide +kernel
theorem dX9_lengthsUpTo_19 : decode cX9_lengthsUpTo 19 = .ok (.i2l, 1) := by decide +kernel
theorem dX9_lengthsUpTo_20 : decode cX9_lengthsUpTo 20 = .ok (.aload_n 0, 1) := by decide +kernel
theorem dX9_lengthsUpTo_21 : decode cX9_lengthsUpTo 21 = .ok (.getfield 9, 3) := by decide +kernel
theorem dX9_lengthsUpTo_24 : decode cX9_lengthsUpTo 24 = .ok (.iload 4, 2) := by decide +kernel
theorem dX9_lengthsUpTo_26 : decode cX9_lengthsUpTo 26 = .ok (.laload, 1) := by decide +kernel
theorem dX9_lengthsUpTo_27 : decode cX9_lengthsUpTo 27 = .ok (.lmul, 1) := by decide +kernel
theorem dX9_lengthsUpTo_28 : decode cX9_lengthsUpTo 28 = .ok (.ladd, 1) := by decide +kernel
theorem dX9_lengthsUpTo_29 : decode cX9_lengthsUpTo 29 = .ok (.lstore_n 2, 1) := by decide +kernel
theorem dX9_lengthsUpTo_30 : decode cX9_lengthsUpTo 30 = .ok (.iinc 4 1, 3) := by decide +kernel
theorem dX9_lengthsUpTo_33 : decode cX9_lengthsUpTo 33 = .ok (.goto (-28), 3) := by decide +kernel
theorem dX9_lengthsUpTo_36 : decode cX9_lengthsUpTo 36 = .ok (.lload_n 2, 1) := by decide +kernel
theorem dX9_lengthsUpTo_37 : decode cX9_lengthsUpTo 37 = .ok (.lreturn, 1) := by decide +kernel
theorem dX10_init_0 : decode cX10_init 0 = .ok (.aload_n 0, 1) := by decide +kernel
theorem dX10_init_1 : decode cX10_init 1 = .ok (.invokespecial 3, 3) := by decide +kernel
theorem dX10_init_4 : decode cX10_init 4 = .ok (.aload_n 0, 1) := by decide +kernel
theorem dX10_init_5 : decode cX10_init 5 = .ok (.bipush 21, 2) := by decide +kernel
theorem dX10_init_7 : decode cX10_init 7 = .ok (.newarray .int, 2) := by decide +kernel
theorem dX10_init_9 : decode cX10_init 9 = .ok (.putfield 9, 3) := by decide +kernel
theorem dX10_init_12 : decode cX10_init 12 = .ok (.iconst 0, 1) := by decide +kernel
theorem dX10_init_13 : decode cX10_init 13 = .ok (.istore_n 1, 1) := by decide +kernel
theorem dX10_init_14 : decode cX10_init 14 = .ok (.iload_n 1, 1) := by decide +kernel
theorem dX10_init_15 : decode cX10_init 15 = .ok (.bipush 20, 2) := by decide +kernel
theorem dX10_init_17 : decode cX10_init 17 = .ok (.if_icmp .gt 17, 3) := by decide +kernel
theorem dX10_init_20 : decode cX10_init 20 = .ok (.aload_n 0, 1) := by decide +kernel
theorem dX10_init_21 : decode cX10_init 21 = .ok (.getfield 9, 3) := by decide +kernel
theorem dX10_init_24 : decode cX10_init 24 = .ok (.iload_n 1, 1) := by decide +kernel
theorem dX10_init_25 : decode cX10_init 25 = .ok (.bipush (-6), 2) := by decide +kernel
theorem dX10_init_27 : decode cX10_init 27 = .ok (.iastore, 1) := by decide +kernel
theorem dX10_init_28 : decode cX10_init 28 = .ok (.iinc 1 1, 3) := by decide +kernel
theorem dX10_init_31 : decode cX10_init 31 = .ok (.goto (-17), 3) := by decide +kernel
theorem dX10_init_34 : decode cX10_init 34 = .ok (.iconst 0, 1) := by decide +kernel
theorem dX10_init_35 : decode cX10_init 35 = .ok (.istore_n 1, 1) := by decide +kernel
theorem dX10_init_36 : decode cX10_init 36 = .ok (.iconst 0, 1) := by decide +kernel
theorem dX10_init_37 : decode cX10_init 37 = .ok (.istore_n 2, 1) := by decide +kernel
theorem dX10_init_38 : decode cX10_init 38 = .ok (.iload_n 2, 1) := by decide +kernel
theorem dX10_init_39 : decode cX10_init 39 = .ok (.bipush 20, 2) := by decide +kernel
theorem dX10_init_41 : decode cX10_init 41 = .ok (.if_icmp .gt 49, 3) := by decide +kernel
theorem dX10_init_44 : decode cX10_init 44 = .ok (.aload_n 0, 1) := by decide +kernel
theorem dX10_init_45 : decode cX10_init 45 = .ok (.getfield 9, 3) := by decide +kernel
theorem dX10_init_48 : decode cX10_init 48 = .ok (.iload_n 2, 1) := by decide +kernel
theorem dX10_init_49 : decode cX10_init 49 = .ok (.iaload, 1) := by decide +kernel
theorem dX10_init_50 : decode cX10_init 50 = .ok (.bipush (-6), 2) := by decide +kernel
theorem dX10_init_52 : decode cX10_init 52 = .ok (.if_icmp .ne 32, 3) := by decide +kernel
theorem dX10_init_55 : decode cX10_init 55 = .ok (.aload_n 0, 1) := by decide +kernel
theorem dX10_init_56 : decode cX10_init 56 = .ok (.getfield 9, 3) := by decide +kernel
theorem dX10_init_59 : decode cX10_init 59 = .ok (.iload_n 2, 1) := by decide +kernel
theorem dX10_init_60 : decode cX10_init 60 = .ok (.iload_n 2, 1) := by decide +kernel
theorem dX10_init_61 : decode cX10_init 61 = .ok (.iload_n 1, 1) := by decide +kernel
theorem dX10_init_62 : decode cX10_init 62 = .ok (.iadd, 1) := by decide +kernel
theorem dX10_init_63 : decode cX10_init 63 = .ok (.iastore, 1) := by decide +kernel
theorem dX10_init_64 : decode cX10_init 64 = .ok (.iload_n 2, 1) := by decide +kernel
theorem dX10_init_65 : decode cX10_init 65 = .ok (.iload_n 1, 1) := by decide +kernel
theorem dX10_init_66 : decode cX10_init 66 = .ok (.iadd, 1) := by decide +kernel
theorem dX10_init_67 : decode cX10_init 67 = .ok (.bipush 20, 2) := by decide +kernel
theorem dX10_init_69 : decode cX10_init 69 = .ok (.if_icmp .gt 12, 3) := by decide +kernel
theorem dX10_init_72 : decode cX10_init 72 = .ok (.aload_n 0, 1) := by decide +kernel
theorem dX10_init_73 : decode cX10_init 73 = .ok (.getfield 9, 3) := by decide +kernel
theorem dX10_init_76 : decode cX10_init 76 = .ok (.iload_n 2, 1) := by decide +kernel
theorem dX10_init_77 : decode cX10_init 77 = .ok (.iload_n 1, 1) := by decide +kernel
theorem dX10_init_78 : decode cX10_init 78 = .ok (.iadd, 1) := by decide +kernel
theorem dX10_init_79 : decode cX10_init 79 = .ok (.iload_n 2, 1) := by decide +kernel
theorem dX10_init_80 : decode cX10_init 80 = .ok (.iastore, 1) := by decide +kernel
theorem dX10_init_81 : decode cX10_init 81 = .ok (.iinc 1 1, 3) := by decide +kernel
theorem dX10_init_84 : decode cX10_init 84 = .ok (.iinc 2 1, 3) := by decide +kernel
theorem dX10_init_87 : decode cX10_init 87 = .ok (.goto (-49), 3) := by decide +kernel
theorem dX10_init_90 : decode cX10_init 90 = .ok (.return_, 1) := by decide +kernel
theorem dX10_isLost_0 : decode cX10_isLost 0 = .ok (.aload_n 0, 1) := by decide +kernel
theorem dX10_isLost_1 : decode cX10_isLost 1 = .ok (.getfield 9, 3) := by decide +kernel
theorem dX10_isLost_4 : decode cX10_isLost 4 = .ok (.iload_n 1, 1) := by decide +kernel
theorem dX10_isLost_5 : decode cX10_isLost 5 = .ok (.iaload, 1) := by decide +kernel
theorem dX10_isLost_6 : decode cX10_isLost 6 = .ok (.iload_n 2, 1) := by decide +kernel
theorem dX10_isLost_7 : decode cX10_isLost 7 = .ok (.if_icmp .ne 7, 3) := by decide +kernel
theorem dX10_isLost_10 : decode cX10_isLost 10 = .ok (.iconst 1, 1) := by decide +kernel
theorem dX10_isLost_11 : decode cX10_isLost 11 = .ok (.goto 4, 3) := by decide +kernel
theorem dX10_isLost_14 : decode cX10_isLost 14 = .ok (.iconst 0, 1) := by decide +kernel
theorem dX10_isLost_15 : decode cX10_isLost 15 = .ok (.ireturn, 1) := by decide +kernel
theorem dX10_winningTake_0 : decode cX10_winningTake 0 = .ok (.iconst 0, 1) := by decide +kernel
theorem dX10_winningTake_1 : decode cX10_winningTake 1 = .ok (.istore_n 3, 1) := by decide +kernel
theorem dX10_winningTake_2 : decode cX10_winningTake 2 = .ok (.iload_n 3, 1) := by decide +kernel
theorem dX10_winningTake_3 : decode cX10_winningTake 3 = .ok (.iload_n 1, 1) := by decide +kernel
theorem dX10_winningTake_4 : decode cX10_winningTake 4 = .ok (.if_icmp .gt 90, 3) := by decide +kernel
theorem dX10_winningTake_7 : decode cX10_winningTake 7 = .ok (.iload_n 2, 1) := by decide +kernel
theorem dX10_winningTake_8 : decode cX10_winningTake 8 = .ok (.aload_n 0, 1) := by decide +kernel
theorem dX10_winningTake_9 : decode cX10_winningTake 9 = .ok (.getfield 9, 3) := by decide +kernel
theorem dX10_winningTake_12 : decode cX10_winningTake 12 = .ok (.iload_n 1, 1) := by decide +kernel
theorem dX10_winningTake_13 : decode cX10_winningTake 13 = .ok (.iload_n 3, 1) := by decide +kernel
theorem dX10_winningTake_14 : decode cX10_winningTake 14 = .ok (.isub, 1) := by decide +kernel
theorem dX10_winningTake_15 : decode cX10_winningTake 15 = .ok (.iaload, 1) := by decide +kernel
theorem dX10_winningTake_16 : decode cX10_winningTake 16 = .ok (.isub, 1) := by decide +kernel
theorem dX10_winningTake_17 : decode cX10_winningTake 17 = .ok (.istore 4, 2) := by decide +kernel
theorem dX10_winningTake_19 : decode cX10_winningTake 19 = .ok (.iload_n 3, 1) := by decide +kernel
theorem dX10_winningTake_20 : decode cX10_winningTake 20 = .ok (.ifCond .ne 7, 3) := by decide +kernel
theorem dX10_winningTake_23 : decode cX10_winningTake 23 = .ok (.iconst 1, 1) := by decide +kernel
theorem dX10_winningTake_24 : decode cX10_winningTake 24 = .ok (.goto 4, 3) := by decide +kernel
theorem dX10_winningTake_27 : decode cX10_winningTake 27 = .ok (.iconst 0, 1) := by decide +kernel
theorem dX10_winningTake_28 : decode cX10_winningTake 28 = .ok (.iload 4, 2) := by decide +kernel
theorem dX10_winningTake_30 : decode cX10_winningTake 30 = .ok (.ifCond .ne 7, 3) := by decide +kernel
theorem dX10_winningTake_33 : decode cX10_winningTake 33 = .ok (.iconst 1, 1) := by decide +kernel
theorem dX10_winningTake_34 : decode cX10_winningTake 34 = .ok (.goto 4, 3) := by decide +kernel
theorem dX10_winningTake_37 : decode cX10_winningTake 37 = .ok (.iconst 0, 1) := by decide +kernel
theorem dX10_winningTake_38 : decode cX10_winningTake 38 = .ok (.if_icmp .eq 7, 3) := by decide +kernel
theorem dX10_winningTake_41 : decode cX10_winningTake 41 = .ok (.iconst 1, 1) := by decide +kernel
theorem dX10_winningTake_42 : decode cX10_winningTake 42 = .ok (.goto 4, 3) := by decide +kernel
theorem dX10_winningTake_45 : decode cX10_winningTake 45 = .ok (.iconst 0, 1) := by decide +kernel
theorem dX10_winningTake_46 : decode cX10_winningTake 46 = .ok (.istore 5, 2) := by decide +kernel
theorem dX10_winningTake_48 : decode cX10_winningTake 48 = .ok (.iload_n 3, 1) := by decide +kernel
theorem dX10_winningTake_49 : decode cX10_winningTake 49 = .ok (.iload 4, 2) := by decide +kernel
theorem dX10_winningTake_51 : decode cX10_winningTake 51 = .ok (.if_icmp .ne 11, 3) := by decide +kernel
theorem dX10_winningTake_54 : decode cX10_winningTake 54 = .ok (.iload_n 3, 1) := by decide +kernel
theorem dX10_winningTake_55 : decode cX10_winningTake 55 = .ok (.ifCond .le 7, 3) := by decide +kernel
theorem dX10_winningTake_58 : decode cX10_winningTake 58 = .ok (.iconst 1, 1) := by decide +kernel
theorem dX10_winningTake_59 : decode cX10_winningTake 59 = .ok (.goto 4, 3) := by decide +kernel
theorem dX10_winningTake_62 : decode cX10_winningTake 62 = .ok (.iconst 0, 1) := by decide +kernel
theorem dX10_winningTake_63 : decode cX10_winningTake 63 = .ok (.istore 6, 2) := by decide +kernel
theorem dX10_winningTake_65 : decode cX10_winningTake 65 = .ok (.iload 4, 2) := by decide +kernel
theorem dX10_winningTake_67 : decode cX10_winningTake 67 = .ok (.ifCond .lt 21, 3) := by decide +kernel
theorem dX10_winningTake_70 : decode cX10_winningTake 70 = .ok (.iload 5, 2) := by decide +kernel
theorem dX10_winningTake_72 : decode cX10_winningTake 72 = .ok (.ifCond .ne 8, 3) := by decide +kernel
theorem dX10_winningTake_75 : decode cX10_winningTake 75 = .ok (.iload 6, 2) := by decide +kernel
theorem dX10_winningTake_77 : decode cX10_winningTake 77 = .ok (.ifCond .eq 11, 3) := by decide +kernel
theorem dX10_winningTake_80 : decode cX10_winningTake 80 = .ok (.bipush 100, 2) := by decide +kernel
theorem dX10_winningTake_82 : decode cX10_winningTake 82 = .ok (.iload_n 3, 1) := by decide +kernel
theorem dX10_winningTake_83 : decode cX10_winningTake 83 = .ok (.imul, 1) := by decide +kernel
theorem dX10_winningTake_84 : decode cX10_winningTake 84 = .ok (.iload 4, 2) := by decide +kernel
theorem dX10_winningTake_86 : decode cX10_winningTake 86 = .ok (.iadd, 1) := by decide +kernel
theorem dX10_winningTake_87 : decode cX10_winningTake 87 = .ok (.ireturn, 1) := by decide +kernel
theorem dX10_winningTake_88 : decode cX10_winningTake 88 = .ok (.iinc 3 1, 3) := by decide +kernel
theorem dX10_winningTake_91 : decode cX10_winningTake 91 = .ok (.goto (-89), 3) := by decide +kernel
theorem dX10_winningTake_94 : decode cX10_winningTake 94 = .ok (.bipush (-6), 2) := by decide +kernel
theorem dX10_winningTake_96 : decode cX10_winningTake 96 = .ok (.ireturn, 1) := by decide +kernel
theorem dX11_init_0 : decode cX11_init 0 = .ok (.aload_n 0, 1) := by decide +kernel
theorem dX11_init_1 : decode cX11_init 1 = .ok (.invokespecial 3, 3) := by decide +kernel
theorem dX11_init_4 : decode cX11_init 4 = .ok (.aload_n 0, 1) := by decide +kernel
theorem dX11_init_5 : decode cX11_init 5 = .ok (.new 9, 3) := by decide +kernel
theorem dX11_init_8 : decode cX11_init 8 = .ok (.dup, 1) := by decide +kernel
theorem dX11_init_9 : decode cX11_init 9 = .ok (.invokespecial 11, 3) := by decide +kernel
theorem dX11_init_12 : decode cX11_init 12 = .ok (.putfield 12, 3) := by decide +kernel
theorem dX11_init_15 : decode cX11_init 15 = .ok (.aload_n 0, 1) := by decide +kernel
theorem dX11_init_16 : decode cX11_init 16 = .ok (.new 16, 3) := by decide +kernel
theorem dX11_init_19 : decode cX11_init 19 = .ok (.dup, 1) := by decide +kernel
theorem dX11_init_20 : decode cX11_init 20 = .ok (.invokespecial 18, 3) := by decide +kernel
theorem dX11_init_23 : decode cX11_init 23 = .ok (.putfield 19, 3) := by decide +kernel
theorem dX11_init_26 : decode cX11_init 26 = .ok (.aload_n 0, 1) := by decide +kernel
theorem dX11_init_27 : decode cX11_init 27 = .ok (.new 23, 3) := by decide +kernel
theorem dX11_init_30 : decode cX11_init 30 = .ok (.dup, 1) := by decide +kernel
theorem dX11_init_31 : decode cX11_init 31 = .ok (.invokespecial 25, 3) := by decide +kernel
theorem dX11_init_34 : decode cX11_init 34 = .ok (.putfield 26, 3) := by decide +kernel
theorem dX11_init_37 : decode cX11_init 37 = .ok (.aload_n 0, 1) := by decide +kernel
theorem dX11_init_38 : decode cX11_init 38 = .ok (.new 30, 3) := by decide +kernel
theorem dX11_init_41 : decode cX11_init 41 = .ok (.dup, 1) := by decide +kernel
theorem dX11_init_42 : decode cX11_init 42 = .ok (.invokespecial 32, 3) := by decide +kernel
theorem dX11_init_45 : decode cX11_init 45 = .ok (.putfield 33, 3) := by decide +kernel
theorem dX11_init_48 : decode cX11_init 48 = .ok (.aload_n 0, 1) := by decide +kernel
theorem dX11_init_49 : decode cX11_init 49 = .ok (.new 30, 3) := by decide +kernel
theorem dX11_init_52 : decode cX11_init 52 = .ok (.dup, 1) := by decide +kernel
theorem dX11_init_53 : decode cX11_init 53 = .ok (.invokespecial 32, 3) := by decide +kernel
theorem dX11_init_56 : decode cX11_init 56 = .ok (.putfield 37, 3) := by decide +kernel
theorem dX11_init_59 : decode cX11_init 59 = .ok (.aload_n 0, 1) := by decide +kernel
theorem dX11_init_60 : decode cX11_init 60 = .ok (.new 40, 3) := by decide +kernel
theorem dX11_init_63 : decode cX11_init 63 = .ok (.dup, 1) := by decide +kernel
theorem dX11_init_64 : decode cX11_init 64 = .ok (.invokespecial 42, 3) := by decide +kernel
theorem dX11_init_67 : decode cX11_init 67 = .ok (.putfield 43, 3) := by decide +kernel
theorem dX11_init_70 : decode cX11_init 70 = .ok (.aload_n 0, 1) := by decide +kernel
theorem dX11_init_71 : decode cX11_init 71 = .ok (.new 47, 3) := by decide +kernel
theorem dX11_init_74 : decode cX11_init 74 = .ok (.dup, 1) := by decide +kernel
theorem dX11_init_75 : decode cX11_init 75 = .ok (.invokespecial 49, 3) := by decide +kernel
theorem dX11_init_78 : decode cX11_init 78 = .ok (.putfield 50, 3) := by decide +kernel
theorem dX11_init_81 : decode cX11_init 81 = .ok (.aload_n 0, 1) := by decide +kernel
theorem dX11_init_82 : decode cX11_init 82 = .ok (.new 54, 3) := by decide +kernel
theorem dX11_init_85 : decode cX11_init 85 = .ok (.dup, 1) := by decide +kernel
theorem dX11_init_86 : decode cX11_init 86 = .ok (.invokespecial 56, 3) := by decide +kernel
theorem dX11_init_89 : decode cX11_init 89 = .ok (.putfield 57, 3) := by decide +kernel
theorem dX11_init_92 : decode cX11_init 92 = .ok (.aload_n 0, 1) := by decide +kernel
theorem dX11_init_93 : decode cX11_init 93 = .ok (.new 61, 3) := by decide +kernel
theorem dX11_init_96 : decode cX11_init 96 = .ok (.dup, 1) := by decide +kernel
theorem dX11_init_97 : decode cX11_init 97 = .ok (.invokespecial 63, 3) := by decide +kernel
theorem dX11_init_100 : decode cX11_init 100 = .ok (.putfield 64, 3) := by decide +kernel
theorem dX11_init_103 : decode cX11_init 103 = .ok (.aload_n 0, 1) := by decide +kernel
theorem dX11_init_104 : decode cX11_init 104 = .ok (.new 68, 3) := by decide +kernel
theorem dX11_init_107 : decode cX11_init 107 = .ok (.dup, 1) := by decide +kernel
theorem dX11_init_108 : decode cX11_init 108 = .ok (.invokespecial 70, 3) := by decide +kernel
theorem dX11_init_111 : decode cX11_init 111 = .ok (.putfield 71, 3) := by decide +kernel
theorem dX11_init_114 : decode cX11_init 114 = .ok (.aload_n 0, 1) := by decide +kernel
theorem dX11_init_115 : decode cX11_init 115 = .ok (.new 75, 3) := by decide +kernel
theorem dX11_init_118 : decode cX11_init 118 = .ok (.dup, 1) := by decide +kernel
theorem dX11_init_119 : decode cX11_init 119 = .ok (.invokespecial 77, 3) := by decide +kernel
theorem dX11_init_122 : decode cX11_init 122 = .ok (.putfield 78, 3) := by decide +kernel
theorem dX11_init_125 : decode cX11_init 125 = .ok (.aload_n 0, 1) := by decide +kernel
theorem dX11_init_126 : decode cX11_init 126 = .ok (.new 82, 3) := by decide +kernel
theorem dX11_init_129 : decode cX11_init 129 = .ok (.dup, 1) := by decide +kernel
theorem dX11_init_130 : decode cX11_init 130 = .ok (.invokespecial 84, 3) := by decide +kernel
theorem dX11_init_133 : decode cX11_init 133 = .ok (.putfield 85, 3) := by decide +kernel
theorem dX11_init_136 : decode cX11_init 136 = .ok (.return_, 1) := by decide +kernel
theorem dX11_basket_0 : decode cX11_basket 0 = .ok (.iload_n 1, 1) := by decide +kernel
theorem dX11_basket_1 : decode cX11_basket 1 = .ok (.invokestatic 89, 3) := by decide +kernel
theorem dX11_basket_4 : decode cX11_basket 4 = .ok (.ifCond .ne 5, 3) := by decide +kernel
theorem dX11_basket_7 : decode cX11_basket 7 = .ok (.iconst (-1), 1) := by decide +kernel
theorem dX11_basket_8 : decode cX11_basket 8 = .ok (.ireturn, 1) := by decide +kernel
theorem dX11_basket_9 : decode cX11_basket 9 = .ok (.iload_n 2, 1) := by decide +kernel
theorem dX11_basket_10 : decode cX11_basket 10 = .ok (.invokestatic 93, 3) := by decide +kernel
theorem dX11_basket_13 : decode cX11_basket 13 = .ok (.ifCond .eq 13, 3) := by decide +kernel
theorem dX11_basket_16 : decode cX11_basket 16 = .ok (.iload_n 3, 1) := by decide +kernel
theorem dX11_basket_17 : decode cX11_basket 17 = .ok (.iconst 1, 1) := by decide +kernel
theorem dX11_basket_18 : decode cX11_basket 18 = .ok (.bipush 9, 2) := by decide +kernel
theorem dX11_basket_20 : decode cX11_basket 20 = .ok (.invokestatic 96, 3) := by decide +kernel
theorem dX11_basket_23 : decode cX11_basket 23 = .ok (.ifCond .ne 6, 3) := by decide +kernel
theorem dX11_basket_26 : decode cX11_basket 26 = .ok (.bipush (-2), 2) := by decide +kernel
theorem dX11_basket_28 : decode cX11_basket 28 = .ok (.ireturn, 1) := by decide +kernel
theorem dX11_basket_29 : decode cX11_basket 29 = .ok (.bipush 10, 2) := by decide +kernel
theorem dX11_basket_31 : decode cX11_basket 31 = .ok (.aload_n 0, 1) := by decide +kernel
theorem dX11_basket_32 : decode cX11_basket 32 = .ok (.getfield 12, 3) := by decide +kernel
theorem dX11_basket_35 : decode cX11_basket 35 = .ok (.getfield 100, 3) := by decide +kernel
theorem dX11_basket_38 : decode cX11_basket 38 = .ok (.iload_n 1, 1) := by decide +kernel
theorem dX11_basket_39 : decode cX11_basket 39 = .ok (.iaload, 1) := by decide +kernel
theorem dX11_basket_40 : decode cX11_basket 40 = .ok (.imul, 1) := by decide +kernel
theorem dX11_basket_41 : decode cX11_basket 41 = .ok (.aload_n 0, 1) := by decide +kernel
theorem dX11_basket_42 : decode cX11_basket 42 = .ok (.getfield 12, 3) := by decide +kernel
theorem dX11_basket_45 : decode cX11_basket 45 = .ok (.getfield 104, 3) := by decide +kernel
theorem dX11_basket_48 : decode cX11_basket 48 = .ok (.iload_n 1, 1) := by decide +kernel
theorem dX11_basket_49 : decode cX11_basket 49 = .ok (.iaload, 1) := by decide +kernel
theorem dX11_basket_50 : decode cX11_basket 50 = .ok (.iadd, 1) := by decide +kernel
theorem dX11_basket_51 : decode cX11_basket 51 = .ok (.istore 4, 2) := by decide +kernel
theorem dX11_basket_53 : decode cX11_basket 53 = .ok (.aload_n 0, 1) := by decide +kernel
theorem dX11_basket_54 : decode cX11_basket 54 = .ok (.getfield 12, 3) := by decide +kernel
theorem dX11_basket_57 : decode cX11_basket 57 = .ok (.getfield 100, 3) := by decide +kernel
theorem dX11_basket_60 : decode cX11_basket 60 = .ok (.iload_n 1, 1) := by decide +kernel
theorem dX11_basket_61 : decode cX11_basket 61 = .ok (.iload_n 2, 1) := by decide +kernel
theorem dX11_basket_62 : decode cX11_basket 62 = .ok (.iastore, 1) := by decide +kernel
theorem dX11_basket_63 : decode cX11_basket 63 = .ok (.aload_n 0, 1) := by decide +kernel
theorem dX11_basket_64 : decode cX11_basket 64 = .ok (.getfield 12, 3) := by decide +kernel
theorem dX11_basket_67 : decode cX11_basket 67 = .ok (.getfield 104, 3) := by decide +kernel
theorem dX11_basket_70 : decode cX11_basket 70 = .ok (.iload_n 1, 1) := by decide +kernel
theorem dX11_basket_71 : decode cX11_basket 71 = .ok (.iload_n 3, 1) := by decide +kernel
theorem dX11_basket_72 : decode cX11_basket 72 = .ok (.iastore, 1) := by decide +kernel
theorem dX11_basket_73 : decode cX11_basket 73 = .ok (.iload 4, 2) := by decide +kernel
theorem dX11_basket_75 : decode cX11_basket 75 = .ok (.ireturn, 1) := by decide +kernel
theorem dX11_right_0 : decode cX11_right 0 = .ok (.aload_n 0, 1) := by decide +kernel
theorem dX11_right_1 : decode cX11_right 1 = .ok (.getfield 12, 3) := by decide +kernel
theorem dX11_right_4 : decode cX11_right 4 = .ok (.invokevirtual 107, 3) := by decide +kernel
theorem dX11_right_7 : decode cX11_right 7 = .ok (.istore_n 1, 1) := by decide +kernel
theorem dX11_right_8 : decode cX11_right 8 = .ok (.aload_n 0, 1) := by decide +kernel
theorem dX11_right_9 : decode cX11_right 9 = .ok (.getfield 12, 3) := by decide +kernel
theorem dX11_right_12 : decode cX11_right 12 = .ok (.invokevirtual 111, 3) := by decide +kernel
theorem dX11_right_15 : decode cX11_right 15 = .ok (.iload_n 1, 1) := by decide +kernel
theorem dX11_right_16 : decode cX11_right 16 = .ok (.ireturn, 1) := by decide +kernel
theorem dX11_clock_0 : decode cX11_clock 0 = .ok (.iload_n 1, 1) := by decide +kernel
theorem dX11_clock_1 : decode cX11_clock 1 = .ok (.iconst 0, 1) := by decide +kernel
theorem dX11_clock_2 : decode cX11_clock 2 = .ok (.bipush 99, 2) := by decide +kernel
theorem dX11_clock_4 : decode cX11_clock 4 = .ok (.invokestatic 96, 3) := by decide +kernel
theorem dX11_clock_7 : decode cX11_clock 7 = .ok (.ifCond .eq 13, 3) := by decide +kernel
theorem dX11_clock_10 : decode cX11_clock 10 = .ok (.iload_n 2, 1) := by decide +kernel
theorem dX11_clock_11 : decode cX11_clock 11 = .ok (.iconst 0, 1) := by decide +kernel
theorem dX11_clock_12 : decode cX11_clock 12 = .ok (.bipush 99, 2) := by decide +kernel
theorem dX11_clock_14 : decode cX11_clock 14 = .ok (.invokestatic 96, 3) := by decide +kernel
theorem dX11_clock_17 : decode cX11_clock 17 = .ok (.ifCond .ne 6, 3) := by decide +kernel
theorem dX11_clock_20 : decode cX11_clock 20 = .ok (.bipush (-2), 2) := by decide +kernel
theorem dX11_clock_22 : decode cX11_clock 22 = .ok (.ireturn, 1) := by decide +kernel
theorem dX11_clock_23 : decode cX11_clock 23 = .ok (.bipush 100, 2) := by decide +kernel
theorem dX11_clock_25 : decode cX11_clock 25 = .ok (.aload_n 0, 1) := by decide +kernel
theorem dX11_clock_26 : decode cX11_clock 26 = .ok (.getfield 12, 3) := by decide +kernel
theorem dX11_clock_29 : decode cX11_clock 29 = .ok (.getfield 114, 3) := by decide +kernel
theorem dX11_clock_32 : decode cX11_clock 32 = .ok (.imul, 1) := by decide +kernel
theorem dX11_clock_33 : decode cX11_clock 33 = .ok (.aload_n 0, 1) := by decide +kernel
theorem dX11_clock_34 : decode cX11_clock 34 = .ok (.getfield 12, 3) := by decide +kernel
theorem dX11_clock_37 : decode cX11_clock 37 = .ok (.getfield 118, 3) := by decide +kernel
theorem dX11_clock_40 : decode cX11_clock 40 = .ok (.iadd, 1) := by decide +kernel
theorem dX11_clock_41 : decode cX11_clock 41 = .ok (.istore_n 3, 1) := by decide +kernel
theorem dX11_clock_42 : decode cX11_clock 42 = .ok (.aload_n 0, 1) := by decide +kernel
theorem dX11_clock_43 : decode cX11_clock 43 = .ok (.getfield 12, 3) := by decide +kernel
theorem dX11_clock_46 : decode cX11_clock 46 = .ok (.iload_n 1, 1) := by decide +kernel
theorem dX11_clock_47 : decode cX11_clock 47 = .ok (.putfield 114, 3) := by decide +kernel
theorem dX11_clock_50 : decode cX11_clock 50 = .ok (.aload_n 0, 1) := by decide +kernel
theorem dX11_clock_51 : decode cX11_clock 51 = .ok (.getfield 12, 3) := by decide +kernel
theorem dX11_clock_54 : decode cX11_clock 54 = .ok (.iload_n 2, 1) := by decide +kernel
theorem dX11_clock_55 : decode cX11_clock 55 = .ok (.putfield 118, 3) := by decide +kernel
theorem dX11_clock_58 : decode cX11_clock 58 = .ok (.iload_n 3, 1) := by decide +kernel
theorem dX11_clock_59 : decode cX11_clock 59 = .ok (.ireturn, 1) := by decide +kernel
theorem dX11_attendant_0 : decode cX11_attendant 0 = .ok (.iload_n 1, 1) := by decide +kernel
theorem dX11_attendant_1 : decode cX11_attendant 1 = .ok (.invokestatic 89, 3) := by decide +kernel
theorem dX11_attendant_4 : decode cX11_attendant 4 = .ok (.ifCond .ne 5, 3) := by decide +kernel
theorem dX11_attendant_7 : decode cX11_attendant 7 = .ok (.iconst (-1), 1) := by decide +kernel
theorem dX11_attendant_8 : decode cX11_attendant 8 = .ok (.ireturn, 1) := by decide +kernel
theorem dX11_attendant_9 : decode cX11_attendant 9 = .ok (.iload_n 2, 1) := by decide +kernel
theorem dX11_attendant_10 : decode cX11_attendant 10 = .ok (.invokestatic 93, 3) := by decide +kernel
theorem dX11_attendant_13 : decode cX11_attendant 13 = .ok (.ifCond .eq 10, 3) := by decide +kernel
theorem dX11_attendant_16 : decode cX11_attendant 16 = .ok (.iload_n 3, 1) := by decide +kernel
theorem dX11_attendant_17 : decode cX11_attendant 17 = .ok (.invokestatic 93, 3) := by decide +kernel
theorem dX11_attendant_20 : decode cX11_attendant 20 = .ok (.ifCond .ne 6, 3) := by decide +kernel
theorem dX11_attendant_23 : decode cX11_attendant 23 = .ok (.bipush (-2), 2) := by decide +kernel
theorem dX11_attendant_25 : decode cX11_attendant 25 = .ok (.ireturn, 1) := by decide +kernel
theorem dX11_attendant_26 : decode cX11_attendant 26 = .ok (.aload_n 0, 1) := by decide +kernel
theorem dX11_attendant_27 : decode cX11_attendant 27 = .ok (.getfield 12, 3) := by decide +kernel
theorem dX11_attendant_30 : decode cX11_attendant 30 = .ok (.getfield 121, 3) := by decide +kernel
theorem dX11_attendant_33 : decode cX11_attendant 33 = .ok (.istore 4, 2) := by decide +kernel
theorem dX11_attendant_35 : decode cX11_attendant 35 = .ok (.aload_n 0, 1) := by decide +kernel
theorem dX11_attendant_36 : decode cX11_attendant 36 = .ok (.getfield 12, 3) := by decide +kernel
theorem dX11_attendant_39 : decode cX11_attendant 39 = .ok (.iload_n 1, 1) := by decide +kernel
theorem dX11_attendant_40 : decode cX11_attendant 40 = .ok (.putfield 121, 3) := by decide +kernel
theorem dX11_attendant_43 : decode cX11_attendant 43 = .ok (.aload_n 0, 1) := by decide +kernel
theorem dX11_attendant_44 : decode cX11_attendant 44 = .ok (.getfield 12, 3) := by decide +kernel
theorem dX11_attendant_47 : decode cX11_attendant 47 = .ok (.iload_n 2, 1) := by decide +kernel
theorem dX11_attendant_48 : decode cX11_attendant 48 = .ok (.putfield 124, 3) := by decide +kernel
theorem dX11_attendant_51 : decode cX11_attendant 51 = .ok (.aload_n 0, 1) := by decide +kernel
theorem dX11_attendant_52 : decode cX11_attendant 52 = .ok (.getfield 12, 3) := by decide +kernel
theorem dX11_attendant_55 : decode cX11_attendant 55 = .ok (.iload_n 3, 1) := by decide +kernel
theorem dX11_attendant_56 : decode cX11_attendant 56 = .ok (.putfield 127, 3) := by decide +kernel
theorem dX11_attendant_59 : decode cX11_attendant 59 = .ok (.iload 4, 2) := by decide +kernel
theorem dX11_attendant_61 : decode cX11_attendant 61 = .ok (.ireturn, 1) := by decide +kernel
theorem dX11_say_0 : decode cX11_say 0 = .ok (.iload_n 1, 1) := by decide +kernel
theorem dX11_say_1 : decode cX11_say 1 = .ok (.bipush 33, 2) := by decide +kernel
theorem dX11_say_3 : decode cX11_say 3 = .ok (.bipush 126, 2) := by decide +kernel
theorem dX11_say_5 : decode cX11_say 5 = .ok (.invokestatic 96, 3) := by decide +kernel
theorem dX11_say_8 : decode cX11_say 8 = .ok (.ifCond .ne 6, 3) := by decide +kernel
theorem dX11_say_11 : decode cX11_say 11 = .ok (.bipush (-2), 2) := by decide +kernel
theorem dX11_say_13 : decode cX11_say 13 = .ok (.ireturn, 1) := by decide +kernel
theorem dX11_say_14 : decode cX11_say 14 = .ok (.aload_n 0, 1) := by decide +kernel
theorem dX11_say_15 : decode cX11_say 15 = .ok (.getfield 26, 3) := by decide +kernel
theorem dX11_say_18 : decode cX11_say 18 = .ok (.iload_n 1, 1) := by decide +kernel
theorem dX11_say_19 : decode cX11_say 19 = .ok (.invokevirtual 130, 3) := by decide +kernel
theorem dX11_say_22 : decode cX11_say 22 = .ok (.ifCond .eq 13, 3) := by decide +kernel
theorem dX11_say_25 : decode cX11_say 25 = .ok (.aload_n 0, 1) := by decide +kernel
theorem dX11_say_26 : decode cX11_say 26 = .ok (.getfield 26, 3) := by decide +kernel
theorem dX11_say_29 : decode cX11_say 29 = .ok (.getfield 133, 3) := by decide +kernel
theorem dX11_say_32 : decode cX11_say 32 = .ok (.goto 5, 3) := by decide +kernel
theorem dX11_say_35 : decode cX11_say 35 = .ok (.bipush (-4), 2) := by decide +kernel
theorem dX11_say_37 : decode cX11_say 37 = .ok (.ireturn, 1) := by decide +kernel
theorem dX11_wipe_0 : decode cX11_wipe 0 = .ok (.aload_n 0, 1) := by decide +kernel
theorem dX11_wipe_1 : decode cX11_wipe 1 = .ok (.getfield 26, 3) := by decide +kernel
theorem dX11_wipe_4 : decode cX11_wipe 4 = .ok (.getfield 133, 3) := by decide +kernel
theorem dX11_wipe_7 : decode cX11_wipe 7 = .ok (.istore_n 1, 1) := by decide +kernel
theorem dX11_wipe_8 : decode cX11_wipe 8 = .ok (.aload_n 0, 1) := by decide +kernel
theorem dX11_wipe_9 : decode cX11_wipe 9 = .ok (.getfield 26, 3) := by decide +kernel
theorem dX11_wipe_12 : decode cX11_wipe 12 = .ok (.iconst 0, 1) := by decide +kernel
theorem dX11_wipe_13 : decode cX11_wipe 13 = .ok (.putfield 133, 3) := by decide +kernel
theorem dX11_wipe_16 : decode cX11_wipe 16 = .ok (.iload_n 1, 1) := by decide +kernel
theorem dX11_wipe_17 : decode cX11_wipe 17 = .ok (.ireturn, 1) := by decide +kernel
theorem dX11_fault_0 : decode cX11_fault 0 = .ok (.aload_n 0, 1) := by decide +kernel
theorem dX11_fault_1 : decode cX11_fault 1 = .ok (.getfield 26, 3) := by decide +kernel
theorem dX11_fault_4 : decode cX11_fault 4 = .ok (.invokevirtual 136, 3) := by decide +kernel
theorem dX11_fault_7 : decode cX11_fault 7 = .ok (.ireturn, 1) := by decide +kernel
theorem dX11_judge_0 : decode cX11_judge 0 = .ok (.iload_n 1, 1) := by decide +kernel
theorem dX11_judge_1 : decode cX11_judge 1 = .ok (.iconst 0, 1) := by decide +kernel
theorem dX11_judge_2 : decode cX11_judge 2 = .ok (.iconst 2, 1) := by decide +kernel
theorem dX11_judge_3 : decode cX11_judge 3 = .ok (.invokestatic 96, 3) := by decide +kernel
theorem dX11_judge_6 : decode cX11_judge 6 = .ok (.ifCond .ne 6, 3) := by decide +kernel
theorem dX11_judge_9 : decode cX11_judge 9 = .ok (.bipush (-2), 2) := by decide +kernel
theorem dX11_judge_11 : decode cX11_judge 11 = .ok (.ireturn, 1) := by decide +kernel
theorem dX11_judge_12 : decode cX11_judge 12 = .ok (.aload_n 0, 1) := by decide +kernel
theorem dX11_judge_13 : decode cX11_judge 13 = .ok (.invokevirtual 139, 3) := by decide +kernel
theorem dX11_judge_16 : decode cX11_judge 16 = .ok (.istore_n 2, 1) := by decide +kernel
theorem dX11_judge_17 : decode cX11_judge 17 = .ok (.iload_n 2, 1) := by decide +kernel
theorem dX11_judge_18 : decode cX11_judge 18 = .ok (.bipush (-5), 2) := by decide +kernel
theorem dX11_judge_20 : decode cX11_judge 20 = .ok (.if_icmp .eq 14, 3) := by decide +kernel
theorem dX11_judge_23 : decode cX11_judge 23 = .ok (.iload_n 1, 1) := by decide +kernel
theorem dX11_judge_24 : decode cX11_judge 24 = .ok (.iconst 2, 1) := by decide +kernel
theorem dX11_judge_25 : decode cX11_judge 25 = .ok (.if_icmp .ne 11, 3) := by decide +kernel
theorem dX11_judge_28 : decode cX11_judge 28 = .ok (.iload_n 2, 1) := by decide +kernel
theorem dX11_judge_29 : decode cX11_judge 29 = .ok (.bipush (-3), 2) := by decide +kernel
theorem dX11_judge_31 : decode cX11_judge 31 = .ok (.if_icmp .ne 5, 3) := by decide +kernel
theorem dX11_judge_34 : decode cX11_judge 34 = .ok (.iload_n 2, 1) := by decide +kernel
theorem dX11_judge_35 : decode cX11_judge 35 = .ok (.ireturn, 1) := by decide +kernel
theorem dX11_judge_36 : decode cX11_judge 36 = .ok (.iload_n 1, 1) := by decide +kernel
theorem dX11_judge_37 : decode cX11_judge 37 = .ok (.iconst 2, 1) := by decide +kernel
theorem dX11_judge_38 : decode cX11_judge 38 = .ok (.if_icmp .ne 11, 3) := by decide +kernel
theorem dX11_judge_41 : decode cX11_judge 41 = .ok (.aload_n 0, 1) := by decide +kernel
theorem dX11_judge_42 : decode cX11_judge 42 = .ok (.getfield 43, 3) := by decide +kernel
theorem dX11_judge_45 : decode cX11_judge 45 = .ok (.getfield 142, 3) := by decide +kernel
theorem dX11_judge_48 : decode cX11_judge 48 = .ok (.ireturn, 1) := by decide +kernel
theorem dX11_judge_49 : decode cX11_judge 49 = .ok (.iload_n 1, 1) := by decide +kernel
theorem dX11_judge_50 : decode cX11_judge 50 = .ok (.ifCond .ne 13, 3) := by decide +kernel
theorem dX11_judge_53 : decode cX11_judge 53 = .ok (.aload_n 0, 1) := by decide +kernel
theorem dX11_judge_54 : decode cX11_judge 54 = .ok (.getfield 43, 3) := by decide +kernel
theorem dX11_judge_57 : decode cX11_judge 57 = .ok (.getfield 145, 3) := by decide +kernel
theorem dX11_judge_60 : decode cX11_judge 60 = .ok (.goto 10, 3) := by decide +kernel
theorem dX11_judge_63 : decode cX11_judge 63 = .ok (.aload_n 0, 1) := by decide +kernel
theorem dX11_judge_64 : decode cX11_judge 64 = .ok (.getfield 43, 3) := by decide +kernel
theorem dX11_judge_67 : decode cX11_judge 67 = .ok (.getfield 148, 3) := by decide +kernel
theorem dX11_judge_70 : decode cX11_judge 70 = .ok (.ireturn, 1) := by decide +kernel
theorem dX11_behind_0 : decode cX11_behind 0 = .ok (.iload_n 1, 1) := by decide +kernel
theorem dX11_behind_1 : decode cX11_behind 1 = .ok (.invokestatic 89, 3) := by decide +kernel
theorem dX11_behind_4 : decode cX11_behind 4 = .ok (.ifCond .ne 5, 3) := by decide +kernel
theorem dX11_behind_7 : decode cX11_behind 7 = .ok (.iconst (-1), 1) := by decide +kernel
theorem dX11_behind_8 : decode cX11_behind 8 = .ok (.ireturn, 1) := by decide +kernel
theorem dX11_behind_9 : decode cX11_behind 9 = .ok (.iload_n 2, 1) := by decide +kernel
theorem dX11_behind_10 : decode cX11_behind 10 = .ok (.iconst 0, 1) := by decide +kernel
theorem dX11_behind_11 : decode cX11_behind 11 = .ok (.iconst 1, 1) := by decide +kernel
theorem dX11_behind_12 : decode cX11_behind 12 = .ok (.invokestatic 96, 3) := by decide +kernel
theorem dX11_behind_15 : decode cX11_behind 15 = .ok (.ifCond .ne 6, 3) := by decide +kernel
theorem dX11_behind_18 : decode cX11_behind 18 = .ok (.bipush (-2), 2) := by decide +kernel
theorem dX11_behind_20 : decode cX11_behind 20 = .ok (.ireturn, 1) := by decide +kernel
theorem dX11_behind_21 : decode cX11_behind 21 = .ok (.aload_n 0, 1) := by decide +kernel
theorem dX11_behind_22 : decode cX11_behind 22 = .ok (.invokevirtual 139, 3) := by decide +kernel
theorem dX11_behind_25 : decode cX11_behind 25 = .ok (.istore_n 3, 1) := by decide +kernel
theorem dX11_behind_26 : decode cX11_behind 26 = .ok (.iload_n 3, 1) := by decide +kernel
theorem dX11_behind_27 : decode cX11_behind 27 = .ok (.ifCond .eq 5, 3) := by decide +kernel
theorem dX11_behind_30 : decode cX11_behind 30 = .ok (.iload_n 3, 1) := by decide +kernel
theorem dX11_behind_31 : decode cX11_behind 31 = .ok (.ireturn, 1) := by decide +kernel
theorem dX11_behind_32 : decode cX11_behind 32 = .ok (.aload_n 0, 1) := by decide +kernel
theorem dX11_behind_33 : decode cX11_behind 33 = .ok (.getfield 43, 3) := by decide +kernel
theorem dX11_behind_36 : decode cX11_behind 36 = .ok (.getfield 151, 3) := by decide +kernel
theorem dX11_behind_39 : decode cX11_behind 39 = .ok (.getfield 152, 3) := by decide +kernel
theorem dX11_behind_42 : decode cX11_behind 42 = .ok (.iload_n 1, 1) := by decide +kernel
theorem dX11_behind_43 : decode cX11_behind 43 = .ok (.iaload, 1) := by decide +kernel
theorem dX11_behind_44 : decode cX11_behind 44 = .ok (.istore 4, 2) := by decide +kernel
theorem dX11_behind_46 : decode cX11_behind 46 = .ok (.iload_n 2, 1) := by decide +kernel
theorem dX11_behind_47 : decode cX11_behind 47 = .ok (.ifCond .ne 8, 3) := by decide +kernel
theorem dX11_behind_50 : decode cX11_behind 50 = .ok (.iload 4, 2) := by decide +kernel
theorem dX11_behind_52 : decode cX11_behind 52 = .ok (.goto 16, 3) := by decide +kernel
theorem dX11_behind_55 : decode cX11_behind 55 = .ok (.aload_n 0, 1) := by decide +kernel
theorem dX11_behind_56 : decode cX11_behind 56 = .ok (.getfield 43, 3) := by decide +kernel
theorem dX11_behind_59 : decode cX11_behind 59 = .ok (.getfield 151, 3) := by decide +kernel
theorem dX11_behind_62 : decode cX11_behind 62 = .ok (.getfield 100, 3) := by decide +kernel
theorem dX11_behind_65 : decode cX11_behind 65 = .ok (.iload 4, 2) := by decide +kernel
theorem dX11_behind_67 : decode cX11_behind 67 = .ok (.iaload, 1) := by decide +kernel
theorem dX11_behind_68 : decode cX11_behind 68 = .ok (.ireturn, 1) := by decide +kernel
