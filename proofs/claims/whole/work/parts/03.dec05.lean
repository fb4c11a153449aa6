theorem dX12_happen_0 : decode cX12_happen 0 = .ok (.iload_n 1, 1) := by decide +kernel
theorem dX12_happen_1 : decode cX12_happen 1 = .ok (.tableswitch 74 0 4 #[35, 43, 50, 58, 66], 35) := by decide +kernel
theorem dX12_happen_36 : decode cX12_happen 36 = .ok (.aload_n 0, 1) := by decide +kernel
theorem dX12_happen_37 : decode cX12_happen 37 = .ok (.iload_n 2, 1) := by decide +kernel
theorem dX12_happen_38 : decode cX12_happen 38 = .ok (.invokevirtual 141, 3) := by decide +kernel
theorem dX12_happen_41 : decode cX12_happen 41 = .ok (.goto 44, 3) := by decide +kernel
theorem dX12_happen_44 : decode cX12_happen 44 = .ok (.aload_n 0, 1) := by decide +kernel
theorem dX12_happen_45 : decode cX12_happen 45 = .ok (.invokevirtual 145, 3) := by decide +kernel
theorem dX12_happen_48 : decode cX12_happen 48 = .ok (.goto 37, 3) := by decide +kernel
theorem dX12_happen_51 : decode cX12_happen 51 = .ok (.aload_n 0, 1) := by decide +kernel
theorem dX12_happen_52 : decode cX12_happen 52 = .ok (.iload_n 2, 1) := by decide +kernel
theorem dX12_happen_53 : decode cX12_happen 53 = .ok (.invokevirtual 148, 3) := by decide +kernel
theorem dX12_happen_56 : decode cX12_happen 56 = .ok (.goto 29, 3) := by decide +kernel
theorem dX12_happen_59 : decode cX12_happen 59 = .ok (.aload_n 0, 1) := by decide +kernel
theorem dX12_happen_60 : decode cX12_happen 60 = .ok (.iload_n 2, 1) := by decide +kernel
theorem dX12_happen_61 : decode cX12_happen 61 = .ok (.invokevirtual 151, 3) := by decide +kernel
theorem dX12_happen_64 : decode cX12_happen 64 = .ok (.goto 21, 3) := by decide +kernel
theorem dX12_happen_67 : decode cX12_happen 67 = .ok (.aload_n 0, 1) := by decide +kernel
theorem dX12_happen_68 : decode cX12_happen 68 = .ok (.iload_n 2, 1) := by decide +kernel
theorem dX12_happen_69 : decode cX12_happen 69 = .ok (.invokevirtual 154, 3) := by decide +kernel
theorem dX12_happen_72 : decode cX12_happen 72 = .ok (.goto 13, 3) := by decide +kernel
theorem dX12_happen_75 : decode cX12_happen 75 = .ok (.aload_n 0, 1) := by decide +kernel
theorem dX12_happen_76 : decode cX12_happen 76 = .ok (.dup, 1) := by decide +kernel
theorem dX12_happen_77 : decode cX12_happen 77 = .ok (.getfield 84, 3) := by decide +kernel
theorem dX12_happen_80 : decode cX12_happen 80 = .ok (.iconst 1, 1) := by decide +kernel
theorem dX12_happen_81 : decode cX12_happen 81 = .ok (.iadd, 1) := by decide +kernel
theorem dX12_happen_82 : decode cX12_happen 82 = .ok (.putfield 84, 3) := by decide +kernel
theorem dX12_happen_85 : decode cX12_happen 85 = .ok (.return_, 1) := by decide +kernel
theorem dX12_keepNow_0 : decode cX12_keepNow 0 = .ok (.iconst 0, 1) := by decide +kernel
theorem dX12_keepNow_1 : decode cX12_keepNow 1 = .ok (.istore_n 1, 1) := by decide +kernel
theorem dX12_keepNow_2 : decode cX12_keepNow 2 = .ok (.iload_n 1, 1) := by decide +kernel
theorem dX12_keepNow_3 : decode cX12_keepNow 3 = .ok (.bipush 10, 2) := by decide +kernel
theorem dX12_keepNow_5 : decode cX12_keepNow 5 = .ok (.if_icmp .ge 36, 3) := by decide +kernel
theorem dX12_keepNow_8 : decode cX12_keepNow 8 = .ok (.aload_n 0, 1) := by decide +kernel
theorem dX12_keepNow_9 : decode cX12_keepNow 9 = .ok (.getfield 34, 3) := by decide +kernel
theorem dX12_keepNow_12 : decode cX12_keepNow 12 = .ok (.iload_n 1, 1) := by decide +kernel
theorem dX12_keepNow_13 : decode cX12_keepNow 13 = .ok (.aload_n 0, 1) := by decide +kernel
theorem dX12_keepNow_14 : decode cX12_keepNow 14 = .ok (.getfield 7, 3) := by decide +kernel
theorem dX12_keepNow_17 : decode cX12_keepNow 17 = .ok (.iload_n 1, 1) := by decide +kernel
theorem dX12_keepNow_18 : decode cX12_keepNow 18 = .ok (.iaload, 1) := by decide +kernel
theorem dX12_keepNow_19 : decode cX12_keepNow 19 = .ok (.iastore, 1) := by decide +kernel
theorem dX12_keepNow_20 : decode cX12_keepNow 20 = .ok (.aload_n 0, 1) := by decide +kernel
theorem dX12_keepNow_21 : decode cX12_keepNow 21 = .ok (.getfield 34, 3) := by decide +kernel
theorem dX12_keepNow_24 : decode cX12_keepNow 24 = .ok (.bipush 10, 2) := by decide +kernel
theorem dX12_keepNow_26 : decode cX12_keepNow 26 = .ok (.iload_n 1, 1) := by decide +kernel
theorem dX12_keepNow_27 : decode cX12_keepNow 27 = .ok (.iadd, 1) := by decide +kernel
theorem dX12_keepNow_28 : decode cX12_keepNow 28 = .ok (.aload_n 0, 1) := by decide +kernel
theorem dX12_keepNow_29 : decode cX12_keepNow 29 = .ok (.getfield 13, 3) := by decide +kernel
theorem dX12_keepNow_32 : decode cX12_keepNow 32 = .ok (.iload_n 1, 1) := by decide +kernel
theorem dX12_keepNow_33 : decode cX12_keepNow 33 = .ok (.iaload, 1) := by decide +kernel
theorem dX12_keepNow_34 : decode cX12_keepNow 34 = .ok (.iastore, 1) := by decide +kernel
theorem dX12_keepNow_35 : decode cX12_keepNow 35 = .ok (.iinc 1 1, 3) := by decide +kernel
theorem dX12_keepNow_38 : decode cX12_keepNow 38 = .ok (.goto (-36), 3) := by decide +kernel
theorem dX12_keepNow_41 : decode cX12_keepNow 41 = .ok (.aload_n 0, 1) := by decide +kernel
theorem dX12_keepNow_42 : decode cX12_keepNow 42 = .ok (.getfield 34, 3) := by decide +kernel
theorem dX12_keepNow_45 : decode cX12_keepNow 45 = .ok (.bipush 20, 2) := by decide +kernel
theorem dX12_keepNow_47 : decode cX12_keepNow 47 = .ok (.aload_n 0, 1) := by decide +kernel
theorem dX12_keepNow_48 : decode cX12_keepNow 48 = .ok (.getfield 87, 3) := by decide +kernel
theorem dX12_keepNow_51 : decode cX12_keepNow 51 = .ok (.iastore, 1) := by decide +kernel
theorem dX12_keepNow_52 : decode cX12_keepNow 52 = .ok (.aload_n 0, 1) := by decide +kernel
theorem dX12_keepNow_53 : decode cX12_keepNow 53 = .ok (.getfield 34, 3) := by decide +kernel
theorem dX12_keepNow_56 : decode cX12_keepNow 56 = .ok (.bipush 21, 2) := by decide +kernel
theorem dX12_keepNow_58 : decode cX12_keepNow 58 = .ok (.aload_n 0, 1) := by decide +kernel
theorem dX12_keepNow_59 : decode cX12_keepNow 59 = .ok (.getfield 90, 3) := by decide +kernel
theorem dX12_keepNow_62 : decode cX12_keepNow 62 = .ok (.iastore, 1) := by decide +kernel
theorem dX12_keepNow_63 : decode cX12_keepNow 63 = .ok (.aload_n 0, 1) := by decide +kernel
theorem dX12_keepNow_64 : decode cX12_keepNow 64 = .ok (.getfield 34, 3) := by decide +kernel
theorem dX12_keepNow_67 : decode cX12_keepNow 67 = .ok (.bipush 22, 2) := by decide +kernel
theorem dX12_keepNow_69 : decode cX12_keepNow 69 = .ok (.aload_n 0, 1) := by decide +kernel
theorem dX12_keepNow_70 : decode cX12_keepNow 70 = .ok (.getfield 93, 3) := by decide +kernel
theorem dX12_keepNow_73 : decode cX12_keepNow 73 = .ok (.iastore, 1) := by decide +kernel
theorem dX12_keepNow_74 : decode cX12_keepNow 74 = .ok (.aload_n 0, 1) := by decide +kernel
theorem dX12_keepNow_75 : decode cX12_keepNow 75 = .ok (.getfield 34, 3) := by decide +kernel
theorem dX12_keepNow_78 : decode cX12_keepNow 78 = .ok (.bipush 23, 2) := by decide +kernel
theorem dX12_keepNow_80 : decode cX12_keepNow 80 = .ok (.aload_n 0, 1) := by decide +kernel
theorem dX12_keepNow_81 : decode cX12_keepNow 81 = .ok (.getfield 84, 3) := by decide +kernel
theorem dX12_keepNow_84 : decode cX12_keepNow 84 = .ok (.iastore, 1) := by decide +kernel
theorem dX12_keepNow_85 : decode cX12_keepNow 85 = .ok (.return_, 1) := by decide +kernel
theorem dX12_back_0 : decode cX12_back 0 = .ok (.iconst 0, 1) := by decide +kernel
theorem dX12_back_1 : decode cX12_back 1 = .ok (.istore_n 2, 1) := by decide +kernel
theorem dX12_back_2 : decode cX12_back 2 = .ok (.iload_n 2, 1) := by decide +kernel
theorem dX12_back_3 : decode cX12_back 3 = .ok (.bipush 10, 2) := by decide +kernel
theorem dX12_back_5 : decode cX12_back 5 = .ok (.if_icmp .ge 36, 3) := by decide +kernel
theorem dX12_back_8 : decode cX12_back 8 = .ok (.aload_n 0, 1) := by decide +kernel
theorem dX12_back_9 : decode cX12_back 9 = .ok (.getfield 7, 3) := by decide +kernel
theorem dX12_back_12 : decode cX12_back 12 = .ok (.iload_n 2, 1) := by decide +kernel
theorem dX12_back_13 : decode cX12_back 13 = .ok (.aload_n 0, 1) := by decide +kernel
theorem dX12_back_14 : decode cX12_back 14 = .ok (.getfield 34, 3) := by decide +kernel
theorem dX12_back_17 : decode cX12_back 17 = .ok (.iload_n 2, 1) := by decide +kernel
theorem dX12_back_18 : decode cX12_back 18 = .ok (.iaload, 1) := by decide +kernel
theorem dX12_back_19 : decode cX12_back 19 = .ok (.iastore, 1) := by decide +kernel
theorem dX12_back_20 : decode cX12_back 20 = .ok (.aload_n 0, 1) := by decide +kernel
theorem dX12_back_21 : decode cX12_back 21 = .ok (.getfield 13, 3) := by decide +kernel
theorem dX12_back_24 : decode cX12_back 24 = .ok (.iload_n 2, 1) := by decide +kernel
theorem dX12_back_25 : decode cX12_back 25 = .ok (.aload_n 0, 1) := by decide +kernel
theorem dX12_back_26 : decode cX12_back 26 = .ok (.getfield 34, 3) := by decide +kernel
theorem dX12_back_29 : decode cX12_back 29 = .ok (.bipush 10, 2) := by decide +kernel
theorem dX12_back_31 : decode cX12_back 31 = .ok (.iload_n 2, 1) := by decide +kernel
theorem dX12_back_32 : decode cX12_back 32 = .ok (.iadd, 1) := by decide +kernel
theorem dX12_back_33 : decode cX12_back 33 = .ok (.iaload, 1) := by decide +kernel
theorem dX12_back_34 : decode cX12_back 34 = .ok (.iastore, 1) := by decide +kernel
theorem dX12_back_35 : decode cX12_back 35 = .ok (.iinc 2 1, 3) := by decide +kernel
theorem dX12_back_38 : decode cX12_back 38 = .ok (.goto (-36), 3) := by decide +kernel
theorem dX12_back_41 : decode cX12_back 41 = .ok (.aload_n 0, 1) := by decide +kernel
theorem dX12_back_42 : decode cX12_back 42 = .ok (.aload_n 0, 1) := by decide +kernel
theorem dX12_back_43 : decode cX12_back 43 = .ok (.getfield 34, 3) := by decide +kernel
theorem dX12_back_46 : decode cX12_back 46 = .ok (.bipush 20, 2) := by decide +kernel
theorem dX12_back_48 : decode cX12_back 48 = .ok (.iaload, 1) := by decide +kernel
theorem dX12_back_49 : decode cX12_back 49 = .ok (.putfield 87, 3) := by decide +kernel
theorem dX12_back_52 : decode cX12_back 52 = .ok (.aload_n 0, 1) := by decide +kernel
theorem dX12_back_53 : decode cX12_back 53 = .ok (.aload_n 0, 1) := by decide +kernel
theorem dX12_back_54 : decode cX12_back 54 = .ok (.getfield 34, 3) := by decide +kernel
theorem dX12_back_57 : decode cX12_back 57 = .ok (.bipush 21, 2) := by decide +kernel
theorem dX12_back_59 : decode cX12_back 59 = .ok (.iaload, 1) := by decide +kernel
theorem dX12_back_60 : decode cX12_back 60 = .ok (.putfield 90, 3) := by decide +kernel
theorem dX12_back_63 : decode cX12_back 63 = .ok (.aload_n 0, 1) := by decide +kernel
theorem dX12_back_64 : decode cX12_back 64 = .ok (.aload_n 0, 1) := by decide +kernel
theorem dX12_back_65 : decode cX12_back 65 = .ok (.getfield 34, 3) := by decide +kernel
theorem dX12_back_68 : decode cX12_back 68 = .ok (.bipush 22, 2) := by decide +kernel
theorem dX12_back_70 : decode cX12_back 70 = .ok (.iaload, 1) := by decide +kernel
theorem dX12_back_71 : decode cX12_back 71 = .ok (.putfield 93, 3) := by decide +kernel
theorem dX12_back_74 : decode cX12_back 74 = .ok (.aload_n 0, 1) := by decide +kernel
theorem dX12_back_75 : decode cX12_back 75 = .ok (.aload_n 0, 1) := by decide +kernel
theorem dX12_back_76 : decode cX12_back 76 = .ok (.getfield 34, 3) := by decide +kernel
theorem dX12_back_79 : decode cX12_back 79 = .ok (.bipush 23, 2) := by decide +kernel
theorem dX12_back_81 : decode cX12_back 81 = .ok (.iaload, 1) := by decide +kernel
theorem dX12_back_82 : decode cX12_back 82 = .ok (.putfield 84, 3) := by decide +kernel
theorem dX12_back_85 : decode cX12_back 85 = .ok (.iload_n 1, 1) := by decide +kernel
theorem dX12_back_86 : decode cX12_back 86 = .ok (.ireturn, 1) := by decide +kernel
theorem dX12_goOne_0 : decode cX12_goOne 0 = .ok (.aload_n 0, 1) := by decide +kernel
theorem dX12_goOne_1 : decode cX12_goOne 1 = .ok (.getfield 87, 3) := by decide +kernel
theorem dX12_goOne_4 : decode cX12_goOne 4 = .ok (.istore_n 2, 1) := by decide +kernel
theorem dX12_goOne_5 : decode cX12_goOne 5 = .ok (.aload_n 0, 1) := by decide +kernel
theorem dX12_goOne_6 : decode cX12_goOne 6 = .ok (.getfield 31, 3) := by decide +kernel
theorem dX12_goOne_9 : decode cX12_goOne 9 = .ok (.iload_n 1, 1) := by decide +kernel
theorem dX12_goOne_10 : decode cX12_goOne 10 = .ok (.iaload, 1) := by decide +kernel
theorem dX12_goOne_11 : decode cX12_goOne 11 = .ok (.istore_n 3, 1) := by decide +kernel
theorem dX12_goOne_12 : decode cX12_goOne 12 = .ok (.aload_n 0, 1) := by decide +kernel
theorem dX12_goOne_13 : decode cX12_goOne 13 = .ok (.getfield 7, 3) := by decide +kernel
theorem dX12_goOne_16 : decode cX12_goOne 16 = .ok (.iload_n 2, 1) := by decide +kernel
theorem dX12_goOne_17 : decode cX12_goOne 17 = .ok (.iaload, 1) := by decide +kernel
theorem dX12_goOne_18 : decode cX12_goOne 18 = .ok (.iload_n 2, 1) := by decide +kernel
theorem dX12_goOne_19 : decode cX12_goOne 19 = .ok (.if_icmp .ne 7, 3) := by decide +kernel
theorem dX12_goOne_22 : decode cX12_goOne 22 = .ok (.iconst 1, 1) := by decide +kernel
theorem dX12_goOne_23 : decode cX12_goOne 23 = .ok (.goto 4, 3) := by decide +kernel
theorem dX12_goOne_26 : decode cX12_goOne 26 = .ok (.iconst 0, 1) := by decide +kernel
theorem dX12_goOne_27 : decode cX12_goOne 27 = .ok (.istore 4, 2) := by decide +kernel
theorem dX12_goOne_29 : decode cX12_goOne 29 = .ok (.aload_n 0, 1) := by decide +kernel
theorem dX12_goOne_30 : decode cX12_goOne 30 = .ok (.getfield 28, 3) := by decide +kernel
theorem dX12_goOne_33 : decode cX12_goOne 33 = .ok (.iload_n 1, 1) := by decide +kernel
theorem dX12_goOne_34 : decode cX12_goOne 34 = .ok (.iaload, 1) := by decide +kernel
theorem dX12_goOne_35 : decode cX12_goOne 35 = .ok (.iconst 4, 1) := by decide +kernel
theorem dX12_goOne_36 : decode cX12_goOne 36 = .ok (.if_icmp .ne 17, 3) := by decide +kernel
theorem dX12_goOne_39 : decode cX12_goOne 39 = .ok (.aload_n 0, 1) := by decide +kernel
theorem dX12_goOne_40 : decode cX12_goOne 40 = .ok (.getfield 7, 3) := by decide +kernel
theorem dX12_goOne_43 : decode cX12_goOne 43 = .ok (.iload_n 3, 1) := by decide +kernel
theorem dX12_goOne_44 : decode cX12_goOne 44 = .ok (.iaload, 1) := by decide +kernel
theorem dX12_goOne_45 : decode cX12_goOne 45 = .ok (.iload_n 3, 1) := by decide +kernel
theorem dX12_goOne_46 : decode cX12_goOne 46 = .ok (.if_icmp .ne 7, 3) := by decide +kernel
theorem dX12_goOne_49 : decode cX12_goOne 49 = .ok (.iconst 1, 1) := by decide +kernel
theorem dX12_goOne_50 : decode cX12_goOne 50 = .ok (.goto 4, 3) := by decide +kernel
theorem dX12_goOne_53 : decode cX12_goOne 53 = .ok (.iconst 0, 1) := by decide +kernel
theorem dX12_goOne_54 : decode cX12_goOne 54 = .ok (.istore 5, 2) := by decide +kernel
theorem dX12_goOne_56 : decode cX12_goOne 56 = .ok (.aload_n 0, 1) := by decide +kernel
theorem dX12_goOne_57 : decode cX12_goOne 57 = .ok (.aload_n 0, 1) := by decide +kernel
theorem dX12_goOne_58 : decode cX12_goOne 58 = .ok (.getfield 28, 3) := by decide +kernel
theorem dX12_goOne_61 : decode cX12_goOne 61 = .ok (.iload_n 1, 1) := by decide +kernel
theorem dX12_goOne_62 : decode cX12_goOne 62 = .ok (.iaload, 1) := by decide +kernel
theorem dX12_goOne_63 : decode cX12_goOne 63 = .ok (.aload_n 0, 1) := by decide +kernel
theorem dX12_goOne_64 : decode cX12_goOne 64 = .ok (.getfield 31, 3) := by decide +kernel
theorem dX12_goOne_67 : decode cX12_goOne 67 = .ok (.iload_n 1, 1) := by decide +kernel
theorem dX12_goOne_68 : decode cX12_goOne 68 = .ok (.iaload, 1) := by decide +kernel
theorem dX12_goOne_69 : decode cX12_goOne 69 = .ok (.invokevirtual 157, 3) := by decide +kernel
theorem dX12_goOne_72 : decode cX12_goOne 72 = .ok (.aload_n 0, 1) := by decide +kernel
theorem dX12_goOne_73 : decode cX12_goOne 73 = .ok (.getfield 28, 3) := by decide +kernel
theorem dX12_goOne_76 : decode cX12_goOne 76 = .ok (.iload_n 1, 1) := by decide +kernel
theorem dX12_goOne_77 : decode cX12_goOne 77 = .ok (.iaload, 1) := by decide +kernel
theorem dX12_goOne_78 : decode cX12_goOne 78 = .ok (.iconst 4, 1) := by decide +kernel
theorem dX12_goOne_79 : decode cX12_goOne 79 = .ok (.if_icmp .ne 17, 3) := by decide +kernel
theorem dX12_goOne_82 : decode cX12_goOne 82 = .ok (.iload 4, 2) := by decide +kernel
theorem dX12_goOne_84 : decode cX12_goOne 84 = .ok (.ifCond .ne 8, 3) := by decide +kernel
theorem dX12_goOne_87 : decode cX12_goOne 87 = .ok (.iload 5, 2) := by decide +kernel
theorem dX12_goOne_89 : decode cX12_goOne 89 = .ok (.ifCond .eq 7, 3) := by decide +kernel
theorem dX12_goOne_92 : decode cX12_goOne 92 = .ok (.iconst 1, 1) := by decide +kernel
theorem dX12_goOne_93 : decode cX12_goOne 93 = .ok (.goto 4, 3) := by decide +kernel
theorem dX12_goOne_96 : decode cX12_goOne 96 = .ok (.iconst 0, 1) := by decide +kernel
theorem dX12_goOne_97 : decode cX12_goOne 97 = .ok (.istore 6, 2) := by decide +kernel
theorem dX12_goOne_99 : decode cX12_goOne 99 = .ok (.iload 6, 2) := by decide +kernel
theorem dX12_goOne_101 : decode cX12_goOne 101 = .ok (.ifCond .eq 47, 3) := by decide +kernel
theorem dX12_goOne_104 : decode cX12_goOne 104 = .ok (.aload_n 0, 1) := by decide +kernel
theorem dX12_goOne_105 : decode cX12_goOne 105 = .ok (.getfield 161, 3) := by decide +kernel
theorem dX12_goOne_108 : decode cX12_goOne 108 = .ok (.ifCond .ge 40, 3) := by decide +kernel
theorem dX12_goOne_111 : decode cX12_goOne 111 = .ok (.aload_n 0, 1) := by decide +kernel
theorem dX12_goOne_112 : decode cX12_goOne 112 = .ok (.iload_n 1, 1) := by decide +kernel
theorem dX12_goOne_113 : decode cX12_goOne 113 = .ok (.putfield 161, 3) := by decide +kernel
theorem dX12_goOne_116 : decode cX12_goOne 116 = .ok (.aload_n 0, 1) := by decide +kernel
theorem dX12_goOne_117 : decode cX12_goOne 117 = .ok (.iload 5, 2) := by decide +kernel
theorem dX12_goOne_119 : decode cX12_goOne 119 = .ok (.ifCond .ne 7, 3) := by decide +kernel
theorem dX12_goOne_122 : decode cX12_goOne 122 = .ok (.iload_n 2, 1) := by decide +kernel
theorem dX12_goOne_123 : decode cX12_goOne 123 = .ok (.goto 22, 3) := by decide +kernel
theorem dX12_goOne_126 : decode cX12_goOne 126 = .ok (.iload 4, 2) := by decide +kernel
theorem dX12_goOne_128 : decode cX12_goOne 128 = .ok (.ifCond .ne 7, 3) := by decide +kernel
theorem dX12_goOne_131 : decode cX12_goOne 131 = .ok (.iload_n 3, 1) := by decide +kernel
theorem dX12_goOne_132 : decode cX12_goOne 132 = .ok (.goto 13, 3) := by decide +kernel
theorem dX12_goOne_135 : decode cX12_goOne 135 = .ok (.iload_n 2, 1) := by decide +kernel
theorem dX12_goOne_136 : decode cX12_goOne 136 = .ok (.iload_n 3, 1) := by decide +kernel
theorem dX12_goOne_137 : decode cX12_goOne 137 = .ok (.if_icmp .ge 7, 3) := by decide +kernel
theorem dX12_goOne_140 : decode cX12_goOne 140 = .ok (.iload_n 2, 1) := by decide +kernel
theorem dX12_goOne_141 : decode cX12_goOne 141 = .ok (.goto 4, 3) := by decide +kernel
theorem dX12_goOne_144 : decode cX12_goOne 144 = .ok (.iload_n 3, 1) := by decide +kernel
theorem dX12_goOne_145 : decode cX12_goOne 145 = .ok (.putfield 164, 3) := by decide +kernel
theorem dX12_goOne_148 : decode cX12_goOne 148 = .ok (.return_, 1) := by decide +kernel
theorem dX12_goEvenings_0 : decode cX12_goEvenings 0 = .ok (.aload_n 0, 1) := by decide +kernel
theorem dX12_goEvenings_1 : decode cX12_goEvenings 1 = .ok (.bipush (-6), 2) := by decide +kernel
theorem dX12_goEvenings_3 : decode cX12_goEvenings 3 = .ok (.putfield 167, 3) := by decide +kernel
theorem dX12_goEvenings_6 : decode cX12_goEvenings 6 = .ok (.aload_n 0, 1) := by decide +kernel
theorem dX12_goEvenings_7 : decode cX12_goEvenings 7 = .ok (.bipush (-6), 2) := by decide +kernel
theorem dX12_goEvenings_9 : decode cX12_goEvenings 9 = .ok (.putfield 170, 3) := by decide +kernel
theorem dX12_goEvenings_12 : decode cX12_goEvenings 12 = .ok (.aload_n 0, 1) := by decide +kernel
theorem dX12_goEvenings_13 : decode cX12_goEvenings 13 = .ok (.iconst 0, 1) := by decide +kernel
theorem dX12_goEvenings_14 : decode cX12_goEvenings 14 = .ok (.putfield 138, 3) := by decide +kernel
theorem dX12_goEvenings_17 : decode cX12_goEvenings 17 = .ok (.aload_n 0, 1) := by decide +kernel
theorem dX12_goEvenings_18 : decode cX12_goEvenings 18 = .ok (.bipush (-6), 2) := by decide +kernel
theorem dX12_goEvenings_20 : decode cX12_goEvenings 20 = .ok (.putfield 161, 3) := by decide +kernel
theorem dX12_goEvenings_23 : decode cX12_goEvenings 23 = .ok (.aload_n 0, 1) := by decide +kernel
theorem dX12_goEvenings_24 : decode cX12_goEvenings 24 = .ok (.bipush (-6), 2) := by decide +kernel
theorem dX12_goEvenings_26 : decode cX12_goEvenings 26 = .ok (.putfield 164, 3) := by decide +kernel
theorem dX12_goEvenings_29 : decode cX12_goEvenings 29 = .ok (.iconst 0, 1) := by decide +kernel
theorem dX12_goEvenings_30 : decode cX12_goEvenings 30 = .ok (.istore_n 1, 1) := by decide +kernel
theorem dX12_goEvenings_31 : decode cX12_goEvenings 31 = .ok (.iload_n 1, 1) := by decide +kernel
theorem dX12_goEvenings_32 : decode cX12_goEvenings 32 = .ok (.aload_n 0, 1) := by decide +kernel
theorem dX12_goEvenings_33 : decode cX12_goEvenings 33 = .ok (.getfield 103, 3) := by decide +kernel
theorem dX12_goEvenings_36 : decode cX12_goEvenings 36 = .ok (.if_icmp .ge 70, 3) := by decide +kernel
theorem dX12_goEvenings_39 : decode cX12_goEvenings 39 = .ok (.aload_n 0, 1) := by decide +kernel
theorem dX12_goEvenings_40 : decode cX12_goEvenings 40 = .ok (.getfield 167, 3) := by decide +kernel
theorem dX12_goEvenings_43 : decode cX12_goEvenings 43 = .ok (.ifCond .ge 63, 3) := by decide +kernel
theorem dX12_goEvenings_46 : decode cX12_goEvenings 46 = .ok (.aload_n 0, 1) := by decide +kernel
theorem dX12_goEvenings_47 : decode cX12_goEvenings 47 = .ok (.aload_n 0, 1) := by decide +kernel
theorem dX12_goEvenings_48 : decode cX12_goEvenings 48 = .ok (.getfield 28, 3) := by decide +kernel
theorem dX12_goEvenings_51 : decode cX12_goEvenings 51 = .ok (.iload_n 1, 1) := by decide +kernel
theorem dX12_goEvenings_52 : decode cX12_goEvenings 52 = .ok (.iaload, 1) := by decide +kernel
theorem dX12_goEvenings_53 : decode cX12_goEvenings 53 = .ok (.aload_n 0, 1) := by decide +kernel
theorem dX12_goEvenings_54 : decode cX12_goEvenings 54 = .ok (.getfield 31, 3) := by decide +kernel
theorem dX12_goEvenings_57 : decode cX12_goEvenings 57 = .ok (.iload_n 1, 1) := by decide +kernel
theorem dX12_goEvenings_58 : decode cX12_goEvenings 58 = .ok (.iaload, 1) := by decide +kernel
theorem dX12_goEvenings_59 : decode cX12_goEvenings 59 = .ok (.invokevirtual 173, 3) := by decide +kernel
theorem dX12_goEvenings_62 : decode cX12_goEvenings 62 = .ok (.istore_n 2, 1) := by decide +kernel
theorem dX12_goEvenings_63 : decode cX12_goEvenings 63 = .ok (.aload_n 0, 1) := by decide +kernel
theorem dX12_goEvenings_64 : decode cX12_goEvenings 64 = .ok (.iload_n 2, 1) := by decide +kernel
theorem dX12_goEvenings_65 : decode cX12_goEvenings 65 = .ok (.ifCond .le 7, 3) := by decide +kernel
theorem dX12_goEvenings_68 : decode cX12_goEvenings 68 = .ok (.iload_n 1, 1) := by decide +kernel
theorem dX12_goEvenings_69 : decode cX12_goEvenings 69 = .ok (.goto 5, 3) := by decide +kernel
theorem dX12_goEvenings_72 : decode cX12_goEvenings 72 = .ok (.bipush (-6), 2) := by decide +kernel
theorem dX12_goEvenings_74 : decode cX12_goEvenings 74 = .ok (.putfield 167, 3) := by decide +kernel
theorem dX12_goEvenings_77 : decode cX12_goEvenings 77 = .ok (.aload_n 0, 1) := by decide +kernel
theorem dX12_goEvenings_78 : decode cX12_goEvenings 78 = .ok (.iload_n 2, 1) := by decide +kernel
theorem dX12_goEvenings_79 : decode cX12_goEvenings 79 = .ok (.ifCond .le 7, 3) := by decide +kernel
theorem dX12_goEvenings_82 : decode cX12_goEvenings 82 = .ok (.iload_n 2, 1) := by decide +kernel
theorem dX12_goEvenings_83 : decode cX12_goEvenings 83 = .ok (.goto 5, 3) := by decide +kernel
theorem dX12_goEvenings_86 : decode cX12_goEvenings 86 = .ok (.bipush (-6), 2) := by decide +kernel
theorem dX12_goEvenings_88 : decode cX12_goEvenings 88 = .ok (.putfield 170, 3) := by decide +kernel
theorem dX12_goEvenings_91 : decode cX12_goEvenings 91 = .ok (.iload_n 2, 1) := by decide +kernel
theorem dX12_goEvenings_92 : decode cX12_goEvenings 92 = .ok (.ifCond .ne 8, 3) := by decide +kernel
theorem dX12_goEvenings_95 : decode cX12_goEvenings 95 = .ok (.aload_n 0, 1) := by decide +kernel
theorem dX12_goEvenings_96 : decode cX12_goEvenings 96 = .ok (.iload_n 1, 1) := by decide +kernel
theorem dX12_goEvenings_97 : decode cX12_goEvenings 97 = .ok (.invokevirtual 176, 3) := by decide +kernel
theorem dX12_goEvenings_100 : decode cX12_goEvenings 100 = .ok (.iinc 1 1, 3) := by decide +kernel
theorem dX12_goEvenings_103 : decode cX12_goEvenings 103 = .ok (.goto (-72), 3) := by decide +kernel
theorem dX12_goEvenings_106 : decode cX12_goEvenings 106 = .ok (.return_, 1) := by decide +kernel
theorem dX12_refusal_0 : decode cX12_refusal 0 = .ok (.aload_n 0, 1) := by decide +kernel
theorem dX12_refusal_1 : decode cX12_refusal 1 = .ok (.invokevirtual 179, 3) := by decide +kernel
theorem dX12_refusal_4 : decode cX12_refusal 4 = .ok (.aload_n 0, 1) := by decide +kernel
theorem dX12_refusal_5 : decode cX12_refusal 5 = .ok (.invokevirtual 182, 3) := by decide +kernel
theorem dX12_refusal_8 : decode cX12_refusal 8 = .ok (.ifCond .lt 6, 3) := by decide +kernel
theorem dX12_refusal_11 : decode cX12_refusal 11 = .ok (.bipush (-5), 2) := by decide +kernel
theorem dX12_refusal_13 : decode cX12_refusal 13 = .ok (.ireturn, 1) := by decide +kernel
theorem dX12_refusal_14 : decode cX12_refusal 14 = .ok (.aload_n 0, 1) := by decide +kernel
theorem dX12_refusal_15 : decode cX12_refusal 15 = .ok (.invokevirtual 185, 3) := by decide +kernel
theorem dX12_refusal_18 : decode cX12_refusal 18 = .ok (.aload_n 0, 1) := by decide +kernel
theorem dX12_refusal_19 : decode cX12_refusal 19 = .ok (.getfield 167, 3) := by decide +kernel
theorem dX12_refusal_22 : decode cX12_refusal 22 = .ok (.ifCond .lt 8, 3) := by decide +kernel
theorem dX12_refusal_25 : decode cX12_refusal 25 = .ok (.bipush (-3), 2) := by decide +kernel
theorem dX12_refusal_27 : decode cX12_refusal 27 = .ok (.goto 5, 3) := by decide +kernel
theorem dX12_refusal_30 : decode cX12_refusal 30 = .ok (.bipush (-6), 2) := by decide +kernel
theorem dX12_refusal_32 : decode cX12_refusal 32 = .ok (.ireturn, 1) := by decide +kernel
theorem dX12_judge_0 : decode cX12_judge 0 = .ok (.iload_n 1, 1) := by decide +kernel
theorem dX12_judge_1 : decode cX12_judge 1 = .ok (.i2l, 1) := by decide +kernel
theorem dX12_judge_2 : decode cX12_judge 2 = .ok (.lconst 0, 1) := by decide +kernel
theorem dX12_judge_3 : decode cX12_judge 3 = .ok (.ldc2_w 188, 3) := by decide +kernel
theorem dX12_judge_6 : decode cX12_judge 6 = .ok (.invokestatic 66, 3) := by decide +kernel
theorem dX12_judge_9 : decode cX12_judge 9 = .ok (.ifCond .ne 6, 3) := by decide +kernel
theorem dX12_judge_12 : decode cX12_judge 12 = .ok (.bipush (-2), 2) := by decide +kernel
theorem dX12_judge_14 : decode cX12_judge 14 = .ok (.ireturn, 1) := by decide +kernel
theorem dX12_judge_15 : decode cX12_judge 15 = .ok (.aload_n 0, 1) := by decide +kernel
theorem dX12_judge_16 : decode cX12_judge 16 = .ok (.aload_n 0, 1) := by decide +kernel
theorem dX12_judge_17 : decode cX12_judge 17 = .ok (.invokevirtual 190, 3) := by decide +kernel
theorem dX12_judge_20 : decode cX12_judge 20 = .ok (.invokevirtual 193, 3) := by decide +kernel
theorem dX12_judge_23 : decode cX12_judge 23 = .ok (.istore_n 2, 1) := by decide +kernel
theorem dX12_judge_24 : decode cX12_judge 24 = .ok (.iload_n 2, 1) := by decide +kernel
theorem dX12_judge_25 : decode cX12_judge 25 = .ok (.bipush (-5), 2) := by decide +kernel
theorem dX12_judge_27 : decode cX12_judge 27 = .ok (.if_icmp .eq 14, 3) := by decide +kernel
theorem dX12_judge_30 : decode cX12_judge 30 = .ok (.iload_n 1, 1) := by decide +kernel
theorem dX12_judge_31 : decode cX12_judge 31 = .ok (.iconst 1, 1) := by decide +kernel
theorem dX12_judge_32 : decode cX12_judge 32 = .ok (.if_icmp .le 11, 3) := by decide +kernel
theorem dX12_judge_35 : decode cX12_judge 35 = .ok (.iload_n 2, 1) := by decide +kernel
theorem dX12_judge_36 : decode cX12_judge 36 = .ok (.bipush (-3), 2) := by decide +kernel
theorem dX12_judge_38 : decode cX12_judge 38 = .ok (.if_icmp .ne 5, 3) := by decide +kernel
theorem dX12_judge_41 : decode cX12_judge 41 = .ok (.iload_n 2, 1) := by decide +kernel
theorem dX12_judge_42 : decode cX12_judge 42 = .ok (.ireturn, 1) := by decide +kernel
theorem dX12_judge_43 : decode cX12_judge 43 = .ok (.iload_n 1, 1) := by decide +kernel
theorem dX12_judge_44 : decode cX12_judge 44 = .ok (.ifCond .ne 10, 3) := by decide +kernel
theorem dX12_judge_47 : decode cX12_judge 47 = .ok (.aload_n 0, 1) := by decide +kernel
theorem dX12_judge_48 : decode cX12_judge 48 = .ok (.getfield 167, 3) := by decide +kernel
theorem dX12_judge_51 : decode cX12_judge 51 = .ok (.goto 19, 3) := by decide +kernel
theorem dX12_judge_54 : decode cX12_judge 54 = .ok (.iload_n 1, 1) := by decide +kernel
theorem dX12_judge_55 : decode cX12_judge 55 = .ok (.iconst 1, 1) := by decide +kernel
theorem dX12_judge_56 : decode cX12_judge 56 = .ok (.if_icmp .ne 10, 3) := by decide +kernel
theorem dX12_judge_59 : decode cX12_judge 59 = .ok (.aload_n 0, 1) := by decide +kernel
theorem dX12_judge_60 : decode cX12_judge 60 = .ok (.getfield 170, 3) := by decide +kernel
theorem dX12_judge_63 : decode cX12_judge 63 = .ok (.goto 7, 3) := by decide +kernel
theorem dX12_judge_66 : decode cX12_judge 66 = .ok (.aload_n 0, 1) := by decide +kernel
theorem dX12_judge_67 : decode cX12_judge 67 = .ok (.getfield 138, 3) := by decide +kernel
theorem dX12_judge_70 : decode cX12_judge 70 = .ok (.ireturn, 1) := by decide +kernel
theorem dX12_behind_0 : decode cX12_behind 0 = .ok (.iload_n 1, 1) := by decide +kernel
theorem dX12_behind_1 : decode cX12_behind 1 = .ok (.invokestatic 72, 3) := by decide +kernel
theorem dX12_behind_4 : decode cX12_behind 4 = .ok (.ifCond .ne 5, 3) := by decide +kernel
theorem dX12_behind_7 : decode cX12_behind 7 = .ok (.iconst (-1), 1) := by decide +kernel
theorem dX12_behind_8 : decode cX12_behind 8 = .ok (.ireturn, 1) := by decide +kernel
theorem dX12_behind_9 : decode cX12_behind 9 = .ok (.iload_n 2, 1) := by decide +kernel
theorem dX12_behind_10 : decode cX12_behind 10 = .ok (.i2l, 1) := by decide +kernel
theorem dX12_behind_11 : decode cX12_behind 11 = .ok (.lconst 0, 1) := by decide +kernel
theorem dX12_behind_12 : decode cX12_behind 12 = .ok (.lconst 1, 1) := by decide +kernel
theorem dX12_behind_13 : decode cX12_behind 13 = .ok (.invokestatic 66, 3) := by decide +kernel
theorem dX12_behind_16 : decode cX12_behind 16 = .ok (.ifCond .ne 6, 3) := by decide +kernel
theorem dX12_behind_19 : decode cX12_behind 19 = .ok (.bipush (-2), 2) := by decide +kernel
theorem dX12_behind_21 : decode cX12_behind 21 = .ok (.ireturn, 1) := by decide +kernel
theorem dX12_behind_22 : decode cX12_behind 22 = .ok (.aload_n 0, 1) := by decide +kernel
theorem dX12_behind_23 : decode cX12_behind 23 = .ok (.invokevirtual 190, 3) := by decide +kernel
theorem dX12_behind_26 : decode cX12_behind 26 = .ok (.istore_n 3, 1) := by decide +kernel
theorem dX12_behind_27 : decode cX12_behind 27 = .ok (.aload_n 0, 1) := by decide +kernel
theorem dX12_behind_28 : decode cX12_behind 28 = .ok (.iload_n 3, 1) := by decide +kernel
theorem dX12_behind_29 : decode cX12_behind 29 = .ok (.bipush (-6), 2) := by decide +kernel
theorem dX12_behind_31 : decode cX12_behind 31 = .ok (.if_icmp .eq 7, 3) := by decide +kernel
theorem dX12_behind_34 : decode cX12_behind 34 = .ok (.iload_n 3, 1) := by decide +kernel
theorem dX12_behind_35 : decode cX12_behind 35 = .ok (.goto 27, 3) := by decide +kernel
theorem dX12_behind_38 : decode cX12_behind 38 = .ok (.iload_n 2, 1) := by decide +kernel
theorem dX12_behind_39 : decode cX12_behind 39 = .ok (.ifCond .ne 12, 3) := by decide +kernel
theorem dX12_behind_42 : decode cX12_behind 42 = .ok (.aload_n 0, 1) := by decide +kernel
theorem dX12_behind_43 : decode cX12_behind 43 = .ok (.getfield 7, 3) := by decide +kernel
theorem dX12_behind_46 : decode cX12_behind 46 = .ok (.iload_n 1, 1) := by decide +kernel
theorem dX12_behind_47 : decode cX12_behind 47 = .ok (.iaload, 1) := by decide +kernel
theorem dX12_behind_48 : decode cX12_behind 48 = .ok (.goto 14, 3) := by decide +kernel
theorem dX12_behind_51 : decode cX12_behind 51 = .ok (.aload_n 0, 1) := by decide +kernel
theorem dX12_behind_52 : decode cX12_behind 52 = .ok (.getfield 13, 3) := by decide +kernel
theorem dX12_behind_55 : decode cX12_behind 55 = .ok (.aload_n 0, 1) := by decide +kernel
theorem dX12_behind_56 : decode cX12_behind 56 = .ok (.getfield 7, 3) := by decide +kernel
theorem dX12_behind_59 : decode cX12_behind 59 = .ok (.iload_n 1, 1) := by decide +kernel
theorem dX12_behind_60 : decode cX12_behind 60 = .ok (.iaload, 1) := by decide +kernel
theorem dX12_behind_61 : decode cX12_behind 61 = .ok (.iaload, 1) := by decide +kernel
theorem dX12_behind_62 : decode cX12_behind 62 = .ok (.invokevirtual 193, 3) := by decide +kernel
theorem dX12_behind_65 : decode cX12_behind 65 = .ok (.ireturn, 1) := by decide +kernel
theorem dX12_his_0 : decode cX12_his 0 = .ok (.iload_n 1, 1) := by decide +kernel
theorem dX12_his_1 : decode cX12_his 1 = .ok (.i2l, 1) := by decide +kernel
theorem dX12_his_2 : decode cX12_his 2 = .ok (.lconst 0, 1) := by decide +kernel
theorem dX12_his_3 : decode cX12_his 3 = .ok (.ldc2_w 196, 3) := by decide +kernel
theorem dX12_his_6 : decode cX12_his 6 = .ok (.invokestatic 66, 3) := by decide +kernel
theorem dX12_his_9 : decode cX12_his 9 = .ok (.ifCond .ne 6, 3) := by decide +kernel
theorem dX12_his_12 : decode cX12_his 12 = .ok (.bipush (-2), 2) := by decide +kernel
theorem dX12_his_14 : decode cX12_his 14 = .ok (.ireturn, 1) := by decide +kernel
theorem dX12_his_15 : decode cX12_his 15 = .ok (.aload_n 0, 1) := by decide +kernel
theorem dX12_his_16 : decode cX12_his 16 = .ok (.invokevirtual 190, 3) := by decide +kernel
theorem dX12_his_19 : decode cX12_his 19 = .ok (.istore_n 2, 1) := by decide +kernel
theorem dX12_his_20 : decode cX12_his 20 = .ok (.aload_n 0, 1) := by decide +kernel
theorem dX12_his_21 : decode cX12_his 21 = .ok (.iload_n 2, 1) := by decide +kernel
theorem dX12_his_22 : decode cX12_his 22 = .ok (.bipush (-6), 2) := by decide +kernel
theorem dX12_his_24 : decode cX12_his 24 = .ok (.if_icmp .eq 7, 3) := by decide +kernel
theorem dX12_his_27 : decode cX12_his 27 = .ok (.iload_n 2, 1) := by decide +kernel
theorem dX12_his_28 : decode cX12_his 28 = .ok (.goto 42, 3) := by decide +kernel
theorem dX12_his_31 : decode cX12_his 31 = .ok (.iload_n 1, 1) := by decide +kernel
theorem dX12_his_32 : decode cX12_his 32 = .ok (.ifCond .ne 10, 3) := by decide +kernel
theorem dX12_his_35 : decode cX12_his 35 = .ok (.aload_n 0, 1) := by decide +kernel
theorem dX12_his_36 : decode cX12_his 36 = .ok (.getfield 87, 3) := by decide +kernel
theorem dX12_his_39 : decode cX12_his 39 = .ok (.goto 31, 3) := by decide +kernel
theorem dX12_his_42 : decode cX12_his 42 = .ok (.iload_n 1, 1) := by decide +kernel
theorem dX12_his_43 : decode cX12_his 43 = .ok (.iconst 1, 1) := by decide +kernel
theorem dX12_his_44 : decode cX12_his 44 = .ok (.if_icmp .ne 10, 3) := by decide +kernel
theorem dX12_his_47 : decode cX12_his 47 = .ok (.aload_n 0, 1) := by decide +kernel
theorem dX12_his_48 : decode cX12_his 48 = .ok (.getfield 90, 3) := by decide +kernel
theorem dX12_his_51 : decode cX12_his 51 = .ok (.goto 19, 3) := by decide +kernel
theorem dX12_his_54 : decode cX12_his 54 = .ok (.iload_n 1, 1) := by decide +kernel
theorem dX12_his_55 : decode cX12_his 55 = .ok (.iconst 2, 1) := by decide +kernel
theorem dX12_his_56 : decode cX12_his 56 = .ok (.if_icmp .ne 10, 3) := by decide +kernel
theorem dX12_his_59 : decode cX12_his 59 = .ok (.aload_n 0, 1) := by decide +kernel
theorem dX12_his_60 : decode cX12_his 60 = .ok (.getfield 93, 3) := by decide +kernel
theorem dX12_his_63 : decode cX12_his 63 = .ok (.goto 7, 3) := by decide +kernel
theorem dX12_his_66 : decode cX12_his 66 = .ok (.aload_n 0, 1) := by decide +kernel
theorem dX12_his_67 : decode cX12_his 67 = .ok (.getfield 84, 3) := by decide +kernel
theorem dX12_his_70 : decode cX12_his 70 = .ok (.invokevirtual 193, 3) := by decide +kernel
theorem dX12_his_73 : decode cX12_his 73 = .ok (.ireturn, 1) := by decide +kernel
theorem dX12_wrong_0 : decode cX12_wrong 0 = .ok (.iload_n 1, 1) := by decide +kernel
theorem dX12_wrong_1 : decode cX12_wrong 1 = .ok (.i2l, 1) := by decide +kernel
theorem dX12_wrong_2 : decode cX12_wrong 2 = .ok (.lconst 0, 1) := by decide +kernel
theorem dX12_wrong_3 : decode cX12_wrong 3 = .ok (.ldc2_w 188, 3) := by decide +kernel
theorem dX12_wrong_6 : decode cX12_wrong 6 = .ok (.invokestatic 66, 3) := by decide +kernel
theorem dX12_wrong_9 : decode cX12_wrong 9 = .ok (.ifCond .ne 6, 3) := by decide +kernel
theorem dX12_wrong_12 : decode cX12_wrong 12 = .ok (.bipush (-2), 2) := by decide +kernel
theorem dX12_wrong_14 : decode cX12_wrong 14 = .ok (.ireturn, 1) := by decide +kernel
theorem dX12_wrong_15 : decode cX12_wrong 15 = .ok (.aload_n 0, 1) := by decide +kernel
theorem dX12_wrong_16 : decode cX12_wrong 16 = .ok (.invokevirtual 190, 3) := by decide +kernel
theorem dX12_wrong_19 : decode cX12_wrong 19 = .ok (.istore_n 2, 1) := by decide +kernel
theorem dX12_wrong_20 : decode cX12_wrong 20 = .ok (.aload_n 0, 1) := by decide +kernel
theorem dX12_wrong_21 : decode cX12_wrong 21 = .ok (.iload_n 2, 1) := by decide +kernel
theorem dX12_wrong_22 : decode cX12_wrong 22 = .ok (.bipush (-6), 2) := by decide +kernel
theorem dX12_wrong_24 : decode cX12_wrong 24 = .ok (.if_icmp .eq 7, 3) := by decide +kernel
theorem dX12_wrong_27 : decode cX12_wrong 27 = .ok (.iload_n 2, 1) := by decide +kernel
theorem dX12_wrong_28 : decode cX12_wrong 28 = .ok (.goto 30, 3) := by decide +kernel
theorem dX12_wrong_31 : decode cX12_wrong 31 = .ok (.iload_n 1, 1) := by decide +kernel
theorem dX12_wrong_32 : decode cX12_wrong 32 = .ok (.ifCond .ne 10, 3) := by decide +kernel
theorem dX12_wrong_35 : decode cX12_wrong 35 = .ok (.aload_n 0, 1) := by decide +kernel
theorem dX12_wrong_36 : decode cX12_wrong 36 = .ok (.invokevirtual 78, 3) := by decide +kernel
theorem dX12_wrong_39 : decode cX12_wrong 39 = .ok (.goto 19, 3) := by decide +kernel
theorem dX12_wrong_42 : decode cX12_wrong 42 = .ok (.iload_n 1, 1) := by decide +kernel
theorem dX12_wrong_43 : decode cX12_wrong 43 = .ok (.iconst 1, 1) := by decide +kernel
theorem dX12_wrong_44 : decode cX12_wrong 44 = .ok (.if_icmp .ne 10, 3) := by decide +kernel
theorem dX12_wrong_47 : decode cX12_wrong 47 = .ok (.aload_n 0, 1) := by decide +kernel
theorem dX12_wrong_48 : decode cX12_wrong 48 = .ok (.getfield 161, 3) := by decide +kernel
theorem dX12_wrong_51 : decode cX12_wrong 51 = .ok (.goto 7, 3) := by decide +kernel
theorem dX12_wrong_54 : decode cX12_wrong 54 = .ok (.aload_n 0, 1) := by decide +kernel
theorem dX12_wrong_55 : decode cX12_wrong 55 = .ok (.getfield 164, 3) := by decide +kernel
theorem dX12_wrong_58 : decode cX12_wrong 58 = .ok (.invokevirtual 193, 3) := by decide +kernel
theorem dX12_wrong_61 : decode cX12_wrong 61 = .ok (.ireturn, 1) := by decide +kernel
theorem dX12_done_0 : decode cX12_done 0 = .ok (.aload_n 0, 1) := by decide +kernel
theorem dX12_done_1 : decode cX12_done 1 = .ok (.invokevirtual 190, 3) := by decide +kernel
theorem dX12_done_4 : decode cX12_done 4 = .ok (.istore_n 1, 1) := by decide +kernel
theorem dX12_done_5 : decode cX12_done 5 = .ok (.iload_n 1, 1) := by decide +kernel
theorem dX12_done_6 : decode cX12_done 6 = .ok (.bipush (-6), 2) := by decide +kernel
theorem dX12_done_8 : decode cX12_done 8 = .ok (.if_icmp .eq 9, 3) := by decide +kernel
theorem dX12_done_11 : decode cX12_done 11 = .ok (.aload_n 0, 1) := by decide +kernel
theorem dX12_done_12 : decode cX12_done 12 = .ok (.iload_n 1, 1) := by decide +kernel
theorem dX12_done_13 : decode cX12_done 13 = .ok (.invokevirtual 193, 3) := by decide +kernel
theorem dX12_done_16 : decode cX12_done 16 = .ok (.ireturn, 1) := by decide +kernel
theorem dX12_done_17 : decode cX12_done 17 = .ok (.aload_n 0, 1) := by decide +kernel
theorem dX12_done_18 : decode cX12_done 18 = .ok (.iconst 0, 1) := by decide +kernel
theorem dX12_done_19 : decode cX12_done 19 = .ok (.putfield 100, 3) := by decide +kernel
theorem dX12_done_22 : decode cX12_done 22 = .ok (.aload_n 0, 1) := by decide +kernel
theorem dX12_done_23 : decode cX12_done 23 = .ok (.getfield 103, 3) := by decide +kernel
theorem dX12_done_26 : decode cX12_done 26 = .ok (.ireturn, 1) := by decide +kernel
theorem dX12_less_0 : decode cX12_less 0 = .ok (.iload_n 0, 1) := by decide +kernel
theorem dX12_less_1 : decode cX12_less 1 = .ok (.iload_n 1, 1) := by decide +kernel
theorem dX12_less_2 : decode cX12_less 2 = .ok (.if_icmp .ge 7, 3) := by decide +kernel
theorem dX12_less_5 : decode cX12_less 5 = .ok (.iload_n 0, 1) := by decide +kernel
theorem dX12_less_6 : decode cX12_less 6 = .ok (.goto 4, 3) := by decide +kernel
theorem dX12_less_9 : decode cX12_less 9 = .ok (.iload_n 1, 1) := by decide +kernel
theorem dX12_less_10 : decode cX12_less 10 = .ok (.ireturn, 1) := by decide +kernel
theorem dX12_more_0 : decode cX12_more 0 = .ok (.iload_n 0, 1) := by decide +kernel
theorem dX12_more_1 : decode cX12_more 1 = .ok (.iload_n 1, 1) := by decide +kernel
theorem dX12_more_2 : decode cX12_more 2 = .ok (.if_icmp .le 7, 3) := by decide +kernel
theorem dX12_more_5 : decode cX12_more 5 = .ok (.iload_n 0, 1) := by decide +kernel
theorem dX12_more_6 : decode cX12_more 6 = .ok (.goto 4, 3) := by decide +kernel
theorem dX12_more_9 : decode cX12_more 9 = .ok (.iload_n 1, 1) := by decide +kernel
theorem dX12_more_10 : decode cX12_more 10 = .ok (.ireturn, 1) := by decide +kernel
theorem dX12_minutesBy_0 : decode cX12_minutesBy 0 = .ok (.aload_n 0, 1) := by decide +kernel
theorem dX12_minutesBy_1 : decode cX12_minutesBy 1 = .ok (.getfield 87, 3) := by decide +kernel
theorem dX12_minutesBy_4 : decode cX12_minutesBy 4 = .ok (.iload_n 2, 1) := by decide +kernel
theorem dX12_minutesBy_5 : decode cX12_minutesBy 5 = .ok (.invokestatic 198, 3) := by decide +kernel
theorem dX12_minutesBy_8 : decode cX12_minutesBy 8 = .ok (.istore_n 3, 1) := by decide +kernel
theorem dX12_minutesBy_9 : decode cX12_minutesBy 9 = .ok (.aload_n 0, 1) := by decide +kernel
theorem dX12_minutesBy_10 : decode cX12_minutesBy 10 = .ok (.getfield 87, 3) := by decide +kernel
theorem dX12_minutesBy_13 : decode cX12_minutesBy 13 = .ok (.iload_n 2, 1) := by decide +kernel
theorem dX12_minutesBy_14 : decode cX12_minutesBy 14 = .ok (.invokestatic 201, 3) := by decide +kernel
theorem dX12_minutesBy_17 : decode cX12_minutesBy 17 = .ok (.istore 4, 2) := by decide +kernel
theorem dX12_minutesBy_19 : decode cX12_minutesBy 19 = .ok (.iconst 0, 1) := by decide +kernel
theorem dX12_minutesBy_20 : decode cX12_minutesBy 20 = .ok (.istore 5, 2) := by decide +kernel
theorem dX12_minutesBy_22 : decode cX12_minutesBy 22 = .ok (.iconst 0, 1) := by decide +kernel
theorem dX12_minutesBy_23 : decode cX12_minutesBy 23 = .ok (.istore 6, 2) := by decide +kernel
theorem dX12_minutesBy_25 : decode cX12_minutesBy 25 = .ok (.iload 6, 2) := by decide +kernel
theorem dX12_minutesBy_27 : decode cX12_minutesBy 27 = .ok (.bipush 10, 2) := by decide +kernel
theorem dX12_minutesBy_29 : decode cX12_minutesBy 29 = .ok (.if_icmp .ge 51, 3) := by decide +kernel
theorem dX12_minutesBy_32 : decode cX12_minutesBy 32 = .ok (.iload_n 1, 1) := by decide +kernel
theorem dX12_minutesBy_33 : decode cX12_minutesBy 33 = .ok (.iload 6, 2) := by decide +kernel
theorem dX12_minutesBy_35 : decode cX12_minutesBy 35 = .ok (.invokestatic 131, 3) := by decide +kernel
theorem dX12_minutesBy_38 : decode cX12_minutesBy 38 = .ok (.ifCond .eq 36, 3) := by decide +kernel
theorem dX12_minutesBy_41 : decode cX12_minutesBy 41 = .ok (.iload_n 3, 1) := by decide +kernel
theorem dX12_minutesBy_42 : decode cX12_minutesBy 42 = .ok (.iload 6, 2) := by decide +kernel
theorem dX12_minutesBy_44 : decode cX12_minutesBy 44 = .ok (.invokestatic 198, 3) := by decide +kernel
theorem dX12_minutesBy_47 : decode cX12_minutesBy 47 = .ok (.istore_n 3, 1) := by decide +kernel
theorem dX12_minutesBy_48 : decode cX12_minutesBy 48 = .ok (.iload 4, 2) := by decide +kernel
theorem dX12_minutesBy_50 : decode cX12_minutesBy 50 = .ok (.iload 6, 2) := by decide +kernel
theorem dX12_minutesBy_52 : decode cX12_minutesBy 52 = .ok (.invokestatic 201, 3) := by decide +kernel
theorem dX12_minutesBy_55 : decode cX12_minutesBy 55 = .ok (.istore 4, 2) := by decide +kernel
theorem dX12_minutesBy_57 : decode cX12_minutesBy 57 = .ok (.iload 5, 2) := by decide +kernel
theorem dX12_minutesBy_59 : decode cX12_minutesBy 59 = .ok (.aload_n 0, 1) := by decide +kernel
theorem dX12_minutesBy_60 : decode cX12_minutesBy 60 = .ok (.getfield 16, 3) := by decide +kernel
theorem dX12_minutesBy_63 : decode cX12_minutesBy 63 = .ok (.aload_n 0, 1) := by decide +kernel
theorem dX12_minutesBy_64 : decode cX12_minutesBy 64 = .ok (.getfield 7, 3) := by decide +kernel
theorem dX12_minutesBy_67 : decode cX12_minutesBy 67 = .ok (.iload 6, 2) := by decide +kernel
theorem dX12_minutesBy_69 : decode cX12_minutesBy 69 = .ok (.iaload, 1) := by decide +kernel
theorem dX12_minutesBy_70 : decode cX12_minutesBy 70 = .ok (.iaload, 1) := by decide +kernel
theorem dX12_minutesBy_71 : decode cX12_minutesBy 71 = .ok (.iadd, 1) := by decide +kernel
theorem dX12_minutesBy_72 : decode cX12_minutesBy 72 = .ok (.istore 5, 2) := by decide +kernel
theorem dX12_minutesBy_74 : decode cX12_minutesBy 74 = .ok (.iinc 6 1, 3) := by decide +kernel
theorem dX12_minutesBy_77 : decode cX12_minutesBy 77 = .ok (.goto (-52), 3) := by decide +kernel
theorem dX12_minutesBy_80 : decode cX12_minutesBy 80 = .ok (.aload_n 0, 1) := by decide +kernel
theorem dX12_minutesBy_81 : decode cX12_minutesBy 81 = .ok (.getfield 87, 3) := by decide +kernel
theorem dX12_minutesBy_84 : decode cX12_minutesBy 84 = .ok (.iload_n 3, 1) := by decide +kernel
theorem dX12_minutesBy_85 : decode cX12_minutesBy 85 = .ok (.isub, 1) := by decide +kernel
theorem dX12_minutesBy_86 : decode cX12_minutesBy 86 = .ok (.iload 4, 2) := by decide +kernel
theorem dX12_minutesBy_88 : decode cX12_minutesBy 88 = .ok (.iadd, 1) := by decide +kernel
theorem dX12_minutesBy_89 : decode cX12_minutesBy 89 = .ok (.iload_n 3, 1) := by decide +kernel
theorem dX12_minutesBy_90 : decode cX12_minutesBy 90 = .ok (.isub, 1) := by decide +kernel
theorem dX12_minutesBy_91 : decode cX12_minutesBy 91 = .ok (.iload 4, 2) := by decide +kernel
theorem dX12_minutesBy_93 : decode cX12_minutesBy 93 = .ok (.iadd, 1) := by decide +kernel
theorem dX12_minutesBy_94 : decode cX12_minutesBy 94 = .ok (.iload_n 2, 1) := by decide +kernel
theorem dX12_minutesBy_95 : decode cX12_minutesBy 95 = .ok (.isub, 1) := by decide +kernel
theorem dX12_minutesBy_96 : decode cX12_minutesBy 96 = .ok (.istore 6, 2) := by decide +kernel
theorem dX12_minutesBy_98 : decode cX12_minutesBy 98 = .ok (.iload 4, 2) := by decide +kernel
theorem dX12_minutesBy_100 : decode cX12_minutesBy 100 = .ok (.aload_n 0, 1) := by decide +kernel
theorem dX12_minutesBy_101 : decode cX12_minutesBy 101 = .ok (.getfield 87, 3) := by decide +kernel
theorem dX12_minutesBy_104 : decode cX12_minutesBy 104 = .ok (.isub, 1) := by decide +kernel
theorem dX12_minutesBy_105 : decode cX12_minutesBy 105 = .ok (.iload 4, 2) := by decide +kernel
theorem dX12_minutesBy_107 : decode cX12_minutesBy 107 = .ok (.iadd, 1) := by decide +kernel
theorem dX12_minutesBy_108 : decode cX12_minutesBy 108 = .ok (.iload_n 3, 1) := by decide +kernel
theorem dX12_minutesBy_109 : decode cX12_minutesBy 109 = .ok (.isub, 1) := by decide +kernel
theorem dX12_minutesBy_110 : decode cX12_minutesBy 110 = .ok (.iload_n 2, 1) := by decide +kernel
theorem dX12_minutesBy_111 : decode cX12_minutesBy 111 = .ok (.iadd, 1) := by decide +kernel
theorem dX12_minutesBy_112 : decode cX12_minutesBy 112 = .ok (.iload_n 3, 1) := by decide +kernel
theorem dX12_minutesBy_113 : decode cX12_minutesBy 113 = .ok (.isub, 1) := by decide +kernel
theorem dX12_minutesBy_114 : decode cX12_minutesBy 114 = .ok (.istore 7, 2) := by decide +kernel
theorem dX12_minutesBy_116 : decode cX12_minutesBy 116 = .ok (.iload 5, 2) := by decide +kernel
theorem dX12_minutesBy_118 : decode cX12_minutesBy 118 = .ok (.iload 6, 2) := by decide +kernel
theorem dX12_minutesBy_120 : decode cX12_minutesBy 120 = .ok (.iload 7, 2) := by decide +kernel
theorem dX12_minutesBy_122 : decode cX12_minutesBy 122 = .ok (.invokestatic 198, 3) := by decide +kernel
theorem dX12_minutesBy_125 : decode cX12_minutesBy 125 = .ok (.iadd, 1) := by decide +kernel
theorem dX12_minutesBy_126 : decode cX12_minutesBy 126 = .ok (.ireturn, 1) := by decide +kernel
theorem dX12_round_0 : decode cX12_round 0 = .ok (.iload_n 1, 1) := by decide +kernel
theorem dX12_round_1 : decode cX12_round 1 = .ok (.invokestatic 72, 3) := by decide +kernel
theorem dX12_round_4 : decode cX12_round 4 = .ok (.ifCond .ne 5, 3) := by decide +kernel
theorem dX12_round_7 : decode cX12_round 7 = .ok (.iconst (-1), 1) := by decide +kernel
theorem dX12_round_8 : decode cX12_round 8 = .ok (.ireturn, 1) := by decide +kernel
theorem dX12_round_9 : decode cX12_round 9 = .ok (.iload_n 2, 1) := by decide +kernel
theorem dX12_round_10 : decode cX12_round 10 = .ok (.i2l, 1) := by decide +kernel
theorem dX12_round_11 : decode cX12_round 11 = .ok (.lconst 0, 1) := by decide +kernel
theorem dX12_round_12 : decode cX12_round 12 = .ok (.lconst 1, 1) := by decide +kernel
theorem dX12_round_13 : decode cX12_round 13 = .ok (.invokestatic 66, 3) := by decide +kernel
theorem dX12_round_16 : decode cX12_round 16 = .ok (.ifCond .ne 6, 3) := by decide +kernel
theorem dX12_round_19 : decode cX12_round 19 = .ok (.bipush (-2), 2) := by decide +kernel
theorem dX12_round_21 : decode cX12_round 21 = .ok (.ireturn, 1) := by decide +kernel
theorem dX12_round_22 : decode cX12_round 22 = .ok (.bipush (-6), 2) := by decide +kernel
theorem dX12_round_24 : decode cX12_round 24 = .ok (.istore_n 3, 1) := by decide +kernel
theorem dX12_round_25 : decode cX12_round 25 = .ok (.iconst 0, 1) := by decide +kernel
theorem dX12_round_26 : decode cX12_round 26 = .ok (.istore 4, 2) := by decide +kernel
theorem dX12_round_28 : decode cX12_round 28 = .ok (.iload 4, 2) := by decide +kernel
theorem dX12_round_30 : decode cX12_round 30 = .ok (.sipush 1024, 3) := by decide +kernel
theorem dX12_round_33 : decode cX12_round 33 = .ok (.if_icmp .ge 63, 3) := by decide +kernel
theorem dX12_round_36 : decode cX12_round 36 = .ok (.iload_n 3, 1) := by decide +kernel
theorem dX12_round_37 : decode cX12_round 37 = .ok (.ifCond .lt 15, 3) := by decide +kernel
theorem dX12_round_40 : decode cX12_round 40 = .ok (.iload 4, 2) := by decide +kernel
theorem dX12_round_42 : decode cX12_round 42 = .ok (.invokestatic 204, 3) := by decide +kernel
theorem dX12_round_45 : decode cX12_round 45 = .ok (.iload_n 3, 1) := by decide +kernel
theorem dX12_round_46 : decode cX12_round 46 = .ok (.invokestatic 204, 3) := by decide +kernel
theorem dX12_round_49 : decode cX12_round 49 = .ok (.if_icmp .le 7, 3) := by decide +kernel
theorem dX12_round_52 : decode cX12_round 52 = .ok (.iconst 1, 1) := by decide +kernel
theorem dX12_round_53 : decode cX12_round 53 = .ok (.goto 4, 3) := by decide +kernel
theorem dX12_round_56 : decode cX12_round 56 = .ok (.iconst 0, 1) := by decide +kernel
theorem dX12_round_57 : decode cX12_round 57 = .ok (.istore 5, 2) := by decide +kernel
theorem dX12_round_59 : decode cX12_round 59 = .ok (.iload 5, 2) := by decide +kernel
theorem dX12_round_61 : decode cX12_round 61 = .ok (.ifCond .eq 27, 3) := by decide +kernel
theorem dX12_round_64 : decode cX12_round 64 = .ok (.aload_n 0, 1) := by decide +kernel
theorem dX12_round_65 : decode cX12_round 65 = .ok (.getfield 84, 3) := by decide +kernel
theorem dX12_round_68 : decode cX12_round 68 = .ok (.aload_n 0, 1) := by decide +kernel
theorem dX12_round_69 : decode cX12_round 69 = .ok (.iload 4, 2) := by decide +kernel
theorem dX12_round_71 : decode cX12_round 71 = .ok (.iload_n 1, 1) := by decide +kernel
theorem dX12_round_72 : decode cX12_round 72 = .ok (.invokevirtual 207, 3) := by decide +kernel
theorem dX12_round_75 : decode cX12_round 75 = .ok (.iadd, 1) := by decide +kernel
theorem dX12_round_76 : decode cX12_round 76 = .ok (.aload_n 0, 1) := by decide +kernel
theorem dX12_round_77 : decode cX12_round 77 = .ok (.getfield 60, 3) := by decide +kernel
theorem dX12_round_80 : decode cX12_round 80 = .ok (.if_icmp .gt 8, 3) := by decide +kernel
theorem dX12_round_83 : decode cX12_round 83 = .ok (.iload 4, 2) := by decide +kernel
theorem dX12_round_85 : decode cX12_round 85 = .ok (.goto 4, 3) := by decide +kernel
theorem dX12_round_88 : decode cX12_round 88 = .ok (.iload_n 3, 1) := by decide +kernel
theorem dX12_round_89 : decode cX12_round 89 = .ok (.istore_n 3, 1) := by decide +kernel
theorem dX12_round_90 : decode cX12_round 90 = .ok (.iinc 4 1, 3) := by decide +kernel
theorem dX12_round_93 : decode cX12_round 93 = .ok (.goto (-65), 3) := by decide +kernel
theorem dX12_round_96 : decode cX12_round 96 = .ok (.iload_n 3, 1) := by decide +kernel
theorem dX12_round_97 : decode cX12_round 97 = .ok (.ifCond .lt 8, 3) := by decide +kernel
theorem dX12_round_100 : decode cX12_round 100 = .ok (.iload_n 2, 1) := by decide +kernel
theorem dX12_round_101 : decode cX12_round 101 = .ok (.iconst 1, 1) := by decide +kernel
theorem dX12_round_102 : decode cX12_round 102 = .ok (.if_icmp .ne 7, 3) := by decide +kernel
theorem dX12_round_105 : decode cX12_round 105 = .ok (.iload_n 3, 1) := by decide +kernel
theorem dX12_round_106 : decode cX12_round 106 = .ok (.goto 7, 3) := by decide +kernel
theorem dX12_round_109 : decode cX12_round 109 = .ok (.iload_n 3, 1) := by decide +kernel
theorem dX12_round_110 : decode cX12_round 110 = .ok (.invokestatic 204, 3) := by decide +kernel
theorem dX12_round_113 : decode cX12_round 113 = .ok (.ireturn, 1) := by decide +kernel
theorem dX12_shownBy_0 : decode cX12_shownBy 0 = .ok (.aload_n 0, 1) := by decide +kernel
theorem dX12_shownBy_1 : decode cX12_shownBy 1 = .ok (.getfield 93, 3) := by decide +kernel
theorem dX12_shownBy_4 : decode cX12_shownBy 4 = .ok (.istore_n 2, 1) := by decide +kernel
theorem dX12_shownBy_5 : decode cX12_shownBy 5 = .ok (.iconst 0, 1) := by decide +kernel
theorem dX12_shownBy_6 : decode cX12_shownBy 6 = .ok (.istore_n 3, 1) := by decide +kernel
theorem dX12_shownBy_7 : decode cX12_shownBy 7 = .ok (.iload_n 3, 1) := by decide +kernel
theorem dX12_shownBy_8 : decode cX12_shownBy 8 = .ok (.bipush 10, 2) := by decide +kernel
theorem dX12_shownBy_10 : decode cX12_shownBy 10 = .ok (.if_icmp .ge 30, 3) := by decide +kernel
theorem dX12_shownBy_13 : decode cX12_shownBy 13 = .ok (.iload_n 2, 1) := by decide +kernel
theorem dX12_shownBy_14 : decode cX12_shownBy 14 = .ok (.iload_n 1, 1) := by decide +kernel
theorem dX12_shownBy_15 : decode cX12_shownBy 15 = .ok (.iload_n 3, 1) := by decide +kernel
theorem dX12_shownBy_16 : decode cX12_shownBy 16 = .ok (.invokestatic 131, 3) := by decide +kernel
theorem dX12_shownBy_19 : decode cX12_shownBy 19 = .ok (.ifCond .eq 12, 3) := by decide +kernel
theorem dX12_shownBy_22 : decode cX12_shownBy 22 = .ok (.aload_n 0, 1) := by decide +kernel
theorem dX12_shownBy_23 : decode cX12_shownBy 23 = .ok (.getfield 13, 3) := by decide +kernel
theorem dX12_shownBy_26 : decode cX12_shownBy 26 = .ok (.iload_n 3, 1) := by decide +kernel
theorem dX12_shownBy_27 : decode cX12_shownBy 27 = .ok (.iaload, 1) := by decide +kernel
theorem dX12_shownBy_28 : decode cX12_shownBy 28 = .ok (.goto 4, 3) := by decide +kernel
theorem dX12_shownBy_31 : decode cX12_shownBy 31 = .ok (.iconst 0, 1) := by decide +kernel
theorem dX12_shownBy_32 : decode cX12_shownBy 32 = .ok (.ior, 1) := by decide +kernel
theorem dX12_shownBy_33 : decode cX12_shownBy 33 = .ok (.istore_n 2, 1) := by decide +kernel
theorem dX12_shownBy_34 : decode cX12_shownBy 34 = .ok (.iinc 3 1, 3) := by decide +kernel
theorem dX12_shownBy_37 : decode cX12_shownBy 37 = .ok (.goto (-30), 3) := by decide +kernel
theorem dX12_shownBy_40 : decode cX12_shownBy 40 = .ok (.iload_n 2, 1) := by decide +kernel
theorem dX12_shownBy_41 : decode cX12_shownBy 41 = .ok (.ireturn, 1) := by decide +kernel
theorem dX12_show_0 : decode cX12_show 0 = .ok (.iload_n 1, 1) := by decide +kernel
theorem dX12_show_1 : decode cX12_show 1 = .ok (.i2l, 1) := by decide +kernel
theorem dX12_show_2 : decode cX12_show 2 = .ok (.lconst 0, 1) := by decide +kernel
theorem dX12_show_3 : decode cX12_show 3 = .ok (.ldc2_w 76, 3) := by decide +kernel
theorem dX12_show_6 : decode cX12_show 6 = .ok (.invokestatic 66, 3) := by decide +kernel
theorem dX12_show_9 : decode cX12_show 9 = .ok (.ifCond .eq 13, 3) := by decide +kernel
theorem dX12_show_12 : decode cX12_show 12 = .ok (.iload_n 2, 1) := by decide +kernel
theorem dX12_show_13 : decode cX12_show 13 = .ok (.i2l, 1) := by decide +kernel
theorem dX12_show_14 : decode cX12_show 14 = .ok (.lconst 0, 1) := by decide +kernel
theorem dX12_show_15 : decode cX12_show 15 = .ok (.lconst 1, 1) := by decide +kernel
theorem dX12_show_16 : decode cX12_show 16 = .ok (.invokestatic 66, 3) := by decide +kernel
theorem dX12_show_19 : decode cX12_show 19 = .ok (.ifCond .ne 6, 3) := by decide +kernel
theorem dX12_show_22 : decode cX12_show 22 = .ok (.bipush (-2), 2) := by decide +kernel
theorem dX12_show_24 : decode cX12_show 24 = .ok (.ireturn, 1) := by decide +kernel
theorem dX12_show_25 : decode cX12_show 25 = .ok (.bipush (-6), 2) := by decide +kernel
theorem dX12_show_27 : decode cX12_show 27 = .ok (.istore_n 3, 1) := by decide +kernel
theorem dX12_show_28 : decode cX12_show 28 = .ok (.iconst 0, 1) := by decide +kernel
theorem dX12_show_29 : decode cX12_show 29 = .ok (.istore 4, 2) := by decide +kernel
theorem dX12_show_31 : decode cX12_show 31 = .ok (.iload 4, 2) := by decide +kernel
theorem dX12_show_33 : decode cX12_show 33 = .ok (.sipush 1024, 3) := by decide +kernel
theorem dX12_show_36 : decode cX12_show 36 = .ok (.if_icmp .ge 57, 3) := by decide +kernel
theorem dX12_show_39 : decode cX12_show 39 = .ok (.iload_n 3, 1) := by decide +kernel
theorem dX12_show_40 : decode cX12_show 40 = .ok (.ifCond .lt 15, 3) := by decide +kernel
theorem dX12_show_43 : decode cX12_show 43 = .ok (.iload 4, 2) := by decide +kernel
theorem dX12_show_45 : decode cX12_show 45 = .ok (.invokestatic 204, 3) := by decide +kernel
theorem dX12_show_48 : decode cX12_show 48 = .ok (.iload_n 3, 1) := by decide +kernel
theorem dX12_show_49 : decode cX12_show 49 = .ok (.invokestatic 204, 3) := by decide +kernel
theorem dX12_show_52 : decode cX12_show 52 = .ok (.if_icmp .ge 7, 3) := by decide +kernel
theorem dX12_show_55 : decode cX12_show 55 = .ok (.iconst 1, 1) := by decide +kernel
theorem dX12_show_56 : decode cX12_show 56 = .ok (.goto 4, 3) := by decide +kernel
theorem dX12_show_59 : decode cX12_show 59 = .ok (.iconst 0, 1) := by decide +kernel
theorem dX12_show_60 : decode cX12_show 60 = .ok (.istore 5, 2) := by decide +kernel
theorem dX12_show_62 : decode cX12_show 62 = .ok (.iload 5, 2) := by decide +kernel
theorem dX12_show_64 : decode cX12_show 64 = .ok (.ifCond .eq 21, 3) := by decide +kernel
theorem dX12_show_67 : decode cX12_show 67 = .ok (.iload_n 1, 1) := by decide +kernel
theorem dX12_show_68 : decode cX12_show 68 = .ok (.aload_n 0, 1) := by decide +kernel
theorem dX12_show_69 : decode cX12_show 69 = .ok (.iload 4, 2) := by decide +kernel
theorem dX12_show_71 : decode cX12_show 71 = .ok (.invokevirtual 210, 3) := by decide +kernel
theorem dX12_show_74 : decode cX12_show 74 = .ok (.iconst (-1), 1) := by decide +kernel
theorem dX12_show_75 : decode cX12_show 75 = .ok (.ixor, 1) := by decide +kernel
theorem dX12_show_76 : decode cX12_show 76 = .ok (.iand, 1) := by decide +kernel
theorem dX12_show_77 : decode cX12_show 77 = .ok (.ifCond .ne 8, 3) := by decide +kernel
theorem dX12_show_80 : decode cX12_show 80 = .ok (.iload 4, 2) := by decide +kernel
theorem dX12_show_82 : decode cX12_show 82 = .ok (.goto 4, 3) := by decide +kernel
theorem dX12_show_85 : decode cX12_show 85 = .ok (.iload_n 3, 1) := by decide +kernel
theorem dX12_show_86 : decode cX12_show 86 = .ok (.istore_n 3, 1) := by decide +kernel
theorem dX12_show_87 : decode cX12_show 87 = .ok (.iinc 4 1, 3) := by decide +kernel
theorem dX12_show_90 : decode cX12_show 90 = .ok (.goto (-59), 3) := by decide +kernel
theorem dX12_show_93 : decode cX12_show 93 = .ok (.iload_n 3, 1) := by decide +kernel
theorem dX12_show_94 : decode cX12_show 94 = .ok (.ifCond .lt 8, 3) := by decide +kernel
theorem dX12_show_97 : decode cX12_show 97 = .ok (.iload_n 2, 1) := by decide +kernel
theorem dX12_show_98 : decode cX12_show 98 = .ok (.iconst 1, 1) := by decide +kernel
theorem dX12_show_99 : decode cX12_show 99 = .ok (.if_icmp .ne 7, 3) := by decide +kernel
theorem dX12_show_102 : decode cX12_show 102 = .ok (.iload_n 3, 1) := by decide +kernel
theorem dX12_show_103 : decode cX12_show 103 = .ok (.goto 7, 3) := by decide +kernel
theorem dX12_show_106 : decode cX12_show 106 = .ok (.iload_n 3, 1) := by decide +kernel
theorem dX12_show_107 : decode cX12_show 107 = .ok (.invokestatic 204, 3) := by decide +kernel
theorem dX12_show_110 : decode cX12_show 110 = .ok (.ireturn, 1) := by decide +kernel
theorem dX12_canOwn_0 : decode cX12_canOwn 0 = .ok (.iload_n 1, 1) := by decide +kernel
theorem dX12_canOwn_1 : decode cX12_canOwn 1 = .ok (.iload_n 2, 1) := by decide +kernel
theorem dX12_canOwn_2 : decode cX12_canOwn 2 = .ok (.invokestatic 131, 3) := by decide +kernel
theorem dX12_canOwn_5 : decode cX12_canOwn 5 = .ok (.ifCond .eq 29, 3) := by decide +kernel
theorem dX12_canOwn_8 : decode cX12_canOwn 8 = .ok (.aload_n 0, 1) := by decide +kernel
theorem dX12_canOwn_9 : decode cX12_canOwn 9 = .ok (.getfield 13, 3) := by decide +kernel
theorem dX12_canOwn_12 : decode cX12_canOwn 12 = .ok (.iload_n 3, 1) := by decide +kernel
theorem dX12_canOwn_13 : decode cX12_canOwn 13 = .ok (.iaload, 1) := by decide +kernel
theorem dX12_canOwn_14 : decode cX12_canOwn 14 = .ok (.iload_n 2, 1) := by decide +kernel
theorem dX12_canOwn_15 : decode cX12_canOwn 15 = .ok (.invokestatic 131, 3) := by decide +kernel
theorem dX12_canOwn_18 : decode cX12_canOwn 18 = .ok (.ifCond .eq 16, 3) := by decide +kernel
theorem dX12_canOwn_21 : decode cX12_canOwn 21 = .ok (.iload 4, 2) := by decide +kernel
theorem dX12_canOwn_23 : decode cX12_canOwn 23 = .ok (.iload_n 3, 1) := by decide +kernel
theorem dX12_canOwn_24 : decode cX12_canOwn 24 = .ok (.invokestatic 131, 3) := by decide +kernel
theorem dX12_canOwn_27 : decode cX12_canOwn 27 = .ok (.ifCond .ne 7, 3) := by decide +kernel
theorem dX12_canOwn_30 : decode cX12_canOwn 30 = .ok (.iconst 1, 1) := by decide +kernel
theorem dX12_canOwn_31 : decode cX12_canOwn 31 = .ok (.goto 4, 3) := by decide +kernel
theorem dX12_canOwn_34 : decode cX12_canOwn 34 = .ok (.iconst 0, 1) := by decide +kernel
theorem dX12_canOwn_35 : decode cX12_canOwn 35 = .ok (.ireturn, 1) := by decide +kernel
