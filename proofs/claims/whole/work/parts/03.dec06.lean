theorem dX12_mostFrom_0 : decode cX12_mostFrom 0 = .ok (.aload_n 0, 1) := by decide +kernel
theorem dX12_mostFrom_1 : decode cX12_mostFrom 1 = .ok (.getfield 37, 3) := by decide +kernel
theorem dX12_mostFrom_4 : decode cX12_mostFrom 4 = .ok (.sipush 1024, 3) := by decide +kernel
theorem dX12_mostFrom_7 : decode cX12_mostFrom 7 = .ok (.iload_n 2, 1) := by decide +kernel
theorem dX12_mostFrom_8 : decode cX12_mostFrom 8 = .ok (.iconst 1, 1) := by decide +kernel
theorem dX12_mostFrom_9 : decode cX12_mostFrom 9 = .ok (.iadd, 1) := by decide +kernel
theorem dX12_mostFrom_10 : decode cX12_mostFrom 10 = .ok (.imul, 1) := by decide +kernel
theorem dX12_mostFrom_11 : decode cX12_mostFrom 11 = .ok (.iload_n 3, 1) := by decide +kernel
theorem dX12_mostFrom_12 : decode cX12_mostFrom 12 = .ok (.iadd, 1) := by decide +kernel
theorem dX12_mostFrom_13 : decode cX12_mostFrom 13 = .ok (.iaload, 1) := by decide +kernel
theorem dX12_mostFrom_14 : decode cX12_mostFrom 14 = .ok (.istore 4, 2) := by decide +kernel
theorem dX12_mostFrom_16 : decode cX12_mostFrom 16 = .ok (.iconst 0, 1) := by decide +kernel
theorem dX12_mostFrom_17 : decode cX12_mostFrom 17 = .ok (.istore 5, 2) := by decide +kernel
theorem dX12_mostFrom_19 : decode cX12_mostFrom 19 = .ok (.iload 5, 2) := by decide +kernel
theorem dX12_mostFrom_21 : decode cX12_mostFrom 21 = .ok (.bipush 10, 2) := by decide +kernel
theorem dX12_mostFrom_23 : decode cX12_mostFrom 23 = .ok (.if_icmp .ge 57, 3) := by decide +kernel
theorem dX12_mostFrom_26 : decode cX12_mostFrom 26 = .ok (.aload_n 0, 1) := by decide +kernel
theorem dX12_mostFrom_27 : decode cX12_mostFrom 27 = .ok (.iload_n 1, 1) := by decide +kernel
theorem dX12_mostFrom_28 : decode cX12_mostFrom 28 = .ok (.iload_n 2, 1) := by decide +kernel
theorem dX12_mostFrom_29 : decode cX12_mostFrom 29 = .ok (.iload 5, 2) := by decide +kernel
theorem dX12_mostFrom_31 : decode cX12_mostFrom 31 = .ok (.iload_n 3, 1) := by decide +kernel
theorem dX12_mostFrom_32 : decode cX12_mostFrom 32 = .ok (.invokevirtual 213, 3) := by decide +kernel
theorem dX12_mostFrom_35 : decode cX12_mostFrom 35 = .ok (.ifCond .eq 27, 3) := by decide +kernel
theorem dX12_mostFrom_38 : decode cX12_mostFrom 38 = .ok (.aload_n 0, 1) := by decide +kernel
theorem dX12_mostFrom_39 : decode cX12_mostFrom 39 = .ok (.getfield 37, 3) := by decide +kernel
theorem dX12_mostFrom_42 : decode cX12_mostFrom 42 = .ok (.sipush 1024, 3) := by decide +kernel
theorem dX12_mostFrom_45 : decode cX12_mostFrom 45 = .ok (.iload_n 2, 1) := by decide +kernel
theorem dX12_mostFrom_46 : decode cX12_mostFrom 46 = .ok (.iconst 1, 1) := by decide +kernel
theorem dX12_mostFrom_47 : decode cX12_mostFrom 47 = .ok (.iadd, 1) := by decide +kernel
theorem dX12_mostFrom_48 : decode cX12_mostFrom 48 = .ok (.imul, 1) := by decide +kernel
theorem dX12_mostFrom_49 : decode cX12_mostFrom 49 = .ok (.iload_n 3, 1) := by decide +kernel
theorem dX12_mostFrom_50 : decode cX12_mostFrom 50 = .ok (.iconst 1, 1) := by decide +kernel
theorem dX12_mostFrom_51 : decode cX12_mostFrom 51 = .ok (.iload 5, 2) := by decide +kernel
theorem dX12_mostFrom_53 : decode cX12_mostFrom 53 = .ok (.ishl, 1) := by decide +kernel
theorem dX12_mostFrom_54 : decode cX12_mostFrom 54 = .ok (.ior, 1) := by decide +kernel
theorem dX12_mostFrom_55 : decode cX12_mostFrom 55 = .ok (.iadd, 1) := by decide +kernel
theorem dX12_mostFrom_56 : decode cX12_mostFrom 56 = .ok (.iaload, 1) := by decide +kernel
theorem dX12_mostFrom_57 : decode cX12_mostFrom 57 = .ok (.iconst 1, 1) := by decide +kernel
theorem dX12_mostFrom_58 : decode cX12_mostFrom 58 = .ok (.iadd, 1) := by decide +kernel
theorem dX12_mostFrom_59 : decode cX12_mostFrom 59 = .ok (.goto 4, 3) := by decide +kernel
theorem dX12_mostFrom_62 : decode cX12_mostFrom 62 = .ok (.iconst 0, 1) := by decide +kernel
theorem dX12_mostFrom_63 : decode cX12_mostFrom 63 = .ok (.istore 6, 2) := by decide +kernel
theorem dX12_mostFrom_65 : decode cX12_mostFrom 65 = .ok (.iload 4, 2) := by decide +kernel
theorem dX12_mostFrom_67 : decode cX12_mostFrom 67 = .ok (.iload 6, 2) := by decide +kernel
theorem dX12_mostFrom_69 : decode cX12_mostFrom 69 = .ok (.invokestatic 201, 3) := by decide +kernel
theorem dX12_mostFrom_72 : decode cX12_mostFrom 72 = .ok (.istore 4, 2) := by decide +kernel
theorem dX12_mostFrom_74 : decode cX12_mostFrom 74 = .ok (.iinc 5 1, 3) := by decide +kernel
theorem dX12_mostFrom_77 : decode cX12_mostFrom 77 = .ok (.goto (-58), 3) := by decide +kernel
theorem dX12_mostFrom_80 : decode cX12_mostFrom 80 = .ok (.iload 4, 2) := by decide +kernel
theorem dX12_mostFrom_82 : decode cX12_mostFrom 82 = .ok (.ireturn, 1) := by decide +kernel
theorem dX12_ownerOf_0 : decode cX12_ownerOf 0 = .ok (.bipush (-6), 2) := by decide +kernel
theorem dX12_ownerOf_2 : decode cX12_ownerOf 2 = .ok (.istore 4, 2) := by decide +kernel
theorem dX12_ownerOf_4 : decode cX12_ownerOf 4 = .ok (.bipush 9, 2) := by decide +kernel
theorem dX12_ownerOf_6 : decode cX12_ownerOf 6 = .ok (.istore 5, 2) := by decide +kernel
theorem dX12_ownerOf_8 : decode cX12_ownerOf 8 = .ok (.iload 5, 2) := by decide +kernel
theorem dX12_ownerOf_10 : decode cX12_ownerOf 10 = .ok (.ifCond .lt 82, 3) := by decide +kernel
theorem dX12_ownerOf_13 : decode cX12_ownerOf 13 = .ok (.aload_n 0, 1) := by decide +kernel
theorem dX12_ownerOf_14 : decode cX12_ownerOf 14 = .ok (.iload_n 1, 1) := by decide +kernel
theorem dX12_ownerOf_15 : decode cX12_ownerOf 15 = .ok (.iload_n 2, 1) := by decide +kernel
theorem dX12_ownerOf_16 : decode cX12_ownerOf 16 = .ok (.iload 5, 2) := by decide +kernel
theorem dX12_ownerOf_18 : decode cX12_ownerOf 18 = .ok (.iload_n 3, 1) := by decide +kernel
theorem dX12_ownerOf_19 : decode cX12_ownerOf 19 = .ok (.invokevirtual 213, 3) := by decide +kernel
theorem dX12_ownerOf_22 : decode cX12_ownerOf 22 = .ok (.istore 6, 2) := by decide +kernel
theorem dX12_ownerOf_24 : decode cX12_ownerOf 24 = .ok (.iload 6, 2) := by decide +kernel
theorem dX12_ownerOf_26 : decode cX12_ownerOf 26 = .ok (.ifCond .eq 43, 3) := by decide +kernel
theorem dX12_ownerOf_29 : decode cX12_ownerOf 29 = .ok (.aload_n 0, 1) := by decide +kernel
theorem dX12_ownerOf_30 : decode cX12_ownerOf 30 = .ok (.getfield 37, 3) := by decide +kernel
theorem dX12_ownerOf_33 : decode cX12_ownerOf 33 = .ok (.sipush 1024, 3) := by decide +kernel
theorem dX12_ownerOf_36 : decode cX12_ownerOf 36 = .ok (.iload_n 2, 1) := by decide +kernel
theorem dX12_ownerOf_37 : decode cX12_ownerOf 37 = .ok (.iconst 1, 1) := by decide +kernel
theorem dX12_ownerOf_38 : decode cX12_ownerOf 38 = .ok (.iadd, 1) := by decide +kernel
theorem dX12_ownerOf_39 : decode cX12_ownerOf 39 = .ok (.imul, 1) := by decide +kernel
theorem dX12_ownerOf_40 : decode cX12_ownerOf 40 = .ok (.iload_n 3, 1) := by decide +kernel
theorem dX12_ownerOf_41 : decode cX12_ownerOf 41 = .ok (.iconst 1, 1) := by decide +kernel
theorem dX12_ownerOf_42 : decode cX12_ownerOf 42 = .ok (.iload 5, 2) := by decide +kernel
theorem dX12_ownerOf_44 : decode cX12_ownerOf 44 = .ok (.ishl, 1) := by decide +kernel
theorem dX12_ownerOf_45 : decode cX12_ownerOf 45 = .ok (.ior, 1) := by decide +kernel
theorem dX12_ownerOf_46 : decode cX12_ownerOf 46 = .ok (.iadd, 1) := by decide +kernel
theorem dX12_ownerOf_47 : decode cX12_ownerOf 47 = .ok (.iaload, 1) := by decide +kernel
theorem dX12_ownerOf_48 : decode cX12_ownerOf 48 = .ok (.iconst 1, 1) := by decide +kernel
theorem dX12_ownerOf_49 : decode cX12_ownerOf 49 = .ok (.iadd, 1) := by decide +kernel
theorem dX12_ownerOf_50 : decode cX12_ownerOf 50 = .ok (.aload_n 0, 1) := by decide +kernel
theorem dX12_ownerOf_51 : decode cX12_ownerOf 51 = .ok (.getfield 37, 3) := by decide +kernel
theorem dX12_ownerOf_54 : decode cX12_ownerOf 54 = .ok (.sipush 1024, 3) := by decide +kernel
theorem dX12_ownerOf_57 : decode cX12_ownerOf 57 = .ok (.iload_n 2, 1) := by decide +kernel
theorem dX12_ownerOf_58 : decode cX12_ownerOf 58 = .ok (.imul, 1) := by decide +kernel
theorem dX12_ownerOf_59 : decode cX12_ownerOf 59 = .ok (.iload_n 3, 1) := by decide +kernel
theorem dX12_ownerOf_60 : decode cX12_ownerOf 60 = .ok (.iadd, 1) := by decide +kernel
theorem dX12_ownerOf_61 : decode cX12_ownerOf 61 = .ok (.iaload, 1) := by decide +kernel
theorem dX12_ownerOf_62 : decode cX12_ownerOf 62 = .ok (.if_icmp .ne 7, 3) := by decide +kernel
theorem dX12_ownerOf_65 : decode cX12_ownerOf 65 = .ok (.iconst 1, 1) := by decide +kernel
theorem dX12_ownerOf_66 : decode cX12_ownerOf 66 = .ok (.goto 4, 3) := by decide +kernel
theorem dX12_ownerOf_69 : decode cX12_ownerOf 69 = .ok (.iconst 0, 1) := by decide +kernel
theorem dX12_ownerOf_70 : decode cX12_ownerOf 70 = .ok (.istore 7, 2) := by decide +kernel
theorem dX12_ownerOf_72 : decode cX12_ownerOf 72 = .ok (.iload 7, 2) := by decide +kernel
theorem dX12_ownerOf_74 : decode cX12_ownerOf 74 = .ok (.ifCond .eq 8, 3) := by decide +kernel
theorem dX12_ownerOf_77 : decode cX12_ownerOf 77 = .ok (.iload 5, 2) := by decide +kernel
theorem dX12_ownerOf_79 : decode cX12_ownerOf 79 = .ok (.goto 5, 3) := by decide +kernel
theorem dX12_ownerOf_82 : decode cX12_ownerOf 82 = .ok (.iload 4, 2) := by decide +kernel
theorem dX12_ownerOf_84 : decode cX12_ownerOf 84 = .ok (.istore 4, 2) := by decide +kernel
theorem dX12_ownerOf_86 : decode cX12_ownerOf 86 = .ok (.iinc 5 (-1), 3) := by decide +kernel
theorem dX12_ownerOf_89 : decode cX12_ownerOf 89 = .ok (.goto (-81), 3) := by decide +kernel
theorem dX12_ownerOf_92 : decode cX12_ownerOf 92 = .ok (.iload 4, 2) := by decide +kernel
theorem dX12_ownerOf_94 : decode cX12_ownerOf 94 = .ok (.ireturn, 1) := by decide +kernel
theorem dX12_owners_0 : decode cX12_owners 0 = .ok (.iload_n 2, 1) := by decide +kernel
theorem dX12_owners_1 : decode cX12_owners 1 = .ok (.i2l, 1) := by decide +kernel
theorem dX12_owners_2 : decode cX12_owners 2 = .ok (.ldc2_w 217, 3) := by decide +kernel
theorem dX12_owners_5 : decode cX12_owners 5 = .ok (.ldc2_w 70, 3) := by decide +kernel
theorem dX12_owners_8 : decode cX12_owners 8 = .ok (.invokestatic 66, 3) := by decide +kernel
theorem dX12_owners_11 : decode cX12_owners 11 = .ok (.ifCond .ne 5, 3) := by decide +kernel
theorem dX12_owners_14 : decode cX12_owners 14 = .ok (.iconst (-1), 1) := by decide +kernel
theorem dX12_owners_15 : decode cX12_owners 15 = .ok (.ireturn, 1) := by decide +kernel
theorem dX12_owners_16 : decode cX12_owners 16 = .ok (.iload_n 1, 1) := by decide +kernel
theorem dX12_owners_17 : decode cX12_owners 17 = .ok (.i2l, 1) := by decide +kernel
theorem dX12_owners_18 : decode cX12_owners 18 = .ok (.lconst 0, 1) := by decide +kernel
theorem dX12_owners_19 : decode cX12_owners 19 = .ok (.ldc2_w 76, 3) := by decide +kernel
theorem dX12_owners_22 : decode cX12_owners 22 = .ok (.invokestatic 66, 3) := by decide +kernel
theorem dX12_owners_25 : decode cX12_owners 25 = .ok (.ifCond .ne 6, 3) := by decide +kernel
theorem dX12_owners_28 : decode cX12_owners 28 = .ok (.bipush (-2), 2) := by decide +kernel
theorem dX12_owners_30 : decode cX12_owners 30 = .ok (.ireturn, 1) := by decide +kernel
theorem dX12_owners_31 : decode cX12_owners 31 = .ok (.iconst 0, 1) := by decide +kernel
theorem dX12_owners_32 : decode cX12_owners 32 = .ok (.istore_n 3, 1) := by decide +kernel
theorem dX12_owners_33 : decode cX12_owners 33 = .ok (.iload_n 3, 1) := by decide +kernel
theorem dX12_owners_34 : decode cX12_owners 34 = .ok (.sipush 1024, 3) := by decide +kernel
theorem dX12_owners_37 : decode cX12_owners 37 = .ok (.if_icmp .ge 20, 3) := by decide +kernel
theorem dX12_owners_40 : decode cX12_owners 40 = .ok (.aload_n 0, 1) := by decide +kernel
theorem dX12_owners_41 : decode cX12_owners 41 = .ok (.getfield 37, 3) := by decide +kernel
theorem dX12_owners_44 : decode cX12_owners 44 = .ok (.sipush 8192, 3) := by decide +kernel
theorem dX12_owners_47 : decode cX12_owners 47 = .ok (.iload_n 3, 1) := by decide +kernel
theorem dX12_owners_48 : decode cX12_owners 48 = .ok (.iadd, 1) := by decide +kernel
theorem dX12_owners_49 : decode cX12_owners 49 = .ok (.iconst 0, 1) := by decide +kernel
theorem dX12_owners_50 : decode cX12_owners 50 = .ok (.iastore, 1) := by decide +kernel
theorem dX12_owners_51 : decode cX12_owners 51 = .ok (.iinc 3 1, 3) := by decide +kernel
theorem dX12_owners_54 : decode cX12_owners 54 = .ok (.goto (-21), 3) := by decide +kernel
theorem dX12_owners_57 : decode cX12_owners 57 = .ok (.bipush 7, 2) := by decide +kernel
theorem dX12_owners_59 : decode cX12_owners 59 = .ok (.istore_n 3, 1) := by decide +kernel
theorem dX12_owners_60 : decode cX12_owners 60 = .ok (.iload_n 3, 1) := by decide +kernel
theorem dX12_owners_61 : decode cX12_owners 61 = .ok (.ifCond .lt 47, 3) := by decide +kernel
theorem dX12_owners_64 : decode cX12_owners 64 = .ok (.iconst 0, 1) := by decide +kernel
theorem dX12_owners_65 : decode cX12_owners 65 = .ok (.istore 4, 2) := by decide +kernel
theorem dX12_owners_67 : decode cX12_owners 67 = .ok (.iload 4, 2) := by decide +kernel
theorem dX12_owners_69 : decode cX12_owners 69 = .ok (.sipush 1024, 3) := by decide +kernel
theorem dX12_owners_72 : decode cX12_owners 72 = .ok (.if_icmp .ge 30, 3) := by decide +kernel
theorem dX12_owners_75 : decode cX12_owners 75 = .ok (.aload_n 0, 1) := by decide +kernel
theorem dX12_owners_76 : decode cX12_owners 76 = .ok (.getfield 37, 3) := by decide +kernel
theorem dX12_owners_79 : decode cX12_owners 79 = .ok (.sipush 1024, 3) := by decide +kernel
theorem dX12_owners_82 : decode cX12_owners 82 = .ok (.iload_n 3, 1) := by decide +kernel
theorem dX12_owners_83 : decode cX12_owners 83 = .ok (.imul, 1) := by decide +kernel
theorem dX12_owners_84 : decode cX12_owners 84 = .ok (.iload 4, 2) := by decide +kernel
theorem dX12_owners_86 : decode cX12_owners 86 = .ok (.iadd, 1) := by decide +kernel
theorem dX12_owners_87 : decode cX12_owners 87 = .ok (.aload_n 0, 1) := by decide +kernel
theorem dX12_owners_88 : decode cX12_owners 88 = .ok (.iload_n 1, 1) := by decide +kernel
theorem dX12_owners_89 : decode cX12_owners 89 = .ok (.iload_n 3, 1) := by decide +kernel
theorem dX12_owners_90 : decode cX12_owners 90 = .ok (.iload 4, 2) := by decide +kernel
theorem dX12_owners_92 : decode cX12_owners 92 = .ok (.invokevirtual 219, 3) := by decide +kernel
theorem dX12_owners_95 : decode cX12_owners 95 = .ok (.iastore, 1) := by decide +kernel
theorem dX12_owners_96 : decode cX12_owners 96 = .ok (.iinc 4 1, 3) := by decide +kernel
theorem dX12_owners_99 : decode cX12_owners 99 = .ok (.goto (-32), 3) := by decide +kernel
theorem dX12_owners_102 : decode cX12_owners 102 = .ok (.iinc 3 (-1), 3) := by decide +kernel
theorem dX12_owners_105 : decode cX12_owners 105 = .ok (.goto (-45), 3) := by decide +kernel
theorem dX12_owners_108 : decode cX12_owners 108 = .ok (.iload_n 2, 1) := by decide +kernel
theorem dX12_owners_109 : decode cX12_owners 109 = .ok (.ifCond .ge 10, 3) := by decide +kernel
theorem dX12_owners_112 : decode cX12_owners 112 = .ok (.aload_n 0, 1) := by decide +kernel
theorem dX12_owners_113 : decode cX12_owners 113 = .ok (.getfield 37, 3) := by decide +kernel
theorem dX12_owners_116 : decode cX12_owners 116 = .ok (.iconst 0, 1) := by decide +kernel
theorem dX12_owners_117 : decode cX12_owners 117 = .ok (.iaload, 1) := by decide +kernel
theorem dX12_owners_118 : decode cX12_owners 118 = .ok (.ireturn, 1) := by decide +kernel
theorem dX12_owners_119 : decode cX12_owners 119 = .ok (.iconst 0, 1) := by decide +kernel
theorem dX12_owners_120 : decode cX12_owners 120 = .ok (.istore_n 3, 1) := by decide +kernel
theorem dX12_owners_121 : decode cX12_owners 121 = .ok (.iconst 0, 1) := by decide +kernel
theorem dX12_owners_122 : decode cX12_owners 122 = .ok (.istore 4, 2) := by decide +kernel
theorem dX12_owners_124 : decode cX12_owners 124 = .ok (.iload 4, 2) := by decide +kernel
theorem dX12_owners_126 : decode cX12_owners 126 = .ok (.iload_n 2, 1) := by decide +kernel
theorem dX12_owners_127 : decode cX12_owners 127 = .ok (.if_icmp .ge 35, 3) := by decide +kernel
theorem dX12_owners_130 : decode cX12_owners 130 = .ok (.aload_n 0, 1) := by decide +kernel
theorem dX12_owners_131 : decode cX12_owners 131 = .ok (.iload_n 1, 1) := by decide +kernel
theorem dX12_owners_132 : decode cX12_owners 132 = .ok (.iload 4, 2) := by decide +kernel
theorem dX12_owners_134 : decode cX12_owners 134 = .ok (.iload_n 3, 1) := by decide +kernel
theorem dX12_owners_135 : decode cX12_owners 135 = .ok (.invokevirtual 223, 3) := by decide +kernel
theorem dX12_owners_138 : decode cX12_owners 138 = .ok (.istore 5, 2) := by decide +kernel
theorem dX12_owners_140 : decode cX12_owners 140 = .ok (.iload_n 3, 1) := by decide +kernel
theorem dX12_owners_141 : decode cX12_owners 141 = .ok (.iload 5, 2) := by decide +kernel
theorem dX12_owners_143 : decode cX12_owners 143 = .ok (.ifCond .ge 7, 3) := by decide +kernel
theorem dX12_owners_146 : decode cX12_owners 146 = .ok (.iconst 0, 1) := by decide +kernel
theorem dX12_owners_147 : decode cX12_owners 147 = .ok (.goto 7, 3) := by decide +kernel
theorem dX12_owners_150 : decode cX12_owners 150 = .ok (.iconst 1, 1) := by decide +kernel
theorem dX12_owners_151 : decode cX12_owners 151 = .ok (.iload 5, 2) := by decide +kernel
theorem dX12_owners_153 : decode cX12_owners 153 = .ok (.ishl, 1) := by decide +kernel
theorem dX12_owners_154 : decode cX12_owners 154 = .ok (.ior, 1) := by decide +kernel
theorem dX12_owners_155 : decode cX12_owners 155 = .ok (.istore_n 3, 1) := by decide +kernel
theorem dX12_owners_156 : decode cX12_owners 156 = .ok (.iinc 4 1, 3) := by decide +kernel
theorem dX12_owners_159 : decode cX12_owners 159 = .ok (.goto (-35), 3) := by decide +kernel
theorem dX12_owners_162 : decode cX12_owners 162 = .ok (.aload_n 0, 1) := by decide +kernel
theorem dX12_owners_163 : decode cX12_owners 163 = .ok (.iload_n 1, 1) := by decide +kernel
theorem dX12_owners_164 : decode cX12_owners 164 = .ok (.iload_n 2, 1) := by decide +kernel
theorem dX12_owners_165 : decode cX12_owners 165 = .ok (.iload_n 3, 1) := by decide +kernel
theorem dX12_owners_166 : decode cX12_owners 166 = .ok (.invokevirtual 223, 3) := by decide +kernel
theorem dX12_owners_169 : decode cX12_owners 169 = .ok (.ireturn, 1) := by decide +kernel
theorem dX12_readHooks_0 : decode cX12_readHooks 0 = .ok (.iload_n 1, 1) := by decide +kernel
theorem dX12_readHooks_1 : decode cX12_readHooks 1 = .ok (.istore_n 2, 1) := by decide +kernel
theorem dX12_readHooks_2 : decode cX12_readHooks 2 = .ok (.iconst 0, 1) := by decide +kernel
theorem dX12_readHooks_3 : decode cX12_readHooks 3 = .ok (.istore_n 3, 1) := by decide +kernel
theorem dX12_readHooks_4 : decode cX12_readHooks 4 = .ok (.iconst 5, 1) := by decide +kernel
theorem dX12_readHooks_5 : decode cX12_readHooks 5 = .ok (.istore 4, 2) := by decide +kernel
theorem dX12_readHooks_7 : decode cX12_readHooks 7 = .ok (.iload 4, 2) := by decide +kernel
theorem dX12_readHooks_9 : decode cX12_readHooks 9 = .ok (.ifCond .lt 37, 3) := by decide +kernel
theorem dX12_readHooks_12 : decode cX12_readHooks 12 = .ok (.aload_n 0, 1) := by decide +kernel
theorem dX12_readHooks_13 : decode cX12_readHooks 13 = .ok (.getfield 40, 3) := by decide +kernel
theorem dX12_readHooks_16 : decode cX12_readHooks 16 = .ok (.iload 4, 2) := by decide +kernel
theorem dX12_readHooks_18 : decode cX12_readHooks 18 = .ok (.iload_n 2, 1) := by decide +kernel
theorem dX12_readHooks_19 : decode cX12_readHooks 19 = .ok (.bipush 10, 2) := by decide +kernel
theorem dX12_readHooks_21 : decode cX12_readHooks 21 = .ok (.irem, 1) := by decide +kernel
theorem dX12_readHooks_22 : decode cX12_readHooks 22 = .ok (.iastore, 1) := by decide +kernel
theorem dX12_readHooks_23 : decode cX12_readHooks 23 = .ok (.iload_n 3, 1) := by decide +kernel
theorem dX12_readHooks_24 : decode cX12_readHooks 24 = .ok (.iconst 1, 1) := by decide +kernel
theorem dX12_readHooks_25 : decode cX12_readHooks 25 = .ok (.aload_n 0, 1) := by decide +kernel
theorem dX12_readHooks_26 : decode cX12_readHooks 26 = .ok (.getfield 40, 3) := by decide +kernel
theorem dX12_readHooks_29 : decode cX12_readHooks 29 = .ok (.iload 4, 2) := by decide +kernel
theorem dX12_readHooks_31 : decode cX12_readHooks 31 = .ok (.iaload, 1) := by decide +kernel
theorem dX12_readHooks_32 : decode cX12_readHooks 32 = .ok (.ishl, 1) := by decide +kernel
theorem dX12_readHooks_33 : decode cX12_readHooks 33 = .ok (.ior, 1) := by decide +kernel
theorem dX12_readHooks_34 : decode cX12_readHooks 34 = .ok (.istore_n 3, 1) := by decide +kernel
theorem dX12_readHooks_35 : decode cX12_readHooks 35 = .ok (.iload_n 2, 1) := by decide +kernel
theorem dX12_readHooks_36 : decode cX12_readHooks 36 = .ok (.bipush 10, 2) := by decide +kernel
theorem dX12_readHooks_38 : decode cX12_readHooks 38 = .ok (.idiv, 1) := by decide +kernel
theorem dX12_readHooks_39 : decode cX12_readHooks 39 = .ok (.istore_n 2, 1) := by decide +kernel
theorem dX12_readHooks_40 : decode cX12_readHooks 40 = .ok (.iinc 4 (-1), 3) := by decide +kernel
theorem dX12_readHooks_43 : decode cX12_readHooks 43 = .ok (.goto (-36), 3) := by decide +kernel
theorem dX12_readHooks_46 : decode cX12_readHooks 46 = .ok (.iload_n 2, 1) := by decide +kernel
theorem dX12_readHooks_47 : decode cX12_readHooks 47 = .ok (.ifCond .ne 13, 3) := by decide +kernel
theorem dX12_readHooks_50 : decode cX12_readHooks 50 = .ok (.iload_n 3, 1) := by decide +kernel
theorem dX12_readHooks_51 : decode cX12_readHooks 51 = .ok (.bipush 63, 2) := by decide +kernel
theorem dX12_readHooks_53 : decode cX12_readHooks 53 = .ok (.if_icmp .ne 7, 3) := by decide +kernel
theorem dX12_readHooks_56 : decode cX12_readHooks 56 = .ok (.iconst 1, 1) := by decide +kernel
theorem dX12_readHooks_57 : decode cX12_readHooks 57 = .ok (.goto 4, 3) := by decide +kernel
theorem dX12_readHooks_60 : decode cX12_readHooks 60 = .ok (.iconst 0, 1) := by decide +kernel
theorem dX12_readHooks_61 : decode cX12_readHooks 61 = .ok (.ireturn, 1) := by decide +kernel
theorem dX12_common_0 : decode cX12_common 0 = .ok (.iload_n 0, 1) := by decide +kernel
theorem dX12_common_1 : decode cX12_common 1 = .ok (.istore_n 2, 1) := by decide +kernel
theorem dX12_common_2 : decode cX12_common 2 = .ok (.iload_n 1, 1) := by decide +kernel
theorem dX12_common_3 : decode cX12_common 3 = .ok (.istore_n 3, 1) := by decide +kernel
theorem dX12_common_4 : decode cX12_common 4 = .ok (.iload_n 3, 1) := by decide +kernel
theorem dX12_common_5 : decode cX12_common 5 = .ok (.ifCond .eq 16, 3) := by decide +kernel
theorem dX12_common_8 : decode cX12_common 8 = .ok (.iload_n 2, 1) := by decide +kernel
theorem dX12_common_9 : decode cX12_common 9 = .ok (.iload_n 3, 1) := by decide +kernel
theorem dX12_common_10 : decode cX12_common 10 = .ok (.irem, 1) := by decide +kernel
theorem dX12_common_11 : decode cX12_common 11 = .ok (.istore 4, 2) := by decide +kernel
theorem dX12_common_13 : decode cX12_common 13 = .ok (.iload_n 3, 1) := by decide +kernel
theorem dX12_common_14 : decode cX12_common 14 = .ok (.istore_n 2, 1) := by decide +kernel
theorem dX12_common_15 : decode cX12_common 15 = .ok (.iload 4, 2) := by decide +kernel
theorem dX12_common_17 : decode cX12_common 17 = .ok (.istore_n 3, 1) := by decide +kernel
theorem dX12_common_18 : decode cX12_common 18 = .ok (.goto (-14), 3) := by decide +kernel
theorem dX12_common_21 : decode cX12_common 21 = .ok (.iload_n 2, 1) := by decide +kernel
theorem dX12_common_22 : decode cX12_common 22 = .ok (.ireturn, 1) := by decide +kernel
theorem dX12_towels_0 : decode cX12_towels 0 = .ok (.iload_n 1, 1) := by decide +kernel
theorem dX12_towels_1 : decode cX12_towels 1 = .ok (.i2l, 1) := by decide +kernel
theorem dX12_towels_2 : decode cX12_towels 2 = .ok (.lconst 0, 1) := by decide +kernel
theorem dX12_towels_3 : decode cX12_towels 3 = .ok (.ldc2_w 226, 3) := by decide +kernel
theorem dX12_towels_6 : decode cX12_towels 6 = .ok (.invokestatic 66, 3) := by decide +kernel
theorem dX12_towels_9 : decode cX12_towels 9 = .ok (.ifCond .eq 21, 3) := by decide +kernel
theorem dX12_towels_12 : decode cX12_towels 12 = .ok (.aload_n 0, 1) := by decide +kernel
theorem dX12_towels_13 : decode cX12_towels 13 = .ok (.iload_n 1, 1) := by decide +kernel
theorem dX12_towels_14 : decode cX12_towels 14 = .ok (.invokevirtual 228, 3) := by decide +kernel
theorem dX12_towels_17 : decode cX12_towels 17 = .ok (.ifCond .eq 13, 3) := by decide +kernel
theorem dX12_towels_20 : decode cX12_towels 20 = .ok (.iload_n 2, 1) := by decide +kernel
theorem dX12_towels_21 : decode cX12_towels 21 = .ok (.i2l, 1) := by decide +kernel
theorem dX12_towels_22 : decode cX12_towels 22 = .ok (.lconst 0, 1) := by decide +kernel
theorem dX12_towels_23 : decode cX12_towels 23 = .ok (.lconst 1, 1) := by decide +kernel
theorem dX12_towels_24 : decode cX12_towels 24 = .ok (.invokestatic 66, 3) := by decide +kernel
theorem dX12_towels_27 : decode cX12_towels 27 = .ok (.ifCond .ne 6, 3) := by decide +kernel
theorem dX12_towels_30 : decode cX12_towels 30 = .ok (.bipush (-2), 2) := by decide +kernel
theorem dX12_towels_32 : decode cX12_towels 32 = .ok (.ireturn, 1) := by decide +kernel
theorem dX12_towels_33 : decode cX12_towels 33 = .ok (.iconst 0, 1) := by decide +kernel
theorem dX12_towels_34 : decode cX12_towels 34 = .ok (.istore_n 3, 1) := by decide +kernel
theorem dX12_towels_35 : decode cX12_towels 35 = .ok (.iconst 0, 1) := by decide +kernel
theorem dX12_towels_36 : decode cX12_towels 36 = .ok (.istore 4, 2) := by decide +kernel
theorem dX12_towels_38 : decode cX12_towels 38 = .ok (.iconst 1, 1) := by decide +kernel
theorem dX12_towels_39 : decode cX12_towels 39 = .ok (.istore 5, 2) := by decide +kernel
theorem dX12_towels_41 : decode cX12_towels 41 = .ok (.iconst 0, 1) := by decide +kernel
theorem dX12_towels_42 : decode cX12_towels 42 = .ok (.istore 6, 2) := by decide +kernel
theorem dX12_towels_44 : decode cX12_towels 44 = .ok (.iload 6, 2) := by decide +kernel
theorem dX12_towels_46 : decode cX12_towels 46 = .ok (.bipush 6, 2) := by decide +kernel
theorem dX12_towels_48 : decode cX12_towels 48 = .ok (.if_icmp .ge 87, 3) := by decide +kernel
theorem dX12_towels_51 : decode cX12_towels 51 = .ok (.iconst 0, 1) := by decide +kernel
theorem dX12_towels_52 : decode cX12_towels 52 = .ok (.istore 7, 2) := by decide +kernel
theorem dX12_towels_54 : decode cX12_towels 54 = .ok (.iload 6, 2) := by decide +kernel
theorem dX12_towels_56 : decode cX12_towels 56 = .ok (.istore 8, 2) := by decide +kernel
theorem dX12_towels_58 : decode cX12_towels 58 = .ok (.iload_n 3, 1) := by decide +kernel
theorem dX12_towels_59 : decode cX12_towels 59 = .ok (.iload 8, 2) := by decide +kernel
theorem dX12_towels_61 : decode cX12_towels 61 = .ok (.invokestatic 131, 3) := by decide +kernel
theorem dX12_towels_64 : decode cX12_towels 64 = .ok (.ifCond .ne 25, 3) := by decide +kernel
theorem dX12_towels_67 : decode cX12_towels 67 = .ok (.iload_n 3, 1) := by decide +kernel
theorem dX12_towels_68 : decode cX12_towels 68 = .ok (.iconst 1, 1) := by decide +kernel
theorem dX12_towels_69 : decode cX12_towels 69 = .ok (.iload 8, 2) := by decide +kernel
theorem dX12_towels_71 : decode cX12_towels 71 = .ok (.ishl, 1) := by decide +kernel
theorem dX12_towels_72 : decode cX12_towels 72 = .ok (.ior, 1) := by decide +kernel
theorem dX12_towels_73 : decode cX12_towels 73 = .ok (.istore_n 3, 1) := by decide +kernel
theorem dX12_towels_74 : decode cX12_towels 74 = .ok (.iinc 7 1, 3) := by decide +kernel
theorem dX12_towels_77 : decode cX12_towels 77 = .ok (.aload_n 0, 1) := by decide +kernel
theorem dX12_towels_78 : decode cX12_towels 78 = .ok (.getfield 40, 3) := by decide +kernel
theorem dX12_towels_81 : decode cX12_towels 81 = .ok (.iload 8, 2) := by decide +kernel
theorem dX12_towels_83 : decode cX12_towels 83 = .ok (.iaload, 1) := by decide +kernel
theorem dX12_towels_84 : decode cX12_towels 84 = .ok (.istore 8, 2) := by decide +kernel
theorem dX12_towels_86 : decode cX12_towels 86 = .ok (.goto (-28), 3) := by decide +kernel
theorem dX12_towels_89 : decode cX12_towels 89 = .ok (.iload 4, 2) := by decide +kernel
theorem dX12_towels_91 : decode cX12_towels 91 = .ok (.iload 7, 2) := by decide +kernel
theorem dX12_towels_93 : decode cX12_towels 93 = .ok (.ifCond .le 7, 3) := by decide +kernel
theorem dX12_towels_96 : decode cX12_towels 96 = .ok (.iconst 1, 1) := by decide +kernel
theorem dX12_towels_97 : decode cX12_towels 97 = .ok (.goto 4, 3) := by decide +kernel
theorem dX12_towels_100 : decode cX12_towels 100 = .ok (.iconst 0, 1) := by decide +kernel
theorem dX12_towels_101 : decode cX12_towels 101 = .ok (.iadd, 1) := by decide +kernel
theorem dX12_towels_102 : decode cX12_towels 102 = .ok (.istore 4, 2) := by decide +kernel
theorem dX12_towels_104 : decode cX12_towels 104 = .ok (.iload 7, 2) := by decide +kernel
theorem dX12_towels_106 : decode cX12_towels 106 = .ok (.ifCond .le 19, 3) := by decide +kernel
theorem dX12_towels_109 : decode cX12_towels 109 = .ok (.iload 5, 2) := by decide +kernel
theorem dX12_towels_111 : decode cX12_towels 111 = .ok (.iload 5, 2) := by decide +kernel
theorem dX12_towels_113 : decode cX12_towels 113 = .ok (.iload 7, 2) := by decide +kernel
theorem dX12_towels_115 : decode cX12_towels 115 = .ok (.invokestatic 231, 3) := by decide +kernel
theorem dX12_towels_118 : decode cX12_towels 118 = .ok (.idiv, 1) := by decide +kernel
theorem dX12_towels_119 : decode cX12_towels 119 = .ok (.iload 7, 2) := by decide +kernel
theorem dX12_towels_121 : decode cX12_towels 121 = .ok (.imul, 1) := by decide +kernel
theorem dX12_towels_122 : decode cX12_towels 122 = .ok (.goto 5, 3) := by decide +kernel
theorem dX12_towels_125 : decode cX12_towels 125 = .ok (.iload 5, 2) := by decide +kernel
theorem dX12_towels_127 : decode cX12_towels 127 = .ok (.istore 5, 2) := by decide +kernel
theorem dX12_towels_129 : decode cX12_towels 129 = .ok (.iinc 6 1, 3) := by decide +kernel
theorem dX12_towels_132 : decode cX12_towels 132 = .ok (.goto (-88), 3) := by decide +kernel
theorem dX12_towels_135 : decode cX12_towels 135 = .ok (.iload_n 2, 1) := by decide +kernel
theorem dX12_towels_136 : decode cX12_towels 136 = .ok (.ifCond .ne 11, 3) := by decide +kernel
theorem dX12_towels_139 : decode cX12_towels 139 = .ok (.bipush 6, 2) := by decide +kernel
theorem dX12_towels_141 : decode cX12_towels 141 = .ok (.iload 4, 2) := by decide +kernel
theorem dX12_towels_143 : decode cX12_towels 143 = .ok (.isub, 1) := by decide +kernel
theorem dX12_towels_144 : decode cX12_towels 144 = .ok (.goto 5, 3) := by decide +kernel
theorem dX12_towels_147 : decode cX12_towels 147 = .ok (.iload 5, 2) := by decide +kernel
theorem dX12_towels_149 : decode cX12_towels 149 = .ok (.ireturn, 1) := by decide +kernel
theorem dX12_found_0 : decode cX12_found 0 = .ok (.iload_n 2, 1) := by decide +kernel
theorem dX12_found_1 : decode cX12_found 1 = .ok (.invokestatic 234, 3) := by decide +kernel
theorem dX12_found_4 : decode cX12_found 4 = .ok (.ifCond .ne 5, 3) := by decide +kernel
theorem dX12_found_7 : decode cX12_found 7 = .ok (.iconst (-1), 1) := by decide +kernel
theorem dX12_found_8 : decode cX12_found 8 = .ok (.ireturn, 1) := by decide +kernel
theorem dX12_found_9 : decode cX12_found 9 = .ok (.iload_n 1, 1) := by decide +kernel
theorem dX12_found_10 : decode cX12_found 10 = .ok (.i2l, 1) := by decide +kernel
theorem dX12_found_11 : decode cX12_found 11 = .ok (.lconst 0, 1) := by decide +kernel
theorem dX12_found_12 : decode cX12_found 12 = .ok (.ldc2_w 237, 3) := by decide +kernel
theorem dX12_found_15 : decode cX12_found 15 = .ok (.invokestatic 66, 3) := by decide +kernel
theorem dX12_found_18 : decode cX12_found 18 = .ok (.ifCond .ne 6, 3) := by decide +kernel
theorem dX12_found_21 : decode cX12_found 21 = .ok (.bipush (-2), 2) := by decide +kernel
theorem dX12_found_23 : decode cX12_found 23 = .ok (.ireturn, 1) := by decide +kernel
theorem dX12_found_24 : decode cX12_found 24 = .ok (.aload_n 0, 1) := by decide +kernel
theorem dX12_found_25 : decode cX12_found 25 = .ok (.getfield 239, 3) := by decide +kernel
theorem dX12_found_28 : decode cX12_found 28 = .ok (.bipush 8, 2) := by decide +kernel
theorem dX12_found_30 : decode cX12_found 30 = .ok (.if_icmp .ne 6, 3) := by decide +kernel
theorem dX12_found_33 : decode cX12_found 33 = .ok (.bipush (-4), 2) := by decide +kernel
theorem dX12_found_35 : decode cX12_found 35 = .ok (.ireturn, 1) := by decide +kernel
theorem dX12_found_36 : decode cX12_found 36 = .ok (.aload_n 0, 1) := by decide +kernel
theorem dX12_found_37 : decode cX12_found 37 = .ok (.getfield 19, 3) := by decide +kernel
theorem dX12_found_40 : decode cX12_found 40 = .ok (.aload_n 0, 1) := by decide +kernel
theorem dX12_found_41 : decode cX12_found 41 = .ok (.getfield 239, 3) := by decide +kernel
theorem dX12_found_44 : decode cX12_found 44 = .ok (.iload_n 1, 1) := by decide +kernel
theorem dX12_found_45 : decode cX12_found 45 = .ok (.iastore, 1) := by decide +kernel
theorem dX12_found_46 : decode cX12_found 46 = .ok (.aload_n 0, 1) := by decide +kernel
theorem dX12_found_47 : decode cX12_found 47 = .ok (.getfield 22, 3) := by decide +kernel
theorem dX12_found_50 : decode cX12_found 50 = .ok (.aload_n 0, 1) := by decide +kernel
theorem dX12_found_51 : decode cX12_found 51 = .ok (.getfield 239, 3) := by decide +kernel
theorem dX12_found_54 : decode cX12_found 54 = .ok (.iload_n 2, 1) := by decide +kernel
theorem dX12_found_55 : decode cX12_found 55 = .ok (.iastore, 1) := by decide +kernel
theorem dX12_found_56 : decode cX12_found 56 = .ok (.aload_n 0, 1) := by decide +kernel
theorem dX12_found_57 : decode cX12_found 57 = .ok (.dup, 1) := by decide +kernel
theorem dX12_found_58 : decode cX12_found 58 = .ok (.getfield 239, 3) := by decide +kernel
theorem dX12_found_61 : decode cX12_found 61 = .ok (.iconst 1, 1) := by decide +kernel
theorem dX12_found_62 : decode cX12_found 62 = .ok (.iadd, 1) := by decide +kernel
theorem dX12_found_63 : decode cX12_found 63 = .ok (.putfield 239, 3) := by decide +kernel
theorem dX12_found_66 : decode cX12_found 66 = .ok (.aload_n 0, 1) := by decide +kernel
theorem dX12_found_67 : decode cX12_found 67 = .ok (.getfield 239, 3) := by decide +kernel
theorem dX12_found_70 : decode cX12_found 70 = .ok (.ireturn, 1) := by decide +kernel
theorem dX12_forget_0 : decode cX12_forget 0 = .ok (.aload_n 0, 1) := by decide +kernel
theorem dX12_forget_1 : decode cX12_forget 1 = .ok (.getfield 239, 3) := by decide +kernel
theorem dX12_forget_4 : decode cX12_forget 4 = .ok (.istore_n 1, 1) := by decide +kernel
theorem dX12_forget_5 : decode cX12_forget 5 = .ok (.aload_n 0, 1) := by decide +kernel
theorem dX12_forget_6 : decode cX12_forget 6 = .ok (.iconst 0, 1) := by decide +kernel
theorem dX12_forget_7 : decode cX12_forget 7 = .ok (.putfield 239, 3) := by decide +kernel
theorem dX12_forget_10 : decode cX12_forget 10 = .ok (.iload_n 1, 1) := by decide +kernel
theorem dX12_forget_11 : decode cX12_forget 11 = .ok (.ireturn, 1) := by decide +kernel
theorem dX12_foundBy_0 : decode cX12_foundBy 0 = .ok (.iload_n 0, 1) := by decide +kernel
theorem dX12_foundBy_1 : decode cX12_foundBy 1 = .ok (.bipush 10, 2) := by decide +kernel
theorem dX12_foundBy_3 : decode cX12_foundBy 3 = .ok (.idiv, 1) := by decide +kernel
theorem dX12_foundBy_4 : decode cX12_foundBy 4 = .ok (.iload_n 1, 1) := by decide +kernel
theorem dX12_foundBy_5 : decode cX12_foundBy 5 = .ok (.imul, 1) := by decide +kernel
theorem dX12_foundBy_6 : decode cX12_foundBy 6 = .ok (.iload_n 0, 1) := by decide +kernel
theorem dX12_foundBy_7 : decode cX12_foundBy 7 = .ok (.bipush 10, 2) := by decide +kernel
theorem dX12_foundBy_9 : decode cX12_foundBy 9 = .ok (.irem, 1) := by decide +kernel
theorem dX12_foundBy_10 : decode cX12_foundBy 10 = .ok (.iadd, 1) := by decide +kernel
theorem dX12_foundBy_11 : decode cX12_foundBy 11 = .ok (.bipush 8, 2) := by decide +kernel
theorem dX12_foundBy_13 : decode cX12_foundBy 13 = .ok (.irem, 1) := by decide +kernel
theorem dX12_foundBy_14 : decode cX12_foundBy 14 = .ok (.ireturn, 1) := by decide +kernel
theorem dX12_isFit_0 : decode cX12_isFit 0 = .ok (.iload_n 1, 1) := by decide +kernel
theorem dX12_isFit_1 : decode cX12_isFit 1 = .ok (.bipush 10, 2) := by decide +kernel
theorem dX12_isFit_3 : decode cX12_isFit 3 = .ok (.irem, 1) := by decide +kernel
theorem dX12_isFit_4 : decode cX12_isFit 4 = .ok (.bipush 8, 2) := by decide +kernel
theorem dX12_isFit_6 : decode cX12_isFit 6 = .ok (.if_icmp .ge 7, 3) := by decide +kernel
theorem dX12_isFit_9 : decode cX12_isFit 9 = .ok (.iconst 1, 1) := by decide +kernel
theorem dX12_isFit_10 : decode cX12_isFit 10 = .ok (.goto 4, 3) := by decide +kernel
theorem dX12_isFit_13 : decode cX12_isFit 13 = .ok (.iconst 0, 1) := by decide +kernel
theorem dX12_isFit_14 : decode cX12_isFit 14 = .ok (.istore_n 2, 1) := by decide +kernel
theorem dX12_isFit_15 : decode cX12_isFit 15 = .ok (.iconst 0, 1) := by decide +kernel
theorem dX12_isFit_16 : decode cX12_isFit 16 = .ok (.istore_n 3, 1) := by decide +kernel
theorem dX12_isFit_17 : decode cX12_isFit 17 = .ok (.iload_n 3, 1) := by decide +kernel
theorem dX12_isFit_18 : decode cX12_isFit 18 = .ok (.aload_n 0, 1) := by decide +kernel
theorem dX12_isFit_19 : decode cX12_isFit 19 = .ok (.getfield 239, 3) := by decide +kernel
theorem dX12_isFit_22 : decode cX12_isFit 22 = .ok (.if_icmp .ge 38, 3) := by decide +kernel
theorem dX12_isFit_25 : decode cX12_isFit 25 = .ok (.iload_n 2, 1) := by decide +kernel
theorem dX12_isFit_26 : decode cX12_isFit 26 = .ok (.ifCond .eq 26, 3) := by decide +kernel
theorem dX12_isFit_29 : decode cX12_isFit 29 = .ok (.iload_n 1, 1) := by decide +kernel
theorem dX12_isFit_30 : decode cX12_isFit 30 = .ok (.aload_n 0, 1) := by decide +kernel
theorem dX12_isFit_31 : decode cX12_isFit 31 = .ok (.getfield 19, 3) := by decide +kernel
theorem dX12_isFit_34 : decode cX12_isFit 34 = .ok (.iload_n 3, 1) := by decide +kernel
theorem dX12_isFit_35 : decode cX12_isFit 35 = .ok (.iaload, 1) := by decide +kernel
theorem dX12_isFit_36 : decode cX12_isFit 36 = .ok (.invokestatic 242, 3) := by decide +kernel
theorem dX12_isFit_39 : decode cX12_isFit 39 = .ok (.aload_n 0, 1) := by decide +kernel
theorem dX12_isFit_40 : decode cX12_isFit 40 = .ok (.getfield 22, 3) := by decide +kernel
theorem dX12_isFit_43 : decode cX12_isFit 43 = .ok (.iload_n 3, 1) := by decide +kernel
theorem dX12_isFit_44 : decode cX12_isFit 44 = .ok (.iaload, 1) := by decide +kernel
theorem dX12_isFit_45 : decode cX12_isFit 45 = .ok (.if_icmp .ne 7, 3) := by decide +kernel
theorem dX12_isFit_48 : decode cX12_isFit 48 = .ok (.iconst 1, 1) := by decide +kernel
theorem dX12_isFit_49 : decode cX12_isFit 49 = .ok (.goto 4, 3) := by decide +kernel
theorem dX12_isFit_52 : decode cX12_isFit 52 = .ok (.iconst 0, 1) := by decide +kernel
theorem dX12_isFit_53 : decode cX12_isFit 53 = .ok (.istore_n 2, 1) := by decide +kernel
theorem dX12_isFit_54 : decode cX12_isFit 54 = .ok (.iinc 3 1, 3) := by decide +kernel
theorem dX12_isFit_57 : decode cX12_isFit 57 = .ok (.goto (-40), 3) := by decide +kernel
theorem dX12_isFit_60 : decode cX12_isFit 60 = .ok (.iload_n 2, 1) := by decide +kernel
theorem dX12_isFit_61 : decode cX12_isFit 61 = .ok (.ireturn, 1) := by decide +kernel
theorem dX12_fits_0 : decode cX12_fits 0 = .ok (.iconst 0, 1) := by decide +kernel
theorem dX12_fits_1 : decode cX12_fits 1 = .ok (.istore_n 2, 1) := by decide +kernel
theorem dX12_fits_2 : decode cX12_fits 2 = .ok (.iconst 0, 1) := by decide +kernel
theorem dX12_fits_3 : decode cX12_fits 3 = .ok (.istore_n 3, 1) := by decide +kernel
theorem dX12_fits_4 : decode cX12_fits 4 = .ok (.iload_n 3, 1) := by decide +kernel
theorem dX12_fits_5 : decode cX12_fits 5 = .ok (.bipush 80, 2) := by decide +kernel
theorem dX12_fits_7 : decode cX12_fits 7 = .ok (.if_icmp .ge 27, 3) := by decide +kernel
theorem dX12_fits_10 : decode cX12_fits 10 = .ok (.aload_n 0, 1) := by decide +kernel
theorem dX12_fits_11 : decode cX12_fits 11 = .ok (.iload_n 3, 1) := by decide +kernel
theorem dX12_fits_12 : decode cX12_fits 12 = .ok (.invokevirtual 245, 3) := by decide +kernel
theorem dX12_fits_15 : decode cX12_fits 15 = .ok (.ifCond .eq 13, 3) := by decide +kernel
theorem dX12_fits_18 : decode cX12_fits 18 = .ok (.iload_n 2, 1) := by decide +kernel
theorem dX12_fits_19 : decode cX12_fits 19 = .ok (.iload_n 1, 1) := by decide +kernel
theorem dX12_fits_20 : decode cX12_fits 20 = .ok (.if_icmp .ne 5, 3) := by decide +kernel
theorem dX12_fits_23 : decode cX12_fits 23 = .ok (.iload_n 3, 1) := by decide +kernel
theorem dX12_fits_24 : decode cX12_fits 24 = .ok (.ireturn, 1) := by decide +kernel
theorem dX12_fits_25 : decode cX12_fits 25 = .ok (.iinc 2 1, 3) := by decide +kernel
theorem dX12_fits_28 : decode cX12_fits 28 = .ok (.iinc 3 1, 3) := by decide +kernel
theorem dX12_fits_31 : decode cX12_fits 31 = .ok (.goto (-27), 3) := by decide +kernel
theorem dX12_fits_34 : decode cX12_fits 34 = .ok (.iload_n 1, 1) := by decide +kernel
theorem dX12_fits_35 : decode cX12_fits 35 = .ok (.iconst (-1), 1) := by decide +kernel
theorem dX12_fits_36 : decode cX12_fits 36 = .ok (.if_icmp .ne 7, 3) := by decide +kernel
theorem dX12_fits_39 : decode cX12_fits 39 = .ok (.iload_n 2, 1) := by decide +kernel
theorem dX12_fits_40 : decode cX12_fits 40 = .ok (.goto 5, 3) := by decide +kernel
theorem dX12_fits_43 : decode cX12_fits 43 = .ok (.bipush (-6), 2) := by decide +kernel
theorem dX12_fits_45 : decode cX12_fits 45 = .ok (.ireturn, 1) := by decide +kernel
theorem dX12_mostLeft_0 : decode cX12_mostLeft 0 = .ok (.iconst 0, 1) := by decide +kernel
theorem dX12_mostLeft_1 : decode cX12_mostLeft 1 = .ok (.istore_n 2, 1) := by decide +kernel
theorem dX12_mostLeft_2 : decode cX12_mostLeft 2 = .ok (.iconst 0, 1) := by decide +kernel
theorem dX12_mostLeft_3 : decode cX12_mostLeft 3 = .ok (.istore_n 3, 1) := by decide +kernel
theorem dX12_mostLeft_4 : decode cX12_mostLeft 4 = .ok (.iload_n 3, 1) := by decide +kernel
theorem dX12_mostLeft_5 : decode cX12_mostLeft 5 = .ok (.bipush 8, 2) := by decide +kernel
theorem dX12_mostLeft_7 : decode cX12_mostLeft 7 = .ok (.if_icmp .ge 16, 3) := by decide +kernel
theorem dX12_mostLeft_10 : decode cX12_mostLeft 10 = .ok (.aload_n 0, 1) := by decide +kernel
theorem dX12_mostLeft_11 : decode cX12_mostLeft 11 = .ok (.getfield 43, 3) := by decide +kernel
theorem dX12_mostLeft_14 : decode cX12_mostLeft 14 = .ok (.iload_n 3, 1) := by decide +kernel
theorem dX12_mostLeft_15 : decode cX12_mostLeft 15 = .ok (.iconst 0, 1) := by decide +kernel
theorem dX12_mostLeft_16 : decode cX12_mostLeft 16 = .ok (.iastore, 1) := by decide +kernel
theorem dX12_mostLeft_17 : decode cX12_mostLeft 17 = .ok (.iinc 3 1, 3) := by decide +kernel
theorem dX12_mostLeft_20 : decode cX12_mostLeft 20 = .ok (.goto (-16), 3) := by decide +kernel
theorem dX12_mostLeft_23 : decode cX12_mostLeft 23 = .ok (.iconst 0, 1) := by decide +kernel
theorem dX12_mostLeft_24 : decode cX12_mostLeft 24 = .ok (.istore_n 3, 1) := by decide +kernel
theorem dX12_mostLeft_25 : decode cX12_mostLeft 25 = .ok (.iload_n 3, 1) := by decide +kernel
theorem dX12_mostLeft_26 : decode cX12_mostLeft 26 = .ok (.bipush 80, 2) := by decide +kernel
theorem dX12_mostLeft_28 : decode cX12_mostLeft 28 = .ok (.if_icmp .ge 46, 3) := by decide +kernel
theorem dX12_mostLeft_31 : decode cX12_mostLeft 31 = .ok (.aload_n 0, 1) := by decide +kernel
theorem dX12_mostLeft_32 : decode cX12_mostLeft 32 = .ok (.iload_n 3, 1) := by decide +kernel
theorem dX12_mostLeft_33 : decode cX12_mostLeft 33 = .ok (.invokevirtual 245, 3) := by decide +kernel
theorem dX12_mostLeft_36 : decode cX12_mostLeft 36 = .ok (.ifCond .eq 32, 3) := by decide +kernel
theorem dX12_mostLeft_39 : decode cX12_mostLeft 39 = .ok (.aload_n 0, 1) := by decide +kernel
theorem dX12_mostLeft_40 : decode cX12_mostLeft 40 = .ok (.getfield 43, 3) := by decide +kernel
theorem dX12_mostLeft_43 : decode cX12_mostLeft 43 = .ok (.iload_n 3, 1) := by decide +kernel
theorem dX12_mostLeft_44 : decode cX12_mostLeft 44 = .ok (.iload_n 1, 1) := by decide +kernel
theorem dX12_mostLeft_45 : decode cX12_mostLeft 45 = .ok (.invokestatic 242, 3) := by decide +kernel
theorem dX12_mostLeft_48 : decode cX12_mostLeft 48 = .ok (.dup2, 1) := by decide +kernel
theorem dX12_mostLeft_49 : decode cX12_mostLeft 49 = .ok (.iaload, 1) := by decide +kernel
theorem dX12_mostLeft_50 : decode cX12_mostLeft 50 = .ok (.iconst 1, 1) := by decide +kernel
theorem dX12_mostLeft_51 : decode cX12_mostLeft 51 = .ok (.iadd, 1) := by decide +kernel
theorem dX12_mostLeft_52 : decode cX12_mostLeft 52 = .ok (.iastore, 1) := by decide +kernel
theorem dX12_mostLeft_53 : decode cX12_mostLeft 53 = .ok (.iload_n 2, 1) := by decide +kernel
theorem dX12_mostLeft_54 : decode cX12_mostLeft 54 = .ok (.aload_n 0, 1) := by decide +kernel
theorem dX12_mostLeft_55 : decode cX12_mostLeft 55 = .ok (.getfield 43, 3) := by decide +kernel
theorem dX12_mostLeft_58 : decode cX12_mostLeft 58 = .ok (.iload_n 3, 1) := by decide +kernel
theorem dX12_mostLeft_59 : decode cX12_mostLeft 59 = .ok (.iload_n 1, 1) := by decide +kernel
theorem dX12_mostLeft_60 : decode cX12_mostLeft 60 = .ok (.invokestatic 242, 3) := by decide +kernel
theorem dX12_mostLeft_63 : decode cX12_mostLeft 63 = .ok (.iaload, 1) := by decide +kernel
theorem dX12_mostLeft_64 : decode cX12_mostLeft 64 = .ok (.invokestatic 201, 3) := by decide +kernel
theorem dX12_mostLeft_67 : decode cX12_mostLeft 67 = .ok (.istore_n 2, 1) := by decide +kernel
theorem dX12_mostLeft_68 : decode cX12_mostLeft 68 = .ok (.iinc 3 1, 3) := by decide +kernel
theorem dX12_mostLeft_71 : decode cX12_mostLeft 71 = .ok (.goto (-46), 3) := by decide +kernel
theorem dX12_mostLeft_74 : decode cX12_mostLeft 74 = .ok (.iload_n 2, 1) := by decide +kernel
theorem dX12_mostLeft_75 : decode cX12_mostLeft 75 = .ok (.ireturn, 1) := by decide +kernel
theorem dX12_ask_0 : decode cX12_ask 0 = .ok (.iload_n 1, 1) := by decide +kernel
theorem dX12_ask_1 : decode cX12_ask 1 = .ok (.i2l, 1) := by decide +kernel
theorem dX12_ask_2 : decode cX12_ask 2 = .ok (.lconst 0, 1) := by decide +kernel
theorem dX12_ask_3 : decode cX12_ask 3 = .ok (.lconst 1, 1) := by decide +kernel
theorem dX12_ask_4 : decode cX12_ask 4 = .ok (.invokestatic 66, 3) := by decide +kernel
theorem dX12_ask_7 : decode cX12_ask 7 = .ok (.ifCond .ne 6, 3) := by decide +kernel
theorem dX12_ask_10 : decode cX12_ask 10 = .ok (.bipush (-2), 2) := by decide +kernel
theorem dX12_ask_12 : decode cX12_ask 12 = .ok (.ireturn, 1) := by decide +kernel
theorem dX12_ask_13 : decode cX12_ask 13 = .ok (.iconst 0, 1) := by decide +kernel
theorem dX12_ask_14 : decode cX12_ask 14 = .ok (.istore_n 2, 1) := by decide +kernel
theorem dX12_ask_15 : decode cX12_ask 15 = .ok (.aload_n 0, 1) := by decide +kernel
theorem dX12_ask_16 : decode cX12_ask 16 = .ok (.iconst 0, 1) := by decide +kernel
theorem dX12_ask_17 : decode cX12_ask 17 = .ok (.invokevirtual 248, 3) := by decide +kernel
theorem dX12_ask_20 : decode cX12_ask 20 = .ok (.istore_n 3, 1) := by decide +kernel
theorem dX12_ask_21 : decode cX12_ask 21 = .ok (.iconst 1, 1) := by decide +kernel
theorem dX12_ask_22 : decode cX12_ask 22 = .ok (.istore 4, 2) := by decide +kernel
theorem dX12_ask_24 : decode cX12_ask 24 = .ok (.iload 4, 2) := by decide +kernel
theorem dX12_ask_26 : decode cX12_ask 26 = .ok (.bipush 60, 2) := by decide +kernel
theorem dX12_ask_28 : decode cX12_ask 28 = .ok (.if_icmp .gt 37, 3) := by decide +kernel
theorem dX12_ask_31 : decode cX12_ask 31 = .ok (.aload_n 0, 1) := by decide +kernel
theorem dX12_ask_32 : decode cX12_ask 32 = .ok (.iload 4, 2) := by decide +kernel
theorem dX12_ask_34 : decode cX12_ask 34 = .ok (.invokevirtual 248, 3) := by decide +kernel
theorem dX12_ask_37 : decode cX12_ask 37 = .ok (.istore 5, 2) := by decide +kernel
theorem dX12_ask_39 : decode cX12_ask 39 = .ok (.iload 5, 2) := by decide +kernel
theorem dX12_ask_41 : decode cX12_ask 41 = .ok (.iload_n 3, 1) := by decide +kernel
theorem dX12_ask_42 : decode cX12_ask 42 = .ok (.if_icmp .ge 8, 3) := by decide +kernel
theorem dX12_ask_45 : decode cX12_ask 45 = .ok (.iload 4, 2) := by decide +kernel
theorem dX12_ask_47 : decode cX12_ask 47 = .ok (.goto 4, 3) := by decide +kernel
theorem dX12_ask_50 : decode cX12_ask 50 = .ok (.iload_n 2, 1) := by decide +kernel
theorem dX12_ask_51 : decode cX12_ask 51 = .ok (.istore_n 2, 1) := by decide +kernel
theorem dX12_ask_52 : decode cX12_ask 52 = .ok (.iload_n 3, 1) := by decide +kernel
theorem dX12_ask_53 : decode cX12_ask 53 = .ok (.iload 5, 2) := by decide +kernel
theorem dX12_ask_55 : decode cX12_ask 55 = .ok (.invokestatic 198, 3) := by decide +kernel
theorem dX12_ask_58 : decode cX12_ask 58 = .ok (.istore_n 3, 1) := by decide +kernel
theorem dX12_ask_59 : decode cX12_ask 59 = .ok (.iinc 4 1, 3) := by decide +kernel
theorem dX12_ask_62 : decode cX12_ask 62 = .ok (.goto (-38), 3) := by decide +kernel
theorem dX12_ask_65 : decode cX12_ask 65 = .ok (.iload_n 3, 1) := by decide +kernel
theorem dX12_ask_66 : decode cX12_ask 66 = .ok (.ifCond .ne 8, 3) := by decide +kernel
theorem dX12_ask_69 : decode cX12_ask 69 = .ok (.bipush (-6), 2) := by decide +kernel
theorem dX12_ask_71 : decode cX12_ask 71 = .ok (.goto 12, 3) := by decide +kernel
theorem dX12_ask_74 : decode cX12_ask 74 = .ok (.iload_n 1, 1) := by decide +kernel
theorem dX12_ask_75 : decode cX12_ask 75 = .ok (.ifCond .ne 7, 3) := by decide +kernel
theorem dX12_ask_78 : decode cX12_ask 78 = .ok (.iload_n 2, 1) := by decide +kernel
theorem dX12_ask_79 : decode cX12_ask 79 = .ok (.goto 4, 3) := by decide +kernel
theorem dX12_ask_82 : decode cX12_ask 82 = .ok (.iload_n 3, 1) := by decide +kernel
theorem dX12_ask_83 : decode cX12_ask 83 = .ok (.ireturn, 1) := by decide +kernel
theorem dX12_leastTake_0 : decode cX12_leastTake 0 = .ok (.bipush (-6), 2) := by decide +kernel
theorem dX12_leastTake_2 : decode cX12_leastTake 2 = .ok (.istore_n 3, 1) := by decide +kernel
theorem dX12_leastTake_3 : decode cX12_leastTake 3 = .ok (.iload_n 1, 1) := by decide +kernel
theorem dX12_leastTake_4 : decode cX12_leastTake 4 = .ok (.istore 4, 2) := by decide +kernel
theorem dX12_leastTake_6 : decode cX12_leastTake 6 = .ok (.iload 4, 2) := by decide +kernel
theorem dX12_leastTake_8 : decode cX12_leastTake 8 = .ok (.ifCond .lt 93, 3) := by decide +kernel
theorem dX12_leastTake_11 : decode cX12_leastTake 11 = .ok (.iload_n 2, 1) := by decide +kernel
theorem dX12_leastTake_12 : decode cX12_leastTake 12 = .ok (.istore 5, 2) := by decide +kernel
theorem dX12_leastTake_14 : decode cX12_leastTake 14 = .ok (.iload 5, 2) := by decide +kernel
theorem dX12_leastTake_16 : decode cX12_leastTake 16 = .ok (.ifCond .lt 79, 3) := by decide +kernel
theorem dX12_leastTake_19 : decode cX12_leastTake 19 = .ok (.iload 4, 2) := by decide +kernel
theorem dX12_leastTake_21 : decode cX12_leastTake 21 = .ok (.iload 5, 2) := by decide +kernel
theorem dX12_leastTake_23 : decode cX12_leastTake 23 = .ok (.iadd, 1) := by decide +kernel
theorem dX12_leastTake_24 : decode cX12_leastTake 24 = .ok (.ifCond .le 24, 3) := by decide +kernel
theorem dX12_leastTake_27 : decode cX12_leastTake 27 = .ok (.iload 4, 2) := by decide +kernel
theorem dX12_leastTake_29 : decode cX12_leastTake 29 = .ok (.ifCond .eq 15, 3) := by decide +kernel
theorem dX12_leastTake_32 : decode cX12_leastTake 32 = .ok (.iload 5, 2) := by decide +kernel
theorem dX12_leastTake_34 : decode cX12_leastTake 34 = .ok (.ifCond .eq 10, 3) := by decide +kernel
theorem dX12_leastTake_37 : decode cX12_leastTake 37 = .ok (.iload 4, 2) := by decide +kernel
theorem dX12_leastTake_39 : decode cX12_leastTake 39 = .ok (.iload 5, 2) := by decide +kernel
theorem dX12_leastTake_41 : decode cX12_leastTake 41 = .ok (.if_icmp .ne 7, 3) := by decide +kernel
theorem dX12_leastTake_44 : decode cX12_leastTake 44 = .ok (.iconst 1, 1) := by decide +kernel
theorem dX12_leastTake_45 : decode cX12_leastTake 45 = .ok (.goto 4, 3) := by decide +kernel
theorem dX12_leastTake_48 : decode cX12_leastTake 48 = .ok (.iconst 0, 1) := by decide +kernel
theorem dX12_leastTake_49 : decode cX12_leastTake 49 = .ok (.istore 6, 2) := by decide +kernel
theorem dX12_leastTake_51 : decode cX12_leastTake 51 = .ok (.iload 6, 2) := by decide +kernel
theorem dX12_leastTake_53 : decode cX12_leastTake 53 = .ok (.ifCond .eq 34, 3) := by decide +kernel
theorem dX12_leastTake_56 : decode cX12_leastTake 56 = .ok (.aload_n 0, 1) := by decide +kernel
theorem dX12_leastTake_57 : decode cX12_leastTake 57 = .ok (.getfield 46, 3) := by decide +kernel
theorem dX12_leastTake_60 : decode cX12_leastTake 60 = .ok (.bipush 21, 2) := by decide +kernel
theorem dX12_leastTake_62 : decode cX12_leastTake 62 = .ok (.iload_n 1, 1) := by decide +kernel
theorem dX12_leastTake_63 : decode cX12_leastTake 63 = .ok (.iload 4, 2) := by decide +kernel
theorem dX12_leastTake_65 : decode cX12_leastTake 65 = .ok (.isub, 1) := by decide +kernel
theorem dX12_leastTake_66 : decode cX12_leastTake 66 = .ok (.imul, 1) := by decide +kernel
theorem dX12_leastTake_67 : decode cX12_leastTake 67 = .ok (.iload_n 2, 1) := by decide +kernel
theorem dX12_leastTake_68 : decode cX12_leastTake 68 = .ok (.iadd, 1) := by decide +kernel
theorem dX12_leastTake_69 : decode cX12_leastTake 69 = .ok (.iload 5, 2) := by decide +kernel
theorem dX12_leastTake_71 : decode cX12_leastTake 71 = .ok (.isub, 1) := by decide +kernel
theorem dX12_leastTake_72 : decode cX12_leastTake 72 = .ok (.baload, 1) := by decide +kernel
theorem dX12_leastTake_73 : decode cX12_leastTake 73 = .ok (.ifCond .ne 14, 3) := by decide +kernel
theorem dX12_leastTake_76 : decode cX12_leastTake 76 = .ok (.bipush 100, 2) := by decide +kernel
theorem dX12_leastTake_78 : decode cX12_leastTake 78 = .ok (.iload 4, 2) := by decide +kernel
theorem dX12_leastTake_80 : decode cX12_leastTake 80 = .ok (.imul, 1) := by decide +kernel
theorem dX12_leastTake_81 : decode cX12_leastTake 81 = .ok (.iload 5, 2) := by decide +kernel
theorem dX12_leastTake_83 : decode cX12_leastTake 83 = .ok (.iadd, 1) := by decide +kernel
theorem dX12_leastTake_84 : decode cX12_leastTake 84 = .ok (.goto 4, 3) := by decide +kernel
theorem dX12_leastTake_87 : decode cX12_leastTake 87 = .ok (.iload_n 3, 1) := by decide +kernel
theorem dX12_leastTake_88 : decode cX12_leastTake 88 = .ok (.istore_n 3, 1) := by decide +kernel
theorem dX12_leastTake_89 : decode cX12_leastTake 89 = .ok (.iinc 5 (-1), 3) := by decide +kernel
theorem dX12_leastTake_92 : decode cX12_leastTake 92 = .ok (.goto (-78), 3) := by decide +kernel
theorem dX12_leastTake_95 : decode cX12_leastTake 95 = .ok (.iinc 4 (-1), 3) := by decide +kernel
theorem dX12_leastTake_98 : decode cX12_leastTake 98 = .ok (.goto (-92), 3) := by decide +kernel
theorem dX12_leastTake_101 : decode cX12_leastTake 101 = .ok (.iload_n 3, 1) := by decide +kernel
theorem dX12_leastTake_102 : decode cX12_leastTake 102 = .ok (.ireturn, 1) := by decide +kernel
theorem dX12_piles_0 : decode cX12_piles 0 = .ok (.iload_n 1, 1) := by decide +kernel
theorem dX12_piles_1 : decode cX12_piles 1 = .ok (.i2l, 1) := by decide +kernel
theorem dX12_piles_2 : decode cX12_piles 2 = .ok (.lconst 0, 1) := by decide +kernel
theorem dX12_piles_3 : decode cX12_piles 3 = .ok (.ldc2_w 251, 3) := by decide +kernel
theorem dX12_piles_6 : decode cX12_piles 6 = .ok (.invokestatic 66, 3) := by decide +kernel
theorem dX12_piles_9 : decode cX12_piles 9 = .ok (.ifCond .eq 25, 3) := by decide +kernel
theorem dX12_piles_12 : decode cX12_piles 12 = .ok (.iload_n 2, 1) := by decide +kernel
theorem dX12_piles_13 : decode cX12_piles 13 = .ok (.i2l, 1) := by decide +kernel
theorem dX12_piles_14 : decode cX12_piles 14 = .ok (.lconst 0, 1) := by decide +kernel
theorem dX12_piles_15 : decode cX12_piles 15 = .ok (.ldc2_w 251, 3) := by decide +kernel
theorem dX12_piles_18 : decode cX12_piles 18 = .ok (.invokestatic 66, 3) := by decide +kernel
theorem dX12_piles_21 : decode cX12_piles 21 = .ok (.ifCond .eq 13, 3) := by decide +kernel
theorem dX12_piles_24 : decode cX12_piles 24 = .ok (.iload_n 3, 1) := by decide +kernel
theorem dX12_piles_25 : decode cX12_piles 25 = .ok (.i2l, 1) := by decide +kernel
theorem dX12_piles_26 : decode cX12_piles 26 = .ok (.lconst 0, 1) := by decide +kernel
theorem dX12_piles_27 : decode cX12_piles 27 = .ok (.lconst 1, 1) := by decide +kernel
theorem dX12_piles_28 : decode cX12_piles 28 = .ok (.invokestatic 66, 3) := by decide +kernel
theorem dX12_piles_31 : decode cX12_piles 31 = .ok (.ifCond .ne 6, 3) := by decide +kernel
theorem dX12_piles_34 : decode cX12_piles 34 = .ok (.bipush (-2), 2) := by decide +kernel
theorem dX12_piles_36 : decode cX12_piles 36 = .ok (.ireturn, 1) := by decide +kernel
theorem dX12_piles_37 : decode cX12_piles 37 = .ok (.iconst 0, 1) := by decide +kernel
theorem dX12_piles_38 : decode cX12_piles 38 = .ok (.istore 4, 2) := by decide +kernel
theorem dX12_piles_40 : decode cX12_piles 40 = .ok (.iload 4, 2) := by decide +kernel
theorem dX12_piles_42 : decode cX12_piles 42 = .ok (.iload_n 1, 1) := by decide +kernel
theorem dX12_piles_43 : decode cX12_piles 43 = .ok (.if_icmp .gt 59, 3) := by decide +kernel
theorem dX12_piles_46 : decode cX12_piles 46 = .ok (.iconst 0, 1) := by decide +kernel
theorem dX12_piles_47 : decode cX12_piles 47 = .ok (.istore 5, 2) := by decide +kernel
theorem dX12_piles_49 : decode cX12_piles 49 = .ok (.iload 5, 2) := by decide +kernel
theorem dX12_piles_51 : decode cX12_piles 51 = .ok (.iload_n 2, 1) := by decide +kernel
theorem dX12_piles_52 : decode cX12_piles 52 = .ok (.if_icmp .gt 44, 3) := by decide +kernel
theorem dX12_piles_55 : decode cX12_piles 55 = .ok (.aload_n 0, 1) := by decide +kernel
theorem dX12_piles_56 : decode cX12_piles 56 = .ok (.getfield 46, 3) := by decide +kernel
theorem dX12_piles_59 : decode cX12_piles 59 = .ok (.bipush 21, 2) := by decide +kernel
theorem dX12_piles_61 : decode cX12_piles 61 = .ok (.iload 4, 2) := by decide +kernel
theorem dX12_piles_63 : decode cX12_piles 63 = .ok (.imul, 1) := by decide +kernel
theorem dX12_piles_64 : decode cX12_piles 64 = .ok (.iload 5, 2) := by decide +kernel
theorem dX12_piles_66 : decode cX12_piles 66 = .ok (.iadd, 1) := by decide +kernel
theorem dX12_piles_67 : decode cX12_piles 67 = .ok (.iconst 0, 1) := by decide +kernel
theorem dX12_piles_68 : decode cX12_piles 68 = .ok (.bastore, 1) := by decide +kernel
theorem dX12_piles_69 : decode cX12_piles 69 = .ok (.aload_n 0, 1) := by decide +kernel
theorem dX12_piles_70 : decode cX12_piles 70 = .ok (.getfield 46, 3) := by decide +kernel
theorem dX12_piles_73 : decode cX12_piles 73 = .ok (.bipush 21, 2) := by decide +kernel
theorem dX12_piles_75 : decode cX12_piles 75 = .ok (.iload 4, 2) := by decide +kernel
theorem dX12_piles_77 : decode cX12_piles 77 = .ok (.imul, 1) := by decide +kernel
theorem dX12_piles_78 : decode cX12_piles 78 = .ok (.iload 5, 2) := by decide +kernel
theorem dX12_piles_80 : decode cX12_piles 80 = .ok (.iadd, 1) := by decide +kernel
theorem dX12_piles_81 : decode cX12_piles 81 = .ok (.aload_n 0, 1) := by decide +kernel
theorem dX12_piles_82 : decode cX12_piles 82 = .ok (.iload 4, 2) := by decide +kernel
theorem dX12_piles_84 : decode cX12_piles 84 = .ok (.iload 5, 2) := by decide +kernel
theorem dX12_piles_86 : decode cX12_piles 86 = .ok (.invokevirtual 253, 3) := by decide +kernel
theorem dX12_piles_89 : decode cX12_piles 89 = .ok (.bastore, 1) := by decide +kernel
theorem dX12_piles_90 : decode cX12_piles 90 = .ok (.iinc 5 1, 3) := by decide +kernel
theorem dX12_piles_93 : decode cX12_piles 93 = .ok (.goto (-44), 3) := by decide +kernel
theorem dX12_piles_96 : decode cX12_piles 96 = .ok (.iinc 4 1, 3) := by decide +kernel
theorem dX12_piles_99 : decode cX12_piles 99 = .ok (.goto (-59), 3) := by decide +kernel
theorem dX12_piles_102 : decode cX12_piles 102 = .ok (.iload_n 3, 1) := by decide +kernel
theorem dX12_piles_103 : decode cX12_piles 103 = .ok (.iconst 1, 1) := by decide +kernel
theorem dX12_piles_104 : decode cX12_piles 104 = .ok (.if_icmp .ne 12, 3) := by decide +kernel
theorem dX12_piles_107 : decode cX12_piles 107 = .ok (.aload_n 0, 1) := by decide +kernel
theorem dX12_piles_108 : decode cX12_piles 108 = .ok (.iload_n 1, 1) := by decide +kernel
theorem dX12_piles_109 : decode cX12_piles 109 = .ok (.iload_n 2, 1) := by decide +kernel
theorem dX12_piles_110 : decode cX12_piles 110 = .ok (.invokevirtual 256, 3) := by decide +kernel
theorem dX12_piles_113 : decode cX12_piles 113 = .ok (.goto 22, 3) := by decide +kernel
theorem dX12_piles_116 : decode cX12_piles 116 = .ok (.aload_n 0, 1) := by decide +kernel
theorem dX12_piles_117 : decode cX12_piles 117 = .ok (.getfield 46, 3) := by decide +kernel
theorem dX12_piles_120 : decode cX12_piles 120 = .ok (.bipush 21, 2) := by decide +kernel
theorem dX12_piles_122 : decode cX12_piles 122 = .ok (.iload_n 1, 1) := by decide +kernel
theorem dX12_piles_123 : decode cX12_piles 123 = .ok (.imul, 1) := by decide +kernel
theorem dX12_piles_124 : decode cX12_piles 124 = .ok (.iload_n 2, 1) := by decide +kernel
theorem dX12_piles_125 : decode cX12_piles 125 = .ok (.iadd, 1) := by decide +kernel
theorem dX12_piles_126 : decode cX12_piles 126 = .ok (.baload, 1) := by decide +kernel
theorem dX12_piles_127 : decode cX12_piles 127 = .ok (.ifCond .eq 7, 3) := by decide +kernel
theorem dX12_piles_130 : decode cX12_piles 130 = .ok (.iconst 1, 1) := by decide +kernel
theorem dX12_piles_131 : decode cX12_piles 131 = .ok (.goto 4, 3) := by decide +kernel
theorem dX12_piles_134 : decode cX12_piles 134 = .ok (.iconst 0, 1) := by decide +kernel
theorem dX12_piles_135 : decode cX12_piles 135 = .ok (.ireturn, 1) := by decide +kernel
