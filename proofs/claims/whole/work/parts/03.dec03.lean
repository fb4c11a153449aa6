theorem dX11_his_0 : decode cX11_his 0 = .ok (.iload_n 1, 1) := by decide +kernel
theorem dX11_his_1 : decode cX11_his 1 = .ok (.iconst 0, 1) := by decide +kernel
theorem dX11_his_2 : decode cX11_his 2 = .ok (.iconst 3, 1) := by decide +kernel
theorem dX11_his_3 : decode cX11_his 3 = .ok (.invokestatic 96, 3) := by decide +kernel
theorem dX11_his_6 : decode cX11_his 6 = .ok (.ifCond .ne 6, 3) := by decide +kernel
theorem dX11_his_9 : decode cX11_his 9 = .ok (.bipush (-2), 2) := by decide +kernel
theorem dX11_his_11 : decode cX11_his 11 = .ok (.ireturn, 1) := by decide +kernel
theorem dX11_his_12 : decode cX11_his 12 = .ok (.aload_n 0, 1) := by decide +kernel
theorem dX11_his_13 : decode cX11_his 13 = .ok (.invokevirtual 139, 3) := by decide +kernel
theorem dX11_his_16 : decode cX11_his 16 = .ok (.istore_n 2, 1) := by decide +kernel
theorem dX11_his_17 : decode cX11_his 17 = .ok (.iload_n 2, 1) := by decide +kernel
theorem dX11_his_18 : decode cX11_his 18 = .ok (.ifCond .eq 5, 3) := by decide +kernel
theorem dX11_his_21 : decode cX11_his 21 = .ok (.iload_n 2, 1) := by decide +kernel
theorem dX11_his_22 : decode cX11_his 22 = .ok (.ireturn, 1) := by decide +kernel
theorem dX11_his_23 : decode cX11_his 23 = .ok (.iload_n 1, 1) := by decide +kernel
theorem dX11_his_24 : decode cX11_his 24 = .ok (.tableswitch 61 0 2 #[28, 39, 50], 28) := by decide +kernel
theorem dX11_his_52 : decode cX11_his 52 = .ok (.aload_n 0, 1) := by decide +kernel
theorem dX11_his_53 : decode cX11_his 53 = .ok (.getfield 43, 3) := by decide +kernel
theorem dX11_his_56 : decode cX11_his 56 = .ok (.getfield 151, 3) := by decide +kernel
theorem dX11_his_59 : decode cX11_his 59 = .ok (.getfield 121, 3) := by decide +kernel
theorem dX11_his_62 : decode cX11_his 62 = .ok (.ireturn, 1) := by decide +kernel
theorem dX11_his_63 : decode cX11_his 63 = .ok (.aload_n 0, 1) := by decide +kernel
theorem dX11_his_64 : decode cX11_his 64 = .ok (.getfield 43, 3) := by decide +kernel
theorem dX11_his_67 : decode cX11_his 67 = .ok (.getfield 151, 3) := by decide +kernel
theorem dX11_his_70 : decode cX11_his 70 = .ok (.getfield 124, 3) := by decide +kernel
theorem dX11_his_73 : decode cX11_his 73 = .ok (.ireturn, 1) := by decide +kernel
theorem dX11_his_74 : decode cX11_his 74 = .ok (.aload_n 0, 1) := by decide +kernel
theorem dX11_his_75 : decode cX11_his 75 = .ok (.getfield 43, 3) := by decide +kernel
theorem dX11_his_78 : decode cX11_his 78 = .ok (.getfield 151, 3) := by decide +kernel
theorem dX11_his_81 : decode cX11_his 81 = .ok (.getfield 127, 3) := by decide +kernel
theorem dX11_his_84 : decode cX11_his 84 = .ok (.ireturn, 1) := by decide +kernel
theorem dX11_his_85 : decode cX11_his 85 = .ok (.aload_n 0, 1) := by decide +kernel
theorem dX11_his_86 : decode cX11_his 86 = .ok (.getfield 43, 3) := by decide +kernel
theorem dX11_his_89 : decode cX11_his 89 = .ok (.getfield 151, 3) := by decide +kernel
theorem dX11_his_92 : decode cX11_his 92 = .ok (.getfield 114, 3) := by decide +kernel
theorem dX11_his_95 : decode cX11_his 95 = .ok (.ireturn, 1) := by decide +kernel
theorem dX11_wrong_0 : decode cX11_wrong 0 = .ok (.iload_n 1, 1) := by decide +kernel
theorem dX11_wrong_1 : decode cX11_wrong 1 = .ok (.iconst 0, 1) := by decide +kernel
theorem dX11_wrong_2 : decode cX11_wrong 2 = .ok (.iconst 2, 1) := by decide +kernel
theorem dX11_wrong_3 : decode cX11_wrong 3 = .ok (.invokestatic 96, 3) := by decide +kernel
theorem dX11_wrong_6 : decode cX11_wrong 6 = .ok (.ifCond .ne 6, 3) := by decide +kernel
theorem dX11_wrong_9 : decode cX11_wrong 9 = .ok (.bipush (-2), 2) := by decide +kernel
theorem dX11_wrong_11 : decode cX11_wrong 11 = .ok (.ireturn, 1) := by decide +kernel
theorem dX11_wrong_12 : decode cX11_wrong 12 = .ok (.aload_n 0, 1) := by decide +kernel
theorem dX11_wrong_13 : decode cX11_wrong 13 = .ok (.invokevirtual 139, 3) := by decide +kernel
theorem dX11_wrong_16 : decode cX11_wrong 16 = .ok (.istore_n 2, 1) := by decide +kernel
theorem dX11_wrong_17 : decode cX11_wrong 17 = .ok (.iload_n 2, 1) := by decide +kernel
theorem dX11_wrong_18 : decode cX11_wrong 18 = .ok (.ifCond .eq 5, 3) := by decide +kernel
theorem dX11_wrong_21 : decode cX11_wrong 21 = .ok (.iload_n 2, 1) := by decide +kernel
theorem dX11_wrong_22 : decode cX11_wrong 22 = .ok (.ireturn, 1) := by decide +kernel
theorem dX11_wrong_23 : decode cX11_wrong 23 = .ok (.iload_n 1, 1) := by decide +kernel
theorem dX11_wrong_24 : decode cX11_wrong 24 = .ok (.ifCond .ne 14, 3) := by decide +kernel
theorem dX11_wrong_27 : decode cX11_wrong 27 = .ok (.aload_n 0, 1) := by decide +kernel
theorem dX11_wrong_28 : decode cX11_wrong 28 = .ok (.getfield 43, 3) := by decide +kernel
theorem dX11_wrong_31 : decode cX11_wrong 31 = .ok (.getfield 151, 3) := by decide +kernel
theorem dX11_wrong_34 : decode cX11_wrong 34 = .ok (.invokevirtual 107, 3) := by decide +kernel
theorem dX11_wrong_37 : decode cX11_wrong 37 = .ok (.ireturn, 1) := by decide +kernel
theorem dX11_wrong_38 : decode cX11_wrong 38 = .ok (.iload_n 1, 1) := by decide +kernel
theorem dX11_wrong_39 : decode cX11_wrong 39 = .ok (.iconst 1, 1) := by decide +kernel
theorem dX11_wrong_40 : decode cX11_wrong 40 = .ok (.if_icmp .ne 13, 3) := by decide +kernel
theorem dX11_wrong_43 : decode cX11_wrong 43 = .ok (.aload_n 0, 1) := by decide +kernel
theorem dX11_wrong_44 : decode cX11_wrong 44 = .ok (.getfield 43, 3) := by decide +kernel
theorem dX11_wrong_47 : decode cX11_wrong 47 = .ok (.getfield 155, 3) := by decide +kernel
theorem dX11_wrong_50 : decode cX11_wrong 50 = .ok (.goto 10, 3) := by decide +kernel
theorem dX11_wrong_53 : decode cX11_wrong 53 = .ok (.aload_n 0, 1) := by decide +kernel
theorem dX11_wrong_54 : decode cX11_wrong 54 = .ok (.getfield 43, 3) := by decide +kernel
theorem dX11_wrong_57 : decode cX11_wrong 57 = .ok (.getfield 158, 3) := by decide +kernel
theorem dX11_wrong_60 : decode cX11_wrong 60 = .ok (.ireturn, 1) := by decide +kernel
theorem dX11_done_0 : decode cX11_done 0 = .ok (.aload_n 0, 1) := by decide +kernel
theorem dX11_done_1 : decode cX11_done 1 = .ok (.invokevirtual 139, 3) := by decide +kernel
theorem dX11_done_4 : decode cX11_done 4 = .ok (.istore_n 1, 1) := by decide +kernel
theorem dX11_done_5 : decode cX11_done 5 = .ok (.iload_n 1, 1) := by decide +kernel
theorem dX11_done_6 : decode cX11_done 6 = .ok (.ifCond .eq 5, 3) := by decide +kernel
theorem dX11_done_9 : decode cX11_done 9 = .ok (.iload_n 1, 1) := by decide +kernel
theorem dX11_done_10 : decode cX11_done 10 = .ok (.ireturn, 1) := by decide +kernel
theorem dX11_done_11 : decode cX11_done 11 = .ok (.aload_n 0, 1) := by decide +kernel
theorem dX11_done_12 : decode cX11_done 12 = .ok (.getfield 12, 3) := by decide +kernel
theorem dX11_done_15 : decode cX11_done 15 = .ok (.aload_n 0, 1) := by decide +kernel
theorem dX11_done_16 : decode cX11_done 16 = .ok (.getfield 43, 3) := by decide +kernel
theorem dX11_done_19 : decode cX11_done 19 = .ok (.getfield 151, 3) := by decide +kernel
theorem dX11_done_22 : decode cX11_done 22 = .ok (.invokevirtual 161, 3) := by decide +kernel
theorem dX11_done_25 : decode cX11_done 25 = .ok (.aload_n 0, 1) := by decide +kernel
theorem dX11_done_26 : decode cX11_done 26 = .ok (.getfield 26, 3) := by decide +kernel
theorem dX11_done_29 : decode cX11_done 29 = .ok (.iconst 0, 1) := by decide +kernel
theorem dX11_done_30 : decode cX11_done 30 = .ok (.putfield 133, 3) := by decide +kernel
theorem dX11_done_33 : decode cX11_done 33 = .ok (.aload_n 0, 1) := by decide +kernel
theorem dX11_done_34 : decode cX11_done 34 = .ok (.getfield 43, 3) := by decide +kernel
theorem dX11_done_37 : decode cX11_done 37 = .ok (.getfield 165, 3) := by decide +kernel
theorem dX11_done_40 : decode cX11_done 40 = .ok (.ireturn, 1) := by decide +kernel
theorem dX11_round_0 : decode cX11_round 0 = .ok (.iload_n 1, 1) := by decide +kernel
theorem dX11_round_1 : decode cX11_round 1 = .ok (.invokestatic 89, 3) := by decide +kernel
theorem dX11_round_4 : decode cX11_round 4 = .ok (.ifCond .ne 5, 3) := by decide +kernel
theorem dX11_round_7 : decode cX11_round 7 = .ok (.iconst (-1), 1) := by decide +kernel
theorem dX11_round_8 : decode cX11_round 8 = .ok (.ireturn, 1) := by decide +kernel
theorem dX11_round_9 : decode cX11_round 9 = .ok (.iload_n 2, 1) := by decide +kernel
theorem dX11_round_10 : decode cX11_round 10 = .ok (.iconst 0, 1) := by decide +kernel
theorem dX11_round_11 : decode cX11_round 11 = .ok (.iconst 1, 1) := by decide +kernel
theorem dX11_round_12 : decode cX11_round 12 = .ok (.invokestatic 96, 3) := by decide +kernel
theorem dX11_round_15 : decode cX11_round 15 = .ok (.ifCond .ne 6, 3) := by decide +kernel
theorem dX11_round_18 : decode cX11_round 18 = .ok (.bipush (-2), 2) := by decide +kernel
theorem dX11_round_20 : decode cX11_round 20 = .ok (.ireturn, 1) := by decide +kernel
theorem dX11_round_21 : decode cX11_round 21 = .ok (.aload_n 0, 1) := by decide +kernel
theorem dX11_round_22 : decode cX11_round 22 = .ok (.getfield 50, 3) := by decide +kernel
theorem dX11_round_25 : decode cX11_round 25 = .ok (.aload_n 0, 1) := by decide +kernel
theorem dX11_round_26 : decode cX11_round 26 = .ok (.getfield 12, 3) := by decide +kernel
theorem dX11_round_29 : decode cX11_round 29 = .ok (.iload_n 1, 1) := by decide +kernel
theorem dX11_round_30 : decode cX11_round 30 = .ok (.invokevirtual 168, 3) := by decide +kernel
theorem dX11_round_33 : decode cX11_round 33 = .ok (.iload_n 2, 1) := by decide +kernel
theorem dX11_round_34 : decode cX11_round 34 = .ok (.ifCond .ne 13, 3) := by decide +kernel
theorem dX11_round_37 : decode cX11_round 37 = .ok (.aload_n 0, 1) := by decide +kernel
theorem dX11_round_38 : decode cX11_round 38 = .ok (.getfield 50, 3) := by decide +kernel
theorem dX11_round_41 : decode cX11_round 41 = .ok (.getfield 172, 3) := by decide +kernel
theorem dX11_round_44 : decode cX11_round 44 = .ok (.goto 10, 3) := by decide +kernel
theorem dX11_round_47 : decode cX11_round 47 = .ok (.aload_n 0, 1) := by decide +kernel
theorem dX11_round_48 : decode cX11_round 48 = .ok (.getfield 50, 3) := by decide +kernel
theorem dX11_round_51 : decode cX11_round 51 = .ok (.getfield 175, 3) := by decide +kernel
theorem dX11_round_54 : decode cX11_round 54 = .ok (.ireturn, 1) := by decide +kernel
theorem dX11_show_0 : decode cX11_show 0 = .ok (.iload_n 1, 1) := by decide +kernel
theorem dX11_show_1 : decode cX11_show 1 = .ok (.invokestatic 93, 3) := by decide +kernel
theorem dX11_show_4 : decode cX11_show 4 = .ok (.ifCond .eq 12, 3) := by decide +kernel
theorem dX11_show_7 : decode cX11_show 7 = .ok (.iload_n 2, 1) := by decide +kernel
theorem dX11_show_8 : decode cX11_show 8 = .ok (.iconst 0, 1) := by decide +kernel
theorem dX11_show_9 : decode cX11_show 9 = .ok (.iconst 1, 1) := by decide +kernel
theorem dX11_show_10 : decode cX11_show 10 = .ok (.invokestatic 96, 3) := by decide +kernel
theorem dX11_show_13 : decode cX11_show 13 = .ok (.ifCond .ne 6, 3) := by decide +kernel
theorem dX11_show_16 : decode cX11_show 16 = .ok (.bipush (-2), 2) := by decide +kernel
theorem dX11_show_18 : decode cX11_show 18 = .ok (.ireturn, 1) := by decide +kernel
theorem dX11_show_19 : decode cX11_show 19 = .ok (.aload_n 0, 1) := by decide +kernel
theorem dX11_show_20 : decode cX11_show 20 = .ok (.getfield 50, 3) := by decide +kernel
theorem dX11_show_23 : decode cX11_show 23 = .ok (.aload_n 0, 1) := by decide +kernel
theorem dX11_show_24 : decode cX11_show 24 = .ok (.getfield 12, 3) := by decide +kernel
theorem dX11_show_27 : decode cX11_show 27 = .ok (.iload_n 1, 1) := by decide +kernel
theorem dX11_show_28 : decode cX11_show 28 = .ok (.invokevirtual 178, 3) := by decide +kernel
theorem dX11_show_31 : decode cX11_show 31 = .ok (.iload_n 2, 1) := by decide +kernel
theorem dX11_show_32 : decode cX11_show 32 = .ok (.ifCond .ne 13, 3) := by decide +kernel
theorem dX11_show_35 : decode cX11_show 35 = .ok (.aload_n 0, 1) := by decide +kernel
theorem dX11_show_36 : decode cX11_show 36 = .ok (.getfield 50, 3) := by decide +kernel
theorem dX11_show_39 : decode cX11_show 39 = .ok (.getfield 172, 3) := by decide +kernel
theorem dX11_show_42 : decode cX11_show 42 = .ok (.goto 10, 3) := by decide +kernel
theorem dX11_show_45 : decode cX11_show 45 = .ok (.aload_n 0, 1) := by decide +kernel
theorem dX11_show_46 : decode cX11_show 46 = .ok (.getfield 50, 3) := by decide +kernel
theorem dX11_show_49 : decode cX11_show 49 = .ok (.getfield 175, 3) := by decide +kernel
theorem dX11_show_52 : decode cX11_show 52 = .ok (.ireturn, 1) := by decide +kernel
theorem dX11_owners_0 : decode cX11_owners 0 = .ok (.iload_n 2, 1) := by decide +kernel
theorem dX11_owners_1 : decode cX11_owners 1 = .ok (.iconst (-1), 1) := by decide +kernel
theorem dX11_owners_2 : decode cX11_owners 2 = .ok (.if_icmp .eq 12, 3) := by decide +kernel
theorem dX11_owners_5 : decode cX11_owners 5 = .ok (.iload_n 2, 1) := by decide +kernel
theorem dX11_owners_6 : decode cX11_owners 6 = .ok (.invokestatic 181, 3) := by decide +kernel
theorem dX11_owners_9 : decode cX11_owners 9 = .ok (.ifCond .ne 5, 3) := by decide +kernel
theorem dX11_owners_12 : decode cX11_owners 12 = .ok (.iconst (-1), 1) := by decide +kernel
theorem dX11_owners_13 : decode cX11_owners 13 = .ok (.ireturn, 1) := by decide +kernel
theorem dX11_owners_14 : decode cX11_owners 14 = .ok (.iload_n 1, 1) := by decide +kernel
theorem dX11_owners_15 : decode cX11_owners 15 = .ok (.invokestatic 93, 3) := by decide +kernel
theorem dX11_owners_18 : decode cX11_owners 18 = .ok (.ifCond .ne 6, 3) := by decide +kernel
theorem dX11_owners_21 : decode cX11_owners 21 = .ok (.bipush (-2), 2) := by decide +kernel
theorem dX11_owners_23 : decode cX11_owners 23 = .ok (.ireturn, 1) := by decide +kernel
theorem dX11_owners_24 : decode cX11_owners 24 = .ok (.aload_n 0, 1) := by decide +kernel
theorem dX11_owners_25 : decode cX11_owners 25 = .ok (.getfield 57, 3) := by decide +kernel
theorem dX11_owners_28 : decode cX11_owners 28 = .ok (.aload_n 0, 1) := by decide +kernel
theorem dX11_owners_29 : decode cX11_owners 29 = .ok (.getfield 12, 3) := by decide +kernel
theorem dX11_owners_32 : decode cX11_owners 32 = .ok (.iload_n 1, 1) := by decide +kernel
theorem dX11_owners_33 : decode cX11_owners 33 = .ok (.invokevirtual 184, 3) := by decide +kernel
theorem dX11_owners_36 : decode cX11_owners 36 = .ok (.iload_n 2, 1) := by decide +kernel
theorem dX11_owners_37 : decode cX11_owners 37 = .ok (.iconst (-1), 1) := by decide +kernel
theorem dX11_owners_38 : decode cX11_owners 38 = .ok (.if_icmp .ne 13, 3) := by decide +kernel
theorem dX11_owners_41 : decode cX11_owners 41 = .ok (.aload_n 0, 1) := by decide +kernel
theorem dX11_owners_42 : decode cX11_owners 42 = .ok (.getfield 57, 3) := by decide +kernel
theorem dX11_owners_45 : decode cX11_owners 45 = .ok (.getfield 187, 3) := by decide +kernel
theorem dX11_owners_48 : decode cX11_owners 48 = .ok (.goto 12, 3) := by decide +kernel
theorem dX11_owners_51 : decode cX11_owners 51 = .ok (.aload_n 0, 1) := by decide +kernel
theorem dX11_owners_52 : decode cX11_owners 52 = .ok (.getfield 57, 3) := by decide +kernel
theorem dX11_owners_55 : decode cX11_owners 55 = .ok (.getfield 188, 3) := by decide +kernel
theorem dX11_owners_58 : decode cX11_owners 58 = .ok (.iload_n 2, 1) := by decide +kernel
theorem dX11_owners_59 : decode cX11_owners 59 = .ok (.iaload, 1) := by decide +kernel
theorem dX11_owners_60 : decode cX11_owners 60 = .ok (.ireturn, 1) := by decide +kernel
theorem dX11_towels_0 : decode cX11_towels 0 = .ok (.iload_n 2, 1) := by decide +kernel
theorem dX11_towels_1 : decode cX11_towels 1 = .ok (.iconst 0, 1) := by decide +kernel
theorem dX11_towels_2 : decode cX11_towels 2 = .ok (.iconst 1, 1) := by decide +kernel
theorem dX11_towels_3 : decode cX11_towels 3 = .ok (.invokestatic 96, 3) := by decide +kernel
theorem dX11_towels_6 : decode cX11_towels 6 = .ok (.ifCond .eq 14, 3) := by decide +kernel
theorem dX11_towels_9 : decode cX11_towels 9 = .ok (.aload_n 0, 1) := by decide +kernel
theorem dX11_towels_10 : decode cX11_towels 10 = .ok (.getfield 64, 3) := by decide +kernel
theorem dX11_towels_13 : decode cX11_towels 13 = .ok (.iload_n 1, 1) := by decide +kernel
theorem dX11_towels_14 : decode cX11_towels 14 = .ok (.invokevirtual 191, 3) := by decide +kernel
theorem dX11_towels_17 : decode cX11_towels 17 = .ok (.ifCond .ne 6, 3) := by decide +kernel
theorem dX11_towels_20 : decode cX11_towels 20 = .ok (.bipush (-2), 2) := by decide +kernel
theorem dX11_towels_22 : decode cX11_towels 22 = .ok (.ireturn, 1) := by decide +kernel
theorem dX11_towels_23 : decode cX11_towels 23 = .ok (.aload_n 0, 1) := by decide +kernel
theorem dX11_towels_24 : decode cX11_towels 24 = .ok (.getfield 64, 3) := by decide +kernel
theorem dX11_towels_27 : decode cX11_towels 27 = .ok (.invokevirtual 194, 3) := by decide +kernel
theorem dX11_towels_30 : decode cX11_towels 30 = .ok (.iload_n 2, 1) := by decide +kernel
theorem dX11_towels_31 : decode cX11_towels 31 = .ok (.ifCond .ne 13, 3) := by decide +kernel
theorem dX11_towels_34 : decode cX11_towels 34 = .ok (.aload_n 0, 1) := by decide +kernel
theorem dX11_towels_35 : decode cX11_towels 35 = .ok (.getfield 64, 3) := by decide +kernel
theorem dX11_towels_38 : decode cX11_towels 38 = .ok (.getfield 197, 3) := by decide +kernel
theorem dX11_towels_41 : decode cX11_towels 41 = .ok (.goto 10, 3) := by decide +kernel
theorem dX11_towels_44 : decode cX11_towels 44 = .ok (.aload_n 0, 1) := by decide +kernel
theorem dX11_towels_45 : decode cX11_towels 45 = .ok (.getfield 64, 3) := by decide +kernel
theorem dX11_towels_48 : decode cX11_towels 48 = .ok (.getfield 200, 3) := by decide +kernel
theorem dX11_towels_51 : decode cX11_towels 51 = .ok (.ireturn, 1) := by decide +kernel
theorem dX11_found_0 : decode cX11_found 0 = .ok (.iload_n 2, 1) := by decide +kernel
theorem dX11_found_1 : decode cX11_found 1 = .ok (.invokestatic 181, 3) := by decide +kernel
theorem dX11_found_4 : decode cX11_found 4 = .ok (.ifCond .ne 5, 3) := by decide +kernel
theorem dX11_found_7 : decode cX11_found 7 = .ok (.iconst (-1), 1) := by decide +kernel
theorem dX11_found_8 : decode cX11_found 8 = .ok (.ireturn, 1) := by decide +kernel
theorem dX11_found_9 : decode cX11_found 9 = .ok (.iload_n 1, 1) := by decide +kernel
theorem dX11_found_10 : decode cX11_found 10 = .ok (.iconst 0, 1) := by decide +kernel
theorem dX11_found_11 : decode cX11_found 11 = .ok (.bipush 60, 2) := by decide +kernel
theorem dX11_found_13 : decode cX11_found 13 = .ok (.invokestatic 96, 3) := by decide +kernel
theorem dX11_found_16 : decode cX11_found 16 = .ok (.ifCond .ne 6, 3) := by decide +kernel
theorem dX11_found_19 : decode cX11_found 19 = .ok (.bipush (-2), 2) := by decide +kernel
theorem dX11_found_21 : decode cX11_found 21 = .ok (.ireturn, 1) := by decide +kernel
theorem dX11_found_22 : decode cX11_found 22 = .ok (.aload_n 0, 1) := by decide +kernel
theorem dX11_found_23 : decode cX11_found 23 = .ok (.getfield 19, 3) := by decide +kernel
theorem dX11_found_26 : decode cX11_found 26 = .ok (.iload_n 1, 1) := by decide +kernel
theorem dX11_found_27 : decode cX11_found 27 = .ok (.iload_n 2, 1) := by decide +kernel
theorem dX11_found_28 : decode cX11_found 28 = .ok (.invokevirtual 203, 3) := by decide +kernel
theorem dX11_found_31 : decode cX11_found 31 = .ok (.ifCond .eq 13, 3) := by decide +kernel
theorem dX11_found_34 : decode cX11_found 34 = .ok (.aload_n 0, 1) := by decide +kernel
theorem dX11_found_35 : decode cX11_found 35 = .ok (.getfield 19, 3) := by decide +kernel
theorem dX11_found_38 : decode cX11_found 38 = .ok (.getfield 206, 3) := by decide +kernel
theorem dX11_found_41 : decode cX11_found 41 = .ok (.goto 5, 3) := by decide +kernel
theorem dX11_found_44 : decode cX11_found 44 = .ok (.bipush (-4), 2) := by decide +kernel
theorem dX11_found_46 : decode cX11_found 46 = .ok (.ireturn, 1) := by decide +kernel
theorem dX11_forget_0 : decode cX11_forget 0 = .ok (.aload_n 0, 1) := by decide +kernel
theorem dX11_forget_1 : decode cX11_forget 1 = .ok (.getfield 19, 3) := by decide +kernel
theorem dX11_forget_4 : decode cX11_forget 4 = .ok (.getfield 206, 3) := by decide +kernel
theorem dX11_forget_7 : decode cX11_forget 7 = .ok (.istore_n 1, 1) := by decide +kernel
theorem dX11_forget_8 : decode cX11_forget 8 = .ok (.aload_n 0, 1) := by decide +kernel
theorem dX11_forget_9 : decode cX11_forget 9 = .ok (.getfield 19, 3) := by decide +kernel
theorem dX11_forget_12 : decode cX11_forget 12 = .ok (.iconst 0, 1) := by decide +kernel
theorem dX11_forget_13 : decode cX11_forget 13 = .ok (.putfield 206, 3) := by decide +kernel
theorem dX11_forget_16 : decode cX11_forget 16 = .ok (.iload_n 1, 1) := by decide +kernel
theorem dX11_forget_17 : decode cX11_forget 17 = .ok (.ireturn, 1) := by decide +kernel
theorem dX11_fits_0 : decode cX11_fits 0 = .ok (.aload_n 0, 1) := by decide +kernel
theorem dX11_fits_1 : decode cX11_fits 1 = .ok (.getfield 71, 3) := by decide +kernel
theorem dX11_fits_4 : decode cX11_fits 4 = .ok (.aload_n 0, 1) := by decide +kernel
theorem dX11_fits_5 : decode cX11_fits 5 = .ok (.getfield 19, 3) := by decide +kernel
theorem dX11_fits_8 : decode cX11_fits 8 = .ok (.invokevirtual 207, 3) := by decide +kernel
theorem dX11_fits_11 : decode cX11_fits 11 = .ok (.iload_n 1, 1) := by decide +kernel
theorem dX11_fits_12 : decode cX11_fits 12 = .ok (.iconst (-1), 1) := by decide +kernel
theorem dX11_fits_13 : decode cX11_fits 13 = .ok (.if_icmp .ne 11, 3) := by decide +kernel
theorem dX11_fits_16 : decode cX11_fits 16 = .ok (.aload_n 0, 1) := by decide +kernel
theorem dX11_fits_17 : decode cX11_fits 17 = .ok (.getfield 71, 3) := by decide +kernel
theorem dX11_fits_20 : decode cX11_fits 20 = .ok (.getfield 211, 3) := by decide +kernel
theorem dX11_fits_23 : decode cX11_fits 23 = .ok (.ireturn, 1) := by decide +kernel
theorem dX11_fits_24 : decode cX11_fits 24 = .ok (.iload_n 1, 1) := by decide +kernel
theorem dX11_fits_25 : decode cX11_fits 25 = .ok (.iconst 0, 1) := by decide +kernel
theorem dX11_fits_26 : decode cX11_fits 26 = .ok (.aload_n 0, 1) := by decide +kernel
theorem dX11_fits_27 : decode cX11_fits 27 = .ok (.getfield 71, 3) := by decide +kernel
theorem dX11_fits_30 : decode cX11_fits 30 = .ok (.getfield 211, 3) := by decide +kernel
theorem dX11_fits_33 : decode cX11_fits 33 = .ok (.iconst 1, 1) := by decide +kernel
theorem dX11_fits_34 : decode cX11_fits 34 = .ok (.isub, 1) := by decide +kernel
theorem dX11_fits_35 : decode cX11_fits 35 = .ok (.invokestatic 96, 3) := by decide +kernel
theorem dX11_fits_38 : decode cX11_fits 38 = .ok (.ifCond .eq 15, 3) := by decide +kernel
theorem dX11_fits_41 : decode cX11_fits 41 = .ok (.aload_n 0, 1) := by decide +kernel
theorem dX11_fits_42 : decode cX11_fits 42 = .ok (.getfield 71, 3) := by decide +kernel
theorem dX11_fits_45 : decode cX11_fits 45 = .ok (.getfield 212, 3) := by decide +kernel
theorem dX11_fits_48 : decode cX11_fits 48 = .ok (.iload_n 1, 1) := by decide +kernel
theorem dX11_fits_49 : decode cX11_fits 49 = .ok (.iaload, 1) := by decide +kernel
theorem dX11_fits_50 : decode cX11_fits 50 = .ok (.goto 5, 3) := by decide +kernel
theorem dX11_fits_53 : decode cX11_fits 53 = .ok (.bipush (-6), 2) := by decide +kernel
theorem dX11_fits_55 : decode cX11_fits 55 = .ok (.ireturn, 1) := by decide +kernel
theorem dX11_ask_0 : decode cX11_ask 0 = .ok (.iload_n 1, 1) := by decide +kernel
theorem dX11_ask_1 : decode cX11_ask 1 = .ok (.iconst 0, 1) := by decide +kernel
theorem dX11_ask_2 : decode cX11_ask 2 = .ok (.iconst 1, 1) := by decide +kernel
theorem dX11_ask_3 : decode cX11_ask 3 = .ok (.invokestatic 96, 3) := by decide +kernel
theorem dX11_ask_6 : decode cX11_ask 6 = .ok (.ifCond .ne 6, 3) := by decide +kernel
theorem dX11_ask_9 : decode cX11_ask 9 = .ok (.bipush (-2), 2) := by decide +kernel
theorem dX11_ask_11 : decode cX11_ask 11 = .ok (.ireturn, 1) := by decide +kernel
theorem dX11_ask_12 : decode cX11_ask 12 = .ok (.aload_n 0, 1) := by decide +kernel
theorem dX11_ask_13 : decode cX11_ask 13 = .ok (.getfield 71, 3) := by decide +kernel
theorem dX11_ask_16 : decode cX11_ask 16 = .ok (.aload_n 0, 1) := by decide +kernel
theorem dX11_ask_17 : decode cX11_ask 17 = .ok (.getfield 19, 3) := by decide +kernel
theorem dX11_ask_20 : decode cX11_ask 20 = .ok (.invokevirtual 207, 3) := by decide +kernel
theorem dX11_ask_23 : decode cX11_ask 23 = .ok (.aload_n 0, 1) := by decide +kernel
theorem dX11_ask_24 : decode cX11_ask 24 = .ok (.getfield 71, 3) := by decide +kernel
theorem dX11_ask_27 : decode cX11_ask 27 = .ok (.invokevirtual 215, 3) := by decide +kernel
theorem dX11_ask_30 : decode cX11_ask 30 = .ok (.iload_n 1, 1) := by decide +kernel
theorem dX11_ask_31 : decode cX11_ask 31 = .ok (.ifCond .ne 13, 3) := by decide +kernel
theorem dX11_ask_34 : decode cX11_ask 34 = .ok (.aload_n 0, 1) := by decide +kernel
theorem dX11_ask_35 : decode cX11_ask 35 = .ok (.getfield 71, 3) := by decide +kernel
theorem dX11_ask_38 : decode cX11_ask 38 = .ok (.getfield 218, 3) := by decide +kernel
theorem dX11_ask_41 : decode cX11_ask 41 = .ok (.goto 10, 3) := by decide +kernel
theorem dX11_ask_44 : decode cX11_ask 44 = .ok (.aload_n 0, 1) := by decide +kernel
theorem dX11_ask_45 : decode cX11_ask 45 = .ok (.getfield 71, 3) := by decide +kernel
theorem dX11_ask_48 : decode cX11_ask 48 = .ok (.getfield 221, 3) := by decide +kernel
theorem dX11_ask_51 : decode cX11_ask 51 = .ok (.ireturn, 1) := by decide +kernel
theorem dX11_piles_0 : decode cX11_piles 0 = .ok (.iload_n 1, 1) := by decide +kernel
theorem dX11_piles_1 : decode cX11_piles 1 = .ok (.iconst 0, 1) := by decide +kernel
theorem dX11_piles_2 : decode cX11_piles 2 = .ok (.bipush 20, 2) := by decide +kernel
theorem dX11_piles_4 : decode cX11_piles 4 = .ok (.invokestatic 96, 3) := by decide +kernel
theorem dX11_piles_7 : decode cX11_piles 7 = .ok (.ifCond .eq 22, 3) := by decide +kernel
theorem dX11_piles_10 : decode cX11_piles 10 = .ok (.iload_n 2, 1) := by decide +kernel
theorem dX11_piles_11 : decode cX11_piles 11 = .ok (.iconst 0, 1) := by decide +kernel
theorem dX11_piles_12 : decode cX11_piles 12 = .ok (.bipush 20, 2) := by decide +kernel
theorem dX11_piles_14 : decode cX11_piles 14 = .ok (.invokestatic 96, 3) := by decide +kernel
theorem dX11_piles_17 : decode cX11_piles 17 = .ok (.ifCond .eq 12, 3) := by decide +kernel
theorem dX11_piles_20 : decode cX11_piles 20 = .ok (.iload_n 3, 1) := by decide +kernel
theorem dX11_piles_21 : decode cX11_piles 21 = .ok (.iconst 0, 1) := by decide +kernel
theorem dX11_piles_22 : decode cX11_piles 22 = .ok (.iconst 1, 1) := by decide +kernel
theorem dX11_piles_23 : decode cX11_piles 23 = .ok (.invokestatic 96, 3) := by decide +kernel
theorem dX11_piles_26 : decode cX11_piles 26 = .ok (.ifCond .ne 6, 3) := by decide +kernel
theorem dX11_piles_29 : decode cX11_piles 29 = .ok (.bipush (-2), 2) := by decide +kernel
theorem dX11_piles_31 : decode cX11_piles 31 = .ok (.ireturn, 1) := by decide +kernel
theorem dX11_piles_32 : decode cX11_piles 32 = .ok (.iload_n 3, 1) := by decide +kernel
theorem dX11_piles_33 : decode cX11_piles 33 = .ok (.iconst 1, 1) := by decide +kernel
theorem dX11_piles_34 : decode cX11_piles 34 = .ok (.if_icmp .ne 13, 3) := by decide +kernel
theorem dX11_piles_37 : decode cX11_piles 37 = .ok (.aload_n 0, 1) := by decide +kernel
theorem dX11_piles_38 : decode cX11_piles 38 = .ok (.getfield 78, 3) := by decide +kernel
theorem dX11_piles_41 : decode cX11_piles 41 = .ok (.iload_n 1, 1) := by decide +kernel
theorem dX11_piles_42 : decode cX11_piles 42 = .ok (.iload_n 2, 1) := by decide +kernel
theorem dX11_piles_43 : decode cX11_piles 43 = .ok (.invokevirtual 224, 3) := by decide +kernel
theorem dX11_piles_46 : decode cX11_piles 46 = .ok (.ireturn, 1) := by decide +kernel
theorem dX11_piles_47 : decode cX11_piles 47 = .ok (.aload_n 0, 1) := by decide +kernel
theorem dX11_piles_48 : decode cX11_piles 48 = .ok (.getfield 78, 3) := by decide +kernel
theorem dX11_piles_51 : decode cX11_piles 51 = .ok (.iload_n 1, 1) := by decide +kernel
theorem dX11_piles_52 : decode cX11_piles 52 = .ok (.iload_n 2, 1) := by decide +kernel
theorem dX11_piles_53 : decode cX11_piles 53 = .ok (.invokevirtual 228, 3) := by decide +kernel
theorem dX11_piles_56 : decode cX11_piles 56 = .ok (.ifCond .eq 7, 3) := by decide +kernel
theorem dX11_piles_59 : decode cX11_piles 59 = .ok (.iconst 0, 1) := by decide +kernel
theorem dX11_piles_60 : decode cX11_piles 60 = .ok (.goto 4, 3) := by decide +kernel
theorem dX11_piles_63 : decode cX11_piles 63 = .ok (.iconst 1, 1) := by decide +kernel
theorem dX11_piles_64 : decode cX11_piles 64 = .ok (.ireturn, 1) := by decide +kernel
theorem dX11_lengths_0 : decode cX11_lengths 0 = .ok (.iload_n 1, 1) := by decide +kernel
theorem dX11_lengths_1 : decode cX11_lengths 1 = .ok (.iconst 0, 1) := by decide +kernel
theorem dX11_lengths_2 : decode cX11_lengths 2 = .ok (.bipush 12, 2) := by decide +kernel
theorem dX11_lengths_4 : decode cX11_lengths 4 = .ok (.invokestatic 96, 3) := by decide +kernel
theorem dX11_lengths_7 : decode cX11_lengths 7 = .ok (.ifCond .eq 43, 3) := by decide +kernel
theorem dX11_lengths_10 : decode cX11_lengths 10 = .ok (.iload_n 2, 1) := by decide +kernel
theorem dX11_lengths_11 : decode cX11_lengths 11 = .ok (.iconst 0, 1) := by decide +kernel
theorem dX11_lengths_12 : decode cX11_lengths 12 = .ok (.bipush 12, 2) := by decide +kernel
theorem dX11_lengths_14 : decode cX11_lengths 14 = .ok (.invokestatic 96, 3) := by decide +kernel
theorem dX11_lengths_17 : decode cX11_lengths 17 = .ok (.ifCond .eq 33, 3) := by decide +kernel
theorem dX11_lengths_20 : decode cX11_lengths 20 = .ok (.iload_n 3, 1) := by decide +kernel
theorem dX11_lengths_21 : decode cX11_lengths 21 = .ok (.iconst 0, 1) := by decide +kernel
theorem dX11_lengths_22 : decode cX11_lengths 22 = .ok (.bipush 10, 2) := by decide +kernel
theorem dX11_lengths_24 : decode cX11_lengths 24 = .ok (.invokestatic 96, 3) := by decide +kernel
theorem dX11_lengths_27 : decode cX11_lengths 27 = .ok (.ifCond .eq 23, 3) := by decide +kernel
theorem dX11_lengths_30 : decode cX11_lengths 30 = .ok (.iload 4, 2) := by decide +kernel
theorem dX11_lengths_32 : decode cX11_lengths 32 = .ok (.iconst 0, 1) := by decide +kernel
theorem dX11_lengths_33 : decode cX11_lengths 33 = .ok (.iconst 1, 1) := by decide +kernel
theorem dX11_lengths_34 : decode cX11_lengths 34 = .ok (.invokestatic 96, 3) := by decide +kernel
theorem dX11_lengths_37 : decode cX11_lengths 37 = .ok (.ifCond .eq 13, 3) := by decide +kernel
theorem dX11_lengths_40 : decode cX11_lengths 40 = .ok (.iload 5, 2) := by decide +kernel
theorem dX11_lengths_42 : decode cX11_lengths 42 = .ok (.iconst 0, 1) := by decide +kernel
theorem dX11_lengths_43 : decode cX11_lengths 43 = .ok (.iconst 1, 1) := by decide +kernel
theorem dX11_lengths_44 : decode cX11_lengths 44 = .ok (.invokestatic 96, 3) := by decide +kernel
theorem dX11_lengths_47 : decode cX11_lengths 47 = .ok (.ifCond .ne 7, 3) := by decide +kernel
theorem dX11_lengths_50 : decode cX11_lengths 50 = .ok (.ldc2_w 231, 3) := by decide +kernel
theorem dX11_lengths_53 : decode cX11_lengths 53 = .ok (.lreturn, 1) := by decide +kernel
theorem dX11_lengths_54 : decode cX11_lengths 54 = .ok (.aload_n 0, 1) := by decide +kernel
theorem dX11_lengths_55 : decode cX11_lengths 55 = .ok (.getfield 85, 3) := by decide +kernel
theorem dX11_lengths_58 : decode cX11_lengths 58 = .ok (.iload_n 2, 1) := by decide +kernel
theorem dX11_lengths_59 : decode cX11_lengths 59 = .ok (.iload_n 3, 1) := by decide +kernel
theorem dX11_lengths_60 : decode cX11_lengths 60 = .ok (.invokevirtual 233, 3) := by decide +kernel
theorem dX11_lengths_63 : decode cX11_lengths 63 = .ok (.iload 4, 2) := by decide +kernel
theorem dX11_lengths_65 : decode cX11_lengths 65 = .ok (.ifCond .ne 14, 3) := by decide +kernel
theorem dX11_lengths_68 : decode cX11_lengths 68 = .ok (.aload_n 0, 1) := by decide +kernel
theorem dX11_lengths_69 : decode cX11_lengths 69 = .ok (.getfield 85, 3) := by decide +kernel
theorem dX11_lengths_72 : decode cX11_lengths 72 = .ok (.iload_n 1, 1) := by decide +kernel
theorem dX11_lengths_73 : decode cX11_lengths 73 = .ok (.invokevirtual 237, 3) := by decide +kernel
theorem dX11_lengths_76 : decode cX11_lengths 76 = .ok (.goto 11, 3) := by decide +kernel
theorem dX11_lengths_79 : decode cX11_lengths 79 = .ok (.aload_n 0, 1) := by decide +kernel
theorem dX11_lengths_80 : decode cX11_lengths 80 = .ok (.getfield 85, 3) := by decide +kernel
theorem dX11_lengths_83 : decode cX11_lengths 83 = .ok (.iload_n 1, 1) := by decide +kernel
theorem dX11_lengths_84 : decode cX11_lengths 84 = .ok (.invokevirtual 241, 3) := by decide +kernel
theorem dX11_lengths_87 : decode cX11_lengths 87 = .ok (.lstore 6, 2) := by decide +kernel
theorem dX11_lengths_89 : decode cX11_lengths 89 = .ok (.lconst 1, 1) := by decide +kernel
theorem dX11_lengths_90 : decode cX11_lengths 90 = .ok (.lload 6, 2) := by decide +kernel
theorem dX11_lengths_92 : decode cX11_lengths 92 = .ok (.aload_n 0, 1) := by decide +kernel
theorem dX11_lengths_93 : decode cX11_lengths 93 = .ok (.getfield 85, 3) := by decide +kernel
theorem dX11_lengths_96 : decode cX11_lengths 96 = .ok (.getfield 244, 3) := by decide +kernel
theorem dX11_lengths_99 : decode cX11_lengths 99 = .ok (.invokestatic 248, 3) := by decide +kernel
theorem dX11_lengths_102 : decode cX11_lengths 102 = .ok (.invokestatic 252, 3) := by decide +kernel
theorem dX11_lengths_105 : decode cX11_lengths 105 = .ok (.lstore 8, 2) := by decide +kernel
theorem dX11_lengths_107 : decode cX11_lengths 107 = .ok (.iload 5, 2) := by decide +kernel
theorem dX11_lengths_109 : decode cX11_lengths 109 = .ok (.ifCond .ne 8, 3) := by decide +kernel
theorem dX11_lengths_112 : decode cX11_lengths 112 = .ok (.lload 6, 2) := by decide +kernel
theorem dX11_lengths_114 : decode cX11_lengths 114 = .ok (.goto 10, 3) := by decide +kernel
theorem dX11_lengths_117 : decode cX11_lengths 117 = .ok (.aload_n 0, 1) := by decide +kernel
theorem dX11_lengths_118 : decode cX11_lengths 118 = .ok (.getfield 85, 3) := by decide +kernel
theorem dX11_lengths_121 : decode cX11_lengths 121 = .ok (.getfield 244, 3) := by decide +kernel
theorem dX11_lengths_124 : decode cX11_lengths 124 = .ok (.lload 8, 2) := by decide +kernel
theorem dX11_lengths_126 : decode cX11_lengths 126 = .ok (.ldiv, 1) := by decide +kernel
theorem dX11_lengths_127 : decode cX11_lengths 127 = .ok (.lreturn, 1) := by decide +kernel
theorem dX11_year_0 : decode cX11_year 0 = .ok (.iload_n 1, 1) := by decide +kernel
theorem dX11_year_1 : decode cX11_year 1 = .ok (.iconst 0, 1) := by decide +kernel
theorem dX11_year_2 : decode cX11_year 2 = .ok (.sipush 9999, 3) := by decide +kernel
theorem dX11_year_5 : decode cX11_year 5 = .ok (.invokestatic 96, 3) := by decide +kernel
theorem dX11_year_8 : decode cX11_year 8 = .ok (.ifCond .eq 22, 3) := by decide +kernel
theorem dX11_year_11 : decode cX11_year 11 = .ok (.iload_n 2, 1) := by decide +kernel
theorem dX11_year_12 : decode cX11_year 12 = .ok (.iconst 1, 1) := by decide +kernel
theorem dX11_year_13 : decode cX11_year 13 = .ok (.bipush 99, 2) := by decide +kernel
theorem dX11_year_15 : decode cX11_year 15 = .ok (.invokestatic 96, 3) := by decide +kernel
theorem dX11_year_18 : decode cX11_year 18 = .ok (.ifCond .eq 12, 3) := by decide +kernel
theorem dX11_year_21 : decode cX11_year 21 = .ok (.iload_n 3, 1) := by decide +kernel
theorem dX11_year_22 : decode cX11_year 22 = .ok (.iconst 0, 1) := by decide +kernel
theorem dX11_year_23 : decode cX11_year 23 = .ok (.iconst 2, 1) := by decide +kernel
theorem dX11_year_24 : decode cX11_year 24 = .ok (.invokestatic 96, 3) := by decide +kernel
theorem dX11_year_27 : decode cX11_year 27 = .ok (.ifCond .ne 6, 3) := by decide +kernel
theorem dX11_year_30 : decode cX11_year 30 = .ok (.bipush (-2), 2) := by decide +kernel
theorem dX11_year_32 : decode cX11_year 32 = .ok (.ireturn, 1) := by decide +kernel
theorem dX11_year_33 : decode cX11_year 33 = .ok (.aload_n 0, 1) := by decide +kernel
theorem dX11_year_34 : decode cX11_year 34 = .ok (.getfield 43, 3) := by decide +kernel
theorem dX11_year_37 : decode cX11_year 37 = .ok (.aload_n 0, 1) := by decide +kernel
theorem dX11_year_38 : decode cX11_year 38 = .ok (.getfield 12, 3) := by decide +kernel
theorem dX11_year_41 : decode cX11_year 41 = .ok (.iload_n 1, 1) := by decide +kernel
theorem dX11_year_42 : decode cX11_year 42 = .ok (.iload_n 2, 1) := by decide +kernel
theorem dX11_year_43 : decode cX11_year 43 = .ok (.invokevirtual 257, 3) := by decide +kernel
theorem dX11_year_46 : decode cX11_year 46 = .ok (.iload_n 3, 1) := by decide +kernel
theorem dX11_year_47 : decode cX11_year 47 = .ok (.ifCond .ne 14, 3) := by decide +kernel
theorem dX11_year_50 : decode cX11_year 50 = .ok (.aload_n 0, 1) := by decide +kernel
theorem dX11_year_51 : decode cX11_year 51 = .ok (.getfield 43, 3) := by decide +kernel
theorem dX11_year_54 : decode cX11_year 54 = .ok (.getfield 151, 3) := by decide +kernel
theorem dX11_year_57 : decode cX11_year 57 = .ok (.getfield 114, 3) := by decide +kernel
theorem dX11_year_60 : decode cX11_year 60 = .ok (.ireturn, 1) := by decide +kernel
theorem dX11_year_61 : decode cX11_year 61 = .ok (.iload_n 3, 1) := by decide +kernel
theorem dX11_year_62 : decode cX11_year 62 = .ok (.iconst 1, 1) := by decide +kernel
theorem dX11_year_63 : decode cX11_year 63 = .ok (.if_icmp .ne 19, 3) := by decide +kernel
theorem dX11_year_66 : decode cX11_year 66 = .ok (.aload_n 0, 1) := by decide +kernel
theorem dX11_year_67 : decode cX11_year 67 = .ok (.getfield 43, 3) := by decide +kernel
theorem dX11_year_70 : decode cX11_year 70 = .ok (.getfield 151, 3) := by decide +kernel
theorem dX11_year_73 : decode cX11_year 73 = .ok (.getfield 127, 3) := by decide +kernel
theorem dX11_year_76 : decode cX11_year 76 = .ok (.invokestatic 261, 3) := by decide +kernel
theorem dX11_year_79 : decode cX11_year 79 = .ok (.goto 13, 3) := by decide +kernel
theorem dX11_year_82 : decode cX11_year 82 = .ok (.aload_n 0, 1) := by decide +kernel
theorem dX11_year_83 : decode cX11_year 83 = .ok (.getfield 43, 3) := by decide +kernel
theorem dX11_year_86 : decode cX11_year 86 = .ok (.getfield 151, 3) := by decide +kernel
theorem dX11_year_89 : decode cX11_year 89 = .ok (.invokevirtual 107, 3) := by decide +kernel
theorem dX11_year_92 : decode cX11_year 92 = .ok (.ireturn, 1) := by decide +kernel
theorem dX11_image_0 : decode cX11_image 0 = .ok (.iload_n 1, 1) := by decide +kernel
theorem dX11_image_1 : decode cX11_image 1 = .ok (.iconst 0, 1) := by decide +kernel
theorem dX11_image_2 : decode cX11_image 2 = .ok (.iconst 1, 1) := by decide +kernel
theorem dX11_image_3 : decode cX11_image 3 = .ok (.invokestatic 96, 3) := by decide +kernel
theorem dX11_image_6 : decode cX11_image 6 = .ok (.ifCond .ne 6, 3) := by decide +kernel
theorem dX11_image_9 : decode cX11_image 9 = .ok (.bipush (-2), 2) := by decide +kernel
theorem dX11_image_11 : decode cX11_image 11 = .ok (.ireturn, 1) := by decide +kernel
theorem dX11_image_12 : decode cX11_image 12 = .ok (.aload_n 0, 1) := by decide +kernel
theorem dX11_image_13 : decode cX11_image 13 = .ok (.iload_n 1, 1) := by decide +kernel
theorem dX11_image_14 : decode cX11_image 14 = .ok (.invokevirtual 267, 3) := by decide +kernel
theorem dX11_image_17 : decode cX11_image 17 = .ok (.astore_n 2, 1) := by decide +kernel
theorem dX11_image_18 : decode cX11_image 18 = .ok (.aload_n 2, 1) := by decide +kernel
theorem dX11_image_19 : decode cX11_image 19 = .ok (.getfield 271, 3) := by decide +kernel
theorem dX11_image_22 : decode cX11_image 22 = .ok (.aload_n 0, 1) := by decide +kernel
theorem dX11_image_23 : decode cX11_image 23 = .ok (.getfield 12, 3) := by decide +kernel
theorem dX11_image_26 : decode cX11_image 26 = .ok (.invokevirtual 161, 3) := by decide +kernel
theorem dX11_image_29 : decode cX11_image 29 = .ok (.aload_n 2, 1) := by decide +kernel
theorem dX11_image_30 : decode cX11_image 30 = .ok (.getfield 272, 3) := by decide +kernel
theorem dX11_image_33 : decode cX11_image 33 = .ok (.aload_n 0, 1) := by decide +kernel
theorem dX11_image_34 : decode cX11_image 34 = .ok (.getfield 19, 3) := by decide +kernel
theorem dX11_image_37 : decode cX11_image 37 = .ok (.invokevirtual 273, 3) := by decide +kernel
theorem dX11_image_40 : decode cX11_image 40 = .ok (.aload_n 2, 1) := by decide +kernel
theorem dX11_image_41 : decode cX11_image 41 = .ok (.iconst 1, 1) := by decide +kernel
theorem dX11_image_42 : decode cX11_image 42 = .ok (.putfield 275, 3) := by decide +kernel
theorem dX11_image_45 : decode cX11_image 45 = .ok (.iconst 1, 1) := by decide +kernel
theorem dX11_image_46 : decode cX11_image 46 = .ok (.ireturn, 1) := by decide +kernel
theorem dX11_restore_0 : decode cX11_restore 0 = .ok (.iload_n 1, 1) := by decide +kernel
theorem dX11_restore_1 : decode cX11_restore 1 = .ok (.iconst 0, 1) := by decide +kernel
theorem dX11_restore_2 : decode cX11_restore 2 = .ok (.iconst 1, 1) := by decide +kernel
theorem dX11_restore_3 : decode cX11_restore 3 = .ok (.invokestatic 96, 3) := by decide +kernel
theorem dX11_restore_6 : decode cX11_restore 6 = .ok (.ifCond .ne 6, 3) := by decide +kernel
theorem dX11_restore_9 : decode cX11_restore 9 = .ok (.bipush (-2), 2) := by decide +kernel
theorem dX11_restore_11 : decode cX11_restore 11 = .ok (.ireturn, 1) := by decide +kernel
theorem dX11_restore_12 : decode cX11_restore 12 = .ok (.aload_n 0, 1) := by decide +kernel
theorem dX11_restore_13 : decode cX11_restore 13 = .ok (.iload_n 1, 1) := by decide +kernel
theorem dX11_restore_14 : decode cX11_restore 14 = .ok (.invokevirtual 267, 3) := by decide +kernel
theorem dX11_restore_17 : decode cX11_restore 17 = .ok (.astore_n 2, 1) := by decide +kernel
theorem dX11_restore_18 : decode cX11_restore 18 = .ok (.aload_n 2, 1) := by decide +kernel
theorem dX11_restore_19 : decode cX11_restore 19 = .ok (.getfield 275, 3) := by decide +kernel
theorem dX11_restore_22 : decode cX11_restore 22 = .ok (.ifCond .ne 6, 3) := by decide +kernel
theorem dX11_restore_25 : decode cX11_restore 25 = .ok (.bipush (-3), 2) := by decide +kernel
theorem dX11_restore_27 : decode cX11_restore 27 = .ok (.ireturn, 1) := by decide +kernel
theorem dX11_restore_28 : decode cX11_restore 28 = .ok (.aload_n 0, 1) := by decide +kernel
theorem dX11_restore_29 : decode cX11_restore 29 = .ok (.getfield 12, 3) := by decide +kernel
theorem dX11_restore_32 : decode cX11_restore 32 = .ok (.aload_n 2, 1) := by decide +kernel
theorem dX11_restore_33 : decode cX11_restore 33 = .ok (.getfield 271, 3) := by decide +kernel
theorem dX11_restore_36 : decode cX11_restore 36 = .ok (.invokevirtual 161, 3) := by decide +kernel
theorem dX11_restore_39 : decode cX11_restore 39 = .ok (.aload_n 0, 1) := by decide +kernel
theorem dX11_restore_40 : decode cX11_restore 40 = .ok (.getfield 19, 3) := by decide +kernel
theorem dX11_restore_43 : decode cX11_restore 43 = .ok (.aload_n 2, 1) := by decide +kernel
theorem dX11_restore_44 : decode cX11_restore 44 = .ok (.getfield 272, 3) := by decide +kernel
theorem dX11_restore_47 : decode cX11_restore 47 = .ok (.invokevirtual 273, 3) := by decide +kernel
theorem dX11_restore_50 : decode cX11_restore 50 = .ok (.iconst 1, 1) := by decide +kernel
theorem dX11_restore_51 : decode cX11_restore 51 = .ok (.ireturn, 1) := by decide +kernel
theorem dX11_told_0 : decode cX11_told 0 = .ok (.iload_n 1, 1) := by decide +kernel
theorem dX11_told_1 : decode cX11_told 1 = .ok (.iconst 0, 1) := by decide +kernel
theorem dX11_told_2 : decode cX11_told 2 = .ok (.bipush 6, 2) := by decide +kernel
theorem dX11_told_4 : decode cX11_told 4 = .ok (.invokestatic 96, 3) := by decide +kernel
theorem dX11_told_7 : decode cX11_told 7 = .ok (.ifCond .eq 9, 3) := by decide +kernel
theorem dX11_told_10 : decode cX11_told 10 = .ok (.aload_n 0, 1) := by decide +kernel
theorem dX11_told_11 : decode cX11_told 11 = .ok (.iload_n 1, 1) := by decide +kernel
theorem dX11_told_12 : decode cX11_told 12 = .ok (.invokevirtual 279, 3) := by decide +kernel
theorem dX11_told_15 : decode cX11_told 15 = .ok (.ireturn, 1) := by decide +kernel
theorem dX11_told_16 : decode cX11_told 16 = .ok (.iload_n 1, 1) := by decide +kernel
theorem dX11_told_17 : decode cX11_told 17 = .ok (.bipush 10, 2) := by decide +kernel
theorem dX11_told_19 : decode cX11_told 19 = .ok (.bipush 19, 2) := by decide +kernel
theorem dX11_told_21 : decode cX11_told 21 = .ok (.invokestatic 96, 3) := by decide +kernel
theorem dX11_told_24 : decode cX11_told 24 = .ok (.ifCond .eq 16, 3) := by decide +kernel
theorem dX11_told_27 : decode cX11_told 27 = .ok (.aload_n 0, 1) := by decide +kernel
theorem dX11_told_28 : decode cX11_told 28 = .ok (.getfield 12, 3) := by decide +kernel
theorem dX11_told_31 : decode cX11_told 31 = .ok (.getfield 152, 3) := by decide +kernel
theorem dX11_told_34 : decode cX11_told 34 = .ok (.iload_n 1, 1) := by decide +kernel
theorem dX11_told_35 : decode cX11_told 35 = .ok (.bipush 10, 2) := by decide +kernel
theorem dX11_told_37 : decode cX11_told 37 = .ok (.isub, 1) := by decide +kernel
theorem dX11_told_38 : decode cX11_told 38 = .ok (.iaload, 1) := by decide +kernel
theorem dX11_told_39 : decode cX11_told 39 = .ok (.ireturn, 1) := by decide +kernel
theorem dX11_told_40 : decode cX11_told 40 = .ok (.iload_n 1, 1) := by decide +kernel
theorem dX11_told_41 : decode cX11_told 41 = .ok (.bipush 10, 2) := by decide +kernel
theorem dX11_told_43 : decode cX11_told 43 = .ok (.invokestatic 282, 3) := by decide +kernel
theorem dX11_told_46 : decode cX11_told 46 = .ok (.bipush 10, 2) := by decide +kernel
theorem dX11_told_48 : decode cX11_told 48 = .ok (.isub, 1) := by decide +kernel
theorem dX11_told_49 : decode cX11_told 49 = .ok (.istore_n 2, 1) := by decide +kernel
theorem dX11_told_50 : decode cX11_told 50 = .ok (.iload_n 1, 1) := by decide +kernel
theorem dX11_told_51 : decode cX11_told 51 = .ok (.bipush 10, 2) := by decide +kernel
theorem dX11_told_53 : decode cX11_told 53 = .ok (.invokestatic 285, 3) := by decide +kernel
theorem dX11_told_56 : decode cX11_told 56 = .ok (.istore_n 3, 1) := by decide +kernel
theorem dX11_told_57 : decode cX11_told 57 = .ok (.iload_n 2, 1) := by decide +kernel
theorem dX11_told_58 : decode cX11_told 58 = .ok (.invokestatic 89, 3) := by decide +kernel
theorem dX11_told_61 : decode cX11_told 61 = .ok (.ifCond .eq 8, 3) := by decide +kernel
theorem dX11_told_64 : decode cX11_told 64 = .ok (.iload_n 3, 1) := by decide +kernel
theorem dX11_told_65 : decode cX11_told 65 = .ok (.iconst 1, 1) := by decide +kernel
theorem dX11_told_66 : decode cX11_told 66 = .ok (.if_icmp .le 6, 3) := by decide +kernel
theorem dX11_told_69 : decode cX11_told 69 = .ok (.bipush (-2), 2) := by decide +kernel
theorem dX11_told_71 : decode cX11_told 71 = .ok (.ireturn, 1) := by decide +kernel
theorem dX11_told_72 : decode cX11_told 72 = .ok (.iload_n 3, 1) := by decide +kernel
theorem dX11_told_73 : decode cX11_told 73 = .ok (.ifCond .ne 15, 3) := by decide +kernel
theorem dX11_told_76 : decode cX11_told 76 = .ok (.aload_n 0, 1) := by decide +kernel
theorem dX11_told_77 : decode cX11_told 77 = .ok (.getfield 12, 3) := by decide +kernel
theorem dX11_told_80 : decode cX11_told 80 = .ok (.getfield 100, 3) := by decide +kernel
theorem dX11_told_83 : decode cX11_told 83 = .ok (.iload_n 2, 1) := by decide +kernel
theorem dX11_told_84 : decode cX11_told 84 = .ok (.iaload, 1) := by decide +kernel
theorem dX11_told_85 : decode cX11_told 85 = .ok (.goto 12, 3) := by decide +kernel
theorem dX11_told_88 : decode cX11_told 88 = .ok (.aload_n 0, 1) := by decide +kernel
theorem dX11_told_89 : decode cX11_told 89 = .ok (.getfield 12, 3) := by decide +kernel
theorem dX11_told_92 : decode cX11_told 92 = .ok (.getfield 104, 3) := by decide +kernel
theorem dX11_told_95 : decode cX11_told 95 = .ok (.iload_n 2, 1) := by decide +kernel
theorem dX11_told_96 : decode cX11_told 96 = .ok (.iaload, 1) := by decide +kernel
theorem dX11_told_97 : decode cX11_told 97 = .ok (.ireturn, 1) := by decide +kernel
theorem dX11_toldPlainly_0 : decode cX11_toldPlainly 0 = .ok (.iload_n 1, 1) := by decide +kernel
theorem dX11_toldPlainly_1 : decode cX11_toldPlainly 1 = .ok (.tableswitch 87 0 5 #[39, 47, 55, 63, 71, 79], 39) := by decide +kernel
theorem dX11_toldPlainly_40 : decode cX11_toldPlainly 40 = .ok (.aload_n 0, 1) := by decide +kernel
theorem dX11_toldPlainly_41 : decode cX11_toldPlainly 41 = .ok (.getfield 26, 3) := by decide +kernel
theorem dX11_toldPlainly_44 : decode cX11_toldPlainly 44 = .ok (.getfield 133, 3) := by decide +kernel
theorem dX11_toldPlainly_47 : decode cX11_toldPlainly 47 = .ok (.ireturn, 1) := by decide +kernel
theorem dX11_toldPlainly_48 : decode cX11_toldPlainly 48 = .ok (.aload_n 0, 1) := by decide +kernel
theorem dX11_toldPlainly_49 : decode cX11_toldPlainly 49 = .ok (.getfield 12, 3) := by decide +kernel
theorem dX11_toldPlainly_52 : decode cX11_toldPlainly 52 = .ok (.getfield 121, 3) := by decide +kernel
theorem dX11_toldPlainly_55 : decode cX11_toldPlainly 55 = .ok (.ireturn, 1) := by decide +kernel
theorem dX11_toldPlainly_56 : decode cX11_toldPlainly 56 = .ok (.aload_n 0, 1) := by decide +kernel
theorem dX11_toldPlainly_57 : decode cX11_toldPlainly 57 = .ok (.getfield 12, 3) := by decide +kernel
theorem dX11_toldPlainly_60 : decode cX11_toldPlainly 60 = .ok (.getfield 124, 3) := by decide +kernel
theorem dX11_toldPlainly_63 : decode cX11_toldPlainly 63 = .ok (.ireturn, 1) := by decide +kernel
theorem dX11_toldPlainly_64 : decode cX11_toldPlainly 64 = .ok (.aload_n 0, 1) := by decide +kernel
theorem dX11_toldPlainly_65 : decode cX11_toldPlainly 65 = .ok (.getfield 12, 3) := by decide +kernel
theorem dX11_toldPlainly_68 : decode cX11_toldPlainly 68 = .ok (.getfield 127, 3) := by decide +kernel
theorem dX11_toldPlainly_71 : decode cX11_toldPlainly 71 = .ok (.ireturn, 1) := by decide +kernel
theorem dX11_toldPlainly_72 : decode cX11_toldPlainly 72 = .ok (.aload_n 0, 1) := by decide +kernel
theorem dX11_toldPlainly_73 : decode cX11_toldPlainly 73 = .ok (.getfield 12, 3) := by decide +kernel
theorem dX11_toldPlainly_76 : decode cX11_toldPlainly 76 = .ok (.getfield 114, 3) := by decide +kernel
theorem dX11_toldPlainly_79 : decode cX11_toldPlainly 79 = .ok (.ireturn, 1) := by decide +kernel
theorem dX11_toldPlainly_80 : decode cX11_toldPlainly 80 = .ok (.aload_n 0, 1) := by decide +kernel
theorem dX11_toldPlainly_81 : decode cX11_toldPlainly 81 = .ok (.getfield 12, 3) := by decide +kernel
theorem dX11_toldPlainly_84 : decode cX11_toldPlainly 84 = .ok (.getfield 118, 3) := by decide +kernel
theorem dX11_toldPlainly_87 : decode cX11_toldPlainly 87 = .ok (.ireturn, 1) := by decide +kernel
theorem dX11_toldPlainly_88 : decode cX11_toldPlainly 88 = .ok (.aload_n 0, 1) := by decide +kernel
theorem dX11_toldPlainly_89 : decode cX11_toldPlainly 89 = .ok (.getfield 19, 3) := by decide +kernel
theorem dX11_toldPlainly_92 : decode cX11_toldPlainly 92 = .ok (.getfield 206, 3) := by decide +kernel
theorem dX11_toldPlainly_95 : decode cX11_toldPlainly 95 = .ok (.ireturn, 1) := by decide +kernel
theorem dX11_playEvening_0 : decode cX11_playEvening 0 = .ok (.aload_n 0, 1) := by decide +kernel
theorem dX11_playEvening_1 : decode cX11_playEvening 1 = .ok (.getfield 26, 3) := by decide +kernel
theorem dX11_playEvening_4 : decode cX11_playEvening 4 = .ok (.invokevirtual 136, 3) := by decide +kernel
theorem dX11_playEvening_7 : decode cX11_playEvening 7 = .ok (.bipush (-6), 2) := by decide +kernel
theorem dX11_playEvening_9 : decode cX11_playEvening 9 = .ok (.if_icmp .eq 6, 3) := by decide +kernel
theorem dX11_playEvening_12 : decode cX11_playEvening 12 = .ok (.bipush (-5), 2) := by decide +kernel
theorem dX11_playEvening_14 : decode cX11_playEvening 14 = .ok (.ireturn, 1) := by decide +kernel
theorem dX11_playEvening_15 : decode cX11_playEvening 15 = .ok (.aload_n 0, 1) := by decide +kernel
theorem dX11_playEvening_16 : decode cX11_playEvening 16 = .ok (.getfield 43, 3) := by decide +kernel
theorem dX11_playEvening_19 : decode cX11_playEvening 19 = .ok (.aload_n 0, 1) := by decide +kernel
theorem dX11_playEvening_20 : decode cX11_playEvening 20 = .ok (.getfield 12, 3) := by decide +kernel
theorem dX11_playEvening_23 : decode cX11_playEvening 23 = .ok (.aload_n 0, 1) := by decide +kernel
theorem dX11_playEvening_24 : decode cX11_playEvening 24 = .ok (.getfield 26, 3) := by decide +kernel
theorem dX11_playEvening_27 : decode cX11_playEvening 27 = .ok (.invokevirtual 288, 3) := by decide +kernel
theorem dX11_playEvening_30 : decode cX11_playEvening 30 = .ok (.aload_n 0, 1) := by decide +kernel
theorem dX11_playEvening_31 : decode cX11_playEvening 31 = .ok (.getfield 43, 3) := by decide +kernel
theorem dX11_playEvening_34 : decode cX11_playEvening 34 = .ok (.getfield 145, 3) := by decide +kernel
theorem dX11_playEvening_37 : decode cX11_playEvening 37 = .ok (.bipush (-6), 2) := by decide +kernel
theorem dX11_playEvening_39 : decode cX11_playEvening 39 = .ok (.if_icmp .ne 7, 3) := by decide +kernel
theorem dX11_playEvening_42 : decode cX11_playEvening 42 = .ok (.iconst 0, 1) := by decide +kernel
theorem dX11_playEvening_43 : decode cX11_playEvening 43 = .ok (.goto 5, 3) := by decide +kernel
theorem dX11_playEvening_46 : decode cX11_playEvening 46 = .ok (.bipush (-3), 2) := by decide +kernel
theorem dX11_playEvening_48 : decode cX11_playEvening 48 = .ok (.ireturn, 1) := by decide +kernel
theorem dX11_imageOf_0 : decode cX11_imageOf 0 = .ok (.iload_n 1, 1) := by decide +kernel
theorem dX11_imageOf_1 : decode cX11_imageOf 1 = .ok (.ifCond .ne 10, 3) := by decide +kernel
theorem dX11_imageOf_4 : decode cX11_imageOf 4 = .ok (.aload_n 0, 1) := by decide +kernel
theorem dX11_imageOf_5 : decode cX11_imageOf 5 = .ok (.getfield 33, 3) := by decide +kernel
theorem dX11_imageOf_8 : decode cX11_imageOf 8 = .ok (.goto 7, 3) := by decide +kernel
theorem dX11_imageOf_11 : decode cX11_imageOf 11 = .ok (.aload_n 0, 1) := by decide +kernel
theorem dX11_imageOf_12 : decode cX11_imageOf 12 = .ok (.getfield 37, 3) := by decide +kernel
theorem dX11_imageOf_15 : decode cX11_imageOf 15 = .ok (.areturn, 1) := by decide +kernel
theorem dX11_isWithin_0 : decode cX11_isWithin 0 = .ok (.iload_n 0, 1) := by decide +kernel
theorem dX11_isWithin_1 : decode cX11_isWithin 1 = .ok (.iload_n 1, 1) := by decide +kernel
theorem dX11_isWithin_2 : decode cX11_isWithin 2 = .ok (.if_icmp .lt 12, 3) := by decide +kernel
theorem dX11_isWithin_5 : decode cX11_isWithin 5 = .ok (.iload_n 0, 1) := by decide +kernel
theorem dX11_isWithin_6 : decode cX11_isWithin 6 = .ok (.iload_n 2, 1) := by decide +kernel
theorem dX11_isWithin_7 : decode cX11_isWithin 7 = .ok (.if_icmp .gt 7, 3) := by decide +kernel
theorem dX11_isWithin_10 : decode cX11_isWithin 10 = .ok (.iconst 1, 1) := by decide +kernel
theorem dX11_isWithin_11 : decode cX11_isWithin 11 = .ok (.goto 4, 3) := by decide +kernel
theorem dX11_isWithin_14 : decode cX11_isWithin 14 = .ok (.iconst 0, 1) := by decide +kernel
theorem dX11_isWithin_15 : decode cX11_isWithin 15 = .ok (.ireturn, 1) := by decide +kernel
theorem dX11_isCabin_0 : decode cX11_isCabin 0 = .ok (.iload_n 0, 1) := by decide +kernel
theorem dX11_isCabin_1 : decode cX11_isCabin 1 = .ok (.iconst 0, 1) := by decide +kernel
theorem dX11_isCabin_2 : decode cX11_isCabin 2 = .ok (.bipush 9, 2) := by decide +kernel
theorem dX11_isCabin_4 : decode cX11_isCabin 4 = .ok (.invokestatic 96, 3) := by decide +kernel
theorem dX11_isCabin_7 : decode cX11_isCabin 7 = .ok (.ireturn, 1) := by decide +kernel
theorem dX11_isThing_0 : decode cX11_isThing 0 = .ok (.iload_n 0, 1) := by decide +kernel
theorem dX11_isThing_1 : decode cX11_isThing 1 = .ok (.iconst 0, 1) := by decide +kernel
theorem dX11_isThing_2 : decode cX11_isThing 2 = .ok (.bipush 7, 2) := by decide +kernel
theorem dX11_isThing_4 : decode cX11_isThing 4 = .ok (.invokestatic 96, 3) := by decide +kernel
theorem dX11_isThing_7 : decode cX11_isThing 7 = .ok (.ireturn, 1) := by decide +kernel
theorem dX11_isThingSet_0 : decode cX11_isThingSet 0 = .ok (.iload_n 0, 1) := by decide +kernel
theorem dX11_isThingSet_1 : decode cX11_isThingSet 1 = .ok (.iconst 0, 1) := by decide +kernel
theorem dX11_isThingSet_2 : decode cX11_isThingSet 2 = .ok (.sipush 255, 3) := by decide +kernel
theorem dX11_isThingSet_5 : decode cX11_isThingSet 5 = .ok (.invokestatic 96, 3) := by decide +kernel
theorem dX11_isThingSet_8 : decode cX11_isThingSet 8 = .ok (.ireturn, 1) := by decide +kernel
theorem dX11_isIn_0 : decode cX11_isIn 0 = .ok (.iload_n 0, 1) := by decide +kernel
theorem dX11_isIn_1 : decode cX11_isIn 1 = .ok (.iload_n 1, 1) := by decide +kernel
theorem dX11_isIn_2 : decode cX11_isIn 2 = .ok (.ishr, 1) := by decide +kernel
theorem dX11_isIn_3 : decode cX11_isIn 3 = .ok (.iconst 1, 1) := by decide +kernel
theorem dX11_isIn_4 : decode cX11_isIn 4 = .ok (.iand, 1) := by decide +kernel
theorem dX11_isIn_5 : decode cX11_isIn 5 = .ok (.iconst 1, 1) := by decide +kernel
theorem dX11_isIn_6 : decode cX11_isIn 6 = .ok (.if_icmp .ne 7, 3) := by decide +kernel
theorem dX11_isIn_9 : decode cX11_isIn 9 = .ok (.iconst 1, 1) := by decide +kernel
theorem dX11_isIn_10 : decode cX11_isIn 10 = .ok (.goto 4, 3) := by decide +kernel
theorem dX11_isIn_13 : decode cX11_isIn 13 = .ok (.iconst 0, 1) := by decide +kernel
theorem dX11_isIn_14 : decode cX11_isIn 14 = .ok (.ireturn, 1) := by decide +kernel
theorem dX11_greatestDivisor_0 : decode cX11_greatestDivisor 0 = .ok (.lload_n 0, 1) := by decide +kernel
theorem dX11_greatestDivisor_1 : decode cX11_greatestDivisor 1 = .ok (.lstore 4, 2) := by decide +kernel
theorem dX11_greatestDivisor_3 : decode cX11_greatestDivisor 3 = .ok (.lload_n 2, 1) := by decide +kernel
theorem dX11_greatestDivisor_4 : decode cX11_greatestDivisor 4 = .ok (.lstore 6, 2) := by decide +kernel
theorem dX11_greatestDivisor_6 : decode cX11_greatestDivisor 6 = .ok (.iconst 0, 1) := by decide +kernel
theorem dX11_greatestDivisor_7 : decode cX11_greatestDivisor 7 = .ok (.istore 8, 2) := by decide +kernel
theorem dX11_greatestDivisor_9 : decode cX11_greatestDivisor 9 = .ok (.iload 8, 2) := by decide +kernel
theorem dX11_greatestDivisor_11 : decode cX11_greatestDivisor 11 = .ok (.bipush 100, 2) := by decide +kernel
theorem dX11_greatestDivisor_13 : decode cX11_greatestDivisor 13 = .ok (.if_icmp .ge 31, 3) := by decide +kernel
theorem dX11_greatestDivisor_16 : decode cX11_greatestDivisor 16 = .ok (.lload 6, 2) := by decide +kernel
theorem dX11_greatestDivisor_18 : decode cX11_greatestDivisor 18 = .ok (.lconst 0, 1) := by decide +kernel
theorem dX11_greatestDivisor_19 : decode cX11_greatestDivisor 19 = .ok (.lcmp, 1) := by decide +kernel
theorem dX11_greatestDivisor_20 : decode cX11_greatestDivisor 20 = .ok (.ifCond .eq 24, 3) := by decide +kernel
theorem dX11_greatestDivisor_23 : decode cX11_greatestDivisor 23 = .ok (.lload 4, 2) := by decide +kernel
theorem dX11_greatestDivisor_25 : decode cX11_greatestDivisor 25 = .ok (.lload 6, 2) := by decide +kernel
theorem dX11_greatestDivisor_27 : decode cX11_greatestDivisor 27 = .ok (.lrem, 1) := by decide +kernel
theorem dX11_greatestDivisor_28 : decode cX11_greatestDivisor 28 = .ok (.lstore 9, 2) := by decide +kernel
theorem dX11_greatestDivisor_30 : decode cX11_greatestDivisor 30 = .ok (.lload 6, 2) := by decide +kernel
theorem dX11_greatestDivisor_32 : decode cX11_greatestDivisor 32 = .ok (.lstore 4, 2) := by decide +kernel
theorem dX11_greatestDivisor_34 : decode cX11_greatestDivisor 34 = .ok (.lload 9, 2) := by decide +kernel
theorem dX11_greatestDivisor_36 : decode cX11_greatestDivisor 36 = .ok (.lstore 6, 2) := by decide +kernel
theorem dX11_greatestDivisor_38 : decode cX11_greatestDivisor 38 = .ok (.iinc 8 1, 3) := by decide +kernel
theorem dX11_greatestDivisor_41 : decode cX11_greatestDivisor 41 = .ok (.goto (-32), 3) := by decide +kernel
theorem dX11_greatestDivisor_44 : decode cX11_greatestDivisor 44 = .ok (.lload 4, 2) := by decide +kernel
theorem dX11_greatestDivisor_46 : decode cX11_greatestDivisor 46 = .ok (.lreturn, 1) := by decide +kernel
