theorem dX10_take_28 : decode cX10_take 28 = .ok (.iconst (-1), 1) := by decide +kernel
theorem dX10_take_29 : decode cX10_take 29 = .ok (.if_icmp .eq 6, 3) := by decide +kernel
theorem dX10_take_32 : decode cX10_take 32 = .ok (.ldc 251, 2) := by decide +kernel
theorem dX10_take_34 : decode cX10_take 34 = .ok (.ireturn, 1) := by decide +kernel
theorem dX10_take_35 : decode cX10_take 35 = .ok (.aload_n 0, 1) := by decide +kernel
theorem dX10_take_36 : decode cX10_take 36 = .ok (.invokevirtual 255, 3) := by decide +kernel
theorem dX10_take_39 : decode cX10_take 39 = .ok (.aload_n 0, 1) := by decide +kernel
theorem dX10_take_40 : decode cX10_take 40 = .ok (.getfield 25, 3) := by decide +kernel
theorem dX10_take_43 : decode cX10_take 43 = .ok (.bipush 12, 2) := by decide +kernel
theorem dX10_take_45 : decode cX10_take 45 = .ok (.iload_n 1, 1) := by decide +kernel
theorem dX10_take_46 : decode cX10_take 46 = .ok (.iadd, 1) := by decide +kernel
theorem dX10_take_47 : decode cX10_take 47 = .ok (.iload_n 2, 1) := by decide +kernel
theorem dX10_take_48 : decode cX10_take 48 = .ok (.iastore, 1) := by decide +kernel
theorem dX10_take_49 : decode cX10_take 49 = .ok (.aload_n 0, 1) := by decide +kernel
theorem dX10_take_50 : decode cX10_take 50 = .ok (.iload_n 2, 1) := by decide +kernel
theorem dX10_take_51 : decode cX10_take 51 = .ok (.invokevirtual 208, 3) := by decide +kernel
theorem dX10_take_54 : decode cX10_take 54 = .ok (.ireturn, 1) := by decide +kernel
theorem dX10_canShare_0 : decode cX10_canShare 0 = .ok (.aload_n 0, 1) := by decide +kernel
theorem dX10_canShare_1 : decode cX10_canShare 1 = .ok (.getfield 25, 3) := by decide +kernel
theorem dX10_canShare_4 : decode cX10_canShare 4 = .ok (.bipush 12, 2) := by decide +kernel
theorem dX10_canShare_6 : decode cX10_canShare 6 = .ok (.iload_n 1, 1) := by decide +kernel
theorem dX10_canShare_7 : decode cX10_canShare 7 = .ok (.iadd, 1) := by decide +kernel
theorem dX10_canShare_8 : decode cX10_canShare 8 = .ok (.iaload, 1) := by decide +kernel
theorem dX10_canShare_9 : decode cX10_canShare 9 = .ok (.iconst (-1), 1) := by decide +kernel
theorem dX10_canShare_10 : decode cX10_canShare 10 = .ok (.if_icmp .eq 28, 3) := by decide +kernel
theorem dX10_canShare_13 : decode cX10_canShare 13 = .ok (.aload_n 0, 1) := by decide +kernel
theorem dX10_canShare_14 : decode cX10_canShare 14 = .ok (.iload_n 1, 1) := by decide +kernel
theorem dX10_canShare_15 : decode cX10_canShare 15 = .ok (.invokevirtual 184, 3) := by decide +kernel
theorem dX10_canShare_18 : decode cX10_canShare 18 = .ok (.ifCond .ne 20, 3) := by decide +kernel
theorem dX10_canShare_21 : decode cX10_canShare 21 = .ok (.aload_n 0, 1) := by decide +kernel
theorem dX10_canShare_22 : decode cX10_canShare 22 = .ok (.getfield 25, 3) := by decide +kernel
theorem dX10_canShare_25 : decode cX10_canShare 25 = .ok (.bipush 12, 2) := by decide +kernel
theorem dX10_canShare_27 : decode cX10_canShare 27 = .ok (.iload_n 1, 1) := by decide +kernel
theorem dX10_canShare_28 : decode cX10_canShare 28 = .ok (.iadd, 1) := by decide +kernel
theorem dX10_canShare_29 : decode cX10_canShare 29 = .ok (.iaload, 1) := by decide +kernel
theorem dX10_canShare_30 : decode cX10_canShare 30 = .ok (.iload_n 2, 1) := by decide +kernel
theorem dX10_canShare_31 : decode cX10_canShare 31 = .ok (.if_icmp .eq 7, 3) := by decide +kernel
theorem dX10_canShare_34 : decode cX10_canShare 34 = .ok (.iconst 1, 1) := by decide +kernel
theorem dX10_canShare_35 : decode cX10_canShare 35 = .ok (.goto 4, 3) := by decide +kernel
theorem dX10_canShare_38 : decode cX10_canShare 38 = .ok (.iconst 0, 1) := by decide +kernel
theorem dX10_canShare_39 : decode cX10_canShare 39 = .ok (.ireturn, 1) := by decide +kernel
theorem dX10_share_0 : decode cX10_share 0 = .ok (.aload_n 0, 1) := by decide +kernel
theorem dX10_share_1 : decode cX10_share 1 = .ok (.iload_n 1, 1) := by decide +kernel
theorem dX10_share_2 : decode cX10_share 2 = .ok (.invokevirtual 233, 3) := by decide +kernel
theorem dX10_share_5 : decode cX10_share 5 = .ok (.ifCond .eq 11, 3) := by decide +kernel
theorem dX10_share_8 : decode cX10_share 8 = .ok (.aload_n 0, 1) := by decide +kernel
theorem dX10_share_9 : decode cX10_share 9 = .ok (.iload_n 2, 1) := by decide +kernel
theorem dX10_share_10 : decode cX10_share 10 = .ok (.invokevirtual 237, 3) := by decide +kernel
theorem dX10_share_13 : decode cX10_share 13 = .ok (.ifCond .ne 6, 3) := by decide +kernel
theorem dX10_share_16 : decode cX10_share 16 = .ok (.ldc 236, 2) := by decide +kernel
theorem dX10_share_18 : decode cX10_share 18 = .ok (.ireturn, 1) := by decide +kernel
theorem dX10_share_19 : decode cX10_share 19 = .ok (.aload_n 0, 1) := by decide +kernel
theorem dX10_share_20 : decode cX10_share 20 = .ok (.iload_n 1, 1) := by decide +kernel
theorem dX10_share_21 : decode cX10_share 21 = .ok (.iload_n 2, 1) := by decide +kernel
theorem dX10_share_22 : decode cX10_share 22 = .ok (.invokevirtual 261, 3) := by decide +kernel
theorem dX10_share_25 : decode cX10_share 25 = .ok (.ifCond .ne 6, 3) := by decide +kernel
theorem dX10_share_28 : decode cX10_share 28 = .ok (.ldc 251, 2) := by decide +kernel
theorem dX10_share_30 : decode cX10_share 30 = .ok (.ireturn, 1) := by decide +kernel
theorem dX10_share_31 : decode cX10_share 31 = .ok (.aload_n 0, 1) := by decide +kernel
theorem dX10_share_32 : decode cX10_share 32 = .ok (.invokevirtual 255, 3) := by decide +kernel
theorem dX10_share_35 : decode cX10_share 35 = .ok (.aload_n 0, 1) := by decide +kernel
theorem dX10_share_36 : decode cX10_share 36 = .ok (.getfield 25, 3) := by decide +kernel
theorem dX10_share_39 : decode cX10_share 39 = .ok (.bipush 18, 2) := by decide +kernel
theorem dX10_share_41 : decode cX10_share 41 = .ok (.iload_n 1, 1) := by decide +kernel
theorem dX10_share_42 : decode cX10_share 42 = .ok (.iadd, 1) := by decide +kernel
theorem dX10_share_43 : decode cX10_share 43 = .ok (.iload_n 2, 1) := by decide +kernel
theorem dX10_share_44 : decode cX10_share 44 = .ok (.iastore, 1) := by decide +kernel
theorem dX10_share_45 : decode cX10_share 45 = .ok (.aload_n 0, 1) := by decide +kernel
theorem dX10_share_46 : decode cX10_share 46 = .ok (.iload_n 2, 1) := by decide +kernel
theorem dX10_share_47 : decode cX10_share 47 = .ok (.invokevirtual 208, 3) := by decide +kernel
theorem dX10_share_50 : decode cX10_share 50 = .ok (.ireturn, 1) := by decide +kernel
theorem dX10_downNow_0 : decode cX10_downNow 0 = .ok (.aload_n 0, 1) := by decide +kernel
theorem dX10_downNow_1 : decode cX10_downNow 1 = .ok (.getfield 25, 3) := by decide +kernel
theorem dX10_downNow_4 : decode cX10_downNow 4 = .ok (.bipush 12, 2) := by decide +kernel
theorem dX10_downNow_6 : decode cX10_downNow 6 = .ok (.iload_n 1, 1) := by decide +kernel
theorem dX10_downNow_7 : decode cX10_downNow 7 = .ok (.iadd, 1) := by decide +kernel
theorem dX10_downNow_8 : decode cX10_downNow 8 = .ok (.aload_n 0, 1) := by decide +kernel
theorem dX10_downNow_9 : decode cX10_downNow 9 = .ok (.getfield 25, 3) := by decide +kernel
theorem dX10_downNow_12 : decode cX10_downNow 12 = .ok (.bipush 12, 2) := by decide +kernel
theorem dX10_downNow_14 : decode cX10_downNow 14 = .ok (.iload_n 1, 1) := by decide +kernel
theorem dX10_downNow_15 : decode cX10_downNow 15 = .ok (.iadd, 1) := by decide +kernel
theorem dX10_downNow_16 : decode cX10_downNow 16 = .ok (.iaload, 1) := by decide +kernel
theorem dX10_downNow_17 : decode cX10_downNow 17 = .ok (.iload_n 2, 1) := by decide +kernel
theorem dX10_downNow_18 : decode cX10_downNow 18 = .ok (.if_icmp .ne 15, 3) := by decide +kernel
theorem dX10_downNow_21 : decode cX10_downNow 21 = .ok (.aload_n 0, 1) := by decide +kernel
theorem dX10_downNow_22 : decode cX10_downNow 22 = .ok (.getfield 25, 3) := by decide +kernel
theorem dX10_downNow_25 : decode cX10_downNow 25 = .ok (.bipush 18, 2) := by decide +kernel
theorem dX10_downNow_27 : decode cX10_downNow 27 = .ok (.iload_n 1, 1) := by decide +kernel
theorem dX10_downNow_28 : decode cX10_downNow 28 = .ok (.iadd, 1) := by decide +kernel
theorem dX10_downNow_29 : decode cX10_downNow 29 = .ok (.iaload, 1) := by decide +kernel
theorem dX10_downNow_30 : decode cX10_downNow 30 = .ok (.goto 12, 3) := by decide +kernel
theorem dX10_downNow_33 : decode cX10_downNow 33 = .ok (.aload_n 0, 1) := by decide +kernel
theorem dX10_downNow_34 : decode cX10_downNow 34 = .ok (.getfield 25, 3) := by decide +kernel
theorem dX10_downNow_37 : decode cX10_downNow 37 = .ok (.bipush 12, 2) := by decide +kernel
theorem dX10_downNow_39 : decode cX10_downNow 39 = .ok (.iload_n 1, 1) := by decide +kernel
theorem dX10_downNow_40 : decode cX10_downNow 40 = .ok (.iadd, 1) := by decide +kernel
theorem dX10_downNow_41 : decode cX10_downNow 41 = .ok (.iaload, 1) := by decide +kernel
theorem dX10_downNow_42 : decode cX10_downNow 42 = .ok (.iastore, 1) := by decide +kernel
theorem dX10_downNow_43 : decode cX10_downNow 43 = .ok (.aload_n 0, 1) := by decide +kernel
theorem dX10_downNow_44 : decode cX10_downNow 44 = .ok (.getfield 25, 3) := by decide +kernel
theorem dX10_downNow_47 : decode cX10_downNow 47 = .ok (.bipush 18, 2) := by decide +kernel
theorem dX10_downNow_49 : decode cX10_downNow 49 = .ok (.iload_n 1, 1) := by decide +kernel
theorem dX10_downNow_50 : decode cX10_downNow 50 = .ok (.iadd, 1) := by decide +kernel
theorem dX10_downNow_51 : decode cX10_downNow 51 = .ok (.iconst (-1), 1) := by decide +kernel
theorem dX10_downNow_52 : decode cX10_downNow 52 = .ok (.iastore, 1) := by decide +kernel
theorem dX10_downNow_53 : decode cX10_downNow 53 = .ok (.return_, 1) := by decide +kernel
theorem dX10_down_0 : decode cX10_down 0 = .ok (.aload_n 0, 1) := by decide +kernel
theorem dX10_down_1 : decode cX10_down 1 = .ok (.iload_n 1, 1) := by decide +kernel
theorem dX10_down_2 : decode cX10_down 2 = .ok (.invokevirtual 233, 3) := by decide +kernel
theorem dX10_down_5 : decode cX10_down 5 = .ok (.ifCond .eq 11, 3) := by decide +kernel
theorem dX10_down_8 : decode cX10_down 8 = .ok (.aload_n 0, 1) := by decide +kernel
theorem dX10_down_9 : decode cX10_down 9 = .ok (.iload_n 2, 1) := by decide +kernel
theorem dX10_down_10 : decode cX10_down 10 = .ok (.invokevirtual 237, 3) := by decide +kernel
theorem dX10_down_13 : decode cX10_down 13 = .ok (.ifCond .ne 6, 3) := by decide +kernel
theorem dX10_down_16 : decode cX10_down 16 = .ok (.ldc 236, 2) := by decide +kernel
theorem dX10_down_18 : decode cX10_down 18 = .ok (.ireturn, 1) := by decide +kernel
theorem dX10_down_19 : decode cX10_down 19 = .ok (.aload_n 0, 1) := by decide +kernel
theorem dX10_down_20 : decode cX10_down 20 = .ok (.iload_n 1, 1) := by decide +kernel
theorem dX10_down_21 : decode cX10_down 21 = .ok (.iload_n 2, 1) := by decide +kernel
theorem dX10_down_22 : decode cX10_down 22 = .ok (.invokevirtual 180, 3) := by decide +kernel
theorem dX10_down_25 : decode cX10_down 25 = .ok (.ifCond .ne 6, 3) := by decide +kernel
theorem dX10_down_28 : decode cX10_down 28 = .ok (.ldc 251, 2) := by decide +kernel
theorem dX10_down_30 : decode cX10_down 30 = .ok (.ireturn, 1) := by decide +kernel
theorem dX10_down_31 : decode cX10_down 31 = .ok (.aload_n 0, 1) := by decide +kernel
theorem dX10_down_32 : decode cX10_down 32 = .ok (.invokevirtual 255, 3) := by decide +kernel
theorem dX10_down_35 : decode cX10_down 35 = .ok (.aload_n 0, 1) := by decide +kernel
theorem dX10_down_36 : decode cX10_down 36 = .ok (.iload_n 1, 1) := by decide +kernel
theorem dX10_down_37 : decode cX10_down 37 = .ok (.iload_n 2, 1) := by decide +kernel
theorem dX10_down_38 : decode cX10_down 38 = .ok (.invokevirtual 264, 3) := by decide +kernel
theorem dX10_down_41 : decode cX10_down 41 = .ok (.aload_n 0, 1) := by decide +kernel
theorem dX10_down_42 : decode cX10_down 42 = .ok (.iload_n 2, 1) := by decide +kernel
theorem dX10_down_43 : decode cX10_down 43 = .ok (.invokevirtual 208, 3) := by decide +kernel
theorem dX10_down_46 : decode cX10_down 46 = .ok (.ireturn, 1) := by decide +kernel
theorem dX10_hand_0 : decode cX10_hand 0 = .ok (.aload_n 0, 1) := by decide +kernel
theorem dX10_hand_1 : decode cX10_hand 1 = .ok (.iload_n 1, 1) := by decide +kernel
theorem dX10_hand_2 : decode cX10_hand 2 = .ok (.invokevirtual 233, 3) := by decide +kernel
theorem dX10_hand_5 : decode cX10_hand 5 = .ok (.ifCond .eq 24, 3) := by decide +kernel
theorem dX10_hand_8 : decode cX10_hand 8 = .ok (.aload_n 0, 1) := by decide +kernel
theorem dX10_hand_9 : decode cX10_hand 9 = .ok (.iload_n 2, 1) := by decide +kernel
theorem dX10_hand_10 : decode cX10_hand 10 = .ok (.invokevirtual 237, 3) := by decide +kernel
theorem dX10_hand_13 : decode cX10_hand 13 = .ok (.ifCond .eq 16, 3) := by decide +kernel
theorem dX10_hand_16 : decode cX10_hand 16 = .ok (.aload_n 0, 1) := by decide +kernel
theorem dX10_hand_17 : decode cX10_hand 17 = .ok (.iload_n 3, 1) := by decide +kernel
theorem dX10_hand_18 : decode cX10_hand 18 = .ok (.invokevirtual 237, 3) := by decide +kernel
theorem dX10_hand_21 : decode cX10_hand 21 = .ok (.ifCond .eq 8, 3) := by decide +kernel
theorem dX10_hand_24 : decode cX10_hand 24 = .ok (.iload_n 2, 1) := by decide +kernel
theorem dX10_hand_25 : decode cX10_hand 25 = .ok (.iload_n 3, 1) := by decide +kernel
theorem dX10_hand_26 : decode cX10_hand 26 = .ok (.if_icmp .ne 6, 3) := by decide +kernel
theorem dX10_hand_29 : decode cX10_hand 29 = .ok (.ldc 236, 2) := by decide +kernel
theorem dX10_hand_31 : decode cX10_hand 31 = .ok (.ireturn, 1) := by decide +kernel
theorem dX10_hand_32 : decode cX10_hand 32 = .ok (.aload_n 0, 1) := by decide +kernel
theorem dX10_hand_33 : decode cX10_hand 33 = .ok (.iload_n 1, 1) := by decide +kernel
theorem dX10_hand_34 : decode cX10_hand 34 = .ok (.iload_n 2, 1) := by decide +kernel
theorem dX10_hand_35 : decode cX10_hand 35 = .ok (.invokevirtual 180, 3) := by decide +kernel
theorem dX10_hand_38 : decode cX10_hand 38 = .ok (.ifCond .eq 12, 3) := by decide +kernel
theorem dX10_hand_41 : decode cX10_hand 41 = .ok (.aload_n 0, 1) := by decide +kernel
theorem dX10_hand_42 : decode cX10_hand 42 = .ok (.iload_n 1, 1) := by decide +kernel
theorem dX10_hand_43 : decode cX10_hand 43 = .ok (.iload_n 3, 1) := by decide +kernel
theorem dX10_hand_44 : decode cX10_hand 44 = .ok (.invokevirtual 180, 3) := by decide +kernel
theorem dX10_hand_47 : decode cX10_hand 47 = .ok (.ifCond .eq 6, 3) := by decide +kernel
theorem dX10_hand_50 : decode cX10_hand 50 = .ok (.ldc 251, 2) := by decide +kernel
theorem dX10_hand_52 : decode cX10_hand 52 = .ok (.ireturn, 1) := by decide +kernel
theorem dX10_hand_53 : decode cX10_hand 53 = .ok (.aload_n 0, 1) := by decide +kernel
theorem dX10_hand_54 : decode cX10_hand 54 = .ok (.invokevirtual 255, 3) := by decide +kernel
theorem dX10_hand_57 : decode cX10_hand 57 = .ok (.aload_n 0, 1) := by decide +kernel
theorem dX10_hand_58 : decode cX10_hand 58 = .ok (.getfield 25, 3) := by decide +kernel
theorem dX10_hand_61 : decode cX10_hand 61 = .ok (.aload_n 0, 1) := by decide +kernel
theorem dX10_hand_62 : decode cX10_hand 62 = .ok (.getfield 25, 3) := by decide +kernel
theorem dX10_hand_65 : decode cX10_hand 65 = .ok (.bipush 12, 2) := by decide +kernel
theorem dX10_hand_67 : decode cX10_hand 67 = .ok (.iload_n 1, 1) := by decide +kernel
theorem dX10_hand_68 : decode cX10_hand 68 = .ok (.iadd, 1) := by decide +kernel
theorem dX10_hand_69 : decode cX10_hand 69 = .ok (.iaload, 1) := by decide +kernel
theorem dX10_hand_70 : decode cX10_hand 70 = .ok (.iload_n 2, 1) := by decide +kernel
theorem dX10_hand_71 : decode cX10_hand 71 = .ok (.if_icmp .ne 10, 3) := by decide +kernel
theorem dX10_hand_74 : decode cX10_hand 74 = .ok (.bipush 12, 2) := by decide +kernel
theorem dX10_hand_76 : decode cX10_hand 76 = .ok (.iload_n 1, 1) := by decide +kernel
theorem dX10_hand_77 : decode cX10_hand 77 = .ok (.iadd, 1) := by decide +kernel
theorem dX10_hand_78 : decode cX10_hand 78 = .ok (.goto 7, 3) := by decide +kernel
theorem dX10_hand_81 : decode cX10_hand 81 = .ok (.bipush 18, 2) := by decide +kernel
theorem dX10_hand_83 : decode cX10_hand 83 = .ok (.iload_n 1, 1) := by decide +kernel
theorem dX10_hand_84 : decode cX10_hand 84 = .ok (.iadd, 1) := by decide +kernel
theorem dX10_hand_85 : decode cX10_hand 85 = .ok (.iload_n 3, 1) := by decide +kernel
theorem dX10_hand_86 : decode cX10_hand 86 = .ok (.iastore, 1) := by decide +kernel
theorem dX10_hand_87 : decode cX10_hand 87 = .ok (.aload_n 0, 1) := by decide +kernel
theorem dX10_hand_88 : decode cX10_hand 88 = .ok (.iload_n 3, 1) := by decide +kernel
theorem dX10_hand_89 : decode cX10_hand 89 = .ok (.invokevirtual 208, 3) := by decide +kernel
theorem dX10_hand_92 : decode cX10_hand 92 = .ok (.ireturn, 1) := by decide +kernel
theorem dX10_stuff_0 : decode cX10_stuff 0 = .ok (.aload_n 0, 1) := by decide +kernel
theorem dX10_stuff_1 : decode cX10_stuff 1 = .ok (.iload_n 1, 1) := by decide +kernel
theorem dX10_stuff_2 : decode cX10_stuff 2 = .ok (.invokevirtual 233, 3) := by decide +kernel
theorem dX10_stuff_5 : decode cX10_stuff 5 = .ok (.ifCond .ne 6, 3) := by decide +kernel
theorem dX10_stuff_8 : decode cX10_stuff 8 = .ok (.ldc 236, 2) := by decide +kernel
theorem dX10_stuff_10 : decode cX10_stuff 10 = .ok (.ireturn, 1) := by decide +kernel
theorem dX10_stuff_11 : decode cX10_stuff 11 = .ok (.iload_n 2, 1) := by decide +kernel
theorem dX10_stuff_12 : decode cX10_stuff 12 = .ok (.i2l, 1) := by decide +kernel
theorem dX10_stuff_13 : decode cX10_stuff 13 = .ok (.ldc2_w 268, 3) := by decide +kernel
theorem dX10_stuff_16 : decode cX10_stuff 16 = .ok (.ldc2_w 270, 3) := by decide +kernel
theorem dX10_stuff_19 : decode cX10_stuff 19 = .ok (.invokestatic 91, 3) := by decide +kernel
theorem dX10_stuff_22 : decode cX10_stuff 22 = .ok (.ifCond .ne 6, 3) := by decide +kernel
theorem dX10_stuff_25 : decode cX10_stuff 25 = .ok (.ldc 100, 2) := by decide +kernel
theorem dX10_stuff_27 : decode cX10_stuff 27 = .ok (.ireturn, 1) := by decide +kernel
theorem dX10_stuff_28 : decode cX10_stuff 28 = .ok (.aload_n 0, 1) := by decide +kernel
theorem dX10_stuff_29 : decode cX10_stuff 29 = .ok (.getfield 25, 3) := by decide +kernel
theorem dX10_stuff_32 : decode cX10_stuff 32 = .ok (.bipush 6, 2) := by decide +kernel
theorem dX10_stuff_34 : decode cX10_stuff 34 = .ok (.iload_n 1, 1) := by decide +kernel
theorem dX10_stuff_35 : decode cX10_stuff 35 = .ok (.iadd, 1) := by decide +kernel
theorem dX10_stuff_36 : decode cX10_stuff 36 = .ok (.iaload, 1) := by decide +kernel
theorem dX10_stuff_37 : decode cX10_stuff 37 = .ok (.iload_n 2, 1) := by decide +kernel
theorem dX10_stuff_38 : decode cX10_stuff 38 = .ok (.iadd, 1) := by decide +kernel
theorem dX10_stuff_39 : decode cX10_stuff 39 = .ok (.i2l, 1) := by decide +kernel
theorem dX10_stuff_40 : decode cX10_stuff 40 = .ok (.lconst 0, 1) := by decide +kernel
theorem dX10_stuff_41 : decode cX10_stuff 41 = .ok (.ldc2_w 270, 3) := by decide +kernel
theorem dX10_stuff_44 : decode cX10_stuff 44 = .ok (.invokestatic 91, 3) := by decide +kernel
theorem dX10_stuff_47 : decode cX10_stuff 47 = .ok (.ifCond .eq 14, 3) := by decide +kernel
theorem dX10_stuff_50 : decode cX10_stuff 50 = .ok (.aload_n 0, 1) := by decide +kernel
theorem dX10_stuff_51 : decode cX10_stuff 51 = .ok (.getfield 25, 3) := by decide +kernel
theorem dX10_stuff_54 : decode cX10_stuff 54 = .ok (.bipush 29, 2) := by decide +kernel
theorem dX10_stuff_56 : decode cX10_stuff 56 = .ok (.iaload, 1) := by decide +kernel
theorem dX10_stuff_57 : decode cX10_stuff 57 = .ok (.iload_n 2, 1) := by decide +kernel
theorem dX10_stuff_58 : decode cX10_stuff 58 = .ok (.if_icmp .ge 6, 3) := by decide +kernel
theorem dX10_stuff_61 : decode cX10_stuff 61 = .ok (.ldc 251, 2) := by decide +kernel
theorem dX10_stuff_63 : decode cX10_stuff 63 = .ok (.ireturn, 1) := by decide +kernel
theorem dX10_stuff_64 : decode cX10_stuff 64 = .ok (.aload_n 0, 1) := by decide +kernel
theorem dX10_stuff_65 : decode cX10_stuff 65 = .ok (.invokevirtual 255, 3) := by decide +kernel
theorem dX10_stuff_68 : decode cX10_stuff 68 = .ok (.aload_n 0, 1) := by decide +kernel
theorem dX10_stuff_69 : decode cX10_stuff 69 = .ok (.getfield 25, 3) := by decide +kernel
theorem dX10_stuff_72 : decode cX10_stuff 72 = .ok (.bipush 6, 2) := by decide +kernel
theorem dX10_stuff_74 : decode cX10_stuff 74 = .ok (.iload_n 1, 1) := by decide +kernel
theorem dX10_stuff_75 : decode cX10_stuff 75 = .ok (.iadd, 1) := by decide +kernel
theorem dX10_stuff_76 : decode cX10_stuff 76 = .ok (.dup2, 1) := by decide +kernel
theorem dX10_stuff_77 : decode cX10_stuff 77 = .ok (.iaload, 1) := by decide +kernel
theorem dX10_stuff_78 : decode cX10_stuff 78 = .ok (.iload_n 2, 1) := by decide +kernel
theorem dX10_stuff_79 : decode cX10_stuff 79 = .ok (.iadd, 1) := by decide +kernel
theorem dX10_stuff_80 : decode cX10_stuff 80 = .ok (.iastore, 1) := by decide +kernel
theorem dX10_stuff_81 : decode cX10_stuff 81 = .ok (.aload_n 0, 1) := by decide +kernel
theorem dX10_stuff_82 : decode cX10_stuff 82 = .ok (.getfield 25, 3) := by decide +kernel
theorem dX10_stuff_85 : decode cX10_stuff 85 = .ok (.bipush 29, 2) := by decide +kernel
theorem dX10_stuff_87 : decode cX10_stuff 87 = .ok (.dup2, 1) := by decide +kernel
theorem dX10_stuff_88 : decode cX10_stuff 88 = .ok (.iaload, 1) := by decide +kernel
theorem dX10_stuff_89 : decode cX10_stuff 89 = .ok (.iload_n 2, 1) := by decide +kernel
theorem dX10_stuff_90 : decode cX10_stuff 90 = .ok (.isub, 1) := by decide +kernel
theorem dX10_stuff_91 : decode cX10_stuff 91 = .ok (.iastore, 1) := by decide +kernel
theorem dX10_stuff_92 : decode cX10_stuff 92 = .ok (.aload_n 0, 1) := by decide +kernel
theorem dX10_stuff_93 : decode cX10_stuff 93 = .ok (.getfield 25, 3) := by decide +kernel
theorem dX10_stuff_96 : decode cX10_stuff 96 = .ok (.bipush 6, 2) := by decide +kernel
theorem dX10_stuff_98 : decode cX10_stuff 98 = .ok (.iload_n 1, 1) := by decide +kernel
theorem dX10_stuff_99 : decode cX10_stuff 99 = .ok (.iadd, 1) := by decide +kernel
theorem dX10_stuff_100 : decode cX10_stuff 100 = .ok (.iaload, 1) := by decide +kernel
theorem dX10_stuff_101 : decode cX10_stuff 101 = .ok (.ireturn, 1) := by decide +kernel
theorem dX10_weigh_0 : decode cX10_weigh 0 = .ok (.aload_n 0, 1) := by decide +kernel
theorem dX10_weigh_1 : decode cX10_weigh 1 = .ok (.iload_n 1, 1) := by decide +kernel
theorem dX10_weigh_2 : decode cX10_weigh 2 = .ok (.invokevirtual 233, 3) := by decide +kernel
theorem dX10_weigh_5 : decode cX10_weigh 5 = .ok (.ifCond .ne 6, 3) := by decide +kernel
theorem dX10_weigh_8 : decode cX10_weigh 8 = .ok (.ldc 236, 2) := by decide +kernel
theorem dX10_weigh_10 : decode cX10_weigh 10 = .ok (.ireturn, 1) := by decide +kernel
theorem dX10_weigh_11 : decode cX10_weigh 11 = .ok (.iload_n 2, 1) := by decide +kernel
theorem dX10_weigh_12 : decode cX10_weigh 12 = .ok (.i2l, 1) := by decide +kernel
theorem dX10_weigh_13 : decode cX10_weigh 13 = .ok (.lconst 1, 1) := by decide +kernel
theorem dX10_weigh_14 : decode cX10_weigh 14 = .ok (.ldc2_w 249, 3) := by decide +kernel
theorem dX10_weigh_17 : decode cX10_weigh 17 = .ok (.invokestatic 91, 3) := by decide +kernel
theorem dX10_weigh_20 : decode cX10_weigh 20 = .ok (.ifCond .ne 6, 3) := by decide +kernel
theorem dX10_weigh_23 : decode cX10_weigh 23 = .ok (.ldc 100, 2) := by decide +kernel
theorem dX10_weigh_25 : decode cX10_weigh 25 = .ok (.ireturn, 1) := by decide +kernel
theorem dX10_weigh_26 : decode cX10_weigh 26 = .ok (.aload_n 0, 1) := by decide +kernel
theorem dX10_weigh_27 : decode cX10_weigh 27 = .ok (.invokevirtual 255, 3) := by decide +kernel
theorem dX10_weigh_30 : decode cX10_weigh 30 = .ok (.aload_n 0, 1) := by decide +kernel
theorem dX10_weigh_31 : decode cX10_weigh 31 = .ok (.getfield 25, 3) := by decide +kernel
theorem dX10_weigh_34 : decode cX10_weigh 34 = .ok (.iload_n 1, 1) := by decide +kernel
theorem dX10_weigh_35 : decode cX10_weigh 35 = .ok (.iaload, 1) := by decide +kernel
theorem dX10_weigh_36 : decode cX10_weigh 36 = .ok (.istore_n 3, 1) := by decide +kernel
theorem dX10_weigh_37 : decode cX10_weigh 37 = .ok (.aload_n 0, 1) := by decide +kernel
theorem dX10_weigh_38 : decode cX10_weigh 38 = .ok (.getfield 25, 3) := by decide +kernel
theorem dX10_weigh_41 : decode cX10_weigh 41 = .ok (.iload_n 1, 1) := by decide +kernel
theorem dX10_weigh_42 : decode cX10_weigh 42 = .ok (.iload_n 2, 1) := by decide +kernel
theorem dX10_weigh_43 : decode cX10_weigh 43 = .ok (.iastore, 1) := by decide +kernel
theorem dX10_weigh_44 : decode cX10_weigh 44 = .ok (.iload_n 3, 1) := by decide +kernel
theorem dX10_weigh_45 : decode cX10_weigh 45 = .ok (.ireturn, 1) := by decide +kernel
theorem dX10_draw_0 : decode cX10_draw 0 = .ok (.aload_n 0, 1) := by decide +kernel
theorem dX10_draw_1 : decode cX10_draw 1 = .ok (.aload_n 0, 1) := by decide +kernel
theorem dX10_draw_2 : decode cX10_draw 2 = .ok (.getfield 272, 3) := by decide +kernel
theorem dX10_draw_5 : decode cX10_draw 5 = .ok (.i2l, 1) := by decide +kernel
theorem dX10_draw_6 : decode cX10_draw 6 = .ok (.ldc2_w 275, 3) := by decide +kernel
theorem dX10_draw_9 : decode cX10_draw 9 = .ok (.lmul, 1) := by decide +kernel
theorem dX10_draw_10 : decode cX10_draw 10 = .ok (.ldc2_w 277, 3) := by decide +kernel
theorem dX10_draw_13 : decode cX10_draw 13 = .ok (.ladd, 1) := by decide +kernel
theorem dX10_draw_14 : decode cX10_draw 14 = .ok (.ldc2_w 279, 3) := by decide +kernel
theorem dX10_draw_17 : decode cX10_draw 17 = .ok (.lrem, 1) := by decide +kernel
theorem dX10_draw_18 : decode cX10_draw 18 = .ok (.l2i, 1) := by decide +kernel
theorem dX10_draw_19 : decode cX10_draw 19 = .ok (.putfield 272, 3) := by decide +kernel
theorem dX10_draw_22 : decode cX10_draw 22 = .ok (.aload_n 0, 1) := by decide +kernel
theorem dX10_draw_23 : decode cX10_draw 23 = .ok (.getfield 272, 3) := by decide +kernel
theorem dX10_draw_26 : decode cX10_draw 26 = .ok (.ldc_w 281, 3) := by decide +kernel
theorem dX10_draw_29 : decode cX10_draw 29 = .ok (.idiv, 1) := by decide +kernel
theorem dX10_draw_30 : decode cX10_draw 30 = .ok (.iload_n 1, 1) := by decide +kernel
theorem dX10_draw_31 : decode cX10_draw 31 = .ok (.irem, 1) := by decide +kernel
theorem dX10_draw_32 : decode cX10_draw 32 = .ok (.ireturn, 1) := by decide +kernel
theorem dX10_chance_0 : decode cX10_chance 0 = .ok (.aload_n 0, 1) := by decide +kernel
theorem dX10_chance_1 : decode cX10_chance 1 = .ok (.iconst 4, 1) := by decide +kernel
theorem dX10_chance_2 : decode cX10_chance 2 = .ok (.invokevirtual 282, 3) := by decide +kernel
theorem dX10_chance_5 : decode cX10_chance 5 = .ok (.istore_n 1, 1) := by decide +kernel
theorem dX10_chance_6 : decode cX10_chance 6 = .ok (.aload_n 0, 1) := by decide +kernel
theorem dX10_chance_7 : decode cX10_chance 7 = .ok (.aload_n 0, 1) := by decide +kernel
theorem dX10_chance_8 : decode cX10_chance 8 = .ok (.getfield 88, 3) := by decide +kernel
theorem dX10_chance_11 : decode cX10_chance 11 = .ok (.invokevirtual 282, 3) := by decide +kernel
theorem dX10_chance_14 : decode cX10_chance 14 = .ok (.istore_n 2, 1) := by decide +kernel
theorem dX10_chance_15 : decode cX10_chance 15 = .ok (.aload_n 0, 1) := by decide +kernel
theorem dX10_chance_16 : decode cX10_chance 16 = .ok (.aload_n 0, 1) := by decide +kernel
theorem dX10_chance_17 : decode cX10_chance 17 = .ok (.getfield 95, 3) := by decide +kernel
theorem dX10_chance_20 : decode cX10_chance 20 = .ok (.invokevirtual 282, 3) := by decide +kernel
theorem dX10_chance_23 : decode cX10_chance 23 = .ok (.istore_n 3, 1) := by decide +kernel
theorem dX10_chance_24 : decode cX10_chance 24 = .ok (.iload_n 1, 1) := by decide +kernel
theorem dX10_chance_25 : decode cX10_chance 25 = .ok (.ifCond .ne 29, 3) := by decide +kernel
theorem dX10_chance_28 : decode cX10_chance 28 = .ok (.aload_n 0, 1) := by decide +kernel
theorem dX10_chance_29 : decode cX10_chance 29 = .ok (.getfield 25, 3) := by decide +kernel
theorem dX10_chance_32 : decode cX10_chance 32 = .ok (.bipush 12, 2) := by decide +kernel
theorem dX10_chance_34 : decode cX10_chance 34 = .ok (.iload_n 2, 1) := by decide +kernel
theorem dX10_chance_35 : decode cX10_chance 35 = .ok (.iadd, 1) := by decide +kernel
theorem dX10_chance_36 : decode cX10_chance 36 = .ok (.iaload, 1) := by decide +kernel
theorem dX10_chance_37 : decode cX10_chance 37 = .ok (.iconst (-1), 1) := by decide +kernel
theorem dX10_chance_38 : decode cX10_chance 38 = .ok (.if_icmp .ne 16, 3) := by decide +kernel
theorem dX10_chance_41 : decode cX10_chance 41 = .ok (.aload_n 0, 1) := by decide +kernel
theorem dX10_chance_42 : decode cX10_chance 42 = .ok (.getfield 25, 3) := by decide +kernel
theorem dX10_chance_45 : decode cX10_chance 45 = .ok (.bipush 12, 2) := by decide +kernel
theorem dX10_chance_47 : decode cX10_chance 47 = .ok (.iload_n 2, 1) := by decide +kernel
theorem dX10_chance_48 : decode cX10_chance 48 = .ok (.iadd, 1) := by decide +kernel
theorem dX10_chance_49 : decode cX10_chance 49 = .ok (.iload_n 3, 1) := by decide +kernel
theorem dX10_chance_50 : decode cX10_chance 50 = .ok (.iastore, 1) := by decide +kernel
theorem dX10_chance_51 : decode cX10_chance 51 = .ok (.goto 50, 3) := by decide +kernel
theorem dX10_chance_54 : decode cX10_chance 54 = .ok (.iload_n 1, 1) := by decide +kernel
theorem dX10_chance_55 : decode cX10_chance 55 = .ok (.iconst 1, 1) := by decide +kernel
theorem dX10_chance_56 : decode cX10_chance 56 = .ok (.if_icmp .ne 25, 3) := by decide +kernel
theorem dX10_chance_59 : decode cX10_chance 59 = .ok (.aload_n 0, 1) := by decide +kernel
theorem dX10_chance_60 : decode cX10_chance 60 = .ok (.iload_n 2, 1) := by decide +kernel
theorem dX10_chance_61 : decode cX10_chance 61 = .ok (.iload_n 3, 1) := by decide +kernel
theorem dX10_chance_62 : decode cX10_chance 62 = .ok (.invokevirtual 261, 3) := by decide +kernel
theorem dX10_chance_65 : decode cX10_chance 65 = .ok (.ifCond .eq 16, 3) := by decide +kernel
theorem dX10_chance_68 : decode cX10_chance 68 = .ok (.aload_n 0, 1) := by decide +kernel
theorem dX10_chance_69 : decode cX10_chance 69 = .ok (.getfield 25, 3) := by decide +kernel
theorem dX10_chance_72 : decode cX10_chance 72 = .ok (.bipush 18, 2) := by decide +kernel
theorem dX10_chance_74 : decode cX10_chance 74 = .ok (.iload_n 2, 1) := by decide +kernel
theorem dX10_chance_75 : decode cX10_chance 75 = .ok (.iadd, 1) := by decide +kernel
theorem dX10_chance_76 : decode cX10_chance 76 = .ok (.iload_n 3, 1) := by decide +kernel
theorem dX10_chance_77 : decode cX10_chance 77 = .ok (.iastore, 1) := by decide +kernel
theorem dX10_chance_78 : decode cX10_chance 78 = .ok (.goto 23, 3) := by decide +kernel
theorem dX10_chance_81 : decode cX10_chance 81 = .ok (.iload_n 1, 1) := by decide +kernel
theorem dX10_chance_82 : decode cX10_chance 82 = .ok (.iconst 2, 1) := by decide +kernel
theorem dX10_chance_83 : decode cX10_chance 83 = .ok (.if_icmp .ne 18, 3) := by decide +kernel
theorem dX10_chance_86 : decode cX10_chance 86 = .ok (.aload_n 0, 1) := by decide +kernel
theorem dX10_chance_87 : decode cX10_chance 87 = .ok (.iload_n 2, 1) := by decide +kernel
theorem dX10_chance_88 : decode cX10_chance 88 = .ok (.iload_n 3, 1) := by decide +kernel
theorem dX10_chance_89 : decode cX10_chance 89 = .ok (.invokevirtual 180, 3) := by decide +kernel
theorem dX10_chance_92 : decode cX10_chance 92 = .ok (.ifCond .eq 9, 3) := by decide +kernel
theorem dX10_chance_95 : decode cX10_chance 95 = .ok (.aload_n 0, 1) := by decide +kernel
theorem dX10_chance_96 : decode cX10_chance 96 = .ok (.iload_n 2, 1) := by decide +kernel
theorem dX10_chance_97 : decode cX10_chance 97 = .ok (.iload_n 3, 1) := by decide +kernel
theorem dX10_chance_98 : decode cX10_chance 98 = .ok (.invokevirtual 264, 3) := by decide +kernel
theorem dX10_chance_101 : decode cX10_chance 101 = .ok (.return_, 1) := by decide +kernel
theorem dX10_drift_0 : decode cX10_drift 0 = .ok (.aload_n 0, 1) := by decide +kernel
theorem dX10_drift_1 : decode cX10_drift 1 = .ok (.iload_n 1, 1) := by decide +kernel
theorem dX10_drift_2 : decode cX10_drift 2 = .ok (.invokevirtual 252, 3) := by decide +kernel
theorem dX10_drift_5 : decode cX10_drift 5 = .ok (.istore_n 2, 1) := by decide +kernel
theorem dX10_drift_6 : decode cX10_drift 6 = .ok (.iload_n 2, 1) := by decide +kernel
theorem dX10_drift_7 : decode cX10_drift 7 = .ok (.ifCond .eq 5, 3) := by decide +kernel
theorem dX10_drift_10 : decode cX10_drift 10 = .ok (.iload_n 2, 1) := by decide +kernel
theorem dX10_drift_11 : decode cX10_drift 11 = .ok (.ireturn, 1) := by decide +kernel
theorem dX10_drift_12 : decode cX10_drift 12 = .ok (.aload_n 0, 1) := by decide +kernel
theorem dX10_drift_13 : decode cX10_drift 13 = .ok (.invokevirtual 255, 3) := by decide +kernel
theorem dX10_drift_16 : decode cX10_drift 16 = .ok (.iconst 0, 1) := by decide +kernel
theorem dX10_drift_17 : decode cX10_drift 17 = .ok (.istore_n 3, 1) := by decide +kernel
theorem dX10_drift_18 : decode cX10_drift 18 = .ok (.iload_n 3, 1) := by decide +kernel
theorem dX10_drift_19 : decode cX10_drift 19 = .ok (.iload_n 1, 1) := by decide +kernel
theorem dX10_drift_20 : decode cX10_drift 20 = .ok (.if_icmp .ge 31, 3) := by decide +kernel
theorem dX10_drift_23 : decode cX10_drift 23 = .ok (.aload_n 0, 1) := by decide +kernel
theorem dX10_drift_24 : decode cX10_drift 24 = .ok (.getfield 88, 3) := by decide +kernel
theorem dX10_drift_27 : decode cX10_drift 27 = .ok (.ifCond .le 14, 3) := by decide +kernel
theorem dX10_drift_30 : decode cX10_drift 30 = .ok (.aload_n 0, 1) := by decide +kernel
theorem dX10_drift_31 : decode cX10_drift 31 = .ok (.getfield 95, 3) := by decide +kernel
theorem dX10_drift_34 : decode cX10_drift 34 = .ok (.ifCond .le 7, 3) := by decide +kernel
theorem dX10_drift_37 : decode cX10_drift 37 = .ok (.aload_n 0, 1) := by decide +kernel
theorem dX10_drift_38 : decode cX10_drift 38 = .ok (.invokevirtual 285, 3) := by decide +kernel
theorem dX10_drift_41 : decode cX10_drift 41 = .ok (.aload_n 0, 1) := by decide +kernel
theorem dX10_drift_42 : decode cX10_drift 42 = .ok (.invokevirtual 258, 3) := by decide +kernel
theorem dX10_drift_45 : decode cX10_drift 45 = .ok (.iinc 3 1, 3) := by decide +kernel
theorem dX10_drift_48 : decode cX10_drift 48 = .ok (.goto (-30), 3) := by decide +kernel
theorem dX10_drift_51 : decode cX10_drift 51 = .ok (.aload_n 0, 1) := by decide +kernel
theorem dX10_drift_52 : decode cX10_drift 52 = .ok (.invokevirtual 215, 3) := by decide +kernel
theorem dX10_drift_55 : decode cX10_drift 55 = .ok (.ireturn, 1) := by decide +kernel
theorem dX10_undo_0 : decode cX10_undo 0 = .ok (.aload_n 0, 1) := by decide +kernel
theorem dX10_undo_1 : decode cX10_undo 1 = .ok (.getfield 177, 3) := by decide +kernel
theorem dX10_undo_4 : decode cX10_undo 4 = .ok (.ifCond .ne 6, 3) := by decide +kernel
theorem dX10_undo_7 : decode cX10_undo 7 = .ok (.ldc 251, 2) := by decide +kernel
theorem dX10_undo_9 : decode cX10_undo 9 = .ok (.ireturn, 1) := by decide +kernel
theorem dX10_undo_10 : decode cX10_undo 10 = .ok (.aload_n 0, 1) := by decide +kernel
theorem dX10_undo_11 : decode cX10_undo 11 = .ok (.dup, 1) := by decide +kernel
theorem dX10_undo_12 : decode cX10_undo 12 = .ok (.getfield 177, 3) := by decide +kernel
theorem dX10_undo_15 : decode cX10_undo 15 = .ok (.iconst 1, 1) := by decide +kernel
theorem dX10_undo_16 : decode cX10_undo 16 = .ok (.isub, 1) := by decide +kernel
theorem dX10_undo_17 : decode cX10_undo 17 = .ok (.putfield 177, 3) := by decide +kernel
theorem dX10_undo_20 : decode cX10_undo 20 = .ok (.iconst 0, 1) := by decide +kernel
theorem dX10_undo_21 : decode cX10_undo 21 = .ok (.istore_n 1, 1) := by decide +kernel
theorem dX10_undo_22 : decode cX10_undo 22 = .ok (.iload_n 1, 1) := by decide +kernel
theorem dX10_undo_23 : decode cX10_undo 23 = .ok (.bipush 31, 2) := by decide +kernel
theorem dX10_undo_25 : decode cX10_undo 25 = .ok (.if_icmp .ge 29, 3) := by decide +kernel
theorem dX10_undo_28 : decode cX10_undo 28 = .ok (.aload_n 0, 1) := by decide +kernel
theorem dX10_undo_29 : decode cX10_undo 29 = .ok (.getfield 25, 3) := by decide +kernel
theorem dX10_undo_32 : decode cX10_undo 32 = .ok (.iload_n 1, 1) := by decide +kernel
theorem dX10_undo_33 : decode cX10_undo 33 = .ok (.aload_n 0, 1) := by decide +kernel
theorem dX10_undo_34 : decode cX10_undo 34 = .ok (.getfield 50, 3) := by decide +kernel
theorem dX10_undo_37 : decode cX10_undo 37 = .ok (.bipush 31, 2) := by decide +kernel
theorem dX10_undo_39 : decode cX10_undo 39 = .ok (.aload_n 0, 1) := by decide +kernel
theorem dX10_undo_40 : decode cX10_undo 40 = .ok (.getfield 177, 3) := by decide +kernel
theorem dX10_undo_43 : decode cX10_undo 43 = .ok (.imul, 1) := by decide +kernel
theorem dX10_undo_44 : decode cX10_undo 44 = .ok (.iload_n 1, 1) := by decide +kernel
theorem dX10_undo_45 : decode cX10_undo 45 = .ok (.iadd, 1) := by decide +kernel
theorem dX10_undo_46 : decode cX10_undo 46 = .ok (.iaload, 1) := by decide +kernel
theorem dX10_undo_47 : decode cX10_undo 47 = .ok (.iastore, 1) := by decide +kernel
theorem dX10_undo_48 : decode cX10_undo 48 = .ok (.iinc 1 1, 3) := by decide +kernel
theorem dX10_undo_51 : decode cX10_undo 51 = .ok (.goto (-29), 3) := by decide +kernel
theorem dX10_undo_54 : decode cX10_undo 54 = .ok (.aload_n 0, 1) := by decide +kernel
theorem dX10_undo_55 : decode cX10_undo 55 = .ok (.getfield 177, 3) := by decide +kernel
theorem dX10_undo_58 : decode cX10_undo 58 = .ok (.ireturn, 1) := by decide +kernel
theorem dX10_sore_0 : decode cX10_sore 0 = .ok (.aload_n 0, 1) := by decide +kernel
theorem dX10_sore_1 : decode cX10_sore 1 = .ok (.iload_n 1, 1) := by decide +kernel
theorem dX10_sore_2 : decode cX10_sore 2 = .ok (.invokevirtual 237, 3) := by decide +kernel
theorem dX10_sore_5 : decode cX10_sore 5 = .ok (.ifCond .ne 6, 3) := by decide +kernel
theorem dX10_sore_8 : decode cX10_sore 8 = .ok (.ldc 236, 2) := by decide +kernel
theorem dX10_sore_10 : decode cX10_sore 10 = .ok (.ireturn, 1) := by decide +kernel
theorem dX10_sore_11 : decode cX10_sore 11 = .ok (.iload_n 2, 1) := by decide +kernel
theorem dX10_sore_12 : decode cX10_sore 12 = .ok (.i2l, 1) := by decide +kernel
theorem dX10_sore_13 : decode cX10_sore 13 = .ok (.lconst 0, 1) := by decide +kernel
theorem dX10_sore_14 : decode cX10_sore 14 = .ok (.ldc2_w 288, 3) := by decide +kernel
theorem dX10_sore_17 : decode cX10_sore 17 = .ok (.invokestatic 91, 3) := by decide +kernel
theorem dX10_sore_20 : decode cX10_sore 20 = .ok (.ifCond .ne 6, 3) := by decide +kernel
theorem dX10_sore_23 : decode cX10_sore 23 = .ok (.ldc 100, 2) := by decide +kernel
theorem dX10_sore_25 : decode cX10_sore 25 = .ok (.ireturn, 1) := by decide +kernel
theorem dX10_sore_26 : decode cX10_sore 26 = .ok (.aload_n 0, 1) := by decide +kernel
theorem dX10_sore_27 : decode cX10_sore 27 = .ok (.getfield 25, 3) := by decide +kernel
theorem dX10_sore_30 : decode cX10_sore 30 = .ok (.aload_n 0, 1) := by decide +kernel
theorem dX10_sore_31 : decode cX10_sore 31 = .ok (.getfield 53, 3) := by decide +kernel
theorem dX10_sore_34 : decode cX10_sore 34 = .ok (.bipush 31, 2) := by decide +kernel
theorem dX10_sore_36 : decode cX10_sore 36 = .ok (.invokestatic 157, 3) := by decide +kernel
theorem dX10_sore_39 : decode cX10_sore 39 = .ok (.iconst 0, 1) := by decide +kernel
theorem dX10_sore_40 : decode cX10_sore 40 = .ok (.istore_n 3, 1) := by decide +kernel
theorem dX10_sore_41 : decode cX10_sore 41 = .ok (.iload_n 3, 1) := by decide +kernel
theorem dX10_sore_42 : decode cX10_sore 42 = .ok (.iload_n 2, 1) := by decide +kernel
theorem dX10_sore_43 : decode cX10_sore 43 = .ok (.if_icmp .ge 13, 3) := by decide +kernel
theorem dX10_sore_46 : decode cX10_sore 46 = .ok (.aload_n 0, 1) := by decide +kernel
theorem dX10_sore_47 : decode cX10_sore 47 = .ok (.invokevirtual 258, 3) := by decide +kernel
theorem dX10_sore_50 : decode cX10_sore 50 = .ok (.iinc 3 1, 3) := by decide +kernel
theorem dX10_sore_53 : decode cX10_sore 53 = .ok (.goto (-12), 3) := by decide +kernel
theorem dX10_sore_56 : decode cX10_sore 56 = .ok (.aload_n 0, 1) := by decide +kernel
theorem dX10_sore_57 : decode cX10_sore 57 = .ok (.getfield 25, 3) := by decide +kernel
theorem dX10_sore_60 : decode cX10_sore 60 = .ok (.bipush 24, 2) := by decide +kernel
theorem dX10_sore_62 : decode cX10_sore 62 = .ok (.iload_n 1, 1) := by decide +kernel
theorem dX10_sore_63 : decode cX10_sore 63 = .ok (.iadd, 1) := by decide +kernel
theorem dX10_sore_64 : decode cX10_sore 64 = .ok (.iaload, 1) := by decide +kernel
theorem dX10_sore_65 : decode cX10_sore 65 = .ok (.istore_n 3, 1) := by decide +kernel
theorem dX10_sore_66 : decode cX10_sore 66 = .ok (.aload_n 0, 1) := by decide +kernel
theorem dX10_sore_67 : decode cX10_sore 67 = .ok (.getfield 53, 3) := by decide +kernel
theorem dX10_sore_70 : decode cX10_sore 70 = .ok (.aload_n 0, 1) := by decide +kernel
theorem dX10_sore_71 : decode cX10_sore 71 = .ok (.getfield 25, 3) := by decide +kernel
theorem dX10_sore_74 : decode cX10_sore 74 = .ok (.bipush 31, 2) := by decide +kernel
theorem dX10_sore_76 : decode cX10_sore 76 = .ok (.invokestatic 157, 3) := by decide +kernel
theorem dX10_sore_79 : decode cX10_sore 79 = .ok (.iload_n 3, 1) := by decide +kernel
theorem dX10_sore_80 : decode cX10_sore 80 = .ok (.ireturn, 1) := by decide +kernel
theorem dX10_when_0 : decode cX10_when 0 = .ok (.aload_n 0, 1) := by decide +kernel
theorem dX10_when_1 : decode cX10_when 1 = .ok (.iload_n 1, 1) := by decide +kernel
theorem dX10_when_2 : decode cX10_when 2 = .ok (.invokevirtual 237, 3) := by decide +kernel
theorem dX10_when_5 : decode cX10_when 5 = .ok (.ifCond .ne 6, 3) := by decide +kernel
theorem dX10_when_8 : decode cX10_when 8 = .ok (.ldc 236, 2) := by decide +kernel
theorem dX10_when_10 : decode cX10_when 10 = .ok (.ireturn, 1) := by decide +kernel
theorem dX10_when_11 : decode cX10_when 11 = .ok (.aload_n 0, 1) := by decide +kernel
theorem dX10_when_12 : decode cX10_when 12 = .ok (.getfield 25, 3) := by decide +kernel
theorem dX10_when_15 : decode cX10_when 15 = .ok (.aload_n 0, 1) := by decide +kernel
theorem dX10_when_16 : decode cX10_when 16 = .ok (.getfield 53, 3) := by decide +kernel
theorem dX10_when_19 : decode cX10_when 19 = .ok (.bipush 31, 2) := by decide +kernel
theorem dX10_when_21 : decode cX10_when 21 = .ok (.invokestatic 157, 3) := by decide +kernel
theorem dX10_when_24 : decode cX10_when 24 = .ok (.iconst 0, 1) := by decide +kernel
theorem dX10_when_25 : decode cX10_when 25 = .ok (.istore_n 2, 1) := by decide +kernel
theorem dX10_when_26 : decode cX10_when 26 = .ok (.iload_n 2, 1) := by decide +kernel
theorem dX10_when_27 : decode cX10_when 27 = .ok (.sipush 200, 3) := by decide +kernel
theorem dX10_when_30 : decode cX10_when 30 = .ok (.if_icmp .ge 27, 3) := by decide +kernel
theorem dX10_when_33 : decode cX10_when 33 = .ok (.aload_n 0, 1) := by decide +kernel
theorem dX10_when_34 : decode cX10_when 34 = .ok (.getfield 25, 3) := by decide +kernel
theorem dX10_when_37 : decode cX10_when 37 = .ok (.bipush 24, 2) := by decide +kernel
theorem dX10_when_39 : decode cX10_when 39 = .ok (.iload_n 1, 1) := by decide +kernel
theorem dX10_when_40 : decode cX10_when 40 = .ok (.iadd, 1) := by decide +kernel
theorem dX10_when_41 : decode cX10_when 41 = .ok (.iaload, 1) := by decide +kernel
theorem dX10_when_42 : decode cX10_when 42 = .ok (.bipush 20, 2) := by decide +kernel
theorem dX10_when_44 : decode cX10_when 44 = .ok (.if_icmp .ge 13, 3) := by decide +kernel
theorem dX10_when_47 : decode cX10_when 47 = .ok (.aload_n 0, 1) := by decide +kernel
theorem dX10_when_48 : decode cX10_when 48 = .ok (.invokevirtual 258, 3) := by decide +kernel
theorem dX10_when_51 : decode cX10_when 51 = .ok (.iinc 2 1, 3) := by decide +kernel
theorem dX10_when_54 : decode cX10_when 54 = .ok (.goto (-28), 3) := by decide +kernel
theorem dX10_when_57 : decode cX10_when 57 = .ok (.aload_n 0, 1) := by decide +kernel
theorem dX10_when_58 : decode cX10_when 58 = .ok (.getfield 25, 3) := by decide +kernel
theorem dX10_when_61 : decode cX10_when 61 = .ok (.bipush 24, 2) := by decide +kernel
theorem dX10_when_63 : decode cX10_when 63 = .ok (.iload_n 1, 1) := by decide +kernel
theorem dX10_when_64 : decode cX10_when 64 = .ok (.iadd, 1) := by decide +kernel
theorem dX10_when_65 : decode cX10_when 65 = .ok (.iaload, 1) := by decide +kernel
theorem dX10_when_66 : decode cX10_when 66 = .ok (.bipush 20, 2) := by decide +kernel
theorem dX10_when_68 : decode cX10_when 68 = .ok (.if_icmp .ge 7, 3) := by decide +kernel
theorem dX10_when_71 : decode cX10_when 71 = .ok (.iconst (-1), 1) := by decide +kernel
theorem dX10_when_72 : decode cX10_when 72 = .ok (.goto 4, 3) := by decide +kernel
theorem dX10_when_75 : decode cX10_when 75 = .ok (.iload_n 2, 1) := by decide +kernel
theorem dX10_when_76 : decode cX10_when 76 = .ok (.istore_n 3, 1) := by decide +kernel
theorem dX10_when_77 : decode cX10_when 77 = .ok (.aload_n 0, 1) := by decide +kernel
theorem dX10_when_78 : decode cX10_when 78 = .ok (.getfield 53, 3) := by decide +kernel
theorem dX10_when_81 : decode cX10_when 81 = .ok (.aload_n 0, 1) := by decide +kernel
theorem dX10_when_82 : decode cX10_when 82 = .ok (.getfield 25, 3) := by decide +kernel
theorem dX10_when_85 : decode cX10_when 85 = .ok (.bipush 31, 2) := by decide +kernel
theorem dX10_when_87 : decode cX10_when 87 = .ok (.invokestatic 157, 3) := by decide +kernel
theorem dX10_when_90 : decode cX10_when 90 = .ok (.iload_n 3, 1) := by decide +kernel
theorem dX10_when_91 : decode cX10_when 91 = .ok (.ireturn, 1) := by decide +kernel
theorem dX10_worst_0 : decode cX10_worst 0 = .ok (.iload_n 1, 1) := by decide +kernel
theorem dX10_worst_1 : decode cX10_worst 1 = .ok (.i2l, 1) := by decide +kernel
theorem dX10_worst_2 : decode cX10_worst 2 = .ok (.lconst 1, 1) := by decide +kernel
theorem dX10_worst_3 : decode cX10_worst 3 = .ok (.ldc2_w 249, 3) := by decide +kernel
theorem dX10_worst_6 : decode cX10_worst 6 = .ok (.invokestatic 91, 3) := by decide +kernel
theorem dX10_worst_9 : decode cX10_worst 9 = .ok (.ifCond .eq 13, 3) := by decide +kernel
theorem dX10_worst_12 : decode cX10_worst 12 = .ok (.iload_n 2, 1) := by decide +kernel
theorem dX10_worst_13 : decode cX10_worst 13 = .ok (.i2l, 1) := by decide +kernel
theorem dX10_worst_14 : decode cX10_worst 14 = .ok (.lconst 0, 1) := by decide +kernel
theorem dX10_worst_15 : decode cX10_worst 15 = .ok (.lconst 1, 1) := by decide +kernel
theorem dX10_worst_16 : decode cX10_worst 16 = .ok (.invokestatic 91, 3) := by decide +kernel
theorem dX10_worst_19 : decode cX10_worst 19 = .ok (.ifCond .ne 6, 3) := by decide +kernel
theorem dX10_worst_22 : decode cX10_worst 22 = .ok (.ldc 100, 2) := by decide +kernel
theorem dX10_worst_24 : decode cX10_worst 24 = .ok (.ireturn, 1) := by decide +kernel
theorem dX10_worst_25 : decode cX10_worst 25 = .ok (.aload_n 0, 1) := by decide +kernel
theorem dX10_worst_26 : decode cX10_worst 26 = .ok (.getfield 84, 3) := by decide +kernel
theorem dX10_worst_29 : decode cX10_worst 29 = .ok (.ifCond .ne 6, 3) := by decide +kernel
theorem dX10_worst_32 : decode cX10_worst 32 = .ok (.ldc 251, 2) := by decide +kernel
theorem dX10_worst_34 : decode cX10_worst 34 = .ok (.ireturn, 1) := by decide +kernel
theorem dX10_worst_35 : decode cX10_worst 35 = .ok (.aload_n 0, 1) := by decide +kernel
theorem dX10_worst_36 : decode cX10_worst 36 = .ok (.getfield 25, 3) := by decide +kernel
theorem dX10_worst_39 : decode cX10_worst 39 = .ok (.aload_n 0, 1) := by decide +kernel
theorem dX10_worst_40 : decode cX10_worst 40 = .ok (.getfield 53, 3) := by decide +kernel
theorem dX10_worst_43 : decode cX10_worst 43 = .ok (.bipush 31, 2) := by decide +kernel
theorem dX10_worst_45 : decode cX10_worst 45 = .ok (.invokestatic 157, 3) := by decide +kernel
theorem dX10_worst_48 : decode cX10_worst 48 = .ok (.iconst (-1), 1) := by decide +kernel
theorem dX10_worst_49 : decode cX10_worst 49 = .ok (.istore_n 3, 1) := by decide +kernel
theorem dX10_worst_50 : decode cX10_worst 50 = .ok (.iconst (-1), 1) := by decide +kernel
theorem dX10_worst_51 : decode cX10_worst 51 = .ok (.istore 4, 2) := by decide +kernel
theorem dX10_worst_53 : decode cX10_worst 53 = .ok (.iconst 0, 1) := by decide +kernel
theorem dX10_worst_54 : decode cX10_worst 54 = .ok (.istore 5, 2) := by decide +kernel
theorem dX10_worst_56 : decode cX10_worst 56 = .ok (.iload 5, 2) := by decide +kernel
theorem dX10_worst_58 : decode cX10_worst 58 = .ok (.iload_n 1, 1) := by decide +kernel
theorem dX10_worst_59 : decode cX10_worst 59 = .ok (.if_icmp .ge 49, 3) := by decide +kernel
theorem dX10_worst_62 : decode cX10_worst 62 = .ok (.aload_n 0, 1) := by decide +kernel
theorem dX10_worst_63 : decode cX10_worst 63 = .ok (.invokevirtual 218, 3) := by decide +kernel
theorem dX10_worst_66 : decode cX10_worst 66 = .ok (.istore 6, 2) := by decide +kernel
theorem dX10_worst_68 : decode cX10_worst 68 = .ok (.iload 6, 2) := by decide +kernel
theorem dX10_worst_70 : decode cX10_worst 70 = .ok (.iload 4, 2) := by decide +kernel
theorem dX10_worst_72 : decode cX10_worst 72 = .ok (.if_icmp .le 8, 3) := by decide +kernel
theorem dX10_worst_75 : decode cX10_worst 75 = .ok (.iload 5, 2) := by decide +kernel
theorem dX10_worst_77 : decode cX10_worst 77 = .ok (.goto 4, 3) := by decide +kernel
theorem dX10_worst_80 : decode cX10_worst 80 = .ok (.iload_n 3, 1) := by decide +kernel
theorem dX10_worst_81 : decode cX10_worst 81 = .ok (.istore_n 3, 1) := by decide +kernel
theorem dX10_worst_82 : decode cX10_worst 82 = .ok (.iload 6, 2) := by decide +kernel
theorem dX10_worst_84 : decode cX10_worst 84 = .ok (.iload 4, 2) := by decide +kernel
theorem dX10_worst_86 : decode cX10_worst 86 = .ok (.if_icmp .le 8, 3) := by decide +kernel
theorem dX10_worst_89 : decode cX10_worst 89 = .ok (.iload 6, 2) := by decide +kernel
theorem dX10_worst_91 : decode cX10_worst 91 = .ok (.goto 5, 3) := by decide +kernel
theorem dX10_worst_94 : decode cX10_worst 94 = .ok (.iload 4, 2) := by decide +kernel
theorem dX10_worst_96 : decode cX10_worst 96 = .ok (.istore 4, 2) := by decide +kernel
theorem dX10_worst_98 : decode cX10_worst 98 = .ok (.aload_n 0, 1) := by decide +kernel
theorem dX10_worst_99 : decode cX10_worst 99 = .ok (.invokevirtual 258, 3) := by decide +kernel
theorem dX10_worst_102 : decode cX10_worst 102 = .ok (.iinc 5 1, 3) := by decide +kernel
theorem dX10_worst_105 : decode cX10_worst 105 = .ok (.goto (-49), 3) := by decide +kernel
theorem dX10_worst_108 : decode cX10_worst 108 = .ok (.aload_n 0, 1) := by decide +kernel
theorem dX10_worst_109 : decode cX10_worst 109 = .ok (.getfield 53, 3) := by decide +kernel
theorem dX10_worst_112 : decode cX10_worst 112 = .ok (.aload_n 0, 1) := by decide +kernel
theorem dX10_worst_113 : decode cX10_worst 113 = .ok (.getfield 25, 3) := by decide +kernel
theorem dX10_worst_116 : decode cX10_worst 116 = .ok (.bipush 31, 2) := by decide +kernel
theorem dX10_worst_118 : decode cX10_worst 118 = .ok (.invokestatic 157, 3) := by decide +kernel
theorem dX10_worst_121 : decode cX10_worst 121 = .ok (.iload_n 2, 1) := by decide +kernel
theorem dX10_worst_122 : decode cX10_worst 122 = .ok (.ifCond .ne 7, 3) := by decide +kernel
theorem dX10_worst_125 : decode cX10_worst 125 = .ok (.iload_n 3, 1) := by decide +kernel
theorem dX10_worst_126 : decode cX10_worst 126 = .ok (.goto 5, 3) := by decide +kernel
theorem dX10_worst_129 : decode cX10_worst 129 = .ok (.iload 4, 2) := by decide +kernel
theorem dX10_worst_131 : decode cX10_worst 131 = .ok (.ireturn, 1) := by decide +kernel
theorem dX10_ways_0 : decode cX10_ways 0 = .ok (.iconst 1, 1) := by decide +kernel
theorem dX10_ways_1 : decode cX10_ways 1 = .ok (.istore_n 1, 1) := by decide +kernel
theorem dX10_ways_2 : decode cX10_ways 2 = .ok (.iconst 0, 1) := by decide +kernel
theorem dX10_ways_3 : decode cX10_ways 3 = .ok (.istore_n 2, 1) := by decide +kernel
theorem dX10_ways_4 : decode cX10_ways 4 = .ok (.iload_n 2, 1) := by decide +kernel
theorem dX10_ways_5 : decode cX10_ways 5 = .ok (.aload_n 0, 1) := by decide +kernel
theorem dX10_ways_6 : decode cX10_ways 6 = .ok (.getfield 88, 3) := by decide +kernel
theorem dX10_ways_9 : decode cX10_ways 9 = .ok (.if_icmp .ge 16, 3) := by decide +kernel
theorem dX10_ways_12 : decode cX10_ways 12 = .ok (.iload_n 1, 1) := by decide +kernel
theorem dX10_ways_13 : decode cX10_ways 13 = .ok (.aload_n 0, 1) := by decide +kernel
theorem dX10_ways_14 : decode cX10_ways 14 = .ok (.getfield 95, 3) := by decide +kernel
theorem dX10_ways_17 : decode cX10_ways 17 = .ok (.imul, 1) := by decide +kernel
theorem dX10_ways_18 : decode cX10_ways 18 = .ok (.istore_n 1, 1) := by decide +kernel
theorem dX10_ways_19 : decode cX10_ways 19 = .ok (.iinc 2 1, 3) := by decide +kernel
theorem dX10_ways_22 : decode cX10_ways 22 = .ok (.goto (-18), 3) := by decide +kernel
theorem dX10_ways_25 : decode cX10_ways 25 = .ok (.iload_n 1, 1) := by decide +kernel
theorem dX10_ways_26 : decode cX10_ways 26 = .ok (.ireturn, 1) := by decide +kernel
theorem dX10_carryBy_0 : decode cX10_carryBy 0 = .ok (.iload_n 1, 1) := by decide +kernel
theorem dX10_carryBy_1 : decode cX10_carryBy 1 = .ok (.istore_n 2, 1) := by decide +kernel
theorem dX10_carryBy_2 : decode cX10_carryBy 2 = .ok (.aload_n 0, 1) := by decide +kernel
theorem dX10_carryBy_3 : decode cX10_carryBy 3 = .ok (.getfield 88, 3) := by decide +kernel
theorem dX10_carryBy_6 : decode cX10_carryBy 6 = .ok (.iconst 1, 1) := by decide +kernel
theorem dX10_carryBy_7 : decode cX10_carryBy 7 = .ok (.isub, 1) := by decide +kernel
theorem dX10_carryBy_8 : decode cX10_carryBy 8 = .ok (.istore_n 3, 1) := by decide +kernel
theorem dX10_carryBy_9 : decode cX10_carryBy 9 = .ok (.iload_n 3, 1) := by decide +kernel
theorem dX10_carryBy_10 : decode cX10_carryBy 10 = .ok (.ifCond .lt 41, 3) := by decide +kernel
theorem dX10_carryBy_13 : decode cX10_carryBy 13 = .ok (.aload_n 0, 1) := by decide +kernel
theorem dX10_carryBy_14 : decode cX10_carryBy 14 = .ok (.getfield 25, 3) := by decide +kernel
theorem dX10_carryBy_17 : decode cX10_carryBy 17 = .ok (.bipush 12, 2) := by decide +kernel
theorem dX10_carryBy_19 : decode cX10_carryBy 19 = .ok (.iload_n 3, 1) := by decide +kernel
theorem dX10_carryBy_20 : decode cX10_carryBy 20 = .ok (.iadd, 1) := by decide +kernel
theorem dX10_carryBy_21 : decode cX10_carryBy 21 = .ok (.iload_n 2, 1) := by decide +kernel
theorem dX10_carryBy_22 : decode cX10_carryBy 22 = .ok (.aload_n 0, 1) := by decide +kernel
theorem dX10_carryBy_23 : decode cX10_carryBy 23 = .ok (.getfield 95, 3) := by decide +kernel
theorem dX10_carryBy_26 : decode cX10_carryBy 26 = .ok (.irem, 1) := by decide +kernel
theorem dX10_carryBy_27 : decode cX10_carryBy 27 = .ok (.iastore, 1) := by decide +kernel
theorem dX10_carryBy_28 : decode cX10_carryBy 28 = .ok (.aload_n 0, 1) := by decide +kernel
theorem dX10_carryBy_29 : decode cX10_carryBy 29 = .ok (.getfield 25, 3) := by decide +kernel
theorem dX10_carryBy_32 : decode cX10_carryBy 32 = .ok (.bipush 18, 2) := by decide +kernel
theorem dX10_carryBy_34 : decode cX10_carryBy 34 = .ok (.iload_n 3, 1) := by decide +kernel
theorem dX10_carryBy_35 : decode cX10_carryBy 35 = .ok (.iadd, 1) := by decide +kernel
theorem dX10_carryBy_36 : decode cX10_carryBy 36 = .ok (.iconst (-1), 1) := by decide +kernel
theorem dX10_carryBy_37 : decode cX10_carryBy 37 = .ok (.iastore, 1) := by decide +kernel
theorem dX10_carryBy_38 : decode cX10_carryBy 38 = .ok (.iload_n 2, 1) := by decide +kernel
theorem dX10_carryBy_39 : decode cX10_carryBy 39 = .ok (.aload_n 0, 1) := by decide +kernel
theorem dX10_carryBy_40 : decode cX10_carryBy 40 = .ok (.getfield 95, 3) := by decide +kernel
theorem dX10_carryBy_43 : decode cX10_carryBy 43 = .ok (.idiv, 1) := by decide +kernel
theorem dX10_carryBy_44 : decode cX10_carryBy 44 = .ok (.istore_n 2, 1) := by decide +kernel
theorem dX10_carryBy_45 : decode cX10_carryBy 45 = .ok (.iinc 3 (-1), 3) := by decide +kernel
theorem dX10_carryBy_48 : decode cX10_carryBy 48 = .ok (.goto (-39), 3) := by decide +kernel
theorem dX10_carryBy_51 : decode cX10_carryBy 51 = .ok (.return_, 1) := by decide +kernel
theorem dX10_findFit_0 : decode cX10_findFit 0 = .ok (.aload_n 0, 1) := by decide +kernel
theorem dX10_findFit_1 : decode cX10_findFit 1 = .ok (.getfield 25, 3) := by decide +kernel
theorem dX10_findFit_4 : decode cX10_findFit 4 = .ok (.aload_n 0, 1) := by decide +kernel
theorem dX10_findFit_5 : decode cX10_findFit 5 = .ok (.getfield 53, 3) := by decide +kernel
theorem dX10_findFit_8 : decode cX10_findFit 8 = .ok (.bipush 31, 2) := by decide +kernel
theorem dX10_findFit_10 : decode cX10_findFit 10 = .ok (.invokestatic 157, 3) := by decide +kernel
theorem dX10_findFit_13 : decode cX10_findFit 13 = .ok (.aload_n 0, 1) := by decide +kernel
theorem dX10_findFit_14 : decode cX10_findFit 14 = .ok (.ldc 211, 2) := by decide +kernel
theorem dX10_findFit_16 : decode cX10_findFit 16 = .ok (.putfield 290, 3) := by decide +kernel
theorem dX10_findFit_19 : decode cX10_findFit 19 = .ok (.iconst 0, 1) := by decide +kernel
theorem dX10_findFit_20 : decode cX10_findFit 20 = .ok (.istore_n 1, 1) := by decide +kernel
theorem dX10_findFit_21 : decode cX10_findFit 21 = .ok (.iload_n 1, 1) := by decide +kernel
theorem dX10_findFit_22 : decode cX10_findFit 22 = .ok (.aload_n 0, 1) := by decide +kernel
theorem dX10_findFit_23 : decode cX10_findFit 23 = .ok (.invokevirtual 293, 3) := by decide +kernel
theorem dX10_findFit_26 : decode cX10_findFit 26 = .ok (.if_icmp .ge 59, 3) := by decide +kernel
theorem dX10_findFit_29 : decode cX10_findFit 29 = .ok (.aload_n 0, 1) := by decide +kernel
theorem dX10_findFit_30 : decode cX10_findFit 30 = .ok (.iload_n 1, 1) := by decide +kernel
theorem dX10_findFit_31 : decode cX10_findFit 31 = .ok (.invokevirtual 296, 3) := by decide +kernel
theorem dX10_findFit_34 : decode cX10_findFit 34 = .ok (.aload_n 0, 1) := by decide +kernel
theorem dX10_findFit_35 : decode cX10_findFit 35 = .ok (.invokevirtual 218, 3) := by decide +kernel
theorem dX10_findFit_38 : decode cX10_findFit 38 = .ok (.istore_n 2, 1) := by decide +kernel
theorem dX10_findFit_39 : decode cX10_findFit 39 = .ok (.aload_n 0, 1) := by decide +kernel
theorem dX10_findFit_40 : decode cX10_findFit 40 = .ok (.iload_n 2, 1) := by decide +kernel
theorem dX10_findFit_41 : decode cX10_findFit 41 = .ok (.aload_n 0, 1) := by decide +kernel
theorem dX10_findFit_42 : decode cX10_findFit 42 = .ok (.getfield 290, 3) := by decide +kernel
theorem dX10_findFit_45 : decode cX10_findFit 45 = .ok (.if_icmp .ge 7, 3) := by decide +kernel
theorem dX10_findFit_48 : decode cX10_findFit 48 = .ok (.iload_n 1, 1) := by decide +kernel
theorem dX10_findFit_49 : decode cX10_findFit 49 = .ok (.goto 7, 3) := by decide +kernel
theorem dX10_findFit_52 : decode cX10_findFit 52 = .ok (.aload_n 0, 1) := by decide +kernel
theorem dX10_findFit_53 : decode cX10_findFit 53 = .ok (.getfield 300, 3) := by decide +kernel
theorem dX10_findFit_56 : decode cX10_findFit 56 = .ok (.putfield 300, 3) := by decide +kernel
theorem dX10_findFit_59 : decode cX10_findFit 59 = .ok (.aload_n 0, 1) := by decide +kernel
theorem dX10_findFit_60 : decode cX10_findFit 60 = .ok (.iload_n 2, 1) := by decide +kernel
theorem dX10_findFit_61 : decode cX10_findFit 61 = .ok (.aload_n 0, 1) := by decide +kernel
theorem dX10_findFit_62 : decode cX10_findFit 62 = .ok (.getfield 290, 3) := by decide +kernel
theorem dX10_findFit_65 : decode cX10_findFit 65 = .ok (.if_icmp .ge 7, 3) := by decide +kernel
theorem dX10_findFit_68 : decode cX10_findFit 68 = .ok (.iload_n 2, 1) := by decide +kernel
theorem dX10_findFit_69 : decode cX10_findFit 69 = .ok (.goto 7, 3) := by decide +kernel
theorem dX10_findFit_72 : decode cX10_findFit 72 = .ok (.aload_n 0, 1) := by decide +kernel
theorem dX10_findFit_73 : decode cX10_findFit 73 = .ok (.getfield 290, 3) := by decide +kernel
theorem dX10_findFit_76 : decode cX10_findFit 76 = .ok (.putfield 290, 3) := by decide +kernel
theorem dX10_findFit_79 : decode cX10_findFit 79 = .ok (.iinc 1 1, 3) := by decide +kernel
theorem dX10_findFit_82 : decode cX10_findFit 82 = .ok (.goto (-61), 3) := by decide +kernel
theorem dX10_findFit_85 : decode cX10_findFit 85 = .ok (.aload_n 0, 1) := by decide +kernel
theorem dX10_findFit_86 : decode cX10_findFit 86 = .ok (.aload_n 0, 1) := by decide +kernel
theorem dX10_findFit_87 : decode cX10_findFit 87 = .ok (.getfield 300, 3) := by decide +kernel
theorem dX10_findFit_90 : decode cX10_findFit 90 = .ok (.invokevirtual 296, 3) := by decide +kernel
theorem dX10_findFit_93 : decode cX10_findFit 93 = .ok (.iconst 0, 1) := by decide +kernel
theorem dX10_findFit_94 : decode cX10_findFit 94 = .ok (.istore_n 1, 1) := by decide +kernel
theorem dX10_findFit_95 : decode cX10_findFit 95 = .ok (.iload_n 1, 1) := by decide +kernel
theorem dX10_findFit_96 : decode cX10_findFit 96 = .ok (.aload_n 0, 1) := by decide +kernel
theorem dX10_findFit_97 : decode cX10_findFit 97 = .ok (.getfield 88, 3) := by decide +kernel
theorem dX10_findFit_100 : decode cX10_findFit 100 = .ok (.if_icmp .ge 24, 3) := by decide +kernel
theorem dX10_findFit_103 : decode cX10_findFit 103 = .ok (.aload_n 0, 1) := by decide +kernel
theorem dX10_findFit_104 : decode cX10_findFit 104 = .ok (.getfield 56, 3) := by decide +kernel
theorem dX10_findFit_107 : decode cX10_findFit 107 = .ok (.iload_n 1, 1) := by decide +kernel
theorem dX10_findFit_108 : decode cX10_findFit 108 = .ok (.aload_n 0, 1) := by decide +kernel
theorem dX10_findFit_109 : decode cX10_findFit 109 = .ok (.getfield 25, 3) := by decide +kernel
theorem dX10_findFit_112 : decode cX10_findFit 112 = .ok (.bipush 12, 2) := by decide +kernel
theorem dX10_findFit_114 : decode cX10_findFit 114 = .ok (.iload_n 1, 1) := by decide +kernel
theorem dX10_findFit_115 : decode cX10_findFit 115 = .ok (.iadd, 1) := by decide +kernel
theorem dX10_findFit_116 : decode cX10_findFit 116 = .ok (.iaload, 1) := by decide +kernel
theorem dX10_findFit_117 : decode cX10_findFit 117 = .ok (.iastore, 1) := by decide +kernel
theorem dX10_findFit_118 : decode cX10_findFit 118 = .ok (.iinc 1 1, 3) := by decide +kernel
theorem dX10_findFit_121 : decode cX10_findFit 121 = .ok (.goto (-26), 3) := by decide +kernel
theorem dX10_findFit_124 : decode cX10_findFit 124 = .ok (.aload_n 0, 1) := by decide +kernel
theorem dX10_findFit_125 : decode cX10_findFit 125 = .ok (.getfield 53, 3) := by decide +kernel
theorem dX10_findFit_128 : decode cX10_findFit 128 = .ok (.aload_n 0, 1) := by decide +kernel
theorem dX10_findFit_129 : decode cX10_findFit 129 = .ok (.getfield 25, 3) := by decide +kernel
theorem dX10_findFit_132 : decode cX10_findFit 132 = .ok (.bipush 31, 2) := by decide +kernel
theorem dX10_findFit_134 : decode cX10_findFit 134 = .ok (.invokestatic 157, 3) := by decide +kernel
theorem dX10_findFit_137 : decode cX10_findFit 137 = .ok (.return_, 1) := by decide +kernel
theorem dX10_fit_0 : decode cX10_fit 0 = .ok (.iload_n 1, 1) := by decide +kernel
theorem dX10_fit_1 : decode cX10_fit 1 = .ok (.iconst (-1), 1) := by decide +kernel
theorem dX10_fit_2 : decode cX10_fit 2 = .ok (.if_icmp .eq 14, 3) := by decide +kernel
theorem dX10_fit_5 : decode cX10_fit 5 = .ok (.aload_n 0, 1) := by decide +kernel
theorem dX10_fit_6 : decode cX10_fit 6 = .ok (.iload_n 1, 1) := by decide +kernel
theorem dX10_fit_7 : decode cX10_fit 7 = .ok (.invokevirtual 233, 3) := by decide +kernel
theorem dX10_fit_10 : decode cX10_fit 10 = .ok (.ifCond .ne 6, 3) := by decide +kernel
theorem dX10_fit_13 : decode cX10_fit 13 = .ok (.ldc 236, 2) := by decide +kernel
theorem dX10_fit_15 : decode cX10_fit 15 = .ok (.ireturn, 1) := by decide +kernel
theorem dX10_fit_16 : decode cX10_fit 16 = .ok (.aload_n 0, 1) := by decide +kernel
theorem dX10_fit_17 : decode cX10_fit 17 = .ok (.getfield 95, 3) := by decide +kernel
theorem dX10_fit_20 : decode cX10_fit 20 = .ok (.ifCond .ne 5, 3) := by decide +kernel
theorem dX10_fit_23 : decode cX10_fit 23 = .ok (.iconst (-1), 1) := by decide +kernel
theorem dX10_fit_24 : decode cX10_fit 24 = .ok (.ireturn, 1) := by decide +kernel
theorem dX10_fit_25 : decode cX10_fit 25 = .ok (.aload_n 0, 1) := by decide +kernel
theorem dX10_fit_26 : decode cX10_fit 26 = .ok (.invokevirtual 303, 3) := by decide +kernel
theorem dX10_fit_29 : decode cX10_fit 29 = .ok (.iload_n 1, 1) := by decide +kernel
theorem dX10_fit_30 : decode cX10_fit 30 = .ok (.iconst (-1), 1) := by decide +kernel
theorem dX10_fit_31 : decode cX10_fit 31 = .ok (.if_icmp .ne 10, 3) := by decide +kernel
theorem dX10_fit_34 : decode cX10_fit 34 = .ok (.aload_n 0, 1) := by decide +kernel
theorem dX10_fit_35 : decode cX10_fit 35 = .ok (.getfield 290, 3) := by decide +kernel
theorem dX10_fit_38 : decode cX10_fit 38 = .ok (.goto 9, 3) := by decide +kernel
theorem dX10_fit_41 : decode cX10_fit 41 = .ok (.aload_n 0, 1) := by decide +kernel
theorem dX10_fit_42 : decode cX10_fit 42 = .ok (.getfield 56, 3) := by decide +kernel
theorem dX10_fit_45 : decode cX10_fit 45 = .ok (.iload_n 1, 1) := by decide +kernel
theorem dX10_fit_46 : decode cX10_fit 46 = .ok (.iaload, 1) := by decide +kernel
theorem dX10_fit_47 : decode cX10_fit 47 = .ok (.ireturn, 1) := by decide +kernel
theorem dX10_byTwo_0 : decode cX10_byTwo 0 = .ok (.aload_n 0, 1) := by decide +kernel
theorem dX10_byTwo_1 : decode cX10_byTwo 1 = .ok (.iload_n 1, 1) := by decide +kernel
theorem dX10_byTwo_2 : decode cX10_byTwo 2 = .ok (.invokevirtual 233, 3) := by decide +kernel
theorem dX10_byTwo_5 : decode cX10_byTwo 5 = .ok (.ifCond .ne 6, 3) := by decide +kernel
theorem dX10_byTwo_8 : decode cX10_byTwo 8 = .ok (.ldc 236, 2) := by decide +kernel
theorem dX10_byTwo_10 : decode cX10_byTwo 10 = .ok (.ireturn, 1) := by decide +kernel
theorem dX10_byTwo_11 : decode cX10_byTwo 11 = .ok (.iload_n 2, 1) := by decide +kernel
theorem dX10_byTwo_12 : decode cX10_byTwo 12 = .ok (.i2l, 1) := by decide +kernel
theorem dX10_byTwo_13 : decode cX10_byTwo 13 = .ok (.lconst 0, 1) := by decide +kernel
theorem dX10_byTwo_14 : decode cX10_byTwo 14 = .ok (.lconst 1, 1) := by decide +kernel
theorem dX10_byTwo_15 : decode cX10_byTwo 15 = .ok (.invokestatic 91, 3) := by decide +kernel
theorem dX10_byTwo_18 : decode cX10_byTwo 18 = .ok (.ifCond .ne 6, 3) := by decide +kernel
theorem dX10_byTwo_21 : decode cX10_byTwo 21 = .ok (.ldc 100, 2) := by decide +kernel
theorem dX10_byTwo_23 : decode cX10_byTwo 23 = .ok (.ireturn, 1) := by decide +kernel
theorem dX10_byTwo_24 : decode cX10_byTwo 24 = .ok (.aload_n 0, 1) := by decide +kernel
theorem dX10_byTwo_25 : decode cX10_byTwo 25 = .ok (.getfield 25, 3) := by decide +kernel
theorem dX10_byTwo_28 : decode cX10_byTwo 28 = .ok (.aload_n 0, 1) := by decide +kernel
theorem dX10_byTwo_29 : decode cX10_byTwo 29 = .ok (.getfield 53, 3) := by decide +kernel
theorem dX10_byTwo_32 : decode cX10_byTwo 32 = .ok (.bipush 31, 2) := by decide +kernel
theorem dX10_byTwo_34 : decode cX10_byTwo 34 = .ok (.invokestatic 157, 3) := by decide +kernel
theorem dX10_byTwo_37 : decode cX10_byTwo 37 = .ok (.iconst (-1), 1) := by decide +kernel
theorem dX10_byTwo_38 : decode cX10_byTwo 38 = .ok (.istore_n 3, 1) := by decide +kernel
theorem dX10_byTwo_39 : decode cX10_byTwo 39 = .ok (.ldc 211, 2) := by decide +kernel
theorem dX10_byTwo_41 : decode cX10_byTwo 41 = .ok (.istore 4, 2) := by decide +kernel
theorem dX10_byTwo_43 : decode cX10_byTwo 43 = .ok (.iconst 0, 1) := by decide +kernel
theorem dX10_byTwo_44 : decode cX10_byTwo 44 = .ok (.istore 5, 2) := by decide +kernel
theorem dX10_byTwo_46 : decode cX10_byTwo 46 = .ok (.iload 5, 2) := by decide +kernel
theorem dX10_byTwo_48 : decode cX10_byTwo 48 = .ok (.aload_n 0, 1) := by decide +kernel
theorem dX10_byTwo_49 : decode cX10_byTwo 49 = .ok (.invokevirtual 293, 3) := by decide +kernel
theorem dX10_byTwo_52 : decode cX10_byTwo 52 = .ok (.if_icmp .ge 137, 3) := by decide +kernel
theorem dX10_byTwo_55 : decode cX10_byTwo 55 = .ok (.aload_n 0, 1) := by decide +kernel
theorem dX10_byTwo_56 : decode cX10_byTwo 56 = .ok (.getfield 95, 3) := by decide +kernel
theorem dX10_byTwo_59 : decode cX10_byTwo 59 = .ok (.iconst 1, 1) := by decide +kernel
theorem dX10_byTwo_60 : decode cX10_byTwo 60 = .ok (.if_icmp .le 129, 3) := by decide +kernel
theorem dX10_byTwo_63 : decode cX10_byTwo 63 = .ok (.aload_n 0, 1) := by decide +kernel
theorem dX10_byTwo_64 : decode cX10_byTwo 64 = .ok (.iload 5, 2) := by decide +kernel
theorem dX10_byTwo_66 : decode cX10_byTwo 66 = .ok (.invokevirtual 296, 3) := by decide +kernel
theorem dX10_byTwo_69 : decode cX10_byTwo 69 = .ok (.aload_n 0, 1) := by decide +kernel
theorem dX10_byTwo_70 : decode cX10_byTwo 70 = .ok (.getfield 25, 3) := by decide +kernel
theorem dX10_byTwo_73 : decode cX10_byTwo 73 = .ok (.bipush 12, 2) := by decide +kernel
theorem dX10_byTwo_75 : decode cX10_byTwo 75 = .ok (.iload_n 1, 1) := by decide +kernel
theorem dX10_byTwo_76 : decode cX10_byTwo 76 = .ok (.iadd, 1) := by decide +kernel
theorem dX10_byTwo_77 : decode cX10_byTwo 77 = .ok (.iaload, 1) := by decide +kernel
theorem dX10_byTwo_78 : decode cX10_byTwo 78 = .ok (.istore 6, 2) := by decide +kernel
theorem dX10_byTwo_80 : decode cX10_byTwo 80 = .ok (.iload 6, 2) := by decide +kernel
theorem dX10_byTwo_82 : decode cX10_byTwo 82 = .ok (.iconst 1, 1) := by decide +kernel
theorem dX10_byTwo_83 : decode cX10_byTwo 83 = .ok (.iadd, 1) := by decide +kernel
theorem dX10_byTwo_84 : decode cX10_byTwo 84 = .ok (.istore 7, 2) := by decide +kernel
theorem dX10_byTwo_86 : decode cX10_byTwo 86 = .ok (.iload 7, 2) := by decide +kernel
theorem dX10_byTwo_88 : decode cX10_byTwo 88 = .ok (.aload_n 0, 1) := by decide +kernel
theorem dX10_byTwo_89 : decode cX10_byTwo 89 = .ok (.getfield 95, 3) := by decide +kernel
theorem dX10_byTwo_92 : decode cX10_byTwo 92 = .ok (.if_icmp .ge 91, 3) := by decide +kernel
theorem dX10_byTwo_95 : decode cX10_byTwo 95 = .ok (.aload_n 0, 1) := by decide +kernel
theorem dX10_byTwo_96 : decode cX10_byTwo 96 = .ok (.getfield 25, 3) := by decide +kernel
theorem dX10_byTwo_99 : decode cX10_byTwo 99 = .ok (.bipush 18, 2) := by decide +kernel
theorem dX10_byTwo_101 : decode cX10_byTwo 101 = .ok (.iload_n 1, 1) := by decide +kernel
theorem dX10_byTwo_102 : decode cX10_byTwo 102 = .ok (.iadd, 1) := by decide +kernel
theorem dX10_byTwo_103 : decode cX10_byTwo 103 = .ok (.iload 7, 2) := by decide +kernel
theorem dX10_byTwo_105 : decode cX10_byTwo 105 = .ok (.iastore, 1) := by decide +kernel
theorem dX10_byTwo_106 : decode cX10_byTwo 106 = .ok (.aload_n 0, 1) := by decide +kernel
theorem dX10_byTwo_107 : decode cX10_byTwo 107 = .ok (.invokevirtual 218, 3) := by decide +kernel
theorem dX10_byTwo_110 : decode cX10_byTwo 110 = .ok (.istore 8, 2) := by decide +kernel
theorem dX10_byTwo_112 : decode cX10_byTwo 112 = .ok (.iload 8, 2) := by decide +kernel
theorem dX10_byTwo_114 : decode cX10_byTwo 114 = .ok (.iload 4, 2) := by decide +kernel
theorem dX10_byTwo_116 : decode cX10_byTwo 116 = .ok (.if_icmp .lt 22, 3) := by decide +kernel
theorem dX10_byTwo_119 : decode cX10_byTwo 119 = .ok (.iload 8, 2) := by decide +kernel
theorem dX10_byTwo_121 : decode cX10_byTwo 121 = .ok (.iload 4, 2) := by decide +kernel
theorem dX10_byTwo_123 : decode cX10_byTwo 123 = .ok (.if_icmp .ne 19, 3) := by decide +kernel
theorem dX10_byTwo_126 : decode cX10_byTwo 126 = .ok (.bipush 10, 2) := by decide +kernel
theorem dX10_byTwo_128 : decode cX10_byTwo 128 = .ok (.iload 6, 2) := by decide +kernel
theorem dX10_byTwo_130 : decode cX10_byTwo 130 = .ok (.imul, 1) := by decide +kernel
theorem dX10_byTwo_131 : decode cX10_byTwo 131 = .ok (.iload 7, 2) := by decide +kernel
theorem dX10_byTwo_133 : decode cX10_byTwo 133 = .ok (.iadd, 1) := by decide +kernel
theorem dX10_byTwo_134 : decode cX10_byTwo 134 = .ok (.iload_n 3, 1) := by decide +kernel
theorem dX10_byTwo_135 : decode cX10_byTwo 135 = .ok (.if_icmp .ge 7, 3) := by decide +kernel
theorem dX10_byTwo_138 : decode cX10_byTwo 138 = .ok (.iconst 1, 1) := by decide +kernel
theorem dX10_byTwo_139 : decode cX10_byTwo 139 = .ok (.goto 4, 3) := by decide +kernel
theorem dX10_byTwo_142 : decode cX10_byTwo 142 = .ok (.iconst 0, 1) := by decide +kernel
theorem dX10_byTwo_143 : decode cX10_byTwo 143 = .ok (.istore 9, 2) := by decide +kernel
theorem dX10_byTwo_145 : decode cX10_byTwo 145 = .ok (.iload 9, 2) := by decide +kernel
theorem dX10_byTwo_147 : decode cX10_byTwo 147 = .ok (.ifCond .eq 14, 3) := by decide +kernel
theorem dX10_byTwo_150 : decode cX10_byTwo 150 = .ok (.bipush 10, 2) := by decide +kernel
theorem dX10_byTwo_152 : decode cX10_byTwo 152 = .ok (.iload 6, 2) := by decide +kernel
theorem dX10_byTwo_154 : decode cX10_byTwo 154 = .ok (.imul, 1) := by decide +kernel
theorem dX10_byTwo_155 : decode cX10_byTwo 155 = .ok (.iload 7, 2) := by decide +kernel
theorem dX10_byTwo_157 : decode cX10_byTwo 157 = .ok (.iadd, 1) := by decide +kernel
theorem dX10_byTwo_158 : decode cX10_byTwo 158 = .ok (.goto 4, 3) := by decide +kernel
theorem dX10_byTwo_161 : decode cX10_byTwo 161 = .ok (.iload_n 3, 1) := by decide +kernel
theorem dX10_byTwo_162 : decode cX10_byTwo 162 = .ok (.istore_n 3, 1) := by decide +kernel
theorem dX10_byTwo_163 : decode cX10_byTwo 163 = .ok (.iload 9, 2) := by decide +kernel
theorem dX10_byTwo_165 : decode cX10_byTwo 165 = .ok (.ifCond .eq 8, 3) := by decide +kernel
theorem dX10_byTwo_168 : decode cX10_byTwo 168 = .ok (.iload 8, 2) := by decide +kernel
theorem dX10_byTwo_170 : decode cX10_byTwo 170 = .ok (.goto 5, 3) := by decide +kernel
theorem dX10_byTwo_173 : decode cX10_byTwo 173 = .ok (.iload 4, 2) := by decide +kernel
theorem dX10_byTwo_175 : decode cX10_byTwo 175 = .ok (.istore 4, 2) := by decide +kernel
theorem dX10_byTwo_177 : decode cX10_byTwo 177 = .ok (.iinc 7 1, 3) := by decide +kernel
theorem dX10_byTwo_180 : decode cX10_byTwo 180 = .ok (.goto (-94), 3) := by decide +kernel
theorem dX10_byTwo_183 : decode cX10_byTwo 183 = .ok (.iinc 5 1, 3) := by decide +kernel
theorem dX10_byTwo_186 : decode cX10_byTwo 186 = .ok (.goto (-140), 3) := by decide +kernel
theorem dX10_byTwo_189 : decode cX10_byTwo 189 = .ok (.aload_n 0, 1) := by decide +kernel
theorem dX10_byTwo_190 : decode cX10_byTwo 190 = .ok (.getfield 53, 3) := by decide +kernel
theorem dX10_byTwo_193 : decode cX10_byTwo 193 = .ok (.aload_n 0, 1) := by decide +kernel
theorem dX10_byTwo_194 : decode cX10_byTwo 194 = .ok (.getfield 25, 3) := by decide +kernel
theorem dX10_byTwo_197 : decode cX10_byTwo 197 = .ok (.bipush 31, 2) := by decide +kernel
theorem dX10_byTwo_199 : decode cX10_byTwo 199 = .ok (.invokestatic 157, 3) := by decide +kernel
theorem dX10_byTwo_202 : decode cX10_byTwo 202 = .ok (.iload_n 3, 1) := by decide +kernel
theorem dX10_byTwo_203 : decode cX10_byTwo 203 = .ok (.ifCond .lt 8, 3) := by decide +kernel
theorem dX10_byTwo_206 : decode cX10_byTwo 206 = .ok (.iload_n 2, 1) := by decide +kernel
theorem dX10_byTwo_207 : decode cX10_byTwo 207 = .ok (.iconst 1, 1) := by decide +kernel
theorem dX10_byTwo_208 : decode cX10_byTwo 208 = .ok (.if_icmp .ne 7, 3) := by decide +kernel
theorem dX10_byTwo_211 : decode cX10_byTwo 211 = .ok (.iload_n 3, 1) := by decide +kernel
theorem dX10_byTwo_212 : decode cX10_byTwo 212 = .ok (.goto 5, 3) := by decide +kernel
theorem dX10_byTwo_215 : decode cX10_byTwo 215 = .ok (.iload 4, 2) := by decide +kernel
theorem dX10_byTwo_217 : decode cX10_byTwo 217 = .ok (.ireturn, 1) := by decide +kernel
theorem dX10_soreBy_0 : decode cX10_soreBy 0 = .ok (.iconst 1, 1) := by decide +kernel
theorem dX10_soreBy_1 : decode cX10_soreBy 1 = .ok (.istore 4, 2) := by decide +kernel
theorem dX10_soreBy_3 : decode cX10_soreBy 3 = .ok (.iconst 1, 1) := by decide +kernel
theorem dX10_soreBy_4 : decode cX10_soreBy 4 = .ok (.istore 5, 2) := by decide +kernel
theorem dX10_soreBy_6 : decode cX10_soreBy 6 = .ok (.iload 5, 2) := by decide +kernel
theorem dX10_soreBy_8 : decode cX10_soreBy 8 = .ok (.iload_n 3, 1) := by decide +kernel
theorem dX10_soreBy_9 : decode cX10_soreBy 9 = .ok (.if_icmp .ge 16, 3) := by decide +kernel
theorem dX10_soreBy_12 : decode cX10_soreBy 12 = .ok (.iload 4, 2) := by decide +kernel
theorem dX10_soreBy_14 : decode cX10_soreBy 14 = .ok (.bipush 10, 2) := by decide +kernel
theorem dX10_soreBy_16 : decode cX10_soreBy 16 = .ok (.imul, 1) := by decide +kernel
theorem dX10_soreBy_17 : decode cX10_soreBy 17 = .ok (.istore 4, 2) := by decide +kernel
theorem dX10_soreBy_19 : decode cX10_soreBy 19 = .ok (.iinc 5 1, 3) := by decide +kernel
theorem dX10_soreBy_22 : decode cX10_soreBy 22 = .ok (.goto (-16), 3) := by decide +kernel
theorem dX10_soreBy_25 : decode cX10_soreBy 25 = .ok (.iconst 1, 1) := by decide +kernel
theorem dX10_soreBy_26 : decode cX10_soreBy 26 = .ok (.istore 5, 2) := by decide +kernel
theorem dX10_soreBy_28 : decode cX10_soreBy 28 = .ok (.iconst 0, 1) := by decide +kernel
theorem dX10_soreBy_29 : decode cX10_soreBy 29 = .ok (.istore 6, 2) := by decide +kernel
theorem dX10_soreBy_31 : decode cX10_soreBy 31 = .ok (.iload 6, 2) := by decide +kernel
theorem dX10_soreBy_33 : decode cX10_soreBy 33 = .ok (.iload_n 3, 1) := by decide +kernel
theorem dX10_soreBy_34 : decode cX10_soreBy 34 = .ok (.if_icmp .ge 74, 3) := by decide +kernel
theorem dX10_soreBy_37 : decode cX10_soreBy 37 = .ok (.iload 5, 2) := by decide +kernel
theorem dX10_soreBy_39 : decode cX10_soreBy 39 = .ok (.ifCond .eq 69, 3) := by decide +kernel
theorem dX10_soreBy_42 : decode cX10_soreBy 42 = .ok (.iload_n 2, 1) := by decide +kernel
theorem dX10_soreBy_43 : decode cX10_soreBy 43 = .ok (.iload 4, 2) := by decide +kernel
theorem dX10_soreBy_45 : decode cX10_soreBy 45 = .ok (.idiv, 1) := by decide +kernel
theorem dX10_soreBy_46 : decode cX10_soreBy 46 = .ok (.bipush 10, 2) := by decide +kernel
theorem dX10_soreBy_48 : decode cX10_soreBy 48 = .ok (.irem, 1) := by decide +kernel
theorem dX10_soreBy_49 : decode cX10_soreBy 49 = .ok (.iconst 1, 1) := by decide +kernel
theorem dX10_soreBy_50 : decode cX10_soreBy 50 = .ok (.isub, 1) := by decide +kernel
theorem dX10_soreBy_51 : decode cX10_soreBy 51 = .ok (.istore 7, 2) := by decide +kernel
theorem dX10_soreBy_53 : decode cX10_soreBy 53 = .ok (.iload 4, 2) := by decide +kernel
theorem dX10_soreBy_55 : decode cX10_soreBy 55 = .ok (.bipush 10, 2) := by decide +kernel
theorem dX10_soreBy_57 : decode cX10_soreBy 57 = .ok (.idiv, 1) := by decide +kernel
theorem dX10_soreBy_58 : decode cX10_soreBy 58 = .ok (.istore 4, 2) := by decide +kernel
theorem dX10_soreBy_60 : decode cX10_soreBy 60 = .ok (.aload_n 0, 1) := by decide +kernel
theorem dX10_soreBy_61 : decode cX10_soreBy 61 = .ok (.iload 7, 2) := by decide +kernel
theorem dX10_soreBy_63 : decode cX10_soreBy 63 = .ok (.invokevirtual 233, 3) := by decide +kernel
theorem dX10_soreBy_66 : decode cX10_soreBy 66 = .ok (.ifCond .eq 17, 3) := by decide +kernel
theorem dX10_soreBy_69 : decode cX10_soreBy 69 = .ok (.aload_n 0, 1) := by decide +kernel
theorem dX10_soreBy_70 : decode cX10_soreBy 70 = .ok (.iload 7, 2) := by decide +kernel
theorem dX10_soreBy_72 : decode cX10_soreBy 72 = .ok (.iload_n 1, 1) := by decide +kernel
theorem dX10_soreBy_73 : decode cX10_soreBy 73 = .ok (.invokevirtual 180, 3) := by decide +kernel
theorem dX10_soreBy_76 : decode cX10_soreBy 76 = .ok (.ifCond .eq 7, 3) := by decide +kernel
theorem dX10_soreBy_79 : decode cX10_soreBy 79 = .ok (.iconst 1, 1) := by decide +kernel
theorem dX10_soreBy_80 : decode cX10_soreBy 80 = .ok (.goto 4, 3) := by decide +kernel
theorem dX10_soreBy_83 : decode cX10_soreBy 83 = .ok (.iconst 0, 1) := by decide +kernel
theorem dX10_soreBy_84 : decode cX10_soreBy 84 = .ok (.istore 5, 2) := by decide +kernel
theorem dX10_soreBy_86 : decode cX10_soreBy 86 = .ok (.iload 5, 2) := by decide +kernel
theorem dX10_soreBy_88 : decode cX10_soreBy 88 = .ok (.ifCond .eq 14, 3) := by decide +kernel
theorem dX10_soreBy_91 : decode cX10_soreBy 91 = .ok (.aload_n 0, 1) := by decide +kernel
theorem dX10_soreBy_92 : decode cX10_soreBy 92 = .ok (.iload 7, 2) := by decide +kernel
theorem dX10_soreBy_94 : decode cX10_soreBy 94 = .ok (.iload_n 1, 1) := by decide +kernel
theorem dX10_soreBy_95 : decode cX10_soreBy 95 = .ok (.invokevirtual 264, 3) := by decide +kernel
theorem dX10_soreBy_98 : decode cX10_soreBy 98 = .ok (.aload_n 0, 1) := by decide +kernel
theorem dX10_soreBy_99 : decode cX10_soreBy 99 = .ok (.invokevirtual 258, 3) := by decide +kernel
theorem dX10_soreBy_102 : decode cX10_soreBy 102 = .ok (.iinc 6 1, 3) := by decide +kernel
theorem dX10_soreBy_105 : decode cX10_soreBy 105 = .ok (.goto (-74), 3) := by decide +kernel
theorem dX10_soreBy_108 : decode cX10_soreBy 108 = .ok (.iload 5, 2) := by decide +kernel
theorem dX10_soreBy_110 : decode cX10_soreBy 110 = .ok (.ifCond .eq 15, 3) := by decide +kernel
theorem dX10_soreBy_113 : decode cX10_soreBy 113 = .ok (.aload_n 0, 1) := by decide +kernel
theorem dX10_soreBy_114 : decode cX10_soreBy 114 = .ok (.getfield 25, 3) := by decide +kernel
theorem dX10_soreBy_117 : decode cX10_soreBy 117 = .ok (.bipush 24, 2) := by decide +kernel
theorem dX10_soreBy_119 : decode cX10_soreBy 119 = .ok (.iload_n 1, 1) := by decide +kernel
theorem dX10_soreBy_120 : decode cX10_soreBy 120 = .ok (.iadd, 1) := by decide +kernel
theorem dX10_soreBy_121 : decode cX10_soreBy 121 = .ok (.iaload, 1) := by decide +kernel
theorem dX10_soreBy_122 : decode cX10_soreBy 122 = .ok (.goto 5, 3) := by decide +kernel
theorem dX10_soreBy_125 : decode cX10_soreBy 125 = .ok (.ldc 211, 2) := by decide +kernel
theorem dX10_soreBy_127 : decode cX10_soreBy 127 = .ok (.ireturn, 1) := by decide +kernel
theorem dX10_order_0 : decode cX10_order 0 = .ok (.aload_n 0, 1) := by decide +kernel
theorem dX10_order_1 : decode cX10_order 1 = .ok (.iload_n 1, 1) := by decide +kernel
theorem dX10_order_2 : decode cX10_order 2 = .ok (.invokevirtual 237, 3) := by decide +kernel
theorem dX10_order_5 : decode cX10_order 5 = .ok (.ifCond .ne 6, 3) := by decide +kernel
theorem dX10_order_8 : decode cX10_order 8 = .ok (.ldc 236, 2) := by decide +kernel
theorem dX10_order_10 : decode cX10_order 10 = .ok (.ireturn, 1) := by decide +kernel
theorem dX10_order_11 : decode cX10_order 11 = .ok (.iload_n 2, 1) := by decide +kernel
theorem dX10_order_12 : decode cX10_order 12 = .ok (.i2l, 1) := by decide +kernel
theorem dX10_order_13 : decode cX10_order 13 = .ok (.lconst 0, 1) := by decide +kernel
theorem dX10_order_14 : decode cX10_order 14 = .ok (.lconst 1, 1) := by decide +kernel
theorem dX10_order_15 : decode cX10_order 15 = .ok (.invokestatic 91, 3) := by decide +kernel
theorem dX10_order_18 : decode cX10_order 18 = .ok (.ifCond .ne 6, 3) := by decide +kernel
theorem dX10_order_21 : decode cX10_order 21 = .ok (.ldc 100, 2) := by decide +kernel
theorem dX10_order_23 : decode cX10_order 23 = .ok (.ireturn, 1) := by decide +kernel
theorem dX10_order_24 : decode cX10_order 24 = .ok (.aload_n 0, 1) := by decide +kernel
theorem dX10_order_25 : decode cX10_order 25 = .ok (.iload_n 1, 1) := by decide +kernel
theorem dX10_order_26 : decode cX10_order 26 = .ok (.invokevirtual 240, 3) := by decide +kernel
theorem dX10_order_29 : decode cX10_order 29 = .ok (.istore_n 3, 1) := by decide +kernel
theorem dX10_order_30 : decode cX10_order 30 = .ok (.iconst 0, 1) := by decide +kernel
theorem dX10_order_31 : decode cX10_order 31 = .ok (.istore 4, 2) := by decide +kernel
theorem dX10_order_33 : decode cX10_order 33 = .ok (.iconst 1, 1) := by decide +kernel
theorem dX10_order_34 : decode cX10_order 34 = .ok (.istore 5, 2) := by decide +kernel
theorem dX10_order_36 : decode cX10_order 36 = .ok (.iconst 0, 1) := by decide +kernel
theorem dX10_order_37 : decode cX10_order 37 = .ok (.istore 6, 2) := by decide +kernel
theorem dX10_order_39 : decode cX10_order 39 = .ok (.iload 6, 2) := by decide +kernel
theorem dX10_order_41 : decode cX10_order 41 = .ok (.aload_n 0, 1) := by decide +kernel
theorem dX10_order_42 : decode cX10_order 42 = .ok (.getfield 88, 3) := by decide +kernel
theorem dX10_order_45 : decode cX10_order 45 = .ok (.if_icmp .ge 41, 3) := by decide +kernel
theorem dX10_order_48 : decode cX10_order 48 = .ok (.iload 4, 2) := by decide +kernel
theorem dX10_order_50 : decode cX10_order 50 = .ok (.iload_n 3, 1) := by decide +kernel
theorem dX10_order_51 : decode cX10_order 51 = .ok (.iload 6, 2) := by decide +kernel
theorem dX10_order_53 : decode cX10_order 53 = .ok (.ishr, 1) := by decide +kernel
theorem dX10_order_54 : decode cX10_order 54 = .ok (.iconst 1, 1) := by decide +kernel
theorem dX10_order_55 : decode cX10_order 55 = .ok (.iand, 1) := by decide +kernel
theorem dX10_order_56 : decode cX10_order 56 = .ok (.iadd, 1) := by decide +kernel
theorem dX10_order_57 : decode cX10_order 57 = .ok (.istore 4, 2) := by decide +kernel
theorem dX10_order_59 : decode cX10_order 59 = .ok (.iload 5, 2) := by decide +kernel
theorem dX10_order_61 : decode cX10_order 61 = .ok (.iload_n 3, 1) := by decide +kernel
theorem dX10_order_62 : decode cX10_order 62 = .ok (.iload 6, 2) := by decide +kernel
theorem dX10_order_64 : decode cX10_order 64 = .ok (.ishr, 1) := by decide +kernel
theorem dX10_order_65 : decode cX10_order 65 = .ok (.iconst 1, 1) := by decide +kernel
theorem dX10_order_66 : decode cX10_order 66 = .ok (.iand, 1) := by decide +kernel
theorem dX10_order_67 : decode cX10_order 67 = .ok (.iconst 1, 1) := by decide +kernel
theorem dX10_order_68 : decode cX10_order 68 = .ok (.if_icmp .ne 8, 3) := by decide +kernel
theorem dX10_order_71 : decode cX10_order 71 = .ok (.bipush 10, 2) := by decide +kernel
theorem dX10_order_73 : decode cX10_order 73 = .ok (.goto 4, 3) := by decide +kernel
theorem dX10_order_76 : decode cX10_order 76 = .ok (.iconst 1, 1) := by decide +kernel
theorem dX10_order_77 : decode cX10_order 77 = .ok (.imul, 1) := by decide +kernel
theorem dX10_order_78 : decode cX10_order 78 = .ok (.istore 5, 2) := by decide +kernel
theorem dX10_order_80 : decode cX10_order 80 = .ok (.iinc 6 1, 3) := by decide +kernel
theorem dX10_order_83 : decode cX10_order 83 = .ok (.goto (-44), 3) := by decide +kernel
theorem dX10_order_86 : decode cX10_order 86 = .ok (.aload_n 0, 1) := by decide +kernel
theorem dX10_order_87 : decode cX10_order 87 = .ok (.getfield 25, 3) := by decide +kernel
theorem dX10_order_90 : decode cX10_order 90 = .ok (.aload_n 0, 1) := by decide +kernel
theorem dX10_order_91 : decode cX10_order 91 = .ok (.getfield 53, 3) := by decide +kernel
theorem dX10_order_94 : decode cX10_order 94 = .ok (.bipush 31, 2) := by decide +kernel
theorem dX10_order_96 : decode cX10_order 96 = .ok (.invokestatic 157, 3) := by decide +kernel
theorem dX10_order_99 : decode cX10_order 99 = .ok (.iconst 0, 1) := by decide +kernel
theorem dX10_order_100 : decode cX10_order 100 = .ok (.istore 6, 2) := by decide +kernel
theorem dX10_order_102 : decode cX10_order 102 = .ok (.ldc 211, 2) := by decide +kernel
theorem dX10_order_104 : decode cX10_order 104 = .ok (.istore 7, 2) := by decide +kernel
theorem dX10_order_106 : decode cX10_order 106 = .ok (.iconst 0, 1) := by decide +kernel
theorem dX10_order_107 : decode cX10_order 107 = .ok (.istore 8, 2) := by decide +kernel
theorem dX10_order_109 : decode cX10_order 109 = .ok (.iload 8, 2) := by decide +kernel
theorem dX10_order_111 : decode cX10_order 111 = .ok (.iload 5, 2) := by decide +kernel
theorem dX10_order_113 : decode cX10_order 113 = .ok (.if_icmp .ge 65, 3) := by decide +kernel
theorem dX10_order_116 : decode cX10_order 116 = .ok (.aload_n 0, 1) := by decide +kernel
theorem dX10_order_117 : decode cX10_order 117 = .ok (.iload_n 1, 1) := by decide +kernel
theorem dX10_order_118 : decode cX10_order 118 = .ok (.iload 8, 2) := by decide +kernel
theorem dX10_order_120 : decode cX10_order 120 = .ok (.iload 4, 2) := by decide +kernel
theorem dX10_order_122 : decode cX10_order 122 = .ok (.invokevirtual 306, 3) := by decide +kernel
theorem dX10_order_125 : decode cX10_order 125 = .ok (.istore 9, 2) := by decide +kernel
theorem dX10_order_127 : decode cX10_order 127 = .ok (.iload 9, 2) := by decide +kernel
theorem dX10_order_129 : decode cX10_order 129 = .ok (.iload 7, 2) := by decide +kernel
theorem dX10_order_131 : decode cX10_order 131 = .ok (.if_icmp .ge 8, 3) := by decide +kernel
theorem dX10_order_134 : decode cX10_order 134 = .ok (.iload 8, 2) := by decide +kernel
theorem dX10_order_136 : decode cX10_order 136 = .ok (.goto 5, 3) := by decide +kernel
theorem dX10_order_139 : decode cX10_order 139 = .ok (.iload 6, 2) := by decide +kernel
theorem dX10_order_141 : decode cX10_order 141 = .ok (.istore 6, 2) := by decide +kernel
theorem dX10_order_143 : decode cX10_order 143 = .ok (.iload 9, 2) := by decide +kernel
theorem dX10_order_145 : decode cX10_order 145 = .ok (.iload 7, 2) := by decide +kernel
theorem dX10_order_147 : decode cX10_order 147 = .ok (.if_icmp .ge 8, 3) := by decide +kernel
theorem dX10_order_150 : decode cX10_order 150 = .ok (.iload 9, 2) := by decide +kernel
theorem dX10_order_152 : decode cX10_order 152 = .ok (.goto 5, 3) := by decide +kernel
theorem dX10_order_155 : decode cX10_order 155 = .ok (.iload 7, 2) := by decide +kernel
theorem dX10_order_157 : decode cX10_order 157 = .ok (.istore 7, 2) := by decide +kernel
theorem dX10_order_159 : decode cX10_order 159 = .ok (.aload_n 0, 1) := by decide +kernel
theorem dX10_order_160 : decode cX10_order 160 = .ok (.getfield 53, 3) := by decide +kernel
theorem dX10_order_163 : decode cX10_order 163 = .ok (.aload_n 0, 1) := by decide +kernel
theorem dX10_order_164 : decode cX10_order 164 = .ok (.getfield 25, 3) := by decide +kernel
theorem dX10_order_167 : decode cX10_order 167 = .ok (.bipush 31, 2) := by decide +kernel
theorem dX10_order_169 : decode cX10_order 169 = .ok (.invokestatic 157, 3) := by decide +kernel
theorem dX10_order_172 : decode cX10_order 172 = .ok (.iinc 8 1, 3) := by decide +kernel
theorem dX10_order_175 : decode cX10_order 175 = .ok (.goto (-66), 3) := by decide +kernel
theorem dX10_order_178 : decode cX10_order 178 = .ok (.iload_n 2, 1) := by decide +kernel
theorem dX10_order_179 : decode cX10_order 179 = .ok (.ifCond .ne 8, 3) := by decide +kernel
theorem dX10_order_182 : decode cX10_order 182 = .ok (.iload 7, 2) := by decide +kernel
theorem dX10_order_184 : decode cX10_order 184 = .ok (.goto 5, 3) := by decide +kernel
theorem dX10_order_187 : decode cX10_order 187 = .ok (.iload 6, 2) := by decide +kernel
theorem dX10_order_189 : decode cX10_order 189 = .ok (.ireturn, 1) := by decide +kernel
theorem dX10_could_0 : decode cX10_could 0 = .ok (.aload_n 0, 1) := by decide +kernel
theorem dX10_could_1 : decode cX10_could 1 = .ok (.iload_n 1, 1) := by decide +kernel
theorem dX10_could_2 : decode cX10_could 2 = .ok (.invokevirtual 233, 3) := by decide +kernel
theorem dX10_could_5 : decode cX10_could 5 = .ok (.ifCond .ne 6, 3) := by decide +kernel
theorem dX10_could_8 : decode cX10_could 8 = .ok (.ldc 236, 2) := by decide +kernel
theorem dX10_could_10 : decode cX10_could 10 = .ok (.ireturn, 1) := by decide +kernel
theorem dX10_could_11 : decode cX10_could 11 = .ok (.aload_n 0, 1) := by decide +kernel
theorem dX10_could_12 : decode cX10_could 12 = .ok (.getfield 25, 3) := by decide +kernel
theorem dX10_could_15 : decode cX10_could 15 = .ok (.bipush 12, 2) := by decide +kernel
theorem dX10_could_17 : decode cX10_could 17 = .ok (.iload_n 1, 1) := by decide +kernel
theorem dX10_could_18 : decode cX10_could 18 = .ok (.iadd, 1) := by decide +kernel
theorem dX10_could_19 : decode cX10_could 19 = .ok (.iaload, 1) := by decide +kernel
theorem dX10_could_20 : decode cX10_could 20 = .ok (.iconst (-1), 1) := by decide +kernel
theorem dX10_could_21 : decode cX10_could 21 = .ok (.if_icmp .eq 6, 3) := by decide +kernel
theorem dX10_could_24 : decode cX10_could 24 = .ok (.ldc 251, 2) := by decide +kernel
theorem dX10_could_26 : decode cX10_could 26 = .ok (.ireturn, 1) := by decide +kernel
theorem dX10_could_27 : decode cX10_could 27 = .ok (.iconst 0, 1) := by decide +kernel
theorem dX10_could_28 : decode cX10_could 28 = .ok (.istore_n 2, 1) := by decide +kernel
theorem dX10_could_29 : decode cX10_could 29 = .ok (.iconst 0, 1) := by decide +kernel
theorem dX10_could_30 : decode cX10_could 30 = .ok (.istore_n 3, 1) := by decide +kernel
theorem dX10_could_31 : decode cX10_could 31 = .ok (.iload_n 3, 1) := by decide +kernel
theorem dX10_could_32 : decode cX10_could 32 = .ok (.aload_n 0, 1) := by decide +kernel
theorem dX10_could_33 : decode cX10_could 33 = .ok (.getfield 95, 3) := by decide +kernel
theorem dX10_could_36 : decode cX10_could 36 = .ok (.if_icmp .ge 56, 3) := by decide +kernel
theorem dX10_could_39 : decode cX10_could 39 = .ok (.aload_n 0, 1) := by decide +kernel
theorem dX10_could_40 : decode cX10_could 40 = .ok (.iload_n 3, 1) := by decide +kernel
theorem dX10_could_41 : decode cX10_could 41 = .ok (.invokevirtual 208, 3) := by decide +kernel
theorem dX10_could_44 : decode cX10_could 44 = .ok (.istore 4, 2) := by decide +kernel
theorem dX10_could_46 : decode cX10_could 46 = .ok (.aload_n 0, 1) := by decide +kernel
theorem dX10_could_47 : decode cX10_could 47 = .ok (.getfield 25, 3) := by decide +kernel
theorem dX10_could_50 : decode cX10_could 50 = .ok (.bipush 12, 2) := by decide +kernel
theorem dX10_could_52 : decode cX10_could 52 = .ok (.iload_n 1, 1) := by decide +kernel
theorem dX10_could_53 : decode cX10_could 53 = .ok (.iadd, 1) := by decide +kernel
theorem dX10_could_54 : decode cX10_could 54 = .ok (.iload_n 3, 1) := by decide +kernel
theorem dX10_could_55 : decode cX10_could 55 = .ok (.iastore, 1) := by decide +kernel
theorem dX10_could_56 : decode cX10_could 56 = .ok (.iload_n 2, 1) := by decide +kernel
theorem dX10_could_57 : decode cX10_could 57 = .ok (.aload_n 0, 1) := by decide +kernel
theorem dX10_could_58 : decode cX10_could 58 = .ok (.iload_n 3, 1) := by decide +kernel
theorem dX10_could_59 : decode cX10_could 59 = .ok (.invokevirtual 208, 3) := by decide +kernel
theorem dX10_could_62 : decode cX10_could 62 = .ok (.iload 4, 2) := by decide +kernel
theorem dX10_could_64 : decode cX10_could 64 = .ok (.if_icmp .gt 9, 3) := by decide +kernel
theorem dX10_could_67 : decode cX10_could 67 = .ok (.iconst 1, 1) := by decide +kernel
theorem dX10_could_68 : decode cX10_could 68 = .ok (.iload_n 3, 1) := by decide +kernel
theorem dX10_could_69 : decode cX10_could 69 = .ok (.ishl, 1) := by decide +kernel
theorem dX10_could_70 : decode cX10_could 70 = .ok (.goto 4, 3) := by decide +kernel
theorem dX10_could_73 : decode cX10_could 73 = .ok (.iconst 0, 1) := by decide +kernel
theorem dX10_could_74 : decode cX10_could 74 = .ok (.ior, 1) := by decide +kernel
theorem dX10_could_75 : decode cX10_could 75 = .ok (.istore_n 2, 1) := by decide +kernel
theorem dX10_could_76 : decode cX10_could 76 = .ok (.aload_n 0, 1) := by decide +kernel
theorem dX10_could_77 : decode cX10_could 77 = .ok (.getfield 25, 3) := by decide +kernel
theorem dX10_could_80 : decode cX10_could 80 = .ok (.bipush 12, 2) := by decide +kernel
theorem dX10_could_82 : decode cX10_could 82 = .ok (.iload_n 1, 1) := by decide +kernel
theorem dX10_could_83 : decode cX10_could 83 = .ok (.iadd, 1) := by decide +kernel
theorem dX10_could_84 : decode cX10_could 84 = .ok (.iconst (-1), 1) := by decide +kernel
theorem dX10_could_85 : decode cX10_could 85 = .ok (.iastore, 1) := by decide +kernel
theorem dX10_could_86 : decode cX10_could 86 = .ok (.iinc 3 1, 3) := by decide +kernel
theorem dX10_could_89 : decode cX10_could 89 = .ok (.goto (-58), 3) := by decide +kernel
theorem dX10_could_92 : decode cX10_could 92 = .ok (.iload_n 2, 1) := by decide +kernel
theorem dX10_could_93 : decode cX10_could 93 = .ok (.ireturn, 1) := by decide +kernel
theorem dX10_shareOf_0 : decode cX10_shareOf 0 = .ok (.aload_n 0, 1) := by decide +kernel
theorem dX10_shareOf_1 : decode cX10_shareOf 1 = .ok (.iload_n 1, 1) := by decide +kernel
theorem dX10_shareOf_2 : decode cX10_shareOf 2 = .ok (.invokevirtual 233, 3) := by decide +kernel
theorem dX10_shareOf_5 : decode cX10_shareOf 5 = .ok (.ifCond .eq 24, 3) := by decide +kernel
theorem dX10_shareOf_8 : decode cX10_shareOf 8 = .ok (.aload_n 0, 1) := by decide +kernel
theorem dX10_shareOf_9 : decode cX10_shareOf 9 = .ok (.iload_n 2, 1) := by decide +kernel
theorem dX10_shareOf_10 : decode cX10_shareOf 10 = .ok (.invokevirtual 237, 3) := by decide +kernel
theorem dX10_shareOf_13 : decode cX10_shareOf 13 = .ok (.ifCond .eq 16, 3) := by decide +kernel
theorem dX10_shareOf_16 : decode cX10_shareOf 16 = .ok (.aload_n 0, 1) := by decide +kernel
theorem dX10_shareOf_17 : decode cX10_shareOf 17 = .ok (.iload_n 3, 1) := by decide +kernel
theorem dX10_shareOf_18 : decode cX10_shareOf 18 = .ok (.invokevirtual 237, 3) := by decide +kernel
theorem dX10_shareOf_21 : decode cX10_shareOf 21 = .ok (.ifCond .eq 8, 3) := by decide +kernel
theorem dX10_shareOf_24 : decode cX10_shareOf 24 = .ok (.iload_n 2, 1) := by decide +kernel
theorem dX10_shareOf_25 : decode cX10_shareOf 25 = .ok (.iload_n 3, 1) := by decide +kernel
theorem dX10_shareOf_26 : decode cX10_shareOf 26 = .ok (.if_icmp .ne 6, 3) := by decide +kernel
theorem dX10_shareOf_29 : decode cX10_shareOf 29 = .ok (.ldc 236, 2) := by decide +kernel
theorem dX10_shareOf_31 : decode cX10_shareOf 31 = .ok (.ireturn, 1) := by decide +kernel
theorem dX10_shareOf_32 : decode cX10_shareOf 32 = .ok (.aload_n 0, 1) := by decide +kernel
theorem dX10_shareOf_33 : decode cX10_shareOf 33 = .ok (.getfield 25, 3) := by decide +kernel
theorem dX10_shareOf_36 : decode cX10_shareOf 36 = .ok (.iload_n 1, 1) := by decide +kernel
theorem dX10_shareOf_37 : decode cX10_shareOf 37 = .ok (.iaload, 1) := by decide +kernel
theorem dX10_shareOf_38 : decode cX10_shareOf 38 = .ok (.aload_n 0, 1) := by decide +kernel
theorem dX10_shareOf_39 : decode cX10_shareOf 39 = .ok (.getfield 25, 3) := by decide +kernel
theorem dX10_shareOf_42 : decode cX10_shareOf 42 = .ok (.iload_n 1, 1) := by decide +kernel
theorem dX10_shareOf_43 : decode cX10_shareOf 43 = .ok (.iaload, 1) := by decide +kernel
theorem dX10_shareOf_44 : decode cX10_shareOf 44 = .ok (.aload_n 0, 1) := by decide +kernel
theorem dX10_shareOf_45 : decode cX10_shareOf 45 = .ok (.getfield 19, 3) := by decide +kernel
theorem dX10_shareOf_48 : decode cX10_shareOf 48 = .ok (.iload_n 3, 1) := by decide +kernel
theorem dX10_shareOf_49 : decode cX10_shareOf 49 = .ok (.iaload, 1) := by decide +kernel
theorem dX10_shareOf_50 : decode cX10_shareOf 50 = .ok (.imul, 1) := by decide +kernel
theorem dX10_shareOf_51 : decode cX10_shareOf 51 = .ok (.aload_n 0, 1) := by decide +kernel
theorem dX10_shareOf_52 : decode cX10_shareOf 52 = .ok (.getfield 19, 3) := by decide +kernel
theorem dX10_shareOf_55 : decode cX10_shareOf 55 = .ok (.iload_n 2, 1) := by decide +kernel
theorem dX10_shareOf_56 : decode cX10_shareOf 56 = .ok (.iaload, 1) := by decide +kernel
theorem dX10_shareOf_57 : decode cX10_shareOf 57 = .ok (.aload_n 0, 1) := by decide +kernel
theorem dX10_shareOf_58 : decode cX10_shareOf 58 = .ok (.getfield 19, 3) := by decide +kernel
theorem dX10_shareOf_61 : decode cX10_shareOf 61 = .ok (.iload_n 3, 1) := by decide +kernel
theorem dX10_shareOf_62 : decode cX10_shareOf 62 = .ok (.iaload, 1) := by decide +kernel
theorem dX10_shareOf_63 : decode cX10_shareOf 63 = .ok (.iadd, 1) := by decide +kernel
theorem dX10_shareOf_64 : decode cX10_shareOf 64 = .ok (.idiv, 1) := by decide +kernel
theorem dX10_shareOf_65 : decode cX10_shareOf 65 = .ok (.isub, 1) := by decide +kernel
theorem dX10_shareOf_66 : decode cX10_shareOf 66 = .ok (.ireturn, 1) := by decide +kernel
theorem dX10_fair_0 : decode cX10_fair 0 = .ok (.iload_n 1, 1) := by decide +kernel
theorem dX10_fair_1 : decode cX10_fair 1 = .ok (.i2l, 1) := by decide +kernel
theorem dX10_fair_2 : decode cX10_fair 2 = .ok (.lconst 0, 1) := by decide +kernel
theorem dX10_fair_3 : decode cX10_fair 3 = .ok (.ldc2_w 249, 3) := by decide +kernel
theorem dX10_fair_6 : decode cX10_fair 6 = .ok (.invokestatic 91, 3) := by decide +kernel
theorem dX10_fair_9 : decode cX10_fair 9 = .ok (.ifCond .eq 15, 3) := by decide +kernel
theorem dX10_fair_12 : decode cX10_fair 12 = .ok (.iload_n 2, 1) := by decide +kernel
theorem dX10_fair_13 : decode cX10_fair 13 = .ok (.i2l, 1) := by decide +kernel
theorem dX10_fair_14 : decode cX10_fair 14 = .ok (.lconst 0, 1) := by decide +kernel
theorem dX10_fair_15 : decode cX10_fair 15 = .ok (.ldc2_w 310, 3) := by decide +kernel
theorem dX10_fair_18 : decode cX10_fair 18 = .ok (.invokestatic 91, 3) := by decide +kernel
theorem dX10_fair_21 : decode cX10_fair 21 = .ok (.ifCond .ne 6, 3) := by decide +kernel
theorem dX10_fair_24 : decode cX10_fair 24 = .ok (.ldc 100, 2) := by decide +kernel
theorem dX10_fair_26 : decode cX10_fair 26 = .ok (.ireturn, 1) := by decide +kernel
theorem dX10_fair_27 : decode cX10_fair 27 = .ok (.ldc2_w 312, 3) := by decide +kernel
theorem dX10_fair_30 : decode cX10_fair 30 = .ok (.lstore_n 3, 1) := by decide +kernel
theorem dX10_fair_31 : decode cX10_fair 31 = .ok (.iconst 0, 1) := by decide +kernel
theorem dX10_fair_32 : decode cX10_fair 32 = .ok (.istore 5, 2) := by decide +kernel
theorem dX10_fair_34 : decode cX10_fair 34 = .ok (.iload 5, 2) := by decide +kernel
theorem dX10_fair_36 : decode cX10_fair 36 = .ok (.iload_n 1, 1) := by decide +kernel
theorem dX10_fair_37 : decode cX10_fair 37 = .ok (.if_icmp .ge 18, 3) := by decide +kernel
theorem dX10_fair_40 : decode cX10_fair 40 = .ok (.lload_n 3, 1) := by decide +kernel
theorem dX10_fair_41 : decode cX10_fair 41 = .ok (.iload_n 2, 1) := by decide +kernel
theorem dX10_fair_42 : decode cX10_fair 42 = .ok (.i2l, 1) := by decide +kernel
theorem dX10_fair_43 : decode cX10_fair 43 = .ok (.lmul, 1) := by decide +kernel
theorem dX10_fair_44 : decode cX10_fair 44 = .ok (.ldc2_w 310, 3) := by decide +kernel
theorem dX10_fair_47 : decode cX10_fair 47 = .ok (.ldiv, 1) := by decide +kernel
theorem dX10_fair_48 : decode cX10_fair 48 = .ok (.lstore_n 3, 1) := by decide +kernel
theorem dX10_fair_49 : decode cX10_fair 49 = .ok (.iinc 5 1, 3) := by decide +kernel
theorem dX10_fair_52 : decode cX10_fair 52 = .ok (.goto (-18), 3) := by decide +kernel
theorem dX10_fair_55 : decode cX10_fair 55 = .ok (.lload_n 3, 1) := by decide +kernel
theorem dX10_fair_56 : decode cX10_fair 56 = .ok (.l2i, 1) := by decide +kernel
theorem dX10_fair_57 : decode cX10_fair 57 = .ok (.ireturn, 1) := by decide +kernel
theorem dX10_feel_0 : decode cX10_feel 0 = .ok (.iload_n 1, 1) := by decide +kernel
theorem dX10_feel_1 : decode cX10_feel 1 = .ok (.i2l, 1) := by decide +kernel
theorem dX10_feel_2 : decode cX10_feel 2 = .ok (.lconst 1, 1) := by decide +kernel
theorem dX10_feel_3 : decode cX10_feel 3 = .ok (.ldc2_w 314, 3) := by decide +kernel
theorem dX10_feel_6 : decode cX10_feel 6 = .ok (.invokestatic 91, 3) := by decide +kernel
theorem dX10_feel_9 : decode cX10_feel 9 = .ok (.ifCond .eq 27, 3) := by decide +kernel
theorem dX10_feel_12 : decode cX10_feel 12 = .ok (.iload_n 2, 1) := by decide +kernel
theorem dX10_feel_13 : decode cX10_feel 13 = .ok (.i2l, 1) := by decide +kernel
theorem dX10_feel_14 : decode cX10_feel 14 = .ok (.lconst 0, 1) := by decide +kernel
theorem dX10_feel_15 : decode cX10_feel 15 = .ok (.ldc2_w 270, 3) := by decide +kernel
theorem dX10_feel_18 : decode cX10_feel 18 = .ok (.invokestatic 91, 3) := by decide +kernel
theorem dX10_feel_21 : decode cX10_feel 21 = .ok (.ifCond .eq 15, 3) := by decide +kernel
theorem dX10_feel_24 : decode cX10_feel 24 = .ok (.iload_n 3, 1) := by decide +kernel
theorem dX10_feel_25 : decode cX10_feel 25 = .ok (.i2l, 1) := by decide +kernel
theorem dX10_feel_26 : decode cX10_feel 26 = .ok (.lconst 0, 1) := by decide +kernel
theorem dX10_feel_27 : decode cX10_feel 27 = .ok (.ldc2_w 314, 3) := by decide +kernel
theorem dX10_feel_30 : decode cX10_feel 30 = .ok (.invokestatic 91, 3) := by decide +kernel
theorem dX10_feel_33 : decode cX10_feel 33 = .ok (.ifCond .ne 6, 3) := by decide +kernel
theorem dX10_feel_36 : decode cX10_feel 36 = .ok (.ldc 100, 2) := by decide +kernel
theorem dX10_feel_38 : decode cX10_feel 38 = .ok (.ireturn, 1) := by decide +kernel
theorem dX10_feel_39 : decode cX10_feel 39 = .ok (.aload_n 0, 1) := by decide +kernel
theorem dX10_feel_40 : decode cX10_feel 40 = .ok (.getfield 171, 3) := by decide +kernel
theorem dX10_feel_43 : decode cX10_feel 43 = .ok (.bipush 6, 2) := by decide +kernel
theorem dX10_feel_45 : decode cX10_feel 45 = .ok (.if_icmp .ne 6, 3) := by decide +kernel
theorem dX10_feel_48 : decode cX10_feel 48 = .ok (.ldc 104, 2) := by decide +kernel
theorem dX10_feel_50 : decode cX10_feel 50 = .ok (.ireturn, 1) := by decide +kernel
theorem dX10_feel_51 : decode cX10_feel 51 = .ok (.aload_n 0, 1) := by decide +kernel
theorem dX10_feel_52 : decode cX10_feel 52 = .ok (.getfield 59, 3) := by decide +kernel
theorem dX10_feel_55 : decode cX10_feel 55 = .ok (.aload_n 0, 1) := by decide +kernel
theorem dX10_feel_56 : decode cX10_feel 56 = .ok (.getfield 171, 3) := by decide +kernel
theorem dX10_feel_59 : decode cX10_feel 59 = .ok (.iload_n 1, 1) := by decide +kernel
theorem dX10_feel_60 : decode cX10_feel 60 = .ok (.iastore, 1) := by decide +kernel
theorem dX10_feel_61 : decode cX10_feel 61 = .ok (.aload_n 0, 1) := by decide +kernel
theorem dX10_feel_62 : decode cX10_feel 62 = .ok (.getfield 62, 3) := by decide +kernel
theorem dX10_feel_65 : decode cX10_feel 65 = .ok (.aload_n 0, 1) := by decide +kernel
theorem dX10_feel_66 : decode cX10_feel 66 = .ok (.getfield 171, 3) := by decide +kernel
theorem dX10_feel_69 : decode cX10_feel 69 = .ok (.iload_n 2, 1) := by decide +kernel
theorem dX10_feel_70 : decode cX10_feel 70 = .ok (.iastore, 1) := by decide +kernel
theorem dX10_feel_71 : decode cX10_feel 71 = .ok (.aload_n 0, 1) := by decide +kernel
theorem dX10_feel_72 : decode cX10_feel 72 = .ok (.getfield 65, 3) := by decide +kernel
theorem dX10_feel_75 : decode cX10_feel 75 = .ok (.aload_n 0, 1) := by decide +kernel
theorem dX10_feel_76 : decode cX10_feel 76 = .ok (.getfield 171, 3) := by decide +kernel
theorem dX10_feel_79 : decode cX10_feel 79 = .ok (.iload_n 3, 1) := by decide +kernel
theorem dX10_feel_80 : decode cX10_feel 80 = .ok (.iastore, 1) := by decide +kernel
theorem dX10_feel_81 : decode cX10_feel 81 = .ok (.aload_n 0, 1) := by decide +kernel
theorem dX10_feel_82 : decode cX10_feel 82 = .ok (.dup, 1) := by decide +kernel
theorem dX10_feel_83 : decode cX10_feel 83 = .ok (.getfield 171, 3) := by decide +kernel
theorem dX10_feel_86 : decode cX10_feel 86 = .ok (.iconst 1, 1) := by decide +kernel
theorem dX10_feel_87 : decode cX10_feel 87 = .ok (.iadd, 1) := by decide +kernel
theorem dX10_feel_88 : decode cX10_feel 88 = .ok (.putfield 171, 3) := by decide +kernel
theorem dX10_feel_91 : decode cX10_feel 91 = .ok (.aload_n 0, 1) := by decide +kernel
theorem dX10_feel_92 : decode cX10_feel 92 = .ok (.getfield 171, 3) := by decide +kernel
theorem dX10_feel_95 : decode cX10_feel 95 = .ok (.ireturn, 1) := by decide +kernel
theorem dX10_gallsBy_0 : decode cX10_gallsBy 0 = .ok (.iload_n 0, 1) := by decide +kernel
theorem dX10_gallsBy_1 : decode cX10_gallsBy 1 = .ok (.bipush 21, 2) := by decide +kernel
theorem dX10_gallsBy_3 : decode cX10_gallsBy 3 = .ok (.idiv, 1) := by decide +kernel
theorem dX10_gallsBy_4 : decode cX10_gallsBy 4 = .ok (.iconst 1, 1) := by decide +kernel
theorem dX10_gallsBy_5 : decode cX10_gallsBy 5 = .ok (.iadd, 1) := by decide +kernel
theorem dX10_gallsBy_6 : decode cX10_gallsBy 6 = .ok (.iload_n 1, 1) := by decide +kernel
theorem dX10_gallsBy_7 : decode cX10_gallsBy 7 = .ok (.isub, 1) := by decide +kernel
theorem dX10_gallsBy_8 : decode cX10_gallsBy 8 = .ok (.invokestatic 188, 3) := by decide +kernel
theorem dX10_gallsBy_11 : decode cX10_gallsBy 11 = .ok (.iload_n 0, 1) := by decide +kernel
theorem dX10_gallsBy_12 : decode cX10_gallsBy 12 = .ok (.bipush 21, 2) := by decide +kernel
theorem dX10_gallsBy_14 : decode cX10_gallsBy 14 = .ok (.irem, 1) := by decide +kernel
theorem dX10_gallsBy_15 : decode cX10_gallsBy 15 = .ok (.iload_n 2, 1) := by decide +kernel
theorem dX10_gallsBy_16 : decode cX10_gallsBy 16 = .ok (.isub, 1) := by decide +kernel
theorem dX10_gallsBy_17 : decode cX10_gallsBy 17 = .ok (.invokestatic 188, 3) := by decide +kernel
theorem dX10_gallsBy_20 : decode cX10_gallsBy 20 = .ok (.iadd, 1) := by decide +kernel
theorem dX10_gallsBy_21 : decode cX10_gallsBy 21 = .ok (.ireturn, 1) := by decide +kernel
theorem dX10_couldBe_0 : decode cX10_couldBe 0 = .ok (.iconst 1, 1) := by decide +kernel
theorem dX10_couldBe_1 : decode cX10_couldBe 1 = .ok (.istore_n 2, 1) := by decide +kernel
theorem dX10_couldBe_2 : decode cX10_couldBe 2 = .ok (.iconst 0, 1) := by decide +kernel
theorem dX10_couldBe_3 : decode cX10_couldBe 3 = .ok (.istore_n 3, 1) := by decide +kernel
theorem dX10_couldBe_4 : decode cX10_couldBe 4 = .ok (.iload_n 3, 1) := by decide +kernel
theorem dX10_couldBe_5 : decode cX10_couldBe 5 = .ok (.aload_n 0, 1) := by decide +kernel
theorem dX10_couldBe_6 : decode cX10_couldBe 6 = .ok (.getfield 171, 3) := by decide +kernel
theorem dX10_couldBe_9 : decode cX10_couldBe 9 = .ok (.if_icmp .ge 44, 3) := by decide +kernel
theorem dX10_couldBe_12 : decode cX10_couldBe 12 = .ok (.iload_n 2, 1) := by decide +kernel
theorem dX10_couldBe_13 : decode cX10_couldBe 13 = .ok (.ifCond .eq 40, 3) := by decide +kernel
theorem dX10_couldBe_16 : decode cX10_couldBe 16 = .ok (.iload_n 1, 1) := by decide +kernel
theorem dX10_couldBe_17 : decode cX10_couldBe 17 = .ok (.aload_n 0, 1) := by decide +kernel
theorem dX10_couldBe_18 : decode cX10_couldBe 18 = .ok (.getfield 59, 3) := by decide +kernel
theorem dX10_couldBe_21 : decode cX10_couldBe 21 = .ok (.iload_n 3, 1) := by decide +kernel
theorem dX10_couldBe_22 : decode cX10_couldBe 22 = .ok (.iaload, 1) := by decide +kernel
theorem dX10_couldBe_23 : decode cX10_couldBe 23 = .ok (.aload_n 0, 1) := by decide +kernel
theorem dX10_couldBe_24 : decode cX10_couldBe 24 = .ok (.getfield 62, 3) := by decide +kernel
theorem dX10_couldBe_27 : decode cX10_couldBe 27 = .ok (.iload_n 3, 1) := by decide +kernel
theorem dX10_couldBe_28 : decode cX10_couldBe 28 = .ok (.iaload, 1) := by decide +kernel
theorem dX10_couldBe_29 : decode cX10_couldBe 29 = .ok (.invokestatic 316, 3) := by decide +kernel
theorem dX10_couldBe_32 : decode cX10_couldBe 32 = .ok (.aload_n 0, 1) := by decide +kernel
theorem dX10_couldBe_33 : decode cX10_couldBe 33 = .ok (.getfield 65, 3) := by decide +kernel
theorem dX10_couldBe_36 : decode cX10_couldBe 36 = .ok (.iload_n 3, 1) := by decide +kernel
theorem dX10_couldBe_37 : decode cX10_couldBe 37 = .ok (.iaload, 1) := by decide +kernel
theorem dX10_couldBe_38 : decode cX10_couldBe 38 = .ok (.if_icmp .ne 7, 3) := by decide +kernel
theorem dX10_couldBe_41 : decode cX10_couldBe 41 = .ok (.iconst 1, 1) := by decide +kernel
theorem dX10_couldBe_42 : decode cX10_couldBe 42 = .ok (.goto 4, 3) := by decide +kernel
theorem dX10_couldBe_45 : decode cX10_couldBe 45 = .ok (.iconst 0, 1) := by decide +kernel
theorem dX10_couldBe_46 : decode cX10_couldBe 46 = .ok (.istore_n 2, 1) := by decide +kernel
theorem dX10_couldBe_47 : decode cX10_couldBe 47 = .ok (.iinc 3 1, 3) := by decide +kernel
theorem dX10_couldBe_50 : decode cX10_couldBe 50 = .ok (.goto (-46), 3) := by decide +kernel
theorem dX10_couldBe_53 : decode cX10_couldBe 53 = .ok (.iload_n 2, 1) := by decide +kernel
theorem dX10_couldBe_54 : decode cX10_couldBe 54 = .ok (.ireturn, 1) := by decide +kernel
theorem dX10_carries_0 : decode cX10_carries 0 = .ok (.iload_n 1, 1) := by decide +kernel
theorem dX10_carries_1 : decode cX10_carries 1 = .ok (.i2l, 1) := by decide +kernel
theorem dX10_carries_2 : decode cX10_carries 2 = .ok (.lconst 0, 1) := by decide +kernel
theorem dX10_carries_3 : decode cX10_carries 3 = .ok (.ldc2_w 319, 3) := by decide +kernel
theorem dX10_carries_6 : decode cX10_carries 6 = .ok (.invokestatic 91, 3) := by decide +kernel
theorem dX10_carries_9 : decode cX10_carries 9 = .ok (.ifCond .ne 6, 3) := by decide +kernel
theorem dX10_carries_12 : decode cX10_carries 12 = .ok (.ldc 100, 2) := by decide +kernel
theorem dX10_carries_14 : decode cX10_carries 14 = .ok (.ireturn, 1) := by decide +kernel
theorem dX10_carries_15 : decode cX10_carries 15 = .ok (.iconst 0, 1) := by decide +kernel
theorem dX10_carries_16 : decode cX10_carries 16 = .ok (.istore_n 2, 1) := by decide +kernel
theorem dX10_carries_17 : decode cX10_carries 17 = .ok (.iconst (-1), 1) := by decide +kernel
theorem dX10_carries_18 : decode cX10_carries 18 = .ok (.istore_n 3, 1) := by decide +kernel
theorem dX10_carries_19 : decode cX10_carries 19 = .ok (.sipush 1259, 3) := by decide +kernel
theorem dX10_carries_22 : decode cX10_carries 22 = .ok (.istore 4, 2) := by decide +kernel
theorem dX10_carries_24 : decode cX10_carries 24 = .ok (.iload 4, 2) := by decide +kernel
theorem dX10_carries_26 : decode cX10_carries 26 = .ok (.ifCond .lt 24, 3) := by decide +kernel
theorem dX10_carries_29 : decode cX10_carries 29 = .ok (.aload_n 0, 1) := by decide +kernel
theorem dX10_carries_30 : decode cX10_carries 30 = .ok (.iload 4, 2) := by decide +kernel
theorem dX10_carries_32 : decode cX10_carries 32 = .ok (.invokevirtual 321, 3) := by decide +kernel
theorem dX10_carries_35 : decode cX10_carries 35 = .ok (.ifCond .eq 9, 3) := by decide +kernel
theorem dX10_carries_38 : decode cX10_carries 38 = .ok (.iload 4, 2) := by decide +kernel
theorem dX10_carries_40 : decode cX10_carries 40 = .ok (.istore_n 3, 1) := by decide +kernel
theorem dX10_carries_41 : decode cX10_carries 41 = .ok (.iinc 2 1, 3) := by decide +kernel
theorem dX10_carries_44 : decode cX10_carries 44 = .ok (.iinc 4 (-1), 3) := by decide +kernel
theorem dX10_carries_47 : decode cX10_carries 47 = .ok (.goto (-23), 3) := by decide +kernel
theorem dX10_carries_50 : decode cX10_carries 50 = .ok (.iload_n 1, 1) := by decide +kernel
theorem dX10_carries_51 : decode cX10_carries 51 = .ok (.ifCond .ne 7, 3) := by decide +kernel
theorem dX10_carries_54 : decode cX10_carries 54 = .ok (.iload_n 2, 1) := by decide +kernel
theorem dX10_carries_55 : decode cX10_carries 55 = .ok (.goto 29, 3) := by decide +kernel
theorem dX10_carries_58 : decode cX10_carries 58 = .ok (.iload_n 3, 1) := by decide +kernel
theorem dX10_carries_59 : decode cX10_carries 59 = .ok (.ifCond .ge 7, 3) := by decide +kernel
theorem dX10_carries_62 : decode cX10_carries 62 = .ok (.iconst (-1), 1) := by decide +kernel
theorem dX10_carries_63 : decode cX10_carries 63 = .ok (.goto 21, 3) := by decide +kernel
theorem dX10_carries_66 : decode cX10_carries 66 = .ok (.iload_n 1, 1) := by decide +kernel
theorem dX10_carries_67 : decode cX10_carries 67 = .ok (.iconst 1, 1) := by decide +kernel
theorem dX10_carries_68 : decode cX10_carries 68 = .ok (.if_icmp .ne 12, 3) := by decide +kernel
theorem dX10_carries_71 : decode cX10_carries 71 = .ok (.iload_n 3, 1) := by decide +kernel
theorem dX10_carries_72 : decode cX10_carries 72 = .ok (.bipush 21, 2) := by decide +kernel
theorem dX10_carries_74 : decode cX10_carries 74 = .ok (.idiv, 1) := by decide +kernel
theorem dX10_carries_75 : decode cX10_carries 75 = .ok (.iconst 1, 1) := by decide +kernel
theorem dX10_carries_76 : decode cX10_carries 76 = .ok (.iadd, 1) := by decide +kernel
theorem dX10_carries_77 : decode cX10_carries 77 = .ok (.goto 7, 3) := by decide +kernel
theorem dX10_carries_80 : decode cX10_carries 80 = .ok (.iload_n 3, 1) := by decide +kernel
theorem dX10_carries_81 : decode cX10_carries 81 = .ok (.bipush 21, 2) := by decide +kernel
theorem dX10_carries_83 : decode cX10_carries 83 = .ok (.irem, 1) := by decide +kernel
theorem dX10_carries_84 : decode cX10_carries 84 = .ok (.ireturn, 1) := by decide +kernel
theorem dX10_greatestPart_0 : decode cX10_greatestPart 0 = .ok (.iconst 0, 1) := by decide +kernel
theorem dX10_greatestPart_1 : decode cX10_greatestPart 1 = .ok (.istore_n 2, 1) := by decide +kernel
theorem dX10_greatestPart_2 : decode cX10_greatestPart 2 = .ok (.iconst 0, 1) := by decide +kernel
theorem dX10_greatestPart_3 : decode cX10_greatestPart 3 = .ok (.istore_n 3, 1) := by decide +kernel
theorem dX10_greatestPart_4 : decode cX10_greatestPart 4 = .ok (.iload_n 3, 1) := by decide +kernel
theorem dX10_greatestPart_5 : decode cX10_greatestPart 5 = .ok (.bipush 80, 2) := by decide +kernel
theorem dX10_greatestPart_7 : decode cX10_greatestPart 7 = .ok (.if_icmp .ge 16, 3) := by decide +kernel
theorem dX10_greatestPart_10 : decode cX10_greatestPart 10 = .ok (.aload_n 0, 1) := by decide +kernel
theorem dX10_greatestPart_11 : decode cX10_greatestPart 11 = .ok (.getfield 68, 3) := by decide +kernel
theorem dX10_greatestPart_14 : decode cX10_greatestPart 14 = .ok (.iload_n 3, 1) := by decide +kernel
theorem dX10_greatestPart_15 : decode cX10_greatestPart 15 = .ok (.iconst 0, 1) := by decide +kernel
theorem dX10_greatestPart_16 : decode cX10_greatestPart 16 = .ok (.iastore, 1) := by decide +kernel
theorem dX10_greatestPart_17 : decode cX10_greatestPart 17 = .ok (.iinc 3 1, 3) := by decide +kernel
theorem dX10_greatestPart_20 : decode cX10_greatestPart 20 = .ok (.goto (-16), 3) := by decide +kernel
theorem dX10_greatestPart_23 : decode cX10_greatestPart 23 = .ok (.iconst 0, 1) := by decide +kernel
theorem dX10_greatestPart_24 : decode cX10_greatestPart 24 = .ok (.istore_n 3, 1) := by decide +kernel
theorem dX10_greatestPart_25 : decode cX10_greatestPart 25 = .ok (.iload_n 3, 1) := by decide +kernel
theorem dX10_greatestPart_26 : decode cX10_greatestPart 26 = .ok (.sipush 1260, 3) := by decide +kernel
theorem dX10_greatestPart_29 : decode cX10_greatestPart 29 = .ok (.if_icmp .ge 59, 3) := by decide +kernel
theorem dX10_greatestPart_32 : decode cX10_greatestPart 32 = .ok (.aload_n 0, 1) := by decide +kernel
theorem dX10_greatestPart_33 : decode cX10_greatestPart 33 = .ok (.iload_n 3, 1) := by decide +kernel
theorem dX10_greatestPart_34 : decode cX10_greatestPart 34 = .ok (.invokevirtual 321, 3) := by decide +kernel
theorem dX10_greatestPart_37 : decode cX10_greatestPart 37 = .ok (.ifCond .eq 45, 3) := by decide +kernel
theorem dX10_greatestPart_40 : decode cX10_greatestPart 40 = .ok (.iload_n 3, 1) := by decide +kernel
theorem dX10_greatestPart_41 : decode cX10_greatestPart 41 = .ok (.iload_n 1, 1) := by decide +kernel
theorem dX10_greatestPart_42 : decode cX10_greatestPart 42 = .ok (.iconst 0, 1) := by decide +kernel
theorem dX10_greatestPart_43 : decode cX10_greatestPart 43 = .ok (.invokestatic 316, 3) := by decide +kernel
theorem dX10_greatestPart_46 : decode cX10_greatestPart 46 = .ok (.istore 4, 2) := by decide +kernel
theorem dX10_greatestPart_48 : decode cX10_greatestPart 48 = .ok (.aload_n 0, 1) := by decide +kernel
theorem dX10_greatestPart_49 : decode cX10_greatestPart 49 = .ok (.getfield 68, 3) := by decide +kernel
theorem dX10_greatestPart_52 : decode cX10_greatestPart 52 = .ok (.iload 4, 2) := by decide +kernel
theorem dX10_greatestPart_54 : decode cX10_greatestPart 54 = .ok (.dup2, 1) := by decide +kernel
theorem dX10_greatestPart_55 : decode cX10_greatestPart 55 = .ok (.iaload, 1) := by decide +kernel
theorem dX10_greatestPart_56 : decode cX10_greatestPart 56 = .ok (.iconst 1, 1) := by decide +kernel
theorem dX10_greatestPart_57 : decode cX10_greatestPart 57 = .ok (.iadd, 1) := by decide +kernel
theorem dX10_greatestPart_58 : decode cX10_greatestPart 58 = .ok (.iastore, 1) := by decide +kernel
theorem dX10_greatestPart_59 : decode cX10_greatestPart 59 = .ok (.aload_n 0, 1) := by decide +kernel
theorem dX10_greatestPart_60 : decode cX10_greatestPart 60 = .ok (.getfield 68, 3) := by decide +kernel
theorem dX10_greatestPart_63 : decode cX10_greatestPart 63 = .ok (.iload 4, 2) := by decide +kernel
theorem dX10_greatestPart_65 : decode cX10_greatestPart 65 = .ok (.iaload, 1) := by decide +kernel
theorem dX10_greatestPart_66 : decode cX10_greatestPart 66 = .ok (.iload_n 2, 1) := by decide +kernel
theorem dX10_greatestPart_67 : decode cX10_greatestPart 67 = .ok (.if_icmp .le 13, 3) := by decide +kernel
theorem dX10_greatestPart_70 : decode cX10_greatestPart 70 = .ok (.aload_n 0, 1) := by decide +kernel
theorem dX10_greatestPart_71 : decode cX10_greatestPart 71 = .ok (.getfield 68, 3) := by decide +kernel
theorem dX10_greatestPart_74 : decode cX10_greatestPart 74 = .ok (.iload 4, 2) := by decide +kernel
theorem dX10_greatestPart_76 : decode cX10_greatestPart 76 = .ok (.iaload, 1) := by decide +kernel
theorem dX10_greatestPart_77 : decode cX10_greatestPart 77 = .ok (.goto 4, 3) := by decide +kernel
theorem dX10_greatestPart_80 : decode cX10_greatestPart 80 = .ok (.iload_n 2, 1) := by decide +kernel
theorem dX10_greatestPart_81 : decode cX10_greatestPart 81 = .ok (.istore_n 2, 1) := by decide +kernel
theorem dX10_greatestPart_82 : decode cX10_greatestPart 82 = .ok (.iinc 3 1, 3) := by decide +kernel
theorem dX10_greatestPart_85 : decode cX10_greatestPart 85 = .ok (.goto (-60), 3) := by decide +kernel
theorem dX10_greatestPart_88 : decode cX10_greatestPart 88 = .ok (.iload_n 2, 1) := by decide +kernel
theorem dX10_greatestPart_89 : decode cX10_greatestPart 89 = .ok (.ireturn, 1) := by decide +kernel
theorem dX10_tryNext_0 : decode cX10_tryNext 0 = .ok (.iconst (-1), 1) := by decide +kernel
theorem dX10_tryNext_1 : decode cX10_tryNext 1 = .ok (.istore_n 1, 1) := by decide +kernel
theorem dX10_tryNext_2 : decode cX10_tryNext 2 = .ok (.aload_n 0, 1) := by decide +kernel
theorem dX10_tryNext_3 : decode cX10_tryNext 3 = .ok (.iconst 0, 1) := by decide +kernel
theorem dX10_tryNext_4 : decode cX10_tryNext 4 = .ok (.invokevirtual 324, 3) := by decide +kernel
theorem dX10_tryNext_7 : decode cX10_tryNext 7 = .ok (.istore_n 2, 1) := by decide +kernel
theorem dX10_tryNext_8 : decode cX10_tryNext 8 = .ok (.iconst 1, 1) := by decide +kernel
theorem dX10_tryNext_9 : decode cX10_tryNext 9 = .ok (.istore_n 3, 1) := by decide +kernel
theorem dX10_tryNext_10 : decode cX10_tryNext 10 = .ok (.iload_n 3, 1) := by decide +kernel
theorem dX10_tryNext_11 : decode cX10_tryNext 11 = .ok (.bipush 60, 2) := by decide +kernel
theorem dX10_tryNext_13 : decode cX10_tryNext 13 = .ok (.if_icmp .gt 41, 3) := by decide +kernel
theorem dX10_tryNext_16 : decode cX10_tryNext 16 = .ok (.aload_n 0, 1) := by decide +kernel
theorem dX10_tryNext_17 : decode cX10_tryNext 17 = .ok (.iload_n 3, 1) := by decide +kernel
theorem dX10_tryNext_18 : decode cX10_tryNext 18 = .ok (.invokevirtual 327, 3) := by decide +kernel
theorem dX10_tryNext_21 : decode cX10_tryNext 21 = .ok (.istore 4, 2) := by decide +kernel
theorem dX10_tryNext_23 : decode cX10_tryNext 23 = .ok (.iload 4, 2) := by decide +kernel
theorem dX10_tryNext_25 : decode cX10_tryNext 25 = .ok (.iload_n 2, 1) := by decide +kernel
theorem dX10_tryNext_26 : decode cX10_tryNext 26 = .ok (.if_icmp .ge 7, 3) := by decide +kernel
theorem dX10_tryNext_29 : decode cX10_tryNext 29 = .ok (.iload_n 3, 1) := by decide +kernel
theorem dX10_tryNext_30 : decode cX10_tryNext 30 = .ok (.goto 4, 3) := by decide +kernel
theorem dX10_tryNext_33 : decode cX10_tryNext 33 = .ok (.iload_n 1, 1) := by decide +kernel
theorem dX10_tryNext_34 : decode cX10_tryNext 34 = .ok (.istore_n 1, 1) := by decide +kernel
theorem dX10_tryNext_35 : decode cX10_tryNext 35 = .ok (.iload 4, 2) := by decide +kernel
theorem dX10_tryNext_37 : decode cX10_tryNext 37 = .ok (.iload_n 2, 1) := by decide +kernel
theorem dX10_tryNext_38 : decode cX10_tryNext 38 = .ok (.if_icmp .ge 8, 3) := by decide +kernel
theorem dX10_tryNext_41 : decode cX10_tryNext 41 = .ok (.iload 4, 2) := by decide +kernel
theorem dX10_tryNext_43 : decode cX10_tryNext 43 = .ok (.goto 4, 3) := by decide +kernel
theorem dX10_tryNext_46 : decode cX10_tryNext 46 = .ok (.iload_n 2, 1) := by decide +kernel
theorem dX10_tryNext_47 : decode cX10_tryNext 47 = .ok (.istore_n 2, 1) := by decide +kernel
theorem dX10_tryNext_48 : decode cX10_tryNext 48 = .ok (.iinc 3 1, 3) := by decide +kernel
theorem dX10_tryNext_51 : decode cX10_tryNext 51 = .ok (.goto (-41), 3) := by decide +kernel
theorem dX10_tryNext_54 : decode cX10_tryNext 54 = .ok (.iload_n 1, 1) := by decide +kernel
theorem dX10_tryNext_55 : decode cX10_tryNext 55 = .ok (.ireturn, 1) := by decide +kernel
theorem dX10_write_0 : decode cX10_write 0 = .ok (.aload_n 0, 1) := by decide +kernel
theorem dX10_write_1 : decode cX10_write 1 = .ok (.iload_n 1, 1) := by decide +kernel
theorem dX10_write_2 : decode cX10_write 2 = .ok (.invokevirtual 237, 3) := by decide +kernel
theorem dX10_write_5 : decode cX10_write 5 = .ok (.ifCond .ne 6, 3) := by decide +kernel
theorem dX10_write_8 : decode cX10_write 8 = .ok (.ldc 236, 2) := by decide +kernel
theorem dX10_write_10 : decode cX10_write 10 = .ok (.ireturn, 1) := by decide +kernel
theorem dX10_write_11 : decode cX10_write 11 = .ok (.iload_n 2, 1) := by decide +kernel
theorem dX10_write_12 : decode cX10_write 12 = .ok (.i2l, 1) := by decide +kernel
theorem dX10_write_13 : decode cX10_write 13 = .ok (.lconst 0, 1) := by decide +kernel
theorem dX10_write_14 : decode cX10_write 14 = .ok (.ldc2_w 330, 3) := by decide +kernel
theorem dX10_write_17 : decode cX10_write 17 = .ok (.invokestatic 91, 3) := by decide +kernel
theorem dX10_write_20 : decode cX10_write 20 = .ok (.ifCond .ne 6, 3) := by decide +kernel
theorem dX10_write_23 : decode cX10_write 23 = .ok (.ldc 100, 2) := by decide +kernel
theorem dX10_write_25 : decode cX10_write 25 = .ok (.ireturn, 1) := by decide +kernel
theorem dX10_write_26 : decode cX10_write 26 = .ok (.aload_n 0, 1) := by decide +kernel
theorem dX10_write_27 : decode cX10_write 27 = .ok (.getfield 174, 3) := by decide +kernel
theorem dX10_write_30 : decode cX10_write 30 = .ok (.bipush 15, 2) := by decide +kernel
theorem dX10_write_32 : decode cX10_write 32 = .ok (.if_icmp .ne 6, 3) := by decide +kernel
theorem dX10_write_35 : decode cX10_write 35 = .ok (.ldc 104, 2) := by decide +kernel
theorem dX10_write_37 : decode cX10_write 37 = .ok (.ireturn, 1) := by decide +kernel
theorem dX10_write_38 : decode cX10_write 38 = .ok (.aload_n 0, 1) := by decide +kernel
theorem dX10_write_39 : decode cX10_write 39 = .ok (.getfield 71, 3) := by decide +kernel
theorem dX10_write_42 : decode cX10_write 42 = .ok (.aload_n 0, 1) := by decide +kernel
theorem dX10_write_43 : decode cX10_write 43 = .ok (.getfield 174, 3) := by decide +kernel
theorem dX10_write_46 : decode cX10_write 46 = .ok (.iload_n 1, 1) := by decide +kernel
theorem dX10_write_47 : decode cX10_write 47 = .ok (.iastore, 1) := by decide +kernel
theorem dX10_write_48 : decode cX10_write 48 = .ok (.aload_n 0, 1) := by decide +kernel
theorem dX10_write_49 : decode cX10_write 49 = .ok (.getfield 74, 3) := by decide +kernel
theorem dX10_write_52 : decode cX10_write 52 = .ok (.aload_n 0, 1) := by decide +kernel
theorem dX10_write_53 : decode cX10_write 53 = .ok (.getfield 174, 3) := by decide +kernel
theorem dX10_write_56 : decode cX10_write 56 = .ok (.iload_n 2, 1) := by decide +kernel
theorem dX10_write_57 : decode cX10_write 57 = .ok (.iastore, 1) := by decide +kernel
theorem dX10_write_58 : decode cX10_write 58 = .ok (.aload_n 0, 1) := by decide +kernel
theorem dX10_write_59 : decode cX10_write 59 = .ok (.dup, 1) := by decide +kernel
theorem dX10_write_60 : decode cX10_write 60 = .ok (.getfield 174, 3) := by decide +kernel
theorem dX10_write_63 : decode cX10_write 63 = .ok (.iconst 1, 1) := by decide +kernel
theorem dX10_write_64 : decode cX10_write 64 = .ok (.iadd, 1) := by decide +kernel
theorem dX10_write_65 : decode cX10_write 65 = .ok (.putfield 174, 3) := by decide +kernel
theorem dX10_write_68 : decode cX10_write 68 = .ok (.aload_n 0, 1) := by decide +kernel
theorem dX10_write_69 : decode cX10_write 69 = .ok (.getfield 174, 3) := by decide +kernel
theorem dX10_write_72 : decode cX10_write 72 = .ok (.ireturn, 1) := by decide +kernel
theorem dX10_tear_0 : decode cX10_tear 0 = .ok (.aload_n 0, 1) := by decide +kernel
theorem dX10_tear_1 : decode cX10_tear 1 = .ok (.getfield 171, 3) := by decide +kernel
theorem dX10_tear_4 : decode cX10_tear 4 = .ok (.aload_n 0, 1) := by decide +kernel
theorem dX10_tear_5 : decode cX10_tear 5 = .ok (.getfield 174, 3) := by decide +kernel
theorem dX10_tear_8 : decode cX10_tear 8 = .ok (.iadd, 1) := by decide +kernel
theorem dX10_tear_9 : decode cX10_tear 9 = .ok (.istore_n 1, 1) := by decide +kernel
theorem dX10_tear_10 : decode cX10_tear 10 = .ok (.aload_n 0, 1) := by decide +kernel
theorem dX10_tear_11 : decode cX10_tear 11 = .ok (.iconst 0, 1) := by decide +kernel
theorem dX10_tear_12 : decode cX10_tear 12 = .ok (.putfield 171, 3) := by decide +kernel
theorem dX10_tear_15 : decode cX10_tear 15 = .ok (.aload_n 0, 1) := by decide +kernel
theorem dX10_tear_16 : decode cX10_tear 16 = .ok (.iconst 0, 1) := by decide +kernel
theorem dX10_tear_17 : decode cX10_tear 17 = .ok (.putfield 174, 3) := by decide +kernel
theorem dX10_tear_20 : decode cX10_tear 20 = .ok (.iload_n 1, 1) := by decide +kernel
theorem dX10_tear_21 : decode cX10_tear 21 = .ok (.ireturn, 1) := by decide +kernel
theorem dX10_judge_0 : decode cX10_judge 0 = .ok (.iconst 0, 1) := by decide +kernel
theorem dX10_judge_1 : decode cX10_judge 1 = .ok (.istore_n 1, 1) := by decide +kernel
theorem dX10_judge_2 : decode cX10_judge 2 = .ok (.iload_n 1, 1) := by decide +kernel
theorem dX10_judge_3 : decode cX10_judge 3 = .ok (.aload_n 0, 1) := by decide +kernel
theorem dX10_judge_4 : decode cX10_judge 4 = .ok (.getfield 174, 3) := by decide +kernel
theorem dX10_judge_7 : decode cX10_judge 7 = .ok (.if_icmp .ge 34, 3) := by decide +kernel
theorem dX10_judge_10 : decode cX10_judge 10 = .ok (.aload_n 0, 1) := by decide +kernel
theorem dX10_judge_11 : decode cX10_judge 11 = .ok (.getfield 25, 3) := by decide +kernel
theorem dX10_judge_14 : decode cX10_judge 14 = .ok (.bipush 24, 2) := by decide +kernel
theorem dX10_judge_16 : decode cX10_judge 16 = .ok (.aload_n 0, 1) := by decide +kernel
theorem dX10_judge_17 : decode cX10_judge 17 = .ok (.getfield 71, 3) := by decide +kernel
theorem dX10_judge_20 : decode cX10_judge 20 = .ok (.iload_n 1, 1) := by decide +kernel
theorem dX10_judge_21 : decode cX10_judge 21 = .ok (.iaload, 1) := by decide +kernel
theorem dX10_judge_22 : decode cX10_judge 22 = .ok (.iadd, 1) := by decide +kernel
theorem dX10_judge_23 : decode cX10_judge 23 = .ok (.iaload, 1) := by decide +kernel
theorem dX10_judge_24 : decode cX10_judge 24 = .ok (.aload_n 0, 1) := by decide +kernel
theorem dX10_judge_25 : decode cX10_judge 25 = .ok (.getfield 74, 3) := by decide +kernel
theorem dX10_judge_28 : decode cX10_judge 28 = .ok (.iload_n 1, 1) := by decide +kernel
theorem dX10_judge_29 : decode cX10_judge 29 = .ok (.iaload, 1) := by decide +kernel
theorem dX10_judge_30 : decode cX10_judge 30 = .ok (.if_icmp .eq 5, 3) := by decide +kernel
theorem dX10_judge_33 : decode cX10_judge 33 = .ok (.iload_n 1, 1) := by decide +kernel
theorem dX10_judge_34 : decode cX10_judge 34 = .ok (.ireturn, 1) := by decide +kernel
theorem dX10_judge_35 : decode cX10_judge 35 = .ok (.iinc 1 1, 3) := by decide +kernel
theorem dX10_judge_38 : decode cX10_judge 38 = .ok (.goto (-36), 3) := by decide +kernel
theorem dX10_judge_41 : decode cX10_judge 41 = .ok (.iconst (-1), 1) := by decide +kernel
theorem dX10_judge_42 : decode cX10_judge 42 = .ok (.ireturn, 1) := by decide +kernel
theorem dX10_seed_0 : decode cX10_seed 0 = .ok (.iload_n 1, 1) := by decide +kernel
theorem dX10_seed_1 : decode cX10_seed 1 = .ok (.ifCond .ge 6, 3) := by decide +kernel
theorem dX10_seed_4 : decode cX10_seed 4 = .ok (.ldc 100, 2) := by decide +kernel
theorem dX10_seed_6 : decode cX10_seed 6 = .ok (.ireturn, 1) := by decide +kernel
theorem dX10_seed_7 : decode cX10_seed 7 = .ok (.aload_n 0, 1) := by decide +kernel
theorem dX10_seed_8 : decode cX10_seed 8 = .ok (.getfield 272, 3) := by decide +kernel
theorem dX10_seed_11 : decode cX10_seed 11 = .ok (.istore_n 2, 1) := by decide +kernel
theorem dX10_seed_12 : decode cX10_seed 12 = .ok (.aload_n 0, 1) := by decide +kernel
theorem dX10_seed_13 : decode cX10_seed 13 = .ok (.iload_n 1, 1) := by decide +kernel
theorem dX10_seed_14 : decode cX10_seed 14 = .ok (.putfield 272, 3) := by decide +kernel
theorem dX10_seed_17 : decode cX10_seed 17 = .ok (.iload_n 2, 1) := by decide +kernel
theorem dX10_seed_18 : decode cX10_seed 18 = .ok (.ireturn, 1) := by decide +kernel
theorem dX10_keep_0 : decode cX10_keep 0 = .ok (.iload_n 1, 1) := by decide +kernel
theorem dX10_keep_1 : decode cX10_keep 1 = .ok (.i2l, 1) := by decide +kernel
theorem dX10_keep_2 : decode cX10_keep 2 = .ok (.lconst 0, 1) := by decide +kernel
theorem dX10_keep_3 : decode cX10_keep 3 = .ok (.lconst 1, 1) := by decide +kernel
theorem dX10_keep_4 : decode cX10_keep 4 = .ok (.invokestatic 91, 3) := by decide +kernel
theorem dX10_keep_7 : decode cX10_keep 7 = .ok (.ifCond .ne 6, 3) := by decide +kernel
theorem dX10_keep_10 : decode cX10_keep 10 = .ok (.ldc 236, 2) := by decide +kernel
theorem dX10_keep_12 : decode cX10_keep 12 = .ok (.ireturn, 1) := by decide +kernel
theorem dX10_keep_13 : decode cX10_keep 13 = .ok (.iconst 0, 1) := by decide +kernel
theorem dX10_keep_14 : decode cX10_keep 14 = .ok (.istore_n 2, 1) := by decide +kernel
theorem dX10_keep_15 : decode cX10_keep 15 = .ok (.iload_n 2, 1) := by decide +kernel
theorem dX10_keep_16 : decode cX10_keep 16 = .ok (.bipush 31, 2) := by decide +kernel
theorem dX10_keep_18 : decode cX10_keep 18 = .ok (.if_icmp .ge 26, 3) := by decide +kernel
theorem dX10_keep_21 : decode cX10_keep 21 = .ok (.aload_n 0, 1) := by decide +kernel
theorem dX10_keep_22 : decode cX10_keep 22 = .ok (.getfield 77, 3) := by decide +kernel
theorem dX10_keep_25 : decode cX10_keep 25 = .ok (.bipush 32, 2) := by decide +kernel
theorem dX10_keep_27 : decode cX10_keep 27 = .ok (.iload_n 1, 1) := by decide +kernel
theorem dX10_keep_28 : decode cX10_keep 28 = .ok (.imul, 1) := by decide +kernel
theorem dX10_keep_29 : decode cX10_keep 29 = .ok (.iload_n 2, 1) := by decide +kernel
theorem dX10_keep_30 : decode cX10_keep 30 = .ok (.iadd, 1) := by decide +kernel
theorem dX10_keep_31 : decode cX10_keep 31 = .ok (.aload_n 0, 1) := by decide +kernel
theorem dX10_keep_32 : decode cX10_keep 32 = .ok (.getfield 25, 3) := by decide +kernel
theorem dX10_keep_35 : decode cX10_keep 35 = .ok (.iload_n 2, 1) := by decide +kernel
theorem dX10_keep_36 : decode cX10_keep 36 = .ok (.iaload, 1) := by decide +kernel
theorem dX10_keep_37 : decode cX10_keep 37 = .ok (.iastore, 1) := by decide +kernel
theorem dX10_keep_38 : decode cX10_keep 38 = .ok (.iinc 2 1, 3) := by decide +kernel
theorem dX10_keep_41 : decode cX10_keep 41 = .ok (.goto (-26), 3) := by decide +kernel
theorem dX10_keep_44 : decode cX10_keep 44 = .ok (.aload_n 0, 1) := by decide +kernel
theorem dX10_keep_45 : decode cX10_keep 45 = .ok (.getfield 77, 3) := by decide +kernel
theorem dX10_keep_48 : decode cX10_keep 48 = .ok (.bipush 32, 2) := by decide +kernel
theorem dX10_keep_50 : decode cX10_keep 50 = .ok (.iload_n 1, 1) := by decide +kernel
theorem dX10_keep_51 : decode cX10_keep 51 = .ok (.imul, 1) := by decide +kernel
theorem dX10_keep_52 : decode cX10_keep 52 = .ok (.bipush 31, 2) := by decide +kernel
theorem dX10_keep_54 : decode cX10_keep 54 = .ok (.iadd, 1) := by decide +kernel
theorem dX10_keep_55 : decode cX10_keep 55 = .ok (.aload_n 0, 1) := by decide +kernel
theorem dX10_keep_56 : decode cX10_keep 56 = .ok (.getfield 272, 3) := by decide +kernel
theorem dX10_keep_59 : decode cX10_keep 59 = .ok (.iastore, 1) := by decide +kernel
theorem dX10_keep_60 : decode cX10_keep 60 = .ok (.aload_n 0, 1) := by decide +kernel
theorem dX10_keep_61 : decode cX10_keep 61 = .ok (.getfield 80, 3) := by decide +kernel
theorem dX10_keep_64 : decode cX10_keep 64 = .ok (.iload_n 1, 1) := by decide +kernel
theorem dX10_keep_65 : decode cX10_keep 65 = .ok (.iconst 1, 1) := by decide +kernel
theorem dX10_keep_66 : decode cX10_keep 66 = .ok (.bastore, 1) := by decide +kernel
theorem dX10_keep_67 : decode cX10_keep 67 = .ok (.aload_n 0, 1) := by decide +kernel
theorem dX10_keep_68 : decode cX10_keep 68 = .ok (.iconst 0, 1) := by decide +kernel
theorem dX10_keep_69 : decode cX10_keep 69 = .ok (.putfield 177, 3) := by decide +kernel
theorem dX10_keep_72 : decode cX10_keep 72 = .ok (.iconst 1, 1) := by decide +kernel
theorem dX10_keep_73 : decode cX10_keep 73 = .ok (.ireturn, 1) := by decide +kernel
theorem dX10_goBack_0 : decode cX10_goBack 0 = .ok (.iload_n 1, 1) := by decide +kernel
theorem dX10_goBack_1 : decode cX10_goBack 1 = .ok (.i2l, 1) := by decide +kernel
theorem dX10_goBack_2 : decode cX10_goBack 2 = .ok (.lconst 0, 1) := by decide +kernel
theorem dX10_goBack_3 : decode cX10_goBack 3 = .ok (.lconst 1, 1) := by decide +kernel
theorem dX10_goBack_4 : decode cX10_goBack 4 = .ok (.invokestatic 91, 3) := by decide +kernel
theorem dX10_goBack_7 : decode cX10_goBack 7 = .ok (.ifCond .ne 6, 3) := by decide +kernel
theorem dX10_goBack_10 : decode cX10_goBack 10 = .ok (.ldc 236, 2) := by decide +kernel
theorem dX10_goBack_12 : decode cX10_goBack 12 = .ok (.ireturn, 1) := by decide +kernel
theorem dX10_goBack_13 : decode cX10_goBack 13 = .ok (.aload_n 0, 1) := by decide +kernel
theorem dX10_goBack_14 : decode cX10_goBack 14 = .ok (.getfield 80, 3) := by decide +kernel
theorem dX10_goBack_17 : decode cX10_goBack 17 = .ok (.iload_n 1, 1) := by decide +kernel
theorem dX10_goBack_18 : decode cX10_goBack 18 = .ok (.baload, 1) := by decide +kernel
theorem dX10_goBack_19 : decode cX10_goBack 19 = .ok (.ifCond .ne 6, 3) := by decide +kernel
theorem dX10_goBack_22 : decode cX10_goBack 22 = .ok (.ldc 251, 2) := by decide +kernel
theorem dX10_goBack_24 : decode cX10_goBack 24 = .ok (.ireturn, 1) := by decide +kernel
theorem dX10_goBack_25 : decode cX10_goBack 25 = .ok (.iconst 0, 1) := by decide +kernel
theorem dX10_goBack_26 : decode cX10_goBack 26 = .ok (.istore_n 2, 1) := by decide +kernel
theorem dX10_goBack_27 : decode cX10_goBack 27 = .ok (.iload_n 2, 1) := by decide +kernel
theorem dX10_goBack_28 : decode cX10_goBack 28 = .ok (.bipush 31, 2) := by decide +kernel
theorem dX10_goBack_30 : decode cX10_goBack 30 = .ok (.if_icmp .ge 26, 3) := by decide +kernel
theorem dX10_goBack_33 : decode cX10_goBack 33 = .ok (.aload_n 0, 1) := by decide +kernel
theorem dX10_goBack_34 : decode cX10_goBack 34 = .ok (.getfield 25, 3) := by decide +kernel
theorem dX10_goBack_37 : decode cX10_goBack 37 = .ok (.iload_n 2, 1) := by decide +kernel
theorem dX10_goBack_38 : decode cX10_goBack 38 = .ok (.aload_n 0, 1) := by decide +kernel
theorem dX10_goBack_39 : decode cX10_goBack 39 = .ok (.getfield 77, 3) := by decide +kernel
theorem dX10_goBack_42 : decode cX10_goBack 42 = .ok (.bipush 32, 2) := by decide +kernel
theorem dX10_goBack_44 : decode cX10_goBack 44 = .ok (.iload_n 1, 1) := by decide +kernel
theorem dX10_goBack_45 : decode cX10_goBack 45 = .ok (.imul, 1) := by decide +kernel
theorem dX10_goBack_46 : decode cX10_goBack 46 = .ok (.iload_n 2, 1) := by decide +kernel
theorem dX10_goBack_47 : decode cX10_goBack 47 = .ok (.iadd, 1) := by decide +kernel
theorem dX10_goBack_48 : decode cX10_goBack 48 = .ok (.iaload, 1) := by decide +kernel
theorem dX10_goBack_49 : decode cX10_goBack 49 = .ok (.iastore, 1) := by decide +kernel
theorem dX10_goBack_50 : decode cX10_goBack 50 = .ok (.iinc 2 1, 3) := by decide +kernel
theorem dX10_goBack_53 : decode cX10_goBack 53 = .ok (.goto (-26), 3) := by decide +kernel
theorem dX10_goBack_56 : decode cX10_goBack 56 = .ok (.aload_n 0, 1) := by decide +kernel
theorem dX10_goBack_57 : decode cX10_goBack 57 = .ok (.aload_n 0, 1) := by decide +kernel
theorem dX10_goBack_58 : decode cX10_goBack 58 = .ok (.getfield 77, 3) := by decide +kernel
theorem dX10_goBack_61 : decode cX10_goBack 61 = .ok (.bipush 32, 2) := by decide +kernel
theorem dX10_goBack_63 : decode cX10_goBack 63 = .ok (.iload_n 1, 1) := by decide +kernel
theorem dX10_goBack_64 : decode cX10_goBack 64 = .ok (.imul, 1) := by decide +kernel
theorem dX10_goBack_65 : decode cX10_goBack 65 = .ok (.bipush 31, 2) := by decide +kernel
theorem dX10_goBack_67 : decode cX10_goBack 67 = .ok (.iadd, 1) := by decide +kernel
theorem dX10_goBack_68 : decode cX10_goBack 68 = .ok (.iaload, 1) := by decide +kernel
theorem dX10_goBack_69 : decode cX10_goBack 69 = .ok (.putfield 272, 3) := by decide +kernel
theorem dX10_goBack_72 : decode cX10_goBack 72 = .ok (.aload_n 0, 1) := by decide +kernel
theorem dX10_goBack_73 : decode cX10_goBack 73 = .ok (.iconst 0, 1) := by decide +kernel
theorem dX10_goBack_74 : decode cX10_goBack 74 = .ok (.putfield 177, 3) := by decide +kernel
theorem dX10_goBack_77 : decode cX10_goBack 77 = .ok (.iconst 1, 1) := by decide +kernel
theorem dX10_goBack_78 : decode cX10_goBack 78 = .ok (.ireturn, 1) := by decide +kernel
