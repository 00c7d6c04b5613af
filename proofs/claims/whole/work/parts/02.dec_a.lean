theorem dX0_init_0 : decode cX0_init 0 = .ok (.aload_n 0, 1) := by decide +kernel
theorem dX0_init_1 : decode cX0_init 1 = .ok (.invokespecial 3, 3) := by decide +kernel
theorem dX0_init_4 : decode cX0_init 4 = .ok (.aload_n 0, 1) := by decide +kernel
theorem dX0_init_5 : decode cX0_init 5 = .ok (.bipush 15, 2) := by decide +kernel
theorem dX0_init_7 : decode cX0_init 7 = .ok (.newarray .int, 2) := by decide +kernel
theorem dX0_init_9 : decode cX0_init 9 = .ok (.putfield 9, 3) := by decide +kernel
theorem dX0_init_12 : decode cX0_init 12 = .ok (.aload_n 0, 1) := by decide +kernel
theorem dX0_init_13 : decode cX0_init 13 = .ok (.bipush 15, 2) := by decide +kernel
theorem dX0_init_15 : decode cX0_init 15 = .ok (.newarray .int, 2) := by decide +kernel
theorem dX0_init_17 : decode cX0_init 17 = .ok (.putfield 15, 3) := by decide +kernel
theorem dX0_init_20 : decode cX0_init 20 = .ok (.return_, 1) := by decide +kernel
theorem dX0_clear_0 : decode cX0_clear 0 = .ok (.aload_n 0, 1) := by decide +kernel
theorem dX0_clear_1 : decode cX0_clear 1 = .ok (.iconst 0, 1) := by decide +kernel
theorem dX0_clear_2 : decode cX0_clear 2 = .ok (.putfield 18, 3) := by decide +kernel
theorem dX0_clear_5 : decode cX0_clear 5 = .ok (.return_, 1) := by decide +kernel
theorem dX0_add_0 : decode cX0_add 0 = .ok (.aload_n 0, 1) := by decide +kernel
theorem dX0_add_1 : decode cX0_add 1 = .ok (.getfield 18, 3) := by decide +kernel
theorem dX0_add_4 : decode cX0_add 4 = .ok (.bipush 15, 2) := by decide +kernel
theorem dX0_add_6 : decode cX0_add 6 = .ok (.if_icmp .lt 5, 3) := by decide +kernel
theorem dX0_add_9 : decode cX0_add 9 = .ok (.iconst 0, 1) := by decide +kernel
theorem dX0_add_10 : decode cX0_add 10 = .ok (.ireturn, 1) := by decide +kernel
theorem dX0_add_11 : decode cX0_add 11 = .ok (.aload_n 0, 1) := by decide +kernel
theorem dX0_add_12 : decode cX0_add 12 = .ok (.getfield 9, 3) := by decide +kernel
theorem dX0_add_15 : decode cX0_add 15 = .ok (.aload_n 0, 1) := by decide +kernel
theorem dX0_add_16 : decode cX0_add 16 = .ok (.getfield 18, 3) := by decide +kernel
theorem dX0_add_19 : decode cX0_add 19 = .ok (.iload_n 1, 1) := by decide +kernel
theorem dX0_add_20 : decode cX0_add 20 = .ok (.iastore, 1) := by decide +kernel
theorem dX0_add_21 : decode cX0_add 21 = .ok (.aload_n 0, 1) := by decide +kernel
theorem dX0_add_22 : decode cX0_add 22 = .ok (.getfield 15, 3) := by decide +kernel
theorem dX0_add_25 : decode cX0_add 25 = .ok (.aload_n 0, 1) := by decide +kernel
theorem dX0_add_26 : decode cX0_add 26 = .ok (.getfield 18, 3) := by decide +kernel
theorem dX0_add_29 : decode cX0_add 29 = .ok (.iload_n 2, 1) := by decide +kernel
theorem dX0_add_30 : decode cX0_add 30 = .ok (.iastore, 1) := by decide +kernel
theorem dX0_add_31 : decode cX0_add 31 = .ok (.aload_n 0, 1) := by decide +kernel
theorem dX0_add_32 : decode cX0_add 32 = .ok (.dup, 1) := by decide +kernel
theorem dX0_add_33 : decode cX0_add 33 = .ok (.getfield 18, 3) := by decide +kernel
theorem dX0_add_36 : decode cX0_add 36 = .ok (.iconst 1, 1) := by decide +kernel
theorem dX0_add_37 : decode cX0_add 37 = .ok (.iadd, 1) := by decide +kernel
theorem dX0_add_38 : decode cX0_add 38 = .ok (.putfield 18, 3) := by decide +kernel
theorem dX0_add_41 : decode cX0_add 41 = .ok (.iconst 1, 1) := by decide +kernel
theorem dX0_add_42 : decode cX0_add 42 = .ok (.ireturn, 1) := by decide +kernel
theorem dX0_firstWrong_0 : decode cX0_firstWrong 0 = .ok (.iconst 0, 1) := by decide +kernel
theorem dX0_firstWrong_1 : decode cX0_firstWrong 1 = .ok (.istore_n 2, 1) := by decide +kernel
theorem dX0_firstWrong_2 : decode cX0_firstWrong 2 = .ok (.iload_n 2, 1) := by decide +kernel
theorem dX0_firstWrong_3 : decode cX0_firstWrong 3 = .ok (.aload_n 0, 1) := by decide +kernel
theorem dX0_firstWrong_4 : decode cX0_firstWrong 4 = .ok (.getfield 18, 3) := by decide +kernel
theorem dX0_firstWrong_7 : decode cX0_firstWrong 7 = .ok (.if_icmp .ge 31, 3) := by decide +kernel
theorem dX0_firstWrong_10 : decode cX0_firstWrong 10 = .ok (.aload_n 1, 1) := by decide +kernel
theorem dX0_firstWrong_11 : decode cX0_firstWrong 11 = .ok (.getfield 22, 3) := by decide +kernel
theorem dX0_firstWrong_14 : decode cX0_firstWrong 14 = .ok (.aload_n 0, 1) := by decide +kernel
theorem dX0_firstWrong_15 : decode cX0_firstWrong 15 = .ok (.getfield 9, 3) := by decide +kernel
theorem dX0_firstWrong_18 : decode cX0_firstWrong 18 = .ok (.iload_n 2, 1) := by decide +kernel
theorem dX0_firstWrong_19 : decode cX0_firstWrong 19 = .ok (.iaload, 1) := by decide +kernel
theorem dX0_firstWrong_20 : decode cX0_firstWrong 20 = .ok (.iaload, 1) := by decide +kernel
theorem dX0_firstWrong_21 : decode cX0_firstWrong 21 = .ok (.aload_n 0, 1) := by decide +kernel
theorem dX0_firstWrong_22 : decode cX0_firstWrong 22 = .ok (.getfield 15, 3) := by decide +kernel
theorem dX0_firstWrong_25 : decode cX0_firstWrong 25 = .ok (.iload_n 2, 1) := by decide +kernel
theorem dX0_firstWrong_26 : decode cX0_firstWrong 26 = .ok (.iaload, 1) := by decide +kernel
theorem dX0_firstWrong_27 : decode cX0_firstWrong 27 = .ok (.if_icmp .eq 5, 3) := by decide +kernel
theorem dX0_firstWrong_30 : decode cX0_firstWrong 30 = .ok (.iload_n 2, 1) := by decide +kernel
theorem dX0_firstWrong_31 : decode cX0_firstWrong 31 = .ok (.ireturn, 1) := by decide +kernel
theorem dX0_firstWrong_32 : decode cX0_firstWrong 32 = .ok (.iinc 2 1, 3) := by decide +kernel
theorem dX0_firstWrong_35 : decode cX0_firstWrong 35 = .ok (.goto (-33), 3) := by decide +kernel
theorem dX0_firstWrong_38 : decode cX0_firstWrong 38 = .ok (.iconst (-1), 1) := by decide +kernel
theorem dX0_firstWrong_39 : decode cX0_firstWrong 39 = .ok (.ireturn, 1) := by decide +kernel
theorem dX1_init_0 : decode cX1_init 0 = .ok (.aload_n 0, 1) := by decide +kernel
theorem dX1_init_1 : decode cX1_init 1 = .ok (.invokespecial 3, 3) := by decide +kernel
theorem dX1_init_4 : decode cX1_init 4 = .ok (.aload_n 0, 1) := by decide +kernel
theorem dX1_init_5 : decode cX1_init 5 = .ok (.bipush 61, 2) := by decide +kernel
theorem dX1_init_7 : decode cX1_init 7 = .ok (.newarray .int, 2) := by decide +kernel
theorem dX1_init_9 : decode cX1_init 9 = .ok (.putfield 9, 3) := by decide +kernel
theorem dX1_init_12 : decode cX1_init 12 = .ok (.aload_n 0, 1) := by decide +kernel
theorem dX1_init_13 : decode cX1_init 13 = .ok (.bipush 6, 2) := by decide +kernel
theorem dX1_init_15 : decode cX1_init 15 = .ok (.newarray .int, 2) := by decide +kernel
theorem dX1_init_17 : decode cX1_init 17 = .ok (.putfield 15, 3) := by decide +kernel
theorem dX1_init_20 : decode cX1_init 20 = .ok (.aload_n 0, 1) := by decide +kernel
theorem dX1_init_21 : decode cX1_init 21 = .ok (.bipush 6, 2) := by decide +kernel
theorem dX1_init_23 : decode cX1_init 23 = .ok (.newarray .int, 2) := by decide +kernel
theorem dX1_init_25 : decode cX1_init 25 = .ok (.putfield 18, 3) := by decide +kernel
theorem dX1_init_28 : decode cX1_init 28 = .ok (.aload_n 0, 1) := by decide +kernel
theorem dX1_init_29 : decode cX1_init 29 = .ok (.bipush 6, 2) := by decide +kernel
theorem dX1_init_31 : decode cX1_init 31 = .ok (.newarray .int, 2) := by decide +kernel
theorem dX1_init_33 : decode cX1_init 33 = .ok (.putfield 21, 3) := by decide +kernel
theorem dX1_init_36 : decode cX1_init 36 = .ok (.aload_n 0, 1) := by decide +kernel
theorem dX1_init_37 : decode cX1_init 37 = .ok (.bipush 81, 2) := by decide +kernel
theorem dX1_init_39 : decode cX1_init 39 = .ok (.newarray .int, 2) := by decide +kernel
theorem dX1_init_41 : decode cX1_init 41 = .ok (.putfield 24, 3) := by decide +kernel
theorem dX1_init_44 : decode cX1_init 44 = .ok (.return_, 1) := by decide +kernel
theorem dX1_clear_0 : decode cX1_clear 0 = .ok (.aload_n 0, 1) := by decide +kernel
theorem dX1_clear_1 : decode cX1_clear 1 = .ok (.iconst 0, 1) := by decide +kernel
theorem dX1_clear_2 : decode cX1_clear 2 = .ok (.putfield 27, 3) := by decide +kernel
theorem dX1_clear_5 : decode cX1_clear 5 = .ok (.return_, 1) := by decide +kernel
theorem dX1_add_0 : decode cX1_add 0 = .ok (.aload_n 0, 1) := by decide +kernel
theorem dX1_add_1 : decode cX1_add 1 = .ok (.getfield 27, 3) := by decide +kernel
theorem dX1_add_4 : decode cX1_add 4 = .ok (.bipush 6, 2) := by decide +kernel
theorem dX1_add_6 : decode cX1_add 6 = .ok (.if_icmp .lt 5, 3) := by decide +kernel
theorem dX1_add_9 : decode cX1_add 9 = .ok (.iconst 0, 1) := by decide +kernel
theorem dX1_add_10 : decode cX1_add 10 = .ok (.ireturn, 1) := by decide +kernel
theorem dX1_add_11 : decode cX1_add 11 = .ok (.aload_n 0, 1) := by decide +kernel
theorem dX1_add_12 : decode cX1_add 12 = .ok (.getfield 15, 3) := by decide +kernel
theorem dX1_add_15 : decode cX1_add 15 = .ok (.aload_n 0, 1) := by decide +kernel
theorem dX1_add_16 : decode cX1_add 16 = .ok (.getfield 27, 3) := by decide +kernel
theorem dX1_add_19 : decode cX1_add 19 = .ok (.iload_n 1, 1) := by decide +kernel
theorem dX1_add_20 : decode cX1_add 20 = .ok (.iastore, 1) := by decide +kernel
theorem dX1_add_21 : decode cX1_add 21 = .ok (.aload_n 0, 1) := by decide +kernel
theorem dX1_add_22 : decode cX1_add 22 = .ok (.getfield 18, 3) := by decide +kernel
theorem dX1_add_25 : decode cX1_add 25 = .ok (.aload_n 0, 1) := by decide +kernel
theorem dX1_add_26 : decode cX1_add 26 = .ok (.getfield 27, 3) := by decide +kernel
theorem dX1_add_29 : decode cX1_add 29 = .ok (.iload_n 2, 1) := by decide +kernel
theorem dX1_add_30 : decode cX1_add 30 = .ok (.iastore, 1) := by decide +kernel
theorem dX1_add_31 : decode cX1_add 31 = .ok (.aload_n 0, 1) := by decide +kernel
theorem dX1_add_32 : decode cX1_add 32 = .ok (.getfield 21, 3) := by decide +kernel
theorem dX1_add_35 : decode cX1_add 35 = .ok (.aload_n 0, 1) := by decide +kernel
theorem dX1_add_36 : decode cX1_add 36 = .ok (.getfield 27, 3) := by decide +kernel
theorem dX1_add_39 : decode cX1_add 39 = .ok (.iload_n 3, 1) := by decide +kernel
theorem dX1_add_40 : decode cX1_add 40 = .ok (.iastore, 1) := by decide +kernel
theorem dX1_add_41 : decode cX1_add 41 = .ok (.aload_n 0, 1) := by decide +kernel
theorem dX1_add_42 : decode cX1_add 42 = .ok (.dup, 1) := by decide +kernel
theorem dX1_add_43 : decode cX1_add 43 = .ok (.getfield 27, 3) := by decide +kernel
theorem dX1_add_46 : decode cX1_add 46 = .ok (.iconst 1, 1) := by decide +kernel
theorem dX1_add_47 : decode cX1_add 47 = .ok (.iadd, 1) := by decide +kernel
theorem dX1_add_48 : decode cX1_add 48 = .ok (.putfield 27, 3) := by decide +kernel
theorem dX1_add_51 : decode cX1_add 51 = .ok (.iconst 1, 1) := by decide +kernel
theorem dX1_add_52 : decode cX1_add 52 = .ok (.ireturn, 1) := by decide +kernel
theorem dX1_findPairs_0 : decode cX1_findPairs 0 = .ok (.aload_n 0, 1) := by decide +kernel
theorem dX1_findPairs_1 : decode cX1_findPairs 1 = .ok (.iconst 0, 1) := by decide +kernel
theorem dX1_findPairs_2 : decode cX1_findPairs 2 = .ok (.putfield 31, 3) := by decide +kernel
theorem dX1_findPairs_5 : decode cX1_findPairs 5 = .ok (.iconst 1, 1) := by decide +kernel
theorem dX1_findPairs_6 : decode cX1_findPairs 6 = .ok (.istore_n 1, 1) := by decide +kernel
theorem dX1_findPairs_7 : decode cX1_findPairs 7 = .ok (.iload_n 1, 1) := by decide +kernel
theorem dX1_findPairs_8 : decode cX1_findPairs 8 = .ok (.bipush 60, 2) := by decide +kernel
theorem dX1_findPairs_10 : decode cX1_findPairs 10 = .ok (.if_icmp .gt 57, 3) := by decide +kernel
theorem dX1_findPairs_13 : decode cX1_findPairs 13 = .ok (.iconst 0, 1) := by decide +kernel
theorem dX1_findPairs_14 : decode cX1_findPairs 14 = .ok (.istore_n 2, 1) := by decide +kernel
theorem dX1_findPairs_15 : decode cX1_findPairs 15 = .ok (.iconst 0, 1) := by decide +kernel
theorem dX1_findPairs_16 : decode cX1_findPairs 16 = .ok (.istore_n 3, 1) := by decide +kernel
theorem dX1_findPairs_17 : decode cX1_findPairs 17 = .ok (.iload_n 3, 1) := by decide +kernel
theorem dX1_findPairs_18 : decode cX1_findPairs 18 = .ok (.bipush 20, 2) := by decide +kernel
theorem dX1_findPairs_20 : decode cX1_findPairs 20 = .ok (.if_icmp .gt 34, 3) := by decide +kernel
theorem dX1_findPairs_23 : decode cX1_findPairs 23 = .ok (.aload_n 0, 1) := by decide +kernel
theorem dX1_findPairs_24 : decode cX1_findPairs 24 = .ok (.iload_n 1, 1) := by decide +kernel
theorem dX1_findPairs_25 : decode cX1_findPairs 25 = .ok (.iload_n 3, 1) := by decide +kernel
theorem dX1_findPairs_26 : decode cX1_findPairs 26 = .ok (.invokevirtual 34, 3) := by decide +kernel
theorem dX1_findPairs_29 : decode cX1_findPairs 29 = .ok (.ifCond .eq 19, 3) := by decide +kernel
theorem dX1_findPairs_32 : decode cX1_findPairs 32 = .ok (.iload_n 2, 1) := by decide +kernel
theorem dX1_findPairs_33 : decode cX1_findPairs 33 = .ok (.iconst 1, 1) := by decide +kernel
theorem dX1_findPairs_34 : decode cX1_findPairs 34 = .ok (.iload_n 3, 1) := by decide +kernel
theorem dX1_findPairs_35 : decode cX1_findPairs 35 = .ok (.ishl, 1) := by decide +kernel
theorem dX1_findPairs_36 : decode cX1_findPairs 36 = .ok (.ior, 1) := by decide +kernel
theorem dX1_findPairs_37 : decode cX1_findPairs 37 = .ok (.istore_n 2, 1) := by decide +kernel
theorem dX1_findPairs_38 : decode cX1_findPairs 38 = .ok (.aload_n 0, 1) := by decide +kernel
theorem dX1_findPairs_39 : decode cX1_findPairs 39 = .ok (.dup, 1) := by decide +kernel
theorem dX1_findPairs_40 : decode cX1_findPairs 40 = .ok (.getfield 31, 3) := by decide +kernel
theorem dX1_findPairs_43 : decode cX1_findPairs 43 = .ok (.iconst 1, 1) := by decide +kernel
theorem dX1_findPairs_44 : decode cX1_findPairs 44 = .ok (.iadd, 1) := by decide +kernel
theorem dX1_findPairs_45 : decode cX1_findPairs 45 = .ok (.putfield 31, 3) := by decide +kernel
theorem dX1_findPairs_48 : decode cX1_findPairs 48 = .ok (.iinc 3 1, 3) := by decide +kernel
theorem dX1_findPairs_51 : decode cX1_findPairs 51 = .ok (.goto (-34), 3) := by decide +kernel
theorem dX1_findPairs_54 : decode cX1_findPairs 54 = .ok (.aload_n 0, 1) := by decide +kernel
theorem dX1_findPairs_55 : decode cX1_findPairs 55 = .ok (.getfield 9, 3) := by decide +kernel
theorem dX1_findPairs_58 : decode cX1_findPairs 58 = .ok (.iload_n 1, 1) := by decide +kernel
theorem dX1_findPairs_59 : decode cX1_findPairs 59 = .ok (.iload_n 2, 1) := by decide +kernel
theorem dX1_findPairs_60 : decode cX1_findPairs 60 = .ok (.iastore, 1) := by decide +kernel
theorem dX1_findPairs_61 : decode cX1_findPairs 61 = .ok (.iinc 1 1, 3) := by decide +kernel
theorem dX1_findPairs_64 : decode cX1_findPairs 64 = .ok (.goto (-57), 3) := by decide +kernel
theorem dX1_findPairs_67 : decode cX1_findPairs 67 = .ok (.return_, 1) := by decide +kernel
theorem dX1_agrees_0 : decode cX1_agrees 0 = .ok (.iconst 0, 1) := by decide +kernel
theorem dX1_agrees_1 : decode cX1_agrees 1 = .ok (.istore_n 3, 1) := by decide +kernel
theorem dX1_agrees_2 : decode cX1_agrees 2 = .ok (.iload_n 3, 1) := by decide +kernel
theorem dX1_agrees_3 : decode cX1_agrees 3 = .ok (.aload_n 0, 1) := by decide +kernel
theorem dX1_agrees_4 : decode cX1_agrees 4 = .ok (.getfield 27, 3) := by decide +kernel
theorem dX1_agrees_7 : decode cX1_agrees 7 = .ok (.if_icmp .ge 45, 3) := by decide +kernel
theorem dX1_agrees_10 : decode cX1_agrees 10 = .ok (.iconst 0, 1) := by decide +kernel
theorem dX1_agrees_11 : decode cX1_agrees 11 = .ok (.iload_n 1, 1) := by decide +kernel
theorem dX1_agrees_12 : decode cX1_agrees 12 = .ok (.aload_n 0, 1) := by decide +kernel
theorem dX1_agrees_13 : decode cX1_agrees 13 = .ok (.getfield 15, 3) := by decide +kernel
theorem dX1_agrees_16 : decode cX1_agrees 16 = .ok (.iload_n 3, 1) := by decide +kernel
theorem dX1_agrees_17 : decode cX1_agrees 17 = .ok (.iaload, 1) := by decide +kernel
theorem dX1_agrees_18 : decode cX1_agrees 18 = .ok (.isub, 1) := by decide +kernel
theorem dX1_agrees_19 : decode cX1_agrees 19 = .ok (.invokestatic 38, 3) := by decide +kernel
theorem dX1_agrees_22 : decode cX1_agrees 22 = .ok (.iconst 0, 1) := by decide +kernel
theorem dX1_agrees_23 : decode cX1_agrees 23 = .ok (.iload_n 2, 1) := by decide +kernel
theorem dX1_agrees_24 : decode cX1_agrees 24 = .ok (.aload_n 0, 1) := by decide +kernel
theorem dX1_agrees_25 : decode cX1_agrees 25 = .ok (.getfield 18, 3) := by decide +kernel
theorem dX1_agrees_28 : decode cX1_agrees 28 = .ok (.iload_n 3, 1) := by decide +kernel
theorem dX1_agrees_29 : decode cX1_agrees 29 = .ok (.iaload, 1) := by decide +kernel
theorem dX1_agrees_30 : decode cX1_agrees 30 = .ok (.isub, 1) := by decide +kernel
theorem dX1_agrees_31 : decode cX1_agrees 31 = .ok (.invokestatic 38, 3) := by decide +kernel
theorem dX1_agrees_34 : decode cX1_agrees 34 = .ok (.iadd, 1) := by decide +kernel
theorem dX1_agrees_35 : decode cX1_agrees 35 = .ok (.aload_n 0, 1) := by decide +kernel
theorem dX1_agrees_36 : decode cX1_agrees 36 = .ok (.getfield 21, 3) := by decide +kernel
theorem dX1_agrees_39 : decode cX1_agrees 39 = .ok (.iload_n 3, 1) := by decide +kernel
theorem dX1_agrees_40 : decode cX1_agrees 40 = .ok (.iaload, 1) := by decide +kernel
theorem dX1_agrees_41 : decode cX1_agrees 41 = .ok (.if_icmp .eq 5, 3) := by decide +kernel
theorem dX1_agrees_44 : decode cX1_agrees 44 = .ok (.iconst 0, 1) := by decide +kernel
theorem dX1_agrees_45 : decode cX1_agrees 45 = .ok (.ireturn, 1) := by decide +kernel
theorem dX1_agrees_46 : decode cX1_agrees 46 = .ok (.iinc 3 1, 3) := by decide +kernel
theorem dX1_agrees_49 : decode cX1_agrees 49 = .ok (.goto (-47), 3) := by decide +kernel
theorem dX1_agrees_52 : decode cX1_agrees 52 = .ok (.iconst 1, 1) := by decide +kernel
theorem dX1_agrees_53 : decode cX1_agrees 53 = .ok (.ireturn, 1) := by decide +kernel
theorem dX1_leastWeight_0 : decode cX1_leastWeight 0 = .ok (.iconst 1, 1) := by decide +kernel
theorem dX1_leastWeight_1 : decode cX1_leastWeight 1 = .ok (.istore_n 1, 1) := by decide +kernel
theorem dX1_leastWeight_2 : decode cX1_leastWeight 2 = .ok (.iload_n 1, 1) := by decide +kernel
theorem dX1_leastWeight_3 : decode cX1_leastWeight 3 = .ok (.bipush 60, 2) := by decide +kernel
theorem dX1_leastWeight_5 : decode cX1_leastWeight 5 = .ok (.if_icmp .gt 20, 3) := by decide +kernel
theorem dX1_leastWeight_8 : decode cX1_leastWeight 8 = .ok (.aload_n 0, 1) := by decide +kernel
theorem dX1_leastWeight_9 : decode cX1_leastWeight 9 = .ok (.getfield 9, 3) := by decide +kernel
theorem dX1_leastWeight_12 : decode cX1_leastWeight 12 = .ok (.iload_n 1, 1) := by decide +kernel
theorem dX1_leastWeight_13 : decode cX1_leastWeight 13 = .ok (.iaload, 1) := by decide +kernel
theorem dX1_leastWeight_14 : decode cX1_leastWeight 14 = .ok (.ifCond .eq 5, 3) := by decide +kernel
theorem dX1_leastWeight_17 : decode cX1_leastWeight 17 = .ok (.iload_n 1, 1) := by decide +kernel
theorem dX1_leastWeight_18 : decode cX1_leastWeight 18 = .ok (.ireturn, 1) := by decide +kernel
theorem dX1_leastWeight_19 : decode cX1_leastWeight 19 = .ok (.iinc 1 1, 3) := by decide +kernel
theorem dX1_leastWeight_22 : decode cX1_leastWeight 22 = .ok (.goto (-20), 3) := by decide +kernel
theorem dX1_leastWeight_25 : decode cX1_leastWeight 25 = .ok (.iconst (-1), 1) := by decide +kernel
theorem dX1_leastWeight_26 : decode cX1_leastWeight 26 = .ok (.ireturn, 1) := by decide +kernel
theorem dX1_leastEdge_0 : decode cX1_leastEdge 0 = .ok (.aload_n 0, 1) := by decide +kernel
theorem dX1_leastEdge_1 : decode cX1_leastEdge 1 = .ok (.invokevirtual 44, 3) := by decide +kernel
theorem dX1_leastEdge_4 : decode cX1_leastEdge 4 = .ok (.istore_n 1, 1) := by decide +kernel
theorem dX1_leastEdge_5 : decode cX1_leastEdge 5 = .ok (.iconst 0, 1) := by decide +kernel
theorem dX1_leastEdge_6 : decode cX1_leastEdge 6 = .ok (.istore_n 2, 1) := by decide +kernel
theorem dX1_leastEdge_7 : decode cX1_leastEdge 7 = .ok (.iload_n 1, 1) := by decide +kernel
theorem dX1_leastEdge_8 : decode cX1_leastEdge 8 = .ok (.iconst (-1), 1) := by decide +kernel
theorem dX1_leastEdge_9 : decode cX1_leastEdge 9 = .ok (.if_icmp .eq 30, 3) := by decide +kernel
theorem dX1_leastEdge_12 : decode cX1_leastEdge 12 = .ok (.iload_n 2, 1) := by decide +kernel
theorem dX1_leastEdge_13 : decode cX1_leastEdge 13 = .ok (.bipush 20, 2) := by decide +kernel
theorem dX1_leastEdge_15 : decode cX1_leastEdge 15 = .ok (.if_icmp .gt 24, 3) := by decide +kernel
theorem dX1_leastEdge_18 : decode cX1_leastEdge 18 = .ok (.aload_n 0, 1) := by decide +kernel
theorem dX1_leastEdge_19 : decode cX1_leastEdge 19 = .ok (.getfield 9, 3) := by decide +kernel
theorem dX1_leastEdge_22 : decode cX1_leastEdge 22 = .ok (.iload_n 1, 1) := by decide +kernel
theorem dX1_leastEdge_23 : decode cX1_leastEdge 23 = .ok (.iaload, 1) := by decide +kernel
theorem dX1_leastEdge_24 : decode cX1_leastEdge 24 = .ok (.iload_n 2, 1) := by decide +kernel
theorem dX1_leastEdge_25 : decode cX1_leastEdge 25 = .ok (.invokestatic 48, 3) := by decide +kernel
theorem dX1_leastEdge_28 : decode cX1_leastEdge 28 = .ok (.ifCond .eq 5, 3) := by decide +kernel
theorem dX1_leastEdge_31 : decode cX1_leastEdge 31 = .ok (.iload_n 2, 1) := by decide +kernel
theorem dX1_leastEdge_32 : decode cX1_leastEdge 32 = .ok (.ireturn, 1) := by decide +kernel
theorem dX1_leastEdge_33 : decode cX1_leastEdge 33 = .ok (.iinc 2 1, 3) := by decide +kernel
theorem dX1_leastEdge_36 : decode cX1_leastEdge 36 = .ok (.goto (-29), 3) := by decide +kernel
theorem dX1_leastEdge_39 : decode cX1_leastEdge 39 = .ok (.iconst (-1), 1) := by decide +kernel
theorem dX1_leastEdge_40 : decode cX1_leastEdge 40 = .ok (.ireturn, 1) := by decide +kernel
theorem dX1_bestStrength_0 : decode cX1_bestStrength 0 = .ok (.iconst (-1), 1) := by decide +kernel
theorem dX1_bestStrength_1 : decode cX1_bestStrength 1 = .ok (.istore_n 1, 1) := by decide +kernel
theorem dX1_bestStrength_2 : decode cX1_bestStrength 2 = .ok (.aload_n 0, 1) := by decide +kernel
theorem dX1_bestStrength_3 : decode cX1_bestStrength 3 = .ok (.getfield 31, 3) := by decide +kernel
theorem dX1_bestStrength_6 : decode cX1_bestStrength 6 = .ok (.istore_n 2, 1) := by decide +kernel
theorem dX1_bestStrength_7 : decode cX1_bestStrength 7 = .ok (.iconst 1, 1) := by decide +kernel
theorem dX1_bestStrength_8 : decode cX1_bestStrength 8 = .ok (.istore_n 3, 1) := by decide +kernel
theorem dX1_bestStrength_9 : decode cX1_bestStrength 9 = .ok (.iload_n 3, 1) := by decide +kernel
theorem dX1_bestStrength_10 : decode cX1_bestStrength 10 = .ok (.bipush 60, 2) := by decide +kernel
theorem dX1_bestStrength_12 : decode cX1_bestStrength 12 = .ok (.if_icmp .gt 28, 3) := by decide +kernel
theorem dX1_bestStrength_15 : decode cX1_bestStrength 15 = .ok (.aload_n 0, 1) := by decide +kernel
theorem dX1_bestStrength_16 : decode cX1_bestStrength 16 = .ok (.iload_n 3, 1) := by decide +kernel
theorem dX1_bestStrength_17 : decode cX1_bestStrength 17 = .ok (.iload_n 2, 1) := by decide +kernel
theorem dX1_bestStrength_18 : decode cX1_bestStrength 18 = .ok (.invokevirtual 51, 3) := by decide +kernel
theorem dX1_bestStrength_21 : decode cX1_bestStrength 21 = .ok (.istore 4, 2) := by decide +kernel
theorem dX1_bestStrength_23 : decode cX1_bestStrength 23 = .ok (.iload 4, 2) := by decide +kernel
theorem dX1_bestStrength_25 : decode cX1_bestStrength 25 = .ok (.iload_n 2, 1) := by decide +kernel
theorem dX1_bestStrength_26 : decode cX1_bestStrength 26 = .ok (.if_icmp .ge 8, 3) := by decide +kernel
theorem dX1_bestStrength_29 : decode cX1_bestStrength 29 = .ok (.iload 4, 2) := by decide +kernel
theorem dX1_bestStrength_31 : decode cX1_bestStrength 31 = .ok (.istore_n 2, 1) := by decide +kernel
theorem dX1_bestStrength_32 : decode cX1_bestStrength 32 = .ok (.iload_n 3, 1) := by decide +kernel
theorem dX1_bestStrength_33 : decode cX1_bestStrength 33 = .ok (.istore_n 1, 1) := by decide +kernel
theorem dX1_bestStrength_34 : decode cX1_bestStrength 34 = .ok (.iinc 3 1, 3) := by decide +kernel
theorem dX1_bestStrength_37 : decode cX1_bestStrength 37 = .ok (.goto (-28), 3) := by decide +kernel
theorem dX1_bestStrength_40 : decode cX1_bestStrength 40 = .ok (.iload_n 1, 1) := by decide +kernel
theorem dX1_bestStrength_41 : decode cX1_bestStrength 41 = .ok (.ireturn, 1) := by decide +kernel
theorem dX1_greatestPart_0 : decode cX1_greatestPart 0 = .ok (.iconst 0, 1) := by decide +kernel
theorem dX1_greatestPart_1 : decode cX1_greatestPart 1 = .ok (.istore_n 3, 1) := by decide +kernel
theorem dX1_greatestPart_2 : decode cX1_greatestPart 2 = .ok (.iload_n 3, 1) := by decide +kernel
theorem dX1_greatestPart_3 : decode cX1_greatestPart 3 = .ok (.aload_n 0, 1) := by decide +kernel
theorem dX1_greatestPart_4 : decode cX1_greatestPart 4 = .ok (.getfield 24, 3) := by decide +kernel
theorem dX1_greatestPart_7 : decode cX1_greatestPart 7 = .ok (.arraylength, 1) := by decide +kernel
theorem dX1_greatestPart_8 : decode cX1_greatestPart 8 = .ok (.if_icmp .ge 16, 3) := by decide +kernel
theorem dX1_greatestPart_11 : decode cX1_greatestPart 11 = .ok (.aload_n 0, 1) := by decide +kernel
theorem dX1_greatestPart_12 : decode cX1_greatestPart 12 = .ok (.getfield 24, 3) := by decide +kernel
theorem dX1_greatestPart_15 : decode cX1_greatestPart 15 = .ok (.iload_n 3, 1) := by decide +kernel
theorem dX1_greatestPart_16 : decode cX1_greatestPart 16 = .ok (.iconst 0, 1) := by decide +kernel
theorem dX1_greatestPart_17 : decode cX1_greatestPart 17 = .ok (.iastore, 1) := by decide +kernel
theorem dX1_greatestPart_18 : decode cX1_greatestPart 18 = .ok (.iinc 3 1, 3) := by decide +kernel
theorem dX1_greatestPart_21 : decode cX1_greatestPart 21 = .ok (.goto (-19), 3) := by decide +kernel
theorem dX1_greatestPart_24 : decode cX1_greatestPart 24 = .ok (.iconst 0, 1) := by decide +kernel
theorem dX1_greatestPart_25 : decode cX1_greatestPart 25 = .ok (.istore_n 3, 1) := by decide +kernel
theorem dX1_greatestPart_26 : decode cX1_greatestPart 26 = .ok (.iconst 1, 1) := by decide +kernel
theorem dX1_greatestPart_27 : decode cX1_greatestPart 27 = .ok (.istore 4, 2) := by decide +kernel
theorem dX1_greatestPart_29 : decode cX1_greatestPart 29 = .ok (.iload 4, 2) := by decide +kernel
theorem dX1_greatestPart_31 : decode cX1_greatestPart 31 = .ok (.bipush 60, 2) := by decide +kernel
theorem dX1_greatestPart_33 : decode cX1_greatestPart 33 = .ok (.if_icmp .gt 84, 3) := by decide +kernel
theorem dX1_greatestPart_36 : decode cX1_greatestPart 36 = .ok (.iload_n 3, 1) := by decide +kernel
theorem dX1_greatestPart_37 : decode cX1_greatestPart 37 = .ok (.iload_n 2, 1) := by decide +kernel
theorem dX1_greatestPart_38 : decode cX1_greatestPart 38 = .ok (.if_icmp .ge 79, 3) := by decide +kernel
theorem dX1_greatestPart_41 : decode cX1_greatestPart 41 = .ok (.iconst 0, 1) := by decide +kernel
theorem dX1_greatestPart_42 : decode cX1_greatestPart 42 = .ok (.iload 4, 2) := by decide +kernel
theorem dX1_greatestPart_44 : decode cX1_greatestPart 44 = .ok (.iload_n 1, 1) := by decide +kernel
theorem dX1_greatestPart_45 : decode cX1_greatestPart 45 = .ok (.isub, 1) := by decide +kernel
theorem dX1_greatestPart_46 : decode cX1_greatestPart 46 = .ok (.invokestatic 38, 3) := by decide +kernel
theorem dX1_greatestPart_49 : decode cX1_greatestPart 49 = .ok (.istore 5, 2) := by decide +kernel
theorem dX1_greatestPart_51 : decode cX1_greatestPart 51 = .ok (.iconst 0, 1) := by decide +kernel
theorem dX1_greatestPart_52 : decode cX1_greatestPart 52 = .ok (.istore 6, 2) := by decide +kernel
theorem dX1_greatestPart_54 : decode cX1_greatestPart 54 = .ok (.iload 6, 2) := by decide +kernel
theorem dX1_greatestPart_56 : decode cX1_greatestPart 56 = .ok (.bipush 20, 2) := by decide +kernel
theorem dX1_greatestPart_58 : decode cX1_greatestPart 58 = .ok (.if_icmp .gt 53, 3) := by decide +kernel
theorem dX1_greatestPart_61 : decode cX1_greatestPart 61 = .ok (.aload_n 0, 1) := by decide +kernel
theorem dX1_greatestPart_62 : decode cX1_greatestPart 62 = .ok (.getfield 9, 3) := by decide +kernel
theorem dX1_greatestPart_65 : decode cX1_greatestPart 65 = .ok (.iload 4, 2) := by decide +kernel
theorem dX1_greatestPart_67 : decode cX1_greatestPart 67 = .ok (.iaload, 1) := by decide +kernel
theorem dX1_greatestPart_68 : decode cX1_greatestPart 68 = .ok (.iload 6, 2) := by decide +kernel
theorem dX1_greatestPart_70 : decode cX1_greatestPart 70 = .ok (.invokestatic 48, 3) := by decide +kernel
theorem dX1_greatestPart_73 : decode cX1_greatestPart 73 = .ok (.ifCond .eq 32, 3) := by decide +kernel
theorem dX1_greatestPart_76 : decode cX1_greatestPart 76 = .ok (.aload_n 0, 1) := by decide +kernel
theorem dX1_greatestPart_77 : decode cX1_greatestPart 77 = .ok (.getfield 24, 3) := by decide +kernel
theorem dX1_greatestPart_80 : decode cX1_greatestPart 80 = .ok (.iload 5, 2) := by decide +kernel
theorem dX1_greatestPart_82 : decode cX1_greatestPart 82 = .ok (.iload 6, 2) := by decide +kernel
theorem dX1_greatestPart_84 : decode cX1_greatestPart 84 = .ok (.iadd, 1) := by decide +kernel
theorem dX1_greatestPart_85 : decode cX1_greatestPart 85 = .ok (.dup2, 1) := by decide +kernel
theorem dX1_greatestPart_86 : decode cX1_greatestPart 86 = .ok (.iaload, 1) := by decide +kernel
theorem dX1_greatestPart_87 : decode cX1_greatestPart 87 = .ok (.iconst 1, 1) := by decide +kernel
theorem dX1_greatestPart_88 : decode cX1_greatestPart 88 = .ok (.iadd, 1) := by decide +kernel
theorem dX1_greatestPart_89 : decode cX1_greatestPart 89 = .ok (.iastore, 1) := by decide +kernel
theorem dX1_greatestPart_90 : decode cX1_greatestPart 90 = .ok (.iload_n 3, 1) := by decide +kernel
theorem dX1_greatestPart_91 : decode cX1_greatestPart 91 = .ok (.aload_n 0, 1) := by decide +kernel
theorem dX1_greatestPart_92 : decode cX1_greatestPart 92 = .ok (.getfield 24, 3) := by decide +kernel
theorem dX1_greatestPart_95 : decode cX1_greatestPart 95 = .ok (.iload 5, 2) := by decide +kernel
theorem dX1_greatestPart_97 : decode cX1_greatestPart 97 = .ok (.iload 6, 2) := by decide +kernel
theorem dX1_greatestPart_99 : decode cX1_greatestPart 99 = .ok (.iadd, 1) := by decide +kernel
theorem dX1_greatestPart_100 : decode cX1_greatestPart 100 = .ok (.iaload, 1) := by decide +kernel
theorem dX1_greatestPart_101 : decode cX1_greatestPart 101 = .ok (.invokestatic 38, 3) := by decide +kernel
theorem dX1_greatestPart_104 : decode cX1_greatestPart 104 = .ok (.istore_n 3, 1) := by decide +kernel
theorem dX1_greatestPart_105 : decode cX1_greatestPart 105 = .ok (.iinc 6 1, 3) := by decide +kernel
theorem dX1_greatestPart_108 : decode cX1_greatestPart 108 = .ok (.goto (-54), 3) := by decide +kernel
theorem dX1_greatestPart_111 : decode cX1_greatestPart 111 = .ok (.iinc 4 1, 3) := by decide +kernel
theorem dX1_greatestPart_114 : decode cX1_greatestPart 114 = .ok (.goto (-85), 3) := by decide +kernel
theorem dX1_greatestPart_117 : decode cX1_greatestPart 117 = .ok (.iload_n 3, 1) := by decide +kernel
theorem dX1_greatestPart_118 : decode cX1_greatestPart 118 = .ok (.ireturn, 1) := by decide +kernel
theorem dX2_init_0 : decode cX2_init 0 = .ok (.aload_n 0, 1) := by decide +kernel
theorem dX2_init_1 : decode cX2_init 1 = .ok (.invokespecial 3, 3) := by decide +kernel
theorem dX2_init_4 : decode cX2_init 4 = .ok (.aload_n 0, 1) := by decide +kernel
theorem dX2_init_5 : decode cX2_init 5 = .ok (.bipush 6, 2) := by decide +kernel
theorem dX2_init_7 : decode cX2_init 7 = .ok (.newarray .int, 2) := by decide +kernel
theorem dX2_init_9 : decode cX2_init 9 = .ok (.putfield 9, 3) := by decide +kernel
theorem dX2_init_12 : decode cX2_init 12 = .ok (.aload_n 0, 1) := by decide +kernel
theorem dX2_init_13 : decode cX2_init 13 = .ok (.iconst 5, 1) := by decide +kernel
theorem dX2_init_14 : decode cX2_init 14 = .ok (.newarray .int, 2) := by decide +kernel
theorem dX2_init_16 : decode cX2_init 16 = .ok (.putfield 15, 3) := by decide +kernel
theorem dX2_init_19 : decode cX2_init 19 = .ok (.aload_n 0, 1) := by decide +kernel
theorem dX2_init_20 : decode cX2_init 20 = .ok (.bipush 6, 2) := by decide +kernel
theorem dX2_init_22 : decode cX2_init 22 = .ok (.newarray .int, 2) := by decide +kernel
theorem dX2_init_24 : decode cX2_init 24 = .ok (.putfield 18, 3) := by decide +kernel
theorem dX2_init_27 : decode cX2_init 27 = .ok (.return_, 1) := by decide +kernel
theorem dX2_layAlone_0 : decode cX2_layAlone 0 = .ok (.aload_n 0, 1) := by decide +kernel
theorem dX2_layAlone_1 : decode cX2_layAlone 1 = .ok (.invokevirtual 21, 3) := by decide +kernel
theorem dX2_layAlone_4 : decode cX2_layAlone 4 = .ok (.aload_n 0, 1) := by decide +kernel
theorem dX2_layAlone_5 : decode cX2_layAlone 5 = .ok (.aload_n 1, 1) := by decide +kernel
theorem dX2_layAlone_6 : decode cX2_layAlone 6 = .ok (.iconst 0, 1) := by decide +kernel
theorem dX2_layAlone_7 : decode cX2_layAlone 7 = .ok (.iconst 0, 1) := by decide +kernel
theorem dX2_layAlone_8 : decode cX2_layAlone 8 = .ok (.iconst (-1), 1) := by decide +kernel
theorem dX2_layAlone_9 : decode cX2_layAlone 9 = .ok (.invokevirtual 24, 3) := by decide +kernel
theorem dX2_layAlone_12 : decode cX2_layAlone 12 = .ok (.return_, 1) := by decide +kernel
theorem dX2_layByTwo_0 : decode cX2_layByTwo 0 = .ok (.aload_n 0, 1) := by decide +kernel
theorem dX2_layByTwo_1 : decode cX2_layByTwo 1 = .ok (.invokevirtual 21, 3) := by decide +kernel
theorem dX2_layByTwo_4 : decode cX2_layByTwo 4 = .ok (.aload_n 1, 1) := by decide +kernel
theorem dX2_layByTwo_5 : decode cX2_layByTwo 5 = .ok (.getfield 28, 3) := by decide +kernel
theorem dX2_layByTwo_8 : decode cX2_layByTwo 8 = .ok (.getfield 34, 3) := by decide +kernel
theorem dX2_layByTwo_11 : decode cX2_layByTwo 11 = .ok (.iload_n 2, 1) := by decide +kernel
theorem dX2_layByTwo_12 : decode cX2_layByTwo 12 = .ok (.iaload, 1) := by decide +kernel
theorem dX2_layByTwo_13 : decode cX2_layByTwo 13 = .ok (.istore_n 3, 1) := by decide +kernel
theorem dX2_layByTwo_14 : decode cX2_layByTwo 14 = .ok (.aload_n 1, 1) := by decide +kernel
theorem dX2_layByTwo_15 : decode cX2_layByTwo 15 = .ok (.getfield 28, 3) := by decide +kernel
theorem dX2_layByTwo_18 : decode cX2_layByTwo 18 = .ok (.getfield 39, 3) := by decide +kernel
theorem dX2_layByTwo_21 : decode cX2_layByTwo 21 = .ok (.istore 4, 2) := by decide +kernel
theorem dX2_layByTwo_23 : decode cX2_layByTwo 23 = .ok (.aload_n 1, 1) := by decide +kernel
theorem dX2_layByTwo_24 : decode cX2_layByTwo 24 = .ok (.getfield 43, 3) := by decide +kernel
theorem dX2_layByTwo_27 : decode cX2_layByTwo 27 = .ok (.getfield 47, 3) := by decide +kernel
theorem dX2_layByTwo_30 : decode cX2_layByTwo 30 = .ok (.istore 5, 2) := by decide +kernel
theorem dX2_layByTwo_32 : decode cX2_layByTwo 32 = .ok (.iload_n 3, 1) := by decide +kernel
theorem dX2_layByTwo_33 : decode cX2_layByTwo 33 = .ok (.iconst 2, 1) := by decide +kernel
theorem dX2_layByTwo_34 : decode cX2_layByTwo 34 = .ok (.idiv, 1) := by decide +kernel
theorem dX2_layByTwo_35 : decode cX2_layByTwo 35 = .ok (.istore 6, 2) := by decide +kernel
theorem dX2_layByTwo_37 : decode cX2_layByTwo 37 = .ok (.iconst 0, 1) := by decide +kernel
theorem dX2_layByTwo_38 : decode cX2_layByTwo 38 = .ok (.istore 7, 2) := by decide +kernel
theorem dX2_layByTwo_40 : decode cX2_layByTwo 40 = .ok (.iload 7, 2) := by decide +kernel
theorem dX2_layByTwo_42 : decode cX2_layByTwo 42 = .ok (.iload 5, 2) := by decide +kernel
theorem dX2_layByTwo_44 : decode cX2_layByTwo 44 = .ok (.if_icmp .ge 120, 3) := by decide +kernel
theorem dX2_layByTwo_47 : decode cX2_layByTwo 47 = .ok (.iload 7, 2) := by decide +kernel
theorem dX2_layByTwo_49 : decode cX2_layByTwo 49 = .ok (.iconst 1, 1) := by decide +kernel
theorem dX2_layByTwo_50 : decode cX2_layByTwo 50 = .ok (.iadd, 1) := by decide +kernel
theorem dX2_layByTwo_51 : decode cX2_layByTwo 51 = .ok (.istore 8, 2) := by decide +kernel
theorem dX2_layByTwo_53 : decode cX2_layByTwo 53 = .ok (.iload 8, 2) := by decide +kernel
theorem dX2_layByTwo_55 : decode cX2_layByTwo 55 = .ok (.iload 5, 2) := by decide +kernel
theorem dX2_layByTwo_57 : decode cX2_layByTwo 57 = .ok (.if_icmp .ge 101, 3) := by decide +kernel
theorem dX2_layByTwo_60 : decode cX2_layByTwo 60 = .ok (.aload_n 0, 1) := by decide +kernel
theorem dX2_layByTwo_61 : decode cX2_layByTwo 61 = .ok (.bipush 10, 2) := by decide +kernel
theorem dX2_layByTwo_63 : decode cX2_layByTwo 63 = .ok (.iload 7, 2) := by decide +kernel
theorem dX2_layByTwo_65 : decode cX2_layByTwo 65 = .ok (.imul, 1) := by decide +kernel
theorem dX2_layByTwo_66 : decode cX2_layByTwo 66 = .ok (.iload 8, 2) := by decide +kernel
theorem dX2_layByTwo_68 : decode cX2_layByTwo 68 = .ok (.iadd, 1) := by decide +kernel
theorem dX2_layByTwo_69 : decode cX2_layByTwo 69 = .ok (.putfield 52, 3) := by decide +kernel
theorem dX2_layByTwo_72 : decode cX2_layByTwo 72 = .ok (.aload_n 0, 1) := by decide +kernel
theorem dX2_layByTwo_73 : decode cX2_layByTwo 73 = .ok (.aload_n 1, 1) := by decide +kernel
theorem dX2_layByTwo_74 : decode cX2_layByTwo 74 = .ok (.iload 7, 2) := by decide +kernel
theorem dX2_layByTwo_76 : decode cX2_layByTwo 76 = .ok (.iload_n 3, 1) := by decide +kernel
theorem dX2_layByTwo_77 : decode cX2_layByTwo 77 = .ok (.iload 6, 2) := by decide +kernel
theorem dX2_layByTwo_79 : decode cX2_layByTwo 79 = .ok (.isub, 1) := by decide +kernel
theorem dX2_layByTwo_80 : decode cX2_layByTwo 80 = .ok (.invokevirtual 55, 3) := by decide +kernel
theorem dX2_layByTwo_83 : decode cX2_layByTwo 83 = .ok (.aload_n 1, 1) := by decide +kernel
theorem dX2_layByTwo_84 : decode cX2_layByTwo 84 = .ok (.iload_n 2, 1) := by decide +kernel
theorem dX2_layByTwo_85 : decode cX2_layByTwo 85 = .ok (.iload 7, 2) := by decide +kernel
theorem dX2_layByTwo_87 : decode cX2_layByTwo 87 = .ok (.iconst 1, 1) := by decide +kernel
theorem dX2_layByTwo_88 : decode cX2_layByTwo 88 = .ok (.iload 4, 2) := by decide +kernel
theorem dX2_layByTwo_90 : decode cX2_layByTwo 90 = .ok (.invokevirtual 59, 3) := by decide +kernel
theorem dX2_layByTwo_93 : decode cX2_layByTwo 93 = .ok (.iadd, 1) := by decide +kernel
theorem dX2_layByTwo_94 : decode cX2_layByTwo 94 = .ok (.aload_n 0, 1) := by decide +kernel
theorem dX2_layByTwo_95 : decode cX2_layByTwo 95 = .ok (.aload_n 1, 1) := by decide +kernel
theorem dX2_layByTwo_96 : decode cX2_layByTwo 96 = .ok (.iload 8, 2) := by decide +kernel
theorem dX2_layByTwo_98 : decode cX2_layByTwo 98 = .ok (.iload 6, 2) := by decide +kernel
theorem dX2_layByTwo_100 : decode cX2_layByTwo 100 = .ok (.invokevirtual 55, 3) := by decide +kernel
theorem dX2_layByTwo_103 : decode cX2_layByTwo 103 = .ok (.iadd, 1) := by decide +kernel
theorem dX2_layByTwo_104 : decode cX2_layByTwo 104 = .ok (.aload_n 1, 1) := by decide +kernel
theorem dX2_layByTwo_105 : decode cX2_layByTwo 105 = .ok (.iload_n 2, 1) := by decide +kernel
theorem dX2_layByTwo_106 : decode cX2_layByTwo 106 = .ok (.iload 8, 2) := by decide +kernel
theorem dX2_layByTwo_108 : decode cX2_layByTwo 108 = .ok (.iconst 1, 1) := by decide +kernel
theorem dX2_layByTwo_109 : decode cX2_layByTwo 109 = .ok (.iload 4, 2) := by decide +kernel
theorem dX2_layByTwo_111 : decode cX2_layByTwo 111 = .ok (.invokevirtual 59, 3) := by decide +kernel
theorem dX2_layByTwo_114 : decode cX2_layByTwo 114 = .ok (.iadd, 1) := by decide +kernel
theorem dX2_layByTwo_115 : decode cX2_layByTwo 115 = .ok (.istore 9, 2) := by decide +kernel
theorem dX2_layByTwo_117 : decode cX2_layByTwo 117 = .ok (.aload_n 0, 1) := by decide +kernel
theorem dX2_layByTwo_118 : decode cX2_layByTwo 118 = .ok (.aload_n 1, 1) := by decide +kernel
theorem dX2_layByTwo_119 : decode cX2_layByTwo 119 = .ok (.iconst 0, 1) := by decide +kernel
theorem dX2_layByTwo_120 : decode cX2_layByTwo 120 = .ok (.iload 9, 2) := by decide +kernel
theorem dX2_layByTwo_122 : decode cX2_layByTwo 122 = .ok (.iload_n 2, 1) := by decide +kernel
theorem dX2_layByTwo_123 : decode cX2_layByTwo 123 = .ok (.invokevirtual 24, 3) := by decide +kernel
theorem dX2_layByTwo_126 : decode cX2_layByTwo 126 = .ok (.aload_n 0, 1) := by decide +kernel
theorem dX2_layByTwo_127 : decode cX2_layByTwo 127 = .ok (.getfield 15, 3) := by decide +kernel
theorem dX2_layByTwo_130 : decode cX2_layByTwo 130 = .ok (.iload 7, 2) := by decide +kernel
theorem dX2_layByTwo_132 : decode cX2_layByTwo 132 = .ok (.dup2, 1) := by decide +kernel
theorem dX2_layByTwo_133 : decode cX2_layByTwo 133 = .ok (.iaload, 1) := by decide +kernel
theorem dX2_layByTwo_134 : decode cX2_layByTwo 134 = .ok (.iload_n 3, 1) := by decide +kernel
theorem dX2_layByTwo_135 : decode cX2_layByTwo 135 = .ok (.iload 6, 2) := by decide +kernel
theorem dX2_layByTwo_137 : decode cX2_layByTwo 137 = .ok (.isub, 1) := by decide +kernel
theorem dX2_layByTwo_138 : decode cX2_layByTwo 138 = .ok (.isub, 1) := by decide +kernel
theorem dX2_layByTwo_139 : decode cX2_layByTwo 139 = .ok (.iastore, 1) := by decide +kernel
theorem dX2_layByTwo_140 : decode cX2_layByTwo 140 = .ok (.aload_n 0, 1) := by decide +kernel
theorem dX2_layByTwo_141 : decode cX2_layByTwo 141 = .ok (.getfield 15, 3) := by decide +kernel
theorem dX2_layByTwo_144 : decode cX2_layByTwo 144 = .ok (.iload 8, 2) := by decide +kernel
theorem dX2_layByTwo_146 : decode cX2_layByTwo 146 = .ok (.dup2, 1) := by decide +kernel
theorem dX2_layByTwo_147 : decode cX2_layByTwo 147 = .ok (.iaload, 1) := by decide +kernel
theorem dX2_layByTwo_148 : decode cX2_layByTwo 148 = .ok (.iload 6, 2) := by decide +kernel
theorem dX2_layByTwo_150 : decode cX2_layByTwo 150 = .ok (.isub, 1) := by decide +kernel
theorem dX2_layByTwo_151 : decode cX2_layByTwo 151 = .ok (.iastore, 1) := by decide +kernel
theorem dX2_layByTwo_152 : decode cX2_layByTwo 152 = .ok (.iinc 8 1, 3) := by decide +kernel
theorem dX2_layByTwo_155 : decode cX2_layByTwo 155 = .ok (.goto (-102), 3) := by decide +kernel
theorem dX2_layByTwo_158 : decode cX2_layByTwo 158 = .ok (.iinc 7 1, 3) := by decide +kernel
theorem dX2_layByTwo_161 : decode cX2_layByTwo 161 = .ok (.goto (-121), 3) := by decide +kernel
theorem dX2_layByTwo_164 : decode cX2_layByTwo 164 = .ok (.return_, 1) := by decide +kernel
theorem dX2_begin_0 : decode cX2_begin 0 = .ok (.aload_n 0, 1) := by decide +kernel
theorem dX2_begin_1 : decode cX2_begin 1 = .ok (.ldc 63, 2) := by decide +kernel
theorem dX2_begin_3 : decode cX2_begin 3 = .ok (.putfield 64, 3) := by decide +kernel
theorem dX2_begin_6 : decode cX2_begin 6 = .ok (.aload_n 0, 1) := by decide +kernel
theorem dX2_begin_7 : decode cX2_begin 7 = .ok (.iconst (-1), 1) := by decide +kernel
theorem dX2_begin_8 : decode cX2_begin 8 = .ok (.putfield 67, 3) := by decide +kernel
theorem dX2_begin_11 : decode cX2_begin 11 = .ok (.aload_n 0, 1) := by decide +kernel
theorem dX2_begin_12 : decode cX2_begin 12 = .ok (.iconst (-1), 1) := by decide +kernel
theorem dX2_begin_13 : decode cX2_begin 13 = .ok (.putfield 52, 3) := by decide +kernel
theorem dX2_begin_16 : decode cX2_begin 16 = .ok (.iconst 0, 1) := by decide +kernel
theorem dX2_begin_17 : decode cX2_begin 17 = .ok (.istore_n 1, 1) := by decide +kernel
theorem dX2_begin_18 : decode cX2_begin 18 = .ok (.iload_n 1, 1) := by decide +kernel
theorem dX2_begin_19 : decode cX2_begin 19 = .ok (.iconst 5, 1) := by decide +kernel
theorem dX2_begin_20 : decode cX2_begin 20 = .ok (.if_icmp .ge 16, 3) := by decide +kernel
theorem dX2_begin_23 : decode cX2_begin 23 = .ok (.aload_n 0, 1) := by decide +kernel
theorem dX2_begin_24 : decode cX2_begin 24 = .ok (.getfield 15, 3) := by decide +kernel
theorem dX2_begin_27 : decode cX2_begin 27 = .ok (.iload_n 1, 1) := by decide +kernel
theorem dX2_begin_28 : decode cX2_begin 28 = .ok (.iconst 0, 1) := by decide +kernel
theorem dX2_begin_29 : decode cX2_begin 29 = .ok (.iastore, 1) := by decide +kernel
theorem dX2_begin_30 : decode cX2_begin 30 = .ok (.iinc 1 1, 3) := by decide +kernel
theorem dX2_begin_33 : decode cX2_begin 33 = .ok (.goto (-15), 3) := by decide +kernel
theorem dX2_begin_36 : decode cX2_begin 36 = .ok (.return_, 1) := by decide +kernel
theorem dX2_putOn_0 : decode cX2_putOn 0 = .ok (.aload_n 1, 1) := by decide +kernel
theorem dX2_putOn_1 : decode cX2_putOn 1 = .ok (.getfield 43, 3) := by decide +kernel
theorem dX2_putOn_4 : decode cX2_putOn 4 = .ok (.getfield 70, 3) := by decide +kernel
theorem dX2_putOn_7 : decode cX2_putOn 7 = .ok (.iload_n 2, 1) := by decide +kernel
theorem dX2_putOn_8 : decode cX2_putOn 8 = .ok (.iaload, 1) := by decide +kernel
theorem dX2_putOn_9 : decode cX2_putOn 9 = .ok (.istore 4, 2) := by decide +kernel
theorem dX2_putOn_11 : decode cX2_putOn 11 = .ok (.iconst 0, 1) := by decide +kernel
theorem dX2_putOn_12 : decode cX2_putOn 12 = .ok (.aload_n 0, 1) := by decide +kernel
theorem dX2_putOn_13 : decode cX2_putOn 13 = .ok (.getfield 15, 3) := by decide +kernel
theorem dX2_putOn_16 : decode cX2_putOn 16 = .ok (.iload_n 2, 1) := by decide +kernel
theorem dX2_putOn_17 : decode cX2_putOn 17 = .ok (.iaload, 1) := by decide +kernel
theorem dX2_putOn_18 : decode cX2_putOn 18 = .ok (.iload 4, 2) := by decide +kernel
theorem dX2_putOn_20 : decode cX2_putOn 20 = .ok (.isub, 1) := by decide +kernel
theorem dX2_putOn_21 : decode cX2_putOn 21 = .ok (.invokestatic 73, 3) := by decide +kernel
theorem dX2_putOn_24 : decode cX2_putOn 24 = .ok (.istore 5, 2) := by decide +kernel
theorem dX2_putOn_26 : decode cX2_putOn 26 = .ok (.aload_n 0, 1) := by decide +kernel
theorem dX2_putOn_27 : decode cX2_putOn 27 = .ok (.getfield 15, 3) := by decide +kernel
theorem dX2_putOn_30 : decode cX2_putOn 30 = .ok (.iload_n 2, 1) := by decide +kernel
theorem dX2_putOn_31 : decode cX2_putOn 31 = .ok (.dup2, 1) := by decide +kernel
theorem dX2_putOn_32 : decode cX2_putOn 32 = .ok (.iaload, 1) := by decide +kernel
theorem dX2_putOn_33 : decode cX2_putOn 33 = .ok (.iload_n 3, 1) := by decide +kernel
theorem dX2_putOn_34 : decode cX2_putOn 34 = .ok (.iadd, 1) := by decide +kernel
theorem dX2_putOn_35 : decode cX2_putOn 35 = .ok (.iastore, 1) := by decide +kernel
theorem dX2_putOn_36 : decode cX2_putOn 36 = .ok (.iconst 0, 1) := by decide +kernel
theorem dX2_putOn_37 : decode cX2_putOn 37 = .ok (.aload_n 0, 1) := by decide +kernel
theorem dX2_putOn_38 : decode cX2_putOn 38 = .ok (.getfield 15, 3) := by decide +kernel
theorem dX2_putOn_41 : decode cX2_putOn 41 = .ok (.iload_n 2, 1) := by decide +kernel
theorem dX2_putOn_42 : decode cX2_putOn 42 = .ok (.iaload, 1) := by decide +kernel
theorem dX2_putOn_43 : decode cX2_putOn 43 = .ok (.iload 4, 2) := by decide +kernel
theorem dX2_putOn_45 : decode cX2_putOn 45 = .ok (.isub, 1) := by decide +kernel
theorem dX2_putOn_46 : decode cX2_putOn 46 = .ok (.invokestatic 73, 3) := by decide +kernel
theorem dX2_putOn_49 : decode cX2_putOn 49 = .ok (.iload 5, 2) := by decide +kernel
theorem dX2_putOn_51 : decode cX2_putOn 51 = .ok (.isub, 1) := by decide +kernel
theorem dX2_putOn_52 : decode cX2_putOn 52 = .ok (.ireturn, 1) := by decide +kernel
theorem dX2_lay_0 : decode cX2_lay 0 = .ok (.iload_n 3, 1) := by decide +kernel
theorem dX2_lay_1 : decode cX2_lay 1 = .ok (.aload_n 0, 1) := by decide +kernel
theorem dX2_lay_2 : decode cX2_lay 2 = .ok (.getfield 64, 3) := by decide +kernel
theorem dX2_lay_5 : decode cX2_lay 5 = .ok (.if_icmp .ge 9, 3) := by decide +kernel
theorem dX2_lay_8 : decode cX2_lay 8 = .ok (.iload_n 2, 1) := by decide +kernel
theorem dX2_lay_9 : decode cX2_lay 9 = .ok (.bipush 6, 2) := by decide +kernel
theorem dX2_lay_11 : decode cX2_lay 11 = .ok (.if_icmp .le 4, 3) := by decide +kernel
theorem dX2_lay_14 : decode cX2_lay 14 = .ok (.return_, 1) := by decide +kernel
theorem dX2_lay_15 : decode cX2_lay 15 = .ok (.iload_n 2, 1) := by decide +kernel
theorem dX2_lay_16 : decode cX2_lay 16 = .ok (.aload_n 1, 1) := by decide +kernel
theorem dX2_lay_17 : decode cX2_lay 17 = .ok (.getfield 43, 3) := by decide +kernel
theorem dX2_lay_20 : decode cX2_lay 20 = .ok (.getfield 79, 3) := by decide +kernel
theorem dX2_lay_23 : decode cX2_lay 23 = .ok (.if_icmp .lt 32, 3) := by decide +kernel
theorem dX2_lay_26 : decode cX2_lay 26 = .ok (.aload_n 0, 1) := by decide +kernel
theorem dX2_lay_27 : decode cX2_lay 27 = .ok (.iload_n 3, 1) := by decide +kernel
theorem dX2_lay_28 : decode cX2_lay 28 = .ok (.putfield 64, 3) := by decide +kernel
theorem dX2_lay_31 : decode cX2_lay 31 = .ok (.aload_n 0, 1) := by decide +kernel
theorem dX2_lay_32 : decode cX2_lay 32 = .ok (.aload_n 0, 1) := by decide +kernel
theorem dX2_lay_33 : decode cX2_lay 33 = .ok (.getfield 52, 3) := by decide +kernel
theorem dX2_lay_36 : decode cX2_lay 36 = .ok (.putfield 67, 3) := by decide +kernel
theorem dX2_lay_39 : decode cX2_lay 39 = .ok (.aload_n 0, 1) := by decide +kernel
theorem dX2_lay_40 : decode cX2_lay 40 = .ok (.getfield 18, 3) := by decide +kernel
theorem dX2_lay_43 : decode cX2_lay 43 = .ok (.iconst 0, 1) := by decide +kernel
theorem dX2_lay_44 : decode cX2_lay 44 = .ok (.aload_n 0, 1) := by decide +kernel
theorem dX2_lay_45 : decode cX2_lay 45 = .ok (.getfield 9, 3) := by decide +kernel
theorem dX2_lay_48 : decode cX2_lay 48 = .ok (.iconst 0, 1) := by decide +kernel
theorem dX2_lay_49 : decode cX2_lay 49 = .ok (.bipush 6, 2) := by decide +kernel
theorem dX2_lay_51 : decode cX2_lay 51 = .ok (.invokestatic 82, 3) := by decide +kernel
theorem dX2_lay_54 : decode cX2_lay 54 = .ok (.return_, 1) := by decide +kernel
theorem dX2_lay_55 : decode cX2_lay 55 = .ok (.iload_n 2, 1) := by decide +kernel
theorem dX2_lay_56 : decode cX2_lay 56 = .ok (.iload 4, 2) := by decide +kernel
theorem dX2_lay_58 : decode cX2_lay 58 = .ok (.if_icmp .ne 15, 3) := by decide +kernel
theorem dX2_lay_61 : decode cX2_lay 61 = .ok (.aload_n 0, 1) := by decide +kernel
theorem dX2_lay_62 : decode cX2_lay 62 = .ok (.aload_n 1, 1) := by decide +kernel
theorem dX2_lay_63 : decode cX2_lay 63 = .ok (.iload_n 2, 1) := by decide +kernel
theorem dX2_lay_64 : decode cX2_lay 64 = .ok (.iconst 1, 1) := by decide +kernel
theorem dX2_lay_65 : decode cX2_lay 65 = .ok (.iadd, 1) := by decide +kernel
theorem dX2_lay_66 : decode cX2_lay 66 = .ok (.iload_n 3, 1) := by decide +kernel
theorem dX2_lay_67 : decode cX2_lay 67 = .ok (.iload 4, 2) := by decide +kernel
theorem dX2_lay_69 : decode cX2_lay 69 = .ok (.invokevirtual 24, 3) := by decide +kernel
theorem dX2_lay_72 : decode cX2_lay 72 = .ok (.return_, 1) := by decide +kernel
theorem dX2_lay_73 : decode cX2_lay 73 = .ok (.aload_n 1, 1) := by decide +kernel
theorem dX2_lay_74 : decode cX2_lay 74 = .ok (.getfield 28, 3) := by decide +kernel
theorem dX2_lay_77 : decode cX2_lay 77 = .ok (.getfield 34, 3) := by decide +kernel
theorem dX2_lay_80 : decode cX2_lay 80 = .ok (.iload_n 2, 1) := by decide +kernel
theorem dX2_lay_81 : decode cX2_lay 81 = .ok (.iaload, 1) := by decide +kernel
theorem dX2_lay_82 : decode cX2_lay 82 = .ok (.istore 5, 2) := by decide +kernel
theorem dX2_lay_84 : decode cX2_lay 84 = .ok (.iconst 0, 1) := by decide +kernel
theorem dX2_lay_85 : decode cX2_lay 85 = .ok (.istore 6, 2) := by decide +kernel
theorem dX2_lay_87 : decode cX2_lay 87 = .ok (.iload 6, 2) := by decide +kernel
theorem dX2_lay_89 : decode cX2_lay 89 = .ok (.aload_n 1, 1) := by decide +kernel
theorem dX2_lay_90 : decode cX2_lay 90 = .ok (.getfield 43, 3) := by decide +kernel
theorem dX2_lay_93 : decode cX2_lay 93 = .ok (.getfield 47, 3) := by decide +kernel
theorem dX2_lay_96 : decode cX2_lay 96 = .ok (.if_icmp .ge 70, 3) := by decide +kernel
theorem dX2_lay_99 : decode cX2_lay 99 = .ok (.aload_n 0, 1) := by decide +kernel
theorem dX2_lay_100 : decode cX2_lay 100 = .ok (.getfield 18, 3) := by decide +kernel
theorem dX2_lay_103 : decode cX2_lay 103 = .ok (.iload_n 2, 1) := by decide +kernel
theorem dX2_lay_104 : decode cX2_lay 104 = .ok (.iload 6, 2) := by decide +kernel
theorem dX2_lay_106 : decode cX2_lay 106 = .ok (.iastore, 1) := by decide +kernel
theorem dX2_lay_107 : decode cX2_lay 107 = .ok (.aload_n 0, 1) := by decide +kernel
theorem dX2_lay_108 : decode cX2_lay 108 = .ok (.aload_n 1, 1) := by decide +kernel
theorem dX2_lay_109 : decode cX2_lay 109 = .ok (.iload 6, 2) := by decide +kernel
theorem dX2_lay_111 : decode cX2_lay 111 = .ok (.iload 5, 2) := by decide +kernel
theorem dX2_lay_113 : decode cX2_lay 113 = .ok (.invokevirtual 55, 3) := by decide +kernel
theorem dX2_lay_116 : decode cX2_lay 116 = .ok (.aload_n 1, 1) := by decide +kernel
theorem dX2_lay_117 : decode cX2_lay 117 = .ok (.iload_n 2, 1) := by decide +kernel
theorem dX2_lay_118 : decode cX2_lay 118 = .ok (.iload 6, 2) := by decide +kernel
theorem dX2_lay_120 : decode cX2_lay 120 = .ok (.iconst 0, 1) := by decide +kernel
theorem dX2_lay_121 : decode cX2_lay 121 = .ok (.aload_n 1, 1) := by decide +kernel
theorem dX2_lay_122 : decode cX2_lay 122 = .ok (.getfield 28, 3) := by decide +kernel
theorem dX2_lay_125 : decode cX2_lay 125 = .ok (.getfield 39, 3) := by decide +kernel
theorem dX2_lay_128 : decode cX2_lay 128 = .ok (.invokevirtual 59, 3) := by decide +kernel
theorem dX2_lay_131 : decode cX2_lay 131 = .ok (.iadd, 1) := by decide +kernel
theorem dX2_lay_132 : decode cX2_lay 132 = .ok (.istore 7, 2) := by decide +kernel
theorem dX2_lay_134 : decode cX2_lay 134 = .ok (.aload_n 0, 1) := by decide +kernel
theorem dX2_lay_135 : decode cX2_lay 135 = .ok (.aload_n 1, 1) := by decide +kernel
theorem dX2_lay_136 : decode cX2_lay 136 = .ok (.iload_n 2, 1) := by decide +kernel
theorem dX2_lay_137 : decode cX2_lay 137 = .ok (.iconst 1, 1) := by decide +kernel
theorem dX2_lay_138 : decode cX2_lay 138 = .ok (.iadd, 1) := by decide +kernel
theorem dX2_lay_139 : decode cX2_lay 139 = .ok (.iload_n 3, 1) := by decide +kernel
theorem dX2_lay_140 : decode cX2_lay 140 = .ok (.iload 7, 2) := by decide +kernel
theorem dX2_lay_142 : decode cX2_lay 142 = .ok (.iadd, 1) := by decide +kernel
theorem dX2_lay_143 : decode cX2_lay 143 = .ok (.iload 4, 2) := by decide +kernel
theorem dX2_lay_145 : decode cX2_lay 145 = .ok (.invokevirtual 24, 3) := by decide +kernel
theorem dX2_lay_148 : decode cX2_lay 148 = .ok (.aload_n 0, 1) := by decide +kernel
theorem dX2_lay_149 : decode cX2_lay 149 = .ok (.getfield 15, 3) := by decide +kernel
theorem dX2_lay_152 : decode cX2_lay 152 = .ok (.iload 6, 2) := by decide +kernel
theorem dX2_lay_154 : decode cX2_lay 154 = .ok (.dup2, 1) := by decide +kernel
theorem dX2_lay_155 : decode cX2_lay 155 = .ok (.iaload, 1) := by decide +kernel
theorem dX2_lay_156 : decode cX2_lay 156 = .ok (.iload 5, 2) := by decide +kernel
theorem dX2_lay_158 : decode cX2_lay 158 = .ok (.isub, 1) := by decide +kernel
theorem dX2_lay_159 : decode cX2_lay 159 = .ok (.iastore, 1) := by decide +kernel
theorem dX2_lay_160 : decode cX2_lay 160 = .ok (.iinc 6 1, 3) := by decide +kernel
theorem dX2_lay_163 : decode cX2_lay 163 = .ok (.goto (-76), 3) := by decide +kernel
theorem dX2_lay_166 : decode cX2_lay 166 = .ok (.return_, 1) := by decide +kernel
theorem dX3_init_0 : decode cX3_init 0 = .ok (.aload_n 0, 1) := by decide +kernel
theorem dX3_init_1 : decode cX3_init 1 = .ok (.invokespecial 3, 3) := by decide +kernel
theorem dX3_init_4 : decode cX3_init 4 = .ok (.aload_n 0, 1) := by decide +kernel
theorem dX3_init_5 : decode cX3_init 5 = .ok (.bipush 6, 2) := by decide +kernel
theorem dX3_init_7 : decode cX3_init 7 = .ok (.newarray .int, 2) := by decide +kernel
theorem dX3_init_9 : decode cX3_init 9 = .ok (.putfield 9, 3) := by decide +kernel
theorem dX3_init_12 : decode cX3_init 12 = .ok (.aload_n 0, 1) := by decide +kernel
theorem dX3_init_13 : decode cX3_init 13 = .ok (.bipush 6, 2) := by decide +kernel
theorem dX3_init_15 : decode cX3_init 15 = .ok (.newarray .int, 2) := by decide +kernel
theorem dX3_init_17 : decode cX3_init 17 = .ok (.putfield 15, 3) := by decide +kernel
theorem dX3_init_20 : decode cX3_init 20 = .ok (.aload_n 0, 1) := by decide +kernel
theorem dX3_init_21 : decode cX3_init 21 = .ok (.bipush 6, 2) := by decide +kernel
theorem dX3_init_23 : decode cX3_init 23 = .ok (.newarray .int, 2) := by decide +kernel
theorem dX3_init_25 : decode cX3_init 25 = .ok (.putfield 18, 3) := by decide +kernel
theorem dX3_init_28 : decode cX3_init 28 = .ok (.aload_n 0, 1) := by decide +kernel
theorem dX3_init_29 : decode cX3_init 29 = .ok (.bipush 6, 2) := by decide +kernel
theorem dX3_init_31 : decode cX3_init 31 = .ok (.newarray .int, 2) := by decide +kernel
theorem dX3_init_33 : decode cX3_init 33 = .ok (.putfield 21, 3) := by decide +kernel
theorem dX3_init_36 : decode cX3_init 36 = .ok (.aload_n 0, 1) := by decide +kernel
theorem dX3_init_37 : decode cX3_init 37 = .ok (.iconst 5, 1) := by decide +kernel
theorem dX3_init_38 : decode cX3_init 38 = .ok (.newarray .int, 2) := by decide +kernel
theorem dX3_init_40 : decode cX3_init 40 = .ok (.putfield 24, 3) := by decide +kernel
theorem dX3_init_43 : decode cX3_init 43 = .ok (.iconst 0, 1) := by decide +kernel
theorem dX3_init_44 : decode cX3_init 44 = .ok (.istore_n 1, 1) := by decide +kernel
theorem dX3_init_45 : decode cX3_init 45 = .ok (.iload_n 1, 1) := by decide +kernel
theorem dX3_init_46 : decode cX3_init 46 = .ok (.bipush 6, 2) := by decide +kernel
theorem dX3_init_48 : decode cX3_init 48 = .ok (.if_icmp .ge 23, 3) := by decide +kernel
theorem dX3_init_51 : decode cX3_init 51 = .ok (.aload_n 0, 1) := by decide +kernel
theorem dX3_init_52 : decode cX3_init 52 = .ok (.getfield 18, 3) := by decide +kernel
theorem dX3_init_55 : decode cX3_init 55 = .ok (.iload_n 1, 1) := by decide +kernel
theorem dX3_init_56 : decode cX3_init 56 = .ok (.iconst (-1), 1) := by decide +kernel
theorem dX3_init_57 : decode cX3_init 57 = .ok (.iastore, 1) := by decide +kernel
theorem dX3_init_58 : decode cX3_init 58 = .ok (.aload_n 0, 1) := by decide +kernel
theorem dX3_init_59 : decode cX3_init 59 = .ok (.getfield 21, 3) := by decide +kernel
theorem dX3_init_62 : decode cX3_init 62 = .ok (.iload_n 1, 1) := by decide +kernel
theorem dX3_init_63 : decode cX3_init 63 = .ok (.iconst (-1), 1) := by decide +kernel
theorem dX3_init_64 : decode cX3_init 64 = .ok (.iastore, 1) := by decide +kernel
theorem dX3_init_65 : decode cX3_init 65 = .ok (.iinc 1 1, 3) := by decide +kernel
theorem dX3_init_68 : decode cX3_init 68 = .ok (.goto (-23), 3) := by decide +kernel
theorem dX3_init_71 : decode cX3_init 71 = .ok (.return_, 1) := by decide +kernel
theorem dX3_startOf_0 : decode cX3_startOf 0 = .ok (.aload_n 0, 1) := by decide +kernel
theorem dX3_startOf_1 : decode cX3_startOf 1 = .ok (.iconst 0, 1) := by decide +kernel
theorem dX3_startOf_2 : decode cX3_startOf 2 = .ok (.putfield 27, 3) := by decide +kernel
theorem dX3_startOf_5 : decode cX3_startOf 5 = .ok (.aload_n 0, 1) := by decide +kernel
theorem dX3_startOf_6 : decode cX3_startOf 6 = .ok (.aload_n 1, 1) := by decide +kernel
theorem dX3_startOf_7 : decode cX3_startOf 7 = .ok (.getfield 31, 3) := by decide +kernel
theorem dX3_startOf_10 : decode cX3_startOf 10 = .ok (.putfield 36, 3) := by decide +kernel
theorem dX3_startOf_13 : decode cX3_startOf 13 = .ok (.iconst 0, 1) := by decide +kernel
theorem dX3_startOf_14 : decode cX3_startOf 14 = .ok (.istore_n 2, 1) := by decide +kernel
theorem dX3_startOf_15 : decode cX3_startOf 15 = .ok (.iload_n 2, 1) := by decide +kernel
theorem dX3_startOf_16 : decode cX3_startOf 16 = .ok (.bipush 6, 2) := by decide +kernel
theorem dX3_startOf_18 : decode cX3_startOf 18 = .ok (.if_icmp .ge 42, 3) := by decide +kernel
theorem dX3_startOf_21 : decode cX3_startOf 21 = .ok (.aload_n 0, 1) := by decide +kernel
theorem dX3_startOf_22 : decode cX3_startOf 22 = .ok (.getfield 9, 3) := by decide +kernel
theorem dX3_startOf_25 : decode cX3_startOf 25 = .ok (.iload_n 2, 1) := by decide +kernel
theorem dX3_startOf_26 : decode cX3_startOf 26 = .ok (.aload_n 1, 1) := by decide +kernel
theorem dX3_startOf_27 : decode cX3_startOf 27 = .ok (.getfield 39, 3) := by decide +kernel
theorem dX3_startOf_30 : decode cX3_startOf 30 = .ok (.iload_n 2, 1) := by decide +kernel
theorem dX3_startOf_31 : decode cX3_startOf 31 = .ok (.iaload, 1) := by decide +kernel
theorem dX3_startOf_32 : decode cX3_startOf 32 = .ok (.iastore, 1) := by decide +kernel
theorem dX3_startOf_33 : decode cX3_startOf 33 = .ok (.aload_n 0, 1) := by decide +kernel
theorem dX3_startOf_34 : decode cX3_startOf 34 = .ok (.getfield 15, 3) := by decide +kernel
theorem dX3_startOf_37 : decode cX3_startOf 37 = .ok (.iload_n 2, 1) := by decide +kernel
theorem dX3_startOf_38 : decode cX3_startOf 38 = .ok (.iconst 0, 1) := by decide +kernel
theorem dX3_startOf_39 : decode cX3_startOf 39 = .ok (.iastore, 1) := by decide +kernel
theorem dX3_startOf_40 : decode cX3_startOf 40 = .ok (.aload_n 0, 1) := by decide +kernel
theorem dX3_startOf_41 : decode cX3_startOf 41 = .ok (.getfield 18, 3) := by decide +kernel
theorem dX3_startOf_44 : decode cX3_startOf 44 = .ok (.iload_n 2, 1) := by decide +kernel
theorem dX3_startOf_45 : decode cX3_startOf 45 = .ok (.iconst (-1), 1) := by decide +kernel
theorem dX3_startOf_46 : decode cX3_startOf 46 = .ok (.iastore, 1) := by decide +kernel
theorem dX3_startOf_47 : decode cX3_startOf 47 = .ok (.aload_n 0, 1) := by decide +kernel
theorem dX3_startOf_48 : decode cX3_startOf 48 = .ok (.getfield 21, 3) := by decide +kernel
theorem dX3_startOf_51 : decode cX3_startOf 51 = .ok (.iload_n 2, 1) := by decide +kernel
theorem dX3_startOf_52 : decode cX3_startOf 52 = .ok (.iconst (-1), 1) := by decide +kernel
theorem dX3_startOf_53 : decode cX3_startOf 53 = .ok (.iastore, 1) := by decide +kernel
theorem dX3_startOf_54 : decode cX3_startOf 54 = .ok (.iinc 2 1, 3) := by decide +kernel
theorem dX3_startOf_57 : decode cX3_startOf 57 = .ok (.goto (-42), 3) := by decide +kernel
theorem dX3_startOf_60 : decode cX3_startOf 60 = .ok (.iconst 0, 1) := by decide +kernel
theorem dX3_startOf_61 : decode cX3_startOf 61 = .ok (.istore_n 2, 1) := by decide +kernel
theorem dX3_startOf_62 : decode cX3_startOf 62 = .ok (.iload_n 2, 1) := by decide +kernel
theorem dX3_startOf_63 : decode cX3_startOf 63 = .ok (.iconst 5, 1) := by decide +kernel
theorem dX3_startOf_64 : decode cX3_startOf 64 = .ok (.if_icmp .ge 16, 3) := by decide +kernel
theorem dX3_startOf_67 : decode cX3_startOf 67 = .ok (.aload_n 0, 1) := by decide +kernel
theorem dX3_startOf_68 : decode cX3_startOf 68 = .ok (.getfield 24, 3) := by decide +kernel
theorem dX3_startOf_71 : decode cX3_startOf 71 = .ok (.iload_n 2, 1) := by decide +kernel
theorem dX3_startOf_72 : decode cX3_startOf 72 = .ok (.iconst 0, 1) := by decide +kernel
theorem dX3_startOf_73 : decode cX3_startOf 73 = .ok (.iastore, 1) := by decide +kernel
theorem dX3_startOf_74 : decode cX3_startOf 74 = .ok (.iinc 2 1, 3) := by decide +kernel
theorem dX3_startOf_77 : decode cX3_startOf 77 = .ok (.goto (-15), 3) := by decide +kernel
theorem dX3_startOf_80 : decode cX3_startOf 80 = .ok (.return_, 1) := by decide +kernel
theorem dX3_copyFrom_0 : decode cX3_copyFrom 0 = .ok (.aload_n 0, 1) := by decide +kernel
theorem dX3_copyFrom_1 : decode cX3_copyFrom 1 = .ok (.aload_n 1, 1) := by decide +kernel
theorem dX3_copyFrom_2 : decode cX3_copyFrom 2 = .ok (.getfield 27, 3) := by decide +kernel
theorem dX3_copyFrom_5 : decode cX3_copyFrom 5 = .ok (.putfield 27, 3) := by decide +kernel
theorem dX3_copyFrom_8 : decode cX3_copyFrom 8 = .ok (.aload_n 0, 1) := by decide +kernel
theorem dX3_copyFrom_9 : decode cX3_copyFrom 9 = .ok (.aload_n 1, 1) := by decide +kernel
theorem dX3_copyFrom_10 : decode cX3_copyFrom 10 = .ok (.getfield 36, 3) := by decide +kernel
theorem dX3_copyFrom_13 : decode cX3_copyFrom 13 = .ok (.putfield 36, 3) := by decide +kernel
theorem dX3_copyFrom_16 : decode cX3_copyFrom 16 = .ok (.iconst 0, 1) := by decide +kernel
theorem dX3_copyFrom_17 : decode cX3_copyFrom 17 = .ok (.istore_n 2, 1) := by decide +kernel
theorem dX3_copyFrom_18 : decode cX3_copyFrom 18 = .ok (.iload_n 2, 1) := by decide +kernel
theorem dX3_copyFrom_19 : decode cX3_copyFrom 19 = .ok (.bipush 6, 2) := by decide +kernel
theorem dX3_copyFrom_21 : decode cX3_copyFrom 21 = .ok (.if_icmp .ge 57, 3) := by decide +kernel
theorem dX3_copyFrom_24 : decode cX3_copyFrom 24 = .ok (.aload_n 0, 1) := by decide +kernel
theorem dX3_copyFrom_25 : decode cX3_copyFrom 25 = .ok (.getfield 9, 3) := by decide +kernel
theorem dX3_copyFrom_28 : decode cX3_copyFrom 28 = .ok (.iload_n 2, 1) := by decide +kernel
theorem dX3_copyFrom_29 : decode cX3_copyFrom 29 = .ok (.aload_n 1, 1) := by decide +kernel
theorem dX3_copyFrom_30 : decode cX3_copyFrom 30 = .ok (.getfield 9, 3) := by decide +kernel
theorem dX3_copyFrom_33 : decode cX3_copyFrom 33 = .ok (.iload_n 2, 1) := by decide +kernel
theorem dX3_copyFrom_34 : decode cX3_copyFrom 34 = .ok (.iaload, 1) := by decide +kernel
theorem dX3_copyFrom_35 : decode cX3_copyFrom 35 = .ok (.iastore, 1) := by decide +kernel
theorem dX3_copyFrom_36 : decode cX3_copyFrom 36 = .ok (.aload_n 0, 1) := by decide +kernel
theorem dX3_copyFrom_37 : decode cX3_copyFrom 37 = .ok (.getfield 15, 3) := by decide +kernel
theorem dX3_copyFrom_40 : decode cX3_copyFrom 40 = .ok (.iload_n 2, 1) := by decide +kernel
theorem dX3_copyFrom_41 : decode cX3_copyFrom 41 = .ok (.aload_n 1, 1) := by decide +kernel
theorem dX3_copyFrom_42 : decode cX3_copyFrom 42 = .ok (.getfield 15, 3) := by decide +kernel
theorem dX3_copyFrom_45 : decode cX3_copyFrom 45 = .ok (.iload_n 2, 1) := by decide +kernel
theorem dX3_copyFrom_46 : decode cX3_copyFrom 46 = .ok (.iaload, 1) := by decide +kernel
theorem dX3_copyFrom_47 : decode cX3_copyFrom 47 = .ok (.iastore, 1) := by decide +kernel
theorem dX3_copyFrom_48 : decode cX3_copyFrom 48 = .ok (.aload_n 0, 1) := by decide +kernel
theorem dX3_copyFrom_49 : decode cX3_copyFrom 49 = .ok (.getfield 18, 3) := by decide +kernel
theorem dX3_copyFrom_52 : decode cX3_copyFrom 52 = .ok (.iload_n 2, 1) := by decide +kernel
theorem dX3_copyFrom_53 : decode cX3_copyFrom 53 = .ok (.aload_n 1, 1) := by decide +kernel
theorem dX3_copyFrom_54 : decode cX3_copyFrom 54 = .ok (.getfield 18, 3) := by decide +kernel
theorem dX3_copyFrom_57 : decode cX3_copyFrom 57 = .ok (.iload_n 2, 1) := by decide +kernel
theorem dX3_copyFrom_58 : decode cX3_copyFrom 58 = .ok (.iaload, 1) := by decide +kernel
theorem dX3_copyFrom_59 : decode cX3_copyFrom 59 = .ok (.iastore, 1) := by decide +kernel
theorem dX3_copyFrom_60 : decode cX3_copyFrom 60 = .ok (.aload_n 0, 1) := by decide +kernel
theorem dX3_copyFrom_61 : decode cX3_copyFrom 61 = .ok (.getfield 21, 3) := by decide +kernel
theorem dX3_copyFrom_64 : decode cX3_copyFrom 64 = .ok (.iload_n 2, 1) := by decide +kernel
theorem dX3_copyFrom_65 : decode cX3_copyFrom 65 = .ok (.aload_n 1, 1) := by decide +kernel
theorem dX3_copyFrom_66 : decode cX3_copyFrom 66 = .ok (.getfield 21, 3) := by decide +kernel
theorem dX3_copyFrom_69 : decode cX3_copyFrom 69 = .ok (.iload_n 2, 1) := by decide +kernel
theorem dX3_copyFrom_70 : decode cX3_copyFrom 70 = .ok (.iaload, 1) := by decide +kernel
theorem dX3_copyFrom_71 : decode cX3_copyFrom 71 = .ok (.iastore, 1) := by decide +kernel
theorem dX3_copyFrom_72 : decode cX3_copyFrom 72 = .ok (.iinc 2 1, 3) := by decide +kernel
theorem dX3_copyFrom_75 : decode cX3_copyFrom 75 = .ok (.goto (-57), 3) := by decide +kernel
theorem dX3_copyFrom_78 : decode cX3_copyFrom 78 = .ok (.iconst 0, 1) := by decide +kernel
theorem dX3_copyFrom_79 : decode cX3_copyFrom 79 = .ok (.istore_n 2, 1) := by decide +kernel
theorem dX3_copyFrom_80 : decode cX3_copyFrom 80 = .ok (.iload_n 2, 1) := by decide +kernel
theorem dX3_copyFrom_81 : decode cX3_copyFrom 81 = .ok (.iconst 5, 1) := by decide +kernel
theorem dX3_copyFrom_82 : decode cX3_copyFrom 82 = .ok (.if_icmp .ge 21, 3) := by decide +kernel
theorem dX3_copyFrom_85 : decode cX3_copyFrom 85 = .ok (.aload_n 0, 1) := by decide +kernel
theorem dX3_copyFrom_86 : decode cX3_copyFrom 86 = .ok (.getfield 24, 3) := by decide +kernel
theorem dX3_copyFrom_89 : decode cX3_copyFrom 89 = .ok (.iload_n 2, 1) := by decide +kernel
theorem dX3_copyFrom_90 : decode cX3_copyFrom 90 = .ok (.aload_n 1, 1) := by decide +kernel
theorem dX3_copyFrom_91 : decode cX3_copyFrom 91 = .ok (.getfield 24, 3) := by decide +kernel
theorem dX3_copyFrom_94 : decode cX3_copyFrom 94 = .ok (.iload_n 2, 1) := by decide +kernel
theorem dX3_copyFrom_95 : decode cX3_copyFrom 95 = .ok (.iaload, 1) := by decide +kernel
theorem dX3_copyFrom_96 : decode cX3_copyFrom 96 = .ok (.iastore, 1) := by decide +kernel
theorem dX3_copyFrom_97 : decode cX3_copyFrom 97 = .ok (.iinc 2 1, 3) := by decide +kernel
theorem dX3_copyFrom_100 : decode cX3_copyFrom 100 = .ok (.goto (-20), 3) := by decide +kernel
theorem dX3_copyFrom_103 : decode cX3_copyFrom 103 = .ok (.return_, 1) := by decide +kernel
theorem dX3_isCarried_0 : decode cX3_isCarried 0 = .ok (.aload_n 0, 1) := by decide +kernel
theorem dX3_isCarried_1 : decode cX3_isCarried 1 = .ok (.getfield 18, 3) := by decide +kernel
theorem dX3_isCarried_4 : decode cX3_isCarried 4 = .ok (.iload_n 1, 1) := by decide +kernel
theorem dX3_isCarried_5 : decode cX3_isCarried 5 = .ok (.iaload, 1) := by decide +kernel
theorem dX3_isCarried_6 : decode cX3_isCarried 6 = .ok (.iconst (-1), 1) := by decide +kernel
theorem dX3_isCarried_7 : decode cX3_isCarried 7 = .ok (.if_icmp .eq 7, 3) := by decide +kernel
theorem dX3_isCarried_10 : decode cX3_isCarried 10 = .ok (.iconst 1, 1) := by decide +kernel
theorem dX3_isCarried_11 : decode cX3_isCarried 11 = .ok (.goto 4, 3) := by decide +kernel
theorem dX3_isCarried_14 : decode cX3_isCarried 14 = .ok (.iconst 0, 1) := by decide +kernel
theorem dX3_isCarried_15 : decode cX3_isCarried 15 = .ok (.ireturn, 1) := by decide +kernel
theorem dX3_isShared_0 : decode cX3_isShared 0 = .ok (.aload_n 0, 1) := by decide +kernel
theorem dX3_isShared_1 : decode cX3_isShared 1 = .ok (.getfield 21, 3) := by decide +kernel
theorem dX3_isShared_4 : decode cX3_isShared 4 = .ok (.iload_n 1, 1) := by decide +kernel
theorem dX3_isShared_5 : decode cX3_isShared 5 = .ok (.iaload, 1) := by decide +kernel
theorem dX3_isShared_6 : decode cX3_isShared 6 = .ok (.iconst (-1), 1) := by decide +kernel
theorem dX3_isShared_7 : decode cX3_isShared 7 = .ok (.if_icmp .eq 7, 3) := by decide +kernel
theorem dX3_isShared_10 : decode cX3_isShared 10 = .ok (.iconst 1, 1) := by decide +kernel
theorem dX3_isShared_11 : decode cX3_isShared 11 = .ok (.goto 4, 3) := by decide +kernel
theorem dX3_isShared_14 : decode cX3_isShared 14 = .ok (.iconst 0, 1) := by decide +kernel
theorem dX3_isShared_15 : decode cX3_isShared 15 = .ok (.ireturn, 1) := by decide +kernel
theorem dX3_isOn_0 : decode cX3_isOn 0 = .ok (.aload_n 0, 1) := by decide +kernel
theorem dX3_isOn_1 : decode cX3_isOn 1 = .ok (.getfield 18, 3) := by decide +kernel
theorem dX3_isOn_4 : decode cX3_isOn 4 = .ok (.iload_n 1, 1) := by decide +kernel
theorem dX3_isOn_5 : decode cX3_isOn 5 = .ok (.iaload, 1) := by decide +kernel
theorem dX3_isOn_6 : decode cX3_isOn 6 = .ok (.iload_n 2, 1) := by decide +kernel
theorem dX3_isOn_7 : decode cX3_isOn 7 = .ok (.if_icmp .eq 13, 3) := by decide +kernel
theorem dX3_isOn_10 : decode cX3_isOn 10 = .ok (.aload_n 0, 1) := by decide +kernel
theorem dX3_isOn_11 : decode cX3_isOn 11 = .ok (.getfield 21, 3) := by decide +kernel
theorem dX3_isOn_14 : decode cX3_isOn 14 = .ok (.iload_n 1, 1) := by decide +kernel
theorem dX3_isOn_15 : decode cX3_isOn 15 = .ok (.iaload, 1) := by decide +kernel
theorem dX3_isOn_16 : decode cX3_isOn 16 = .ok (.iload_n 2, 1) := by decide +kernel
theorem dX3_isOn_17 : decode cX3_isOn 17 = .ok (.if_icmp .ne 7, 3) := by decide +kernel
theorem dX3_isOn_20 : decode cX3_isOn 20 = .ok (.iconst 1, 1) := by decide +kernel
theorem dX3_isOn_21 : decode cX3_isOn 21 = .ok (.goto 4, 3) := by decide +kernel
theorem dX3_isOn_24 : decode cX3_isOn 24 = .ok (.iconst 0, 1) := by decide +kernel
theorem dX3_isOn_25 : decode cX3_isOn 25 = .ok (.ireturn, 1) := by decide +kernel
theorem dX3_canJoin_0 : decode cX3_canJoin 0 = .ok (.aload_n 0, 1) := by decide +kernel
theorem dX3_canJoin_1 : decode cX3_canJoin 1 = .ok (.iload_n 1, 1) := by decide +kernel
theorem dX3_canJoin_2 : decode cX3_canJoin 2 = .ok (.invokevirtual 42, 3) := by decide +kernel
theorem dX3_canJoin_5 : decode cX3_canJoin 5 = .ok (.ifCond .eq 25, 3) := by decide +kernel
theorem dX3_canJoin_8 : decode cX3_canJoin 8 = .ok (.aload_n 0, 1) := by decide +kernel
theorem dX3_canJoin_9 : decode cX3_canJoin 9 = .ok (.iload_n 1, 1) := by decide +kernel
theorem dX3_canJoin_10 : decode cX3_canJoin 10 = .ok (.invokevirtual 46, 3) := by decide +kernel
theorem dX3_canJoin_13 : decode cX3_canJoin 13 = .ok (.ifCond .ne 17, 3) := by decide +kernel
theorem dX3_canJoin_16 : decode cX3_canJoin 16 = .ok (.aload_n 0, 1) := by decide +kernel
theorem dX3_canJoin_17 : decode cX3_canJoin 17 = .ok (.getfield 18, 3) := by decide +kernel
theorem dX3_canJoin_20 : decode cX3_canJoin 20 = .ok (.iload_n 1, 1) := by decide +kernel
theorem dX3_canJoin_21 : decode cX3_canJoin 21 = .ok (.iaload, 1) := by decide +kernel
theorem dX3_canJoin_22 : decode cX3_canJoin 22 = .ok (.iload_n 2, 1) := by decide +kernel
theorem dX3_canJoin_23 : decode cX3_canJoin 23 = .ok (.if_icmp .eq 7, 3) := by decide +kernel
theorem dX3_canJoin_26 : decode cX3_canJoin 26 = .ok (.iconst 1, 1) := by decide +kernel
theorem dX3_canJoin_27 : decode cX3_canJoin 27 = .ok (.goto 4, 3) := by decide +kernel
theorem dX3_canJoin_30 : decode cX3_canJoin 30 = .ok (.iconst 0, 1) := by decide +kernel
theorem dX3_canJoin_31 : decode cX3_canJoin 31 = .ok (.ireturn, 1) := by decide +kernel
theorem dX3_putOn_0 : decode cX3_putOn 0 = .ok (.aload_n 0, 1) := by decide +kernel
theorem dX3_putOn_1 : decode cX3_putOn 1 = .ok (.getfield 18, 3) := by decide +kernel
theorem dX3_putOn_4 : decode cX3_putOn 4 = .ok (.iload_n 1, 1) := by decide +kernel
theorem dX3_putOn_5 : decode cX3_putOn 5 = .ok (.iload_n 2, 1) := by decide +kernel
theorem dX3_putOn_6 : decode cX3_putOn 6 = .ok (.iastore, 1) := by decide +kernel
theorem dX3_putOn_7 : decode cX3_putOn 7 = .ok (.return_, 1) := by decide +kernel
theorem dX3_join_0 : decode cX3_join 0 = .ok (.aload_n 0, 1) := by decide +kernel
theorem dX3_join_1 : decode cX3_join 1 = .ok (.getfield 21, 3) := by decide +kernel
theorem dX3_join_4 : decode cX3_join 4 = .ok (.iload_n 1, 1) := by decide +kernel
theorem dX3_join_5 : decode cX3_join 5 = .ok (.iload_n 2, 1) := by decide +kernel
theorem dX3_join_6 : decode cX3_join 6 = .ok (.iastore, 1) := by decide +kernel
theorem dX3_join_7 : decode cX3_join 7 = .ok (.return_, 1) := by decide +kernel
theorem dX3_putDown_0 : decode cX3_putDown 0 = .ok (.aload_n 0, 1) := by decide +kernel
theorem dX3_putDown_1 : decode cX3_putDown 1 = .ok (.getfield 18, 3) := by decide +kernel
theorem dX3_putDown_4 : decode cX3_putDown 4 = .ok (.iload_n 1, 1) := by decide +kernel
theorem dX3_putDown_5 : decode cX3_putDown 5 = .ok (.iaload, 1) := by decide +kernel
theorem dX3_putDown_6 : decode cX3_putDown 6 = .ok (.iload_n 2, 1) := by decide +kernel
theorem dX3_putDown_7 : decode cX3_putDown 7 = .ok (.if_icmp .ne 15, 3) := by decide +kernel
theorem dX3_putDown_10 : decode cX3_putDown 10 = .ok (.aload_n 0, 1) := by decide +kernel
theorem dX3_putDown_11 : decode cX3_putDown 11 = .ok (.getfield 18, 3) := by decide +kernel
theorem dX3_putDown_14 : decode cX3_putDown 14 = .ok (.iload_n 1, 1) := by decide +kernel
theorem dX3_putDown_15 : decode cX3_putDown 15 = .ok (.aload_n 0, 1) := by decide +kernel
theorem dX3_putDown_16 : decode cX3_putDown 16 = .ok (.getfield 21, 3) := by decide +kernel
theorem dX3_putDown_19 : decode cX3_putDown 19 = .ok (.iload_n 1, 1) := by decide +kernel
theorem dX3_putDown_20 : decode cX3_putDown 20 = .ok (.iaload, 1) := by decide +kernel
theorem dX3_putDown_21 : decode cX3_putDown 21 = .ok (.iastore, 1) := by decide +kernel
theorem dX3_putDown_22 : decode cX3_putDown 22 = .ok (.aload_n 0, 1) := by decide +kernel
theorem dX3_putDown_23 : decode cX3_putDown 23 = .ok (.getfield 21, 3) := by decide +kernel
theorem dX3_putDown_26 : decode cX3_putDown 26 = .ok (.iload_n 1, 1) := by decide +kernel
theorem dX3_putDown_27 : decode cX3_putDown 27 = .ok (.iconst (-1), 1) := by decide +kernel
theorem dX3_putDown_28 : decode cX3_putDown 28 = .ok (.iastore, 1) := by decide +kernel
theorem dX3_putDown_29 : decode cX3_putDown 29 = .ok (.return_, 1) := by decide +kernel
theorem dX3_handOn_0 : decode cX3_handOn 0 = .ok (.aload_n 0, 1) := by decide +kernel
theorem dX3_handOn_1 : decode cX3_handOn 1 = .ok (.getfield 18, 3) := by decide +kernel
theorem dX3_handOn_4 : decode cX3_handOn 4 = .ok (.iload_n 1, 1) := by decide +kernel
theorem dX3_handOn_5 : decode cX3_handOn 5 = .ok (.iaload, 1) := by decide +kernel
theorem dX3_handOn_6 : decode cX3_handOn 6 = .ok (.iload_n 2, 1) := by decide +kernel
theorem dX3_handOn_7 : decode cX3_handOn 7 = .ok (.if_icmp .ne 13, 3) := by decide +kernel
theorem dX3_handOn_10 : decode cX3_handOn 10 = .ok (.aload_n 0, 1) := by decide +kernel
theorem dX3_handOn_11 : decode cX3_handOn 11 = .ok (.getfield 18, 3) := by decide +kernel
theorem dX3_handOn_14 : decode cX3_handOn 14 = .ok (.iload_n 1, 1) := by decide +kernel
theorem dX3_handOn_15 : decode cX3_handOn 15 = .ok (.iload_n 3, 1) := by decide +kernel
theorem dX3_handOn_16 : decode cX3_handOn 16 = .ok (.iastore, 1) := by decide +kernel
theorem dX3_handOn_17 : decode cX3_handOn 17 = .ok (.goto 10, 3) := by decide +kernel
theorem dX3_handOn_20 : decode cX3_handOn 20 = .ok (.aload_n 0, 1) := by decide +kernel
theorem dX3_handOn_21 : decode cX3_handOn 21 = .ok (.getfield 21, 3) := by decide +kernel
theorem dX3_handOn_24 : decode cX3_handOn 24 = .ok (.iload_n 1, 1) := by decide +kernel
theorem dX3_handOn_25 : decode cX3_handOn 25 = .ok (.iload_n 3, 1) := by decide +kernel
theorem dX3_handOn_26 : decode cX3_handOn 26 = .ok (.iastore, 1) := by decide +kernel
theorem dX3_handOn_27 : decode cX3_handOn 27 = .ok (.return_, 1) := by decide +kernel
theorem dX4_init_0 : decode cX4_init 0 = .ok (.aload_n 0, 1) := by decide +kernel
theorem dX4_init_1 : decode cX4_init 1 = .ok (.invokespecial 3, 3) := by decide +kernel
theorem dX4_init_4 : decode cX4_init 4 = .ok (.aload_n 0, 1) := by decide +kernel
theorem dX4_init_5 : decode cX4_init 5 = .ok (.bipush 16, 2) := by decide +kernel
theorem dX4_init_7 : decode cX4_init 7 = .ok (.anewarray 9, 3) := by decide +kernel
theorem dX4_init_10 : decode cX4_init 10 = .ok (.putfield 11, 3) := by decide +kernel
theorem dX4_init_13 : decode cX4_init 13 = .ok (.iconst 0, 1) := by decide +kernel
theorem dX4_init_14 : decode cX4_init 14 = .ok (.istore_n 1, 1) := by decide +kernel
theorem dX4_init_15 : decode cX4_init 15 = .ok (.iload_n 1, 1) := by decide +kernel
theorem dX4_init_16 : decode cX4_init 16 = .ok (.aload_n 0, 1) := by decide +kernel
theorem dX4_init_17 : decode cX4_init 17 = .ok (.getfield 11, 3) := by decide +kernel
theorem dX4_init_20 : decode cX4_init 20 = .ok (.arraylength, 1) := by decide +kernel
theorem dX4_init_21 : decode cX4_init 21 = .ok (.if_icmp .ge 22, 3) := by decide +kernel
theorem dX4_init_24 : decode cX4_init 24 = .ok (.aload_n 0, 1) := by decide +kernel
theorem dX4_init_25 : decode cX4_init 25 = .ok (.getfield 11, 3) := by decide +kernel
theorem dX4_init_28 : decode cX4_init 28 = .ok (.iload_n 1, 1) := by decide +kernel
theorem dX4_init_29 : decode cX4_init 29 = .ok (.new 9, 3) := by decide +kernel
theorem dX4_init_32 : decode cX4_init 32 = .ok (.dup, 1) := by decide +kernel
theorem dX4_init_33 : decode cX4_init 33 = .ok (.invokespecial 17, 3) := by decide +kernel
theorem dX4_init_36 : decode cX4_init 36 = .ok (.aastore, 1) := by decide +kernel
theorem dX4_init_37 : decode cX4_init 37 = .ok (.iinc 1 1, 3) := by decide +kernel
theorem dX4_init_40 : decode cX4_init 40 = .ok (.goto (-25), 3) := by decide +kernel
theorem dX4_init_43 : decode cX4_init 43 = .ok (.return_, 1) := by decide +kernel
theorem dX4_clear_0 : decode cX4_clear 0 = .ok (.aload_n 0, 1) := by decide +kernel
theorem dX4_clear_1 : decode cX4_clear 1 = .ok (.iconst 0, 1) := by decide +kernel
theorem dX4_clear_2 : decode cX4_clear 2 = .ok (.putfield 18, 3) := by decide +kernel
theorem dX4_clear_5 : decode cX4_clear 5 = .ok (.return_, 1) := by decide +kernel
theorem dX4_add_0 : decode cX4_add 0 = .ok (.aload_n 0, 1) := by decide +kernel
theorem dX4_add_1 : decode cX4_add 1 = .ok (.getfield 11, 3) := by decide +kernel
theorem dX4_add_4 : decode cX4_add 4 = .ok (.aload_n 0, 1) := by decide +kernel
theorem dX4_add_5 : decode cX4_add 5 = .ok (.getfield 22, 3) := by decide +kernel
theorem dX4_add_8 : decode cX4_add 8 = .ok (.aaload, 1) := by decide +kernel
theorem dX4_add_9 : decode cX4_add 9 = .ok (.aload_n 1, 1) := by decide +kernel
theorem dX4_add_10 : decode cX4_add 10 = .ok (.invokevirtual 25, 3) := by decide +kernel
theorem dX4_add_13 : decode cX4_add 13 = .ok (.aload_n 0, 1) := by decide +kernel
theorem dX4_add_14 : decode cX4_add 14 = .ok (.aload_n 0, 1) := by decide +kernel
theorem dX4_add_15 : decode cX4_add 15 = .ok (.getfield 22, 3) := by decide +kernel
theorem dX4_add_18 : decode cX4_add 18 = .ok (.iconst 1, 1) := by decide +kernel
theorem dX4_add_19 : decode cX4_add 19 = .ok (.iadd, 1) := by decide +kernel
theorem dX4_add_20 : decode cX4_add 20 = .ok (.bipush 16, 2) := by decide +kernel
theorem dX4_add_22 : decode cX4_add 22 = .ok (.irem, 1) := by decide +kernel
theorem dX4_add_23 : decode cX4_add 23 = .ok (.putfield 22, 3) := by decide +kernel
theorem dX4_add_26 : decode cX4_add 26 = .ok (.aload_n 0, 1) := by decide +kernel
theorem dX4_add_27 : decode cX4_add 27 = .ok (.aload_n 0, 1) := by decide +kernel
theorem dX4_add_28 : decode cX4_add 28 = .ok (.getfield 18, 3) := by decide +kernel
theorem dX4_add_31 : decode cX4_add 31 = .ok (.iconst 1, 1) := by decide +kernel
theorem dX4_add_32 : decode cX4_add 32 = .ok (.iadd, 1) := by decide +kernel
theorem dX4_add_33 : decode cX4_add 33 = .ok (.bipush 16, 2) := by decide +kernel
theorem dX4_add_35 : decode cX4_add 35 = .ok (.invokestatic 29, 3) := by decide +kernel
theorem dX4_add_38 : decode cX4_add 38 = .ok (.putfield 18, 3) := by decide +kernel
theorem dX4_add_41 : decode cX4_add 41 = .ok (.return_, 1) := by decide +kernel
theorem dX4_takeBackInto_0 : decode cX4_takeBackInto 0 = .ok (.aload_n 0, 1) := by decide +kernel
theorem dX4_takeBackInto_1 : decode cX4_takeBackInto 1 = .ok (.getfield 18, 3) := by decide +kernel
theorem dX4_takeBackInto_4 : decode cX4_takeBackInto 4 = .ok (.iconst 1, 1) := by decide +kernel
theorem dX4_takeBackInto_5 : decode cX4_takeBackInto 5 = .ok (.if_icmp .ge 5, 3) := by decide +kernel
theorem dX4_takeBackInto_8 : decode cX4_takeBackInto 8 = .ok (.iconst 0, 1) := by decide +kernel
theorem dX4_takeBackInto_9 : decode cX4_takeBackInto 9 = .ok (.ireturn, 1) := by decide +kernel
theorem dX4_takeBackInto_10 : decode cX4_takeBackInto 10 = .ok (.aload_n 0, 1) := by decide +kernel
theorem dX4_takeBackInto_11 : decode cX4_takeBackInto 11 = .ok (.aload_n 0, 1) := by decide +kernel
theorem dX4_takeBackInto_12 : decode cX4_takeBackInto 12 = .ok (.getfield 22, 3) := by decide +kernel
theorem dX4_takeBackInto_15 : decode cX4_takeBackInto 15 = .ok (.bipush 16, 2) := by decide +kernel
theorem dX4_takeBackInto_17 : decode cX4_takeBackInto 17 = .ok (.iadd, 1) := by decide +kernel
theorem dX4_takeBackInto_18 : decode cX4_takeBackInto 18 = .ok (.iconst 1, 1) := by decide +kernel
theorem dX4_takeBackInto_19 : decode cX4_takeBackInto 19 = .ok (.isub, 1) := by decide +kernel
theorem dX4_takeBackInto_20 : decode cX4_takeBackInto 20 = .ok (.bipush 16, 2) := by decide +kernel
theorem dX4_takeBackInto_22 : decode cX4_takeBackInto 22 = .ok (.irem, 1) := by decide +kernel
theorem dX4_takeBackInto_23 : decode cX4_takeBackInto 23 = .ok (.putfield 22, 3) := by decide +kernel
theorem dX4_takeBackInto_26 : decode cX4_takeBackInto 26 = .ok (.aload_n 1, 1) := by decide +kernel
theorem dX4_takeBackInto_27 : decode cX4_takeBackInto 27 = .ok (.aload_n 0, 1) := by decide +kernel
theorem dX4_takeBackInto_28 : decode cX4_takeBackInto 28 = .ok (.getfield 11, 3) := by decide +kernel
theorem dX4_takeBackInto_31 : decode cX4_takeBackInto 31 = .ok (.aload_n 0, 1) := by decide +kernel
theorem dX4_takeBackInto_32 : decode cX4_takeBackInto 32 = .ok (.getfield 22, 3) := by decide +kernel
theorem dX4_takeBackInto_35 : decode cX4_takeBackInto 35 = .ok (.aaload, 1) := by decide +kernel
theorem dX4_takeBackInto_36 : decode cX4_takeBackInto 36 = .ok (.invokevirtual 25, 3) := by decide +kernel
theorem dX4_takeBackInto_39 : decode cX4_takeBackInto 39 = .ok (.aload_n 0, 1) := by decide +kernel
theorem dX4_takeBackInto_40 : decode cX4_takeBackInto 40 = .ok (.dup, 1) := by decide +kernel
theorem dX4_takeBackInto_41 : decode cX4_takeBackInto 41 = .ok (.getfield 18, 3) := by decide +kernel
theorem dX4_takeBackInto_44 : decode cX4_takeBackInto 44 = .ok (.iconst 1, 1) := by decide +kernel
theorem dX4_takeBackInto_45 : decode cX4_takeBackInto 45 = .ok (.isub, 1) := by decide +kernel
theorem dX4_takeBackInto_46 : decode cX4_takeBackInto 46 = .ok (.putfield 18, 3) := by decide +kernel
theorem dX4_takeBackInto_49 : decode cX4_takeBackInto 49 = .ok (.iconst 1, 1) := by decide +kernel
theorem dX4_takeBackInto_50 : decode cX4_takeBackInto 50 = .ok (.ireturn, 1) := by decide +kernel
theorem dX5_init_0 : decode cX5_init 0 = .ok (.aload_n 0, 1) := by decide +kernel
theorem dX5_init_1 : decode cX5_init 1 = .ok (.invokespecial 3, 3) := by decide +kernel
theorem dX5_init_4 : decode cX5_init 4 = .ok (.aload_n 0, 1) := by decide +kernel
theorem dX5_init_5 : decode cX5_init 5 = .ok (.iconst (-1), 1) := by decide +kernel
theorem dX5_init_6 : decode cX5_init 6 = .ok (.putfield 9, 3) := by decide +kernel
theorem dX5_init_9 : decode cX5_init 9 = .ok (.aload_n 0, 1) := by decide +kernel
theorem dX5_init_10 : decode cX5_init 10 = .ok (.sipush 240, 3) := by decide +kernel
theorem dX5_init_13 : decode cX5_init 13 = .ok (.newarray .int, 2) := by decide +kernel
theorem dX5_init_15 : decode cX5_init 15 = .ok (.putfield 15, 3) := by decide +kernel
theorem dX5_init_18 : decode cX5_init 18 = .ok (.return_, 1) := by decide +kernel
theorem dX5_add_0 : decode cX5_add 0 = .ok (.aload_n 0, 1) := by decide +kernel
theorem dX5_add_1 : decode cX5_add 1 = .ok (.getfield 19, 3) := by decide +kernel
theorem dX5_add_4 : decode cX5_add 4 = .ok (.sipush 240, 3) := by decide +kernel
theorem dX5_add_7 : decode cX5_add 7 = .ok (.if_icmp .lt 5, 3) := by decide +kernel
theorem dX5_add_10 : decode cX5_add 10 = .ok (.iconst 0, 1) := by decide +kernel
theorem dX5_add_11 : decode cX5_add 11 = .ok (.ireturn, 1) := by decide +kernel
theorem dX5_add_12 : decode cX5_add 12 = .ok (.aload_n 0, 1) := by decide +kernel
theorem dX5_add_13 : decode cX5_add 13 = .ok (.getfield 15, 3) := by decide +kernel
theorem dX5_add_16 : decode cX5_add 16 = .ok (.aload_n 0, 1) := by decide +kernel
theorem dX5_add_17 : decode cX5_add 17 = .ok (.getfield 19, 3) := by decide +kernel
theorem dX5_add_20 : decode cX5_add 20 = .ok (.iload_n 1, 1) := by decide +kernel
theorem dX5_add_21 : decode cX5_add 21 = .ok (.iastore, 1) := by decide +kernel
theorem dX5_add_22 : decode cX5_add 22 = .ok (.aload_n 0, 1) := by decide +kernel
theorem dX5_add_23 : decode cX5_add 23 = .ok (.dup, 1) := by decide +kernel
theorem dX5_add_24 : decode cX5_add 24 = .ok (.getfield 19, 3) := by decide +kernel
theorem dX5_add_27 : decode cX5_add 27 = .ok (.iconst 1, 1) := by decide +kernel
theorem dX5_add_28 : decode cX5_add 28 = .ok (.iadd, 1) := by decide +kernel
theorem dX5_add_29 : decode cX5_add 29 = .ok (.putfield 19, 3) := by decide +kernel
theorem dX5_add_32 : decode cX5_add 32 = .ok (.iconst 1, 1) := by decide +kernel
theorem dX5_add_33 : decode cX5_add 33 = .ok (.ireturn, 1) := by decide +kernel
theorem dX5_readInto_0 : decode cX5_readInto 0 = .ok (.aload_n 1, 1) := by decide +kernel
theorem dX5_readInto_1 : decode cX5_readInto 1 = .ok (.invokevirtual 22, 3) := by decide +kernel
theorem dX5_readInto_4 : decode cX5_readInto 4 = .ok (.aload_n 0, 1) := by decide +kernel
theorem dX5_readInto_5 : decode cX5_readInto 5 = .ok (.iconst 0, 1) := by decide +kernel
theorem dX5_readInto_6 : decode cX5_readInto 6 = .ok (.putfield 27, 3) := by decide +kernel
theorem dX5_readInto_9 : decode cX5_readInto 9 = .ok (.aload_n 0, 1) := by decide +kernel
theorem dX5_readInto_10 : decode cX5_readInto 10 = .ok (.iconst 0, 1) := by decide +kernel
theorem dX5_readInto_11 : decode cX5_readInto 11 = .ok (.putfield 30, 3) := by decide +kernel
theorem dX5_readInto_14 : decode cX5_readInto 14 = .ok (.aload_n 0, 1) := by decide +kernel
theorem dX5_readInto_15 : decode cX5_readInto 15 = .ok (.iconst (-1), 1) := by decide +kernel
theorem dX5_readInto_16 : decode cX5_readInto 16 = .ok (.putfield 9, 3) := by decide +kernel
theorem dX5_readInto_19 : decode cX5_readInto 19 = .ok (.aload_n 0, 1) := by decide +kernel
theorem dX5_readInto_20 : decode cX5_readInto 20 = .ok (.invokevirtual 33, 3) := by decide +kernel
theorem dX5_readInto_23 : decode cX5_readInto 23 = .ok (.iconst 0, 1) := by decide +kernel
theorem dX5_readInto_24 : decode cX5_readInto 24 = .ok (.istore_n 2, 1) := by decide +kernel
theorem dX5_readInto_25 : decode cX5_readInto 25 = .ok (.iload_n 2, 1) := by decide +kernel
theorem dX5_readInto_26 : decode cX5_readInto 26 = .ok (.sipush 240, 3) := by decide +kernel
theorem dX5_readInto_29 : decode cX5_readInto 29 = .ok (.if_icmp .ge 36, 3) := by decide +kernel
theorem dX5_readInto_32 : decode cX5_readInto 32 = .ok (.aload_n 0, 1) := by decide +kernel
theorem dX5_readInto_33 : decode cX5_readInto 33 = .ok (.getfield 27, 3) := by decide +kernel
theorem dX5_readInto_36 : decode cX5_readInto 36 = .ok (.aload_n 0, 1) := by decide +kernel
theorem dX5_readInto_37 : decode cX5_readInto 37 = .ok (.getfield 19, 3) := by decide +kernel
theorem dX5_readInto_40 : decode cX5_readInto 40 = .ok (.if_icmp .ge 25, 3) := by decide +kernel
theorem dX5_readInto_43 : decode cX5_readInto 43 = .ok (.aload_n 0, 1) := by decide +kernel
theorem dX5_readInto_44 : decode cX5_readInto 44 = .ok (.getfield 30, 3) := by decide +kernel
theorem dX5_readInto_47 : decode cX5_readInto 47 = .ok (.ifCond .ne 18, 3) := by decide +kernel
theorem dX5_readInto_50 : decode cX5_readInto 50 = .ok (.aload_n 0, 1) := by decide +kernel
theorem dX5_readInto_51 : decode cX5_readInto 51 = .ok (.aload_n 1, 1) := by decide +kernel
theorem dX5_readInto_52 : decode cX5_readInto 52 = .ok (.invokevirtual 36, 3) := by decide +kernel
theorem dX5_readInto_55 : decode cX5_readInto 55 = .ok (.aload_n 0, 1) := by decide +kernel
theorem dX5_readInto_56 : decode cX5_readInto 56 = .ok (.invokevirtual 33, 3) := by decide +kernel
theorem dX5_readInto_59 : decode cX5_readInto 59 = .ok (.iinc 2 1, 3) := by decide +kernel
theorem dX5_readInto_62 : decode cX5_readInto 62 = .ok (.goto (-37), 3) := by decide +kernel
theorem dX5_readInto_65 : decode cX5_readInto 65 = .ok (.aload_n 0, 1) := by decide +kernel
theorem dX5_readInto_66 : decode cX5_readInto 66 = .ok (.iconst 0, 1) := by decide +kernel
theorem dX5_readInto_67 : decode cX5_readInto 67 = .ok (.putfield 19, 3) := by decide +kernel
theorem dX5_readInto_70 : decode cX5_readInto 70 = .ok (.aload_n 0, 1) := by decide +kernel
theorem dX5_readInto_71 : decode cX5_readInto 71 = .ok (.getfield 30, 3) := by decide +kernel
theorem dX5_readInto_74 : decode cX5_readInto 74 = .ok (.ireturn, 1) := by decide +kernel
theorem dX5_readClause_0 : decode cX5_readClause 0 = .ok (.aload_n 0, 1) := by decide +kernel
theorem dX5_readClause_1 : decode cX5_readClause 1 = .ok (.invokevirtual 40, 3) := by decide +kernel
theorem dX5_readClause_4 : decode cX5_readClause 4 = .ok (.istore_n 2, 1) := by decide +kernel
theorem dX5_readClause_5 : decode cX5_readClause 5 = .ok (.aload_n 1, 1) := by decide +kernel
theorem dX5_readClause_6 : decode cX5_readClause 6 = .ok (.iload_n 2, 1) := by decide +kernel
theorem dX5_readClause_7 : decode cX5_readClause 7 = .ok (.invokestatic 44, 3) := by decide +kernel
theorem dX5_readClause_10 : decode cX5_readClause 10 = .ok (.istore_n 3, 1) := by decide +kernel
theorem dX5_readClause_11 : decode cX5_readClause 11 = .ok (.iload_n 3, 1) := by decide +kernel
theorem dX5_readClause_12 : decode cX5_readClause 12 = .ok (.ifCond .eq 13, 3) := by decide +kernel
theorem dX5_readClause_15 : decode cX5_readClause 15 = .ok (.aload_n 0, 1) := by decide +kernel
theorem dX5_readClause_16 : decode cX5_readClause 16 = .ok (.iload_n 3, 1) := by decide +kernel
theorem dX5_readClause_17 : decode cX5_readClause 17 = .ok (.aload_n 0, 1) := by decide +kernel
theorem dX5_readClause_18 : decode cX5_readClause 18 = .ok (.getfield 27, 3) := by decide +kernel
theorem dX5_readClause_21 : decode cX5_readClause 21 = .ok (.invokevirtual 48, 3) := by decide +kernel
theorem dX5_readClause_24 : decode cX5_readClause 24 = .ok (.return_, 1) := by decide +kernel
theorem dX5_readClause_25 : decode cX5_readClause 25 = .ok (.aload_n 0, 1) := by decide +kernel
theorem dX5_readClause_26 : decode cX5_readClause 26 = .ok (.dup, 1) := by decide +kernel
theorem dX5_readClause_27 : decode cX5_readClause 27 = .ok (.getfield 27, 3) := by decide +kernel
theorem dX5_readClause_30 : decode cX5_readClause 30 = .ok (.iconst 1, 1) := by decide +kernel
theorem dX5_readClause_31 : decode cX5_readClause 31 = .ok (.iadd, 1) := by decide +kernel
theorem dX5_readClause_32 : decode cX5_readClause 32 = .ok (.putfield 27, 3) := by decide +kernel
theorem dX5_readClause_35 : decode cX5_readClause 35 = .ok (.iload_n 2, 1) := by decide +kernel
theorem dX5_readClause_36 : decode cX5_readClause 36 = .ok (.bipush 102, 2) := by decide +kernel
theorem dX5_readClause_38 : decode cX5_readClause 38 = .ok (.if_icmp .ne 30, 3) := by decide +kernel
theorem dX5_readClause_41 : decode cX5_readClause 41 = .ok (.aload_n 0, 1) := by decide +kernel
theorem dX5_readClause_42 : decode cX5_readClause 42 = .ok (.iconst 0, 1) := by decide +kernel
theorem dX5_readClause_43 : decode cX5_readClause 43 = .ok (.bipush 99, 2) := by decide +kernel
theorem dX5_readClause_45 : decode cX5_readClause 45 = .ok (.invokevirtual 52, 3) := by decide +kernel
theorem dX5_readClause_48 : decode cX5_readClause 48 = .ok (.istore 4, 2) := by decide +kernel
theorem dX5_readClause_50 : decode cX5_readClause 50 = .ok (.aload_n 0, 1) := by decide +kernel
theorem dX5_readClause_51 : decode cX5_readClause 51 = .ok (.invokevirtual 56, 3) := by decide +kernel
theorem dX5_readClause_54 : decode cX5_readClause 54 = .ok (.aload_n 1, 1) := by decide +kernel
theorem dX5_readClause_55 : decode cX5_readClause 55 = .ok (.iconst 1, 1) := by decide +kernel
theorem dX5_readClause_56 : decode cX5_readClause 56 = .ok (.putfield 59, 3) := by decide +kernel
theorem dX5_readClause_59 : decode cX5_readClause 59 = .ok (.aload_n 1, 1) := by decide +kernel
theorem dX5_readClause_60 : decode cX5_readClause 60 = .ok (.iload 4, 2) := by decide +kernel
theorem dX5_readClause_62 : decode cX5_readClause 62 = .ok (.putfield 63, 3) := by decide +kernel
theorem dX5_readClause_65 : decode cX5_readClause 65 = .ok (.goto 82, 3) := by decide +kernel
theorem dX5_readClause_68 : decode cX5_readClause 68 = .ok (.iload_n 2, 1) := by decide +kernel
theorem dX5_readClause_69 : decode cX5_readClause 69 = .ok (.bipush 98, 2) := by decide +kernel
theorem dX5_readClause_71 : decode cX5_readClause 71 = .ok (.if_icmp .ne 46, 3) := by decide +kernel
theorem dX5_readClause_74 : decode cX5_readClause 74 = .ok (.aload_n 0, 1) := by decide +kernel
theorem dX5_readClause_75 : decode cX5_readClause 75 = .ok (.iconst 0, 1) := by decide +kernel
theorem dX5_readClause_76 : decode cX5_readClause 76 = .ok (.iconst 4, 1) := by decide +kernel
theorem dX5_readClause_77 : decode cX5_readClause 77 = .ok (.invokevirtual 52, 3) := by decide +kernel
theorem dX5_readClause_80 : decode cX5_readClause 80 = .ok (.istore 4, 2) := by decide +kernel
theorem dX5_readClause_82 : decode cX5_readClause 82 = .ok (.aload_n 0, 1) := by decide +kernel
theorem dX5_readClause_83 : decode cX5_readClause 83 = .ok (.iconst 1, 1) := by decide +kernel
theorem dX5_readClause_84 : decode cX5_readClause 84 = .ok (.bipush 60, 2) := by decide +kernel
theorem dX5_readClause_86 : decode cX5_readClause 86 = .ok (.invokevirtual 52, 3) := by decide +kernel
theorem dX5_readClause_89 : decode cX5_readClause 89 = .ok (.istore 5, 2) := by decide +kernel
theorem dX5_readClause_91 : decode cX5_readClause 91 = .ok (.aload_n 0, 1) := by decide +kernel
theorem dX5_readClause_92 : decode cX5_readClause 92 = .ok (.iconst 0, 1) := by decide +kernel
theorem dX5_readClause_93 : decode cX5_readClause 93 = .ok (.bipush 20, 2) := by decide +kernel
theorem dX5_readClause_95 : decode cX5_readClause 95 = .ok (.invokevirtual 52, 3) := by decide +kernel
theorem dX5_readClause_98 : decode cX5_readClause 98 = .ok (.istore 6, 2) := by decide +kernel
theorem dX5_readClause_100 : decode cX5_readClause 100 = .ok (.aload_n 0, 1) := by decide +kernel
theorem dX5_readClause_101 : decode cX5_readClause 101 = .ok (.invokevirtual 56, 3) := by decide +kernel
theorem dX5_readClause_104 : decode cX5_readClause 104 = .ok (.aload_n 1, 1) := by decide +kernel
theorem dX5_readClause_105 : decode cX5_readClause 105 = .ok (.iload 4, 2) := by decide +kernel
theorem dX5_readClause_107 : decode cX5_readClause 107 = .ok (.iload 5, 2) := by decide +kernel
theorem dX5_readClause_109 : decode cX5_readClause 109 = .ok (.iload 6, 2) := by decide +kernel
theorem dX5_readClause_111 : decode cX5_readClause 111 = .ok (.invokevirtual 66, 3) := by decide +kernel
theorem dX5_readClause_114 : decode cX5_readClause 114 = .ok (.goto 33, 3) := by decide +kernel
theorem dX5_readClause_117 : decode cX5_readClause 117 = .ok (.aload_n 0, 1) := by decide +kernel
theorem dX5_readClause_118 : decode cX5_readClause 118 = .ok (.iconst 1, 1) := by decide +kernel
theorem dX5_readClause_119 : decode cX5_readClause 119 = .ok (.bipush 99, 2) := by decide +kernel
theorem dX5_readClause_121 : decode cX5_readClause 121 = .ok (.invokevirtual 52, 3) := by decide +kernel
theorem dX5_readClause_124 : decode cX5_readClause 124 = .ok (.istore 4, 2) := by decide +kernel
theorem dX5_readClause_126 : decode cX5_readClause 126 = .ok (.aload_n 0, 1) := by decide +kernel
theorem dX5_readClause_127 : decode cX5_readClause 127 = .ok (.iconst 0, 1) := by decide +kernel
theorem dX5_readClause_128 : decode cX5_readClause 128 = .ok (.bipush 9, 2) := by decide +kernel
theorem dX5_readClause_130 : decode cX5_readClause 130 = .ok (.invokevirtual 52, 3) := by decide +kernel
theorem dX5_readClause_133 : decode cX5_readClause 133 = .ok (.istore 5, 2) := by decide +kernel
theorem dX5_readClause_135 : decode cX5_readClause 135 = .ok (.aload_n 0, 1) := by decide +kernel
theorem dX5_readClause_136 : decode cX5_readClause 136 = .ok (.invokevirtual 56, 3) := by decide +kernel
theorem dX5_readClause_139 : decode cX5_readClause 139 = .ok (.aload_n 1, 1) := by decide +kernel
theorem dX5_readClause_140 : decode cX5_readClause 140 = .ok (.iload 4, 2) := by decide +kernel
theorem dX5_readClause_142 : decode cX5_readClause 142 = .ok (.iload 5, 2) := by decide +kernel
theorem dX5_readClause_144 : decode cX5_readClause 144 = .ok (.invokevirtual 70, 3) := by decide +kernel
theorem dX5_readClause_147 : decode cX5_readClause 147 = .ok (.return_, 1) := by decide +kernel
theorem dX5_faultOfWord_0 : decode cX5_faultOfWord 0 = .ok (.iload_n 1, 1) := by decide +kernel
theorem dX5_faultOfWord_1 : decode cX5_faultOfWord 1 = .ok (.bipush 102, 2) := by decide +kernel
theorem dX5_faultOfWord_3 : decode cX5_faultOfWord 3 = .ok (.if_icmp .eq 24, 3) := by decide +kernel
theorem dX5_faultOfWord_6 : decode cX5_faultOfWord 6 = .ok (.iload_n 1, 1) := by decide +kernel
theorem dX5_faultOfWord_7 : decode cX5_faultOfWord 7 = .ok (.bipush 98, 2) := by decide +kernel
theorem dX5_faultOfWord_9 : decode cX5_faultOfWord 9 = .ok (.if_icmp .eq 9, 3) := by decide +kernel
theorem dX5_faultOfWord_12 : decode cX5_faultOfWord 12 = .ok (.iload_n 1, 1) := by decide +kernel
theorem dX5_faultOfWord_13 : decode cX5_faultOfWord 13 = .ok (.bipush 112, 2) := by decide +kernel
theorem dX5_faultOfWord_15 : decode cX5_faultOfWord 15 = .ok (.if_icmp .ne 10, 3) := by decide +kernel
theorem dX5_faultOfWord_18 : decode cX5_faultOfWord 18 = .ok (.aload_n 0, 1) := by decide +kernel
theorem dX5_faultOfWord_19 : decode cX5_faultOfWord 19 = .ok (.getfield 59, 3) := by decide +kernel
theorem dX5_faultOfWord_22 : decode cX5_faultOfWord 22 = .ok (.ifCond .ne 5, 3) := by decide +kernel
theorem dX5_faultOfWord_25 : decode cX5_faultOfWord 25 = .ok (.iconst 1, 1) := by decide +kernel
theorem dX5_faultOfWord_26 : decode cX5_faultOfWord 26 = .ok (.ireturn, 1) := by decide +kernel
theorem dX5_faultOfWord_27 : decode cX5_faultOfWord 27 = .ok (.iload_n 1, 1) := by decide +kernel
theorem dX5_faultOfWord_28 : decode cX5_faultOfWord 28 = .ok (.bipush 102, 2) := by decide +kernel
theorem dX5_faultOfWord_30 : decode cX5_faultOfWord 30 = .ok (.if_icmp .ne 10, 3) := by decide +kernel
theorem dX5_faultOfWord_33 : decode cX5_faultOfWord 33 = .ok (.aload_n 0, 1) := by decide +kernel
theorem dX5_faultOfWord_34 : decode cX5_faultOfWord 34 = .ok (.getfield 59, 3) := by decide +kernel
theorem dX5_faultOfWord_37 : decode cX5_faultOfWord 37 = .ok (.ifCond .ne 32, 3) := by decide +kernel
theorem dX5_faultOfWord_40 : decode cX5_faultOfWord 40 = .ok (.iload_n 1, 1) := by decide +kernel
theorem dX5_faultOfWord_41 : decode cX5_faultOfWord 41 = .ok (.bipush 98, 2) := by decide +kernel
theorem dX5_faultOfWord_43 : decode cX5_faultOfWord 43 = .ok (.if_icmp .ne 12, 3) := by decide +kernel
theorem dX5_faultOfWord_46 : decode cX5_faultOfWord 46 = .ok (.aload_n 0, 1) := by decide +kernel
theorem dX5_faultOfWord_47 : decode cX5_faultOfWord 47 = .ok (.getfield 73, 3) := by decide +kernel
theorem dX5_faultOfWord_50 : decode cX5_faultOfWord 50 = .ok (.bipush 6, 2) := by decide +kernel
theorem dX5_faultOfWord_52 : decode cX5_faultOfWord 52 = .ok (.if_icmp .ge 17, 3) := by decide +kernel
theorem dX5_faultOfWord_55 : decode cX5_faultOfWord 55 = .ok (.iload_n 1, 1) := by decide +kernel
theorem dX5_faultOfWord_56 : decode cX5_faultOfWord 56 = .ok (.bipush 112, 2) := by decide +kernel
theorem dX5_faultOfWord_58 : decode cX5_faultOfWord 58 = .ok (.if_icmp .ne 15, 3) := by decide +kernel
theorem dX5_faultOfWord_61 : decode cX5_faultOfWord 61 = .ok (.aload_n 0, 1) := by decide +kernel
theorem dX5_faultOfWord_62 : decode cX5_faultOfWord 62 = .ok (.getfield 76, 3) := by decide +kernel
theorem dX5_faultOfWord_65 : decode cX5_faultOfWord 65 = .ok (.iconst 5, 1) := by decide +kernel
theorem dX5_faultOfWord_66 : decode cX5_faultOfWord 66 = .ok (.if_icmp .lt 7, 3) := by decide +kernel
theorem dX5_faultOfWord_69 : decode cX5_faultOfWord 69 = .ok (.iconst 1, 1) := by decide +kernel
theorem dX5_faultOfWord_70 : decode cX5_faultOfWord 70 = .ok (.goto 4, 3) := by decide +kernel
theorem dX5_faultOfWord_73 : decode cX5_faultOfWord 73 = .ok (.iconst 0, 1) := by decide +kernel
theorem dX5_faultOfWord_74 : decode cX5_faultOfWord 74 = .ok (.istore_n 2, 1) := by decide +kernel
theorem dX5_faultOfWord_75 : decode cX5_faultOfWord 75 = .ok (.iload_n 2, 1) := by decide +kernel
theorem dX5_faultOfWord_76 : decode cX5_faultOfWord 76 = .ok (.ifCond .eq 7, 3) := by decide +kernel
theorem dX5_faultOfWord_79 : decode cX5_faultOfWord 79 = .ok (.iconst 3, 1) := by decide +kernel
theorem dX5_faultOfWord_80 : decode cX5_faultOfWord 80 = .ok (.goto 4, 3) := by decide +kernel
theorem dX5_faultOfWord_83 : decode cX5_faultOfWord 83 = .ok (.iconst 0, 1) := by decide +kernel
theorem dX5_faultOfWord_84 : decode cX5_faultOfWord 84 = .ok (.ireturn, 1) := by decide +kernel
theorem dX5_readNumber_0 : decode cX5_readNumber 0 = .ok (.aload_n 0, 1) := by decide +kernel
theorem dX5_readNumber_1 : decode cX5_readNumber 1 = .ok (.getfield 30, 3) := by decide +kernel
theorem dX5_readNumber_4 : decode cX5_readNumber 4 = .ok (.ifCond .eq 5, 3) := by decide +kernel
theorem dX5_readNumber_7 : decode cX5_readNumber 7 = .ok (.iload_n 1, 1) := by decide +kernel
theorem dX5_readNumber_8 : decode cX5_readNumber 8 = .ok (.ireturn, 1) := by decide +kernel
theorem dX5_readNumber_9 : decode cX5_readNumber 9 = .ok (.aload_n 0, 1) := by decide +kernel
theorem dX5_readNumber_10 : decode cX5_readNumber 10 = .ok (.invokevirtual 33, 3) := by decide +kernel
theorem dX5_readNumber_13 : decode cX5_readNumber 13 = .ok (.aload_n 0, 1) := by decide +kernel
theorem dX5_readNumber_14 : decode cX5_readNumber 14 = .ok (.getfield 27, 3) := by decide +kernel
theorem dX5_readNumber_17 : decode cX5_readNumber 17 = .ok (.istore_n 3, 1) := by decide +kernel
theorem dX5_readNumber_18 : decode cX5_readNumber 18 = .ok (.iconst 0, 1) := by decide +kernel
theorem dX5_readNumber_19 : decode cX5_readNumber 19 = .ok (.istore 4, 2) := by decide +kernel
theorem dX5_readNumber_21 : decode cX5_readNumber 21 = .ok (.aload_n 0, 1) := by decide +kernel
theorem dX5_readNumber_22 : decode cX5_readNumber 22 = .ok (.getfield 27, 3) := by decide +kernel
theorem dX5_readNumber_25 : decode cX5_readNumber 25 = .ok (.aload_n 0, 1) := by decide +kernel
theorem dX5_readNumber_26 : decode cX5_readNumber 26 = .ok (.getfield 19, 3) := by decide +kernel
theorem dX5_readNumber_29 : decode cX5_readNumber 29 = .ok (.if_icmp .ge 51, 3) := by decide +kernel
theorem dX5_readNumber_32 : decode cX5_readNumber 32 = .ok (.aload_n 0, 1) := by decide +kernel
theorem dX5_readNumber_33 : decode cX5_readNumber 33 = .ok (.invokevirtual 40, 3) := by decide +kernel
theorem dX5_readNumber_36 : decode cX5_readNumber 36 = .ok (.invokestatic 79, 3) := by decide +kernel
theorem dX5_readNumber_39 : decode cX5_readNumber 39 = .ok (.ifCond .eq 41, 3) := by decide +kernel
theorem dX5_readNumber_42 : decode cX5_readNumber 42 = .ok (.aload_n 0, 1) := by decide +kernel
theorem dX5_readNumber_43 : decode cX5_readNumber 43 = .ok (.getfield 27, 3) := by decide +kernel
theorem dX5_readNumber_46 : decode cX5_readNumber 46 = .ok (.iload_n 3, 1) := by decide +kernel
theorem dX5_readNumber_47 : decode cX5_readNumber 47 = .ok (.isub, 1) := by decide +kernel
theorem dX5_readNumber_48 : decode cX5_readNumber 48 = .ok (.iconst 3, 1) := by decide +kernel
theorem dX5_readNumber_49 : decode cX5_readNumber 49 = .ok (.if_icmp .ge 18, 3) := by decide +kernel
theorem dX5_readNumber_52 : decode cX5_readNumber 52 = .ok (.iload 4, 2) := by decide +kernel
theorem dX5_readNumber_54 : decode cX5_readNumber 54 = .ok (.bipush 10, 2) := by decide +kernel
theorem dX5_readNumber_56 : decode cX5_readNumber 56 = .ok (.imul, 1) := by decide +kernel
theorem dX5_readNumber_57 : decode cX5_readNumber 57 = .ok (.aload_n 0, 1) := by decide +kernel
theorem dX5_readNumber_58 : decode cX5_readNumber 58 = .ok (.invokevirtual 40, 3) := by decide +kernel
theorem dX5_readNumber_61 : decode cX5_readNumber 61 = .ok (.iadd, 1) := by decide +kernel
theorem dX5_readNumber_62 : decode cX5_readNumber 62 = .ok (.bipush 48, 2) := by decide +kernel
theorem dX5_readNumber_64 : decode cX5_readNumber 64 = .ok (.isub, 1) := by decide +kernel
theorem dX5_readNumber_65 : decode cX5_readNumber 65 = .ok (.istore 4, 2) := by decide +kernel
theorem dX5_readNumber_67 : decode cX5_readNumber 67 = .ok (.aload_n 0, 1) := by decide +kernel
theorem dX5_readNumber_68 : decode cX5_readNumber 68 = .ok (.dup, 1) := by decide +kernel
theorem dX5_readNumber_69 : decode cX5_readNumber 69 = .ok (.getfield 27, 3) := by decide +kernel
theorem dX5_readNumber_72 : decode cX5_readNumber 72 = .ok (.iconst 1, 1) := by decide +kernel
theorem dX5_readNumber_73 : decode cX5_readNumber 73 = .ok (.iadd, 1) := by decide +kernel
theorem dX5_readNumber_74 : decode cX5_readNumber 74 = .ok (.putfield 27, 3) := by decide +kernel
theorem dX5_readNumber_77 : decode cX5_readNumber 77 = .ok (.goto (-56), 3) := by decide +kernel
theorem dX5_readNumber_80 : decode cX5_readNumber 80 = .ok (.aload_n 0, 1) := by decide +kernel
theorem dX5_readNumber_81 : decode cX5_readNumber 81 = .ok (.getfield 27, 3) := by decide +kernel
theorem dX5_readNumber_84 : decode cX5_readNumber 84 = .ok (.iload_n 3, 1) := by decide +kernel
theorem dX5_readNumber_85 : decode cX5_readNumber 85 = .ok (.if_icmp .ne 12, 3) := by decide +kernel
theorem dX5_readNumber_88 : decode cX5_readNumber 88 = .ok (.aload_n 0, 1) := by decide +kernel
theorem dX5_readNumber_89 : decode cX5_readNumber 89 = .ok (.iconst 1, 1) := by decide +kernel
theorem dX5_readNumber_90 : decode cX5_readNumber 90 = .ok (.iload_n 3, 1) := by decide +kernel
theorem dX5_readNumber_91 : decode cX5_readNumber 91 = .ok (.invokevirtual 48, 3) := by decide +kernel
theorem dX5_readNumber_94 : decode cX5_readNumber 94 = .ok (.goto 29, 3) := by decide +kernel
theorem dX5_readNumber_97 : decode cX5_readNumber 97 = .ok (.aload_n 0, 1) := by decide +kernel
theorem dX5_readNumber_98 : decode cX5_readNumber 98 = .ok (.getfield 27, 3) := by decide +kernel
theorem dX5_readNumber_101 : decode cX5_readNumber 101 = .ok (.iload_n 3, 1) := by decide +kernel
theorem dX5_readNumber_102 : decode cX5_readNumber 102 = .ok (.isub, 1) := by decide +kernel
theorem dX5_readNumber_103 : decode cX5_readNumber 103 = .ok (.iconst 3, 1) := by decide +kernel
theorem dX5_readNumber_104 : decode cX5_readNumber 104 = .ok (.if_icmp .gt 13, 3) := by decide +kernel
theorem dX5_readNumber_107 : decode cX5_readNumber 107 = .ok (.iload 4, 2) := by decide +kernel
theorem dX5_readNumber_109 : decode cX5_readNumber 109 = .ok (.iload_n 1, 1) := by decide +kernel
theorem dX5_readNumber_110 : decode cX5_readNumber 110 = .ok (.iload_n 2, 1) := by decide +kernel
theorem dX5_readNumber_111 : decode cX5_readNumber 111 = .ok (.invokestatic 83, 3) := by decide +kernel
theorem dX5_readNumber_114 : decode cX5_readNumber 114 = .ok (.ifCond .ne 9, 3) := by decide +kernel
theorem dX5_readNumber_117 : decode cX5_readNumber 117 = .ok (.aload_n 0, 1) := by decide +kernel
theorem dX5_readNumber_118 : decode cX5_readNumber 118 = .ok (.iconst 2, 1) := by decide +kernel
theorem dX5_readNumber_119 : decode cX5_readNumber 119 = .ok (.iload_n 3, 1) := by decide +kernel
theorem dX5_readNumber_120 : decode cX5_readNumber 120 = .ok (.invokevirtual 48, 3) := by decide +kernel
theorem dX5_readNumber_123 : decode cX5_readNumber 123 = .ok (.iload 4, 2) := by decide +kernel
theorem dX5_readNumber_125 : decode cX5_readNumber 125 = .ok (.ireturn, 1) := by decide +kernel
theorem dX5_endClause_0 : decode cX5_endClause 0 = .ok (.aload_n 0, 1) := by decide +kernel
theorem dX5_endClause_1 : decode cX5_endClause 1 = .ok (.getfield 30, 3) := by decide +kernel
theorem dX5_endClause_4 : decode cX5_endClause 4 = .ok (.ifCond .eq 4, 3) := by decide +kernel
theorem dX5_endClause_7 : decode cX5_endClause 7 = .ok (.return_, 1) := by decide +kernel
theorem dX5_endClause_8 : decode cX5_endClause 8 = .ok (.aload_n 0, 1) := by decide +kernel
theorem dX5_endClause_9 : decode cX5_endClause 9 = .ok (.invokevirtual 33, 3) := by decide +kernel
theorem dX5_endClause_12 : decode cX5_endClause 12 = .ok (.aload_n 0, 1) := by decide +kernel
theorem dX5_endClause_13 : decode cX5_endClause 13 = .ok (.invokevirtual 40, 3) := by decide +kernel
theorem dX5_endClause_16 : decode cX5_endClause 16 = .ok (.bipush 59, 2) := by decide +kernel
theorem dX5_endClause_18 : decode cX5_endClause 18 = .ok (.if_icmp .ne 16, 3) := by decide +kernel
theorem dX5_endClause_21 : decode cX5_endClause 21 = .ok (.aload_n 0, 1) := by decide +kernel
theorem dX5_endClause_22 : decode cX5_endClause 22 = .ok (.dup, 1) := by decide +kernel
theorem dX5_endClause_23 : decode cX5_endClause 23 = .ok (.getfield 27, 3) := by decide +kernel
theorem dX5_endClause_26 : decode cX5_endClause 26 = .ok (.iconst 1, 1) := by decide +kernel
theorem dX5_endClause_27 : decode cX5_endClause 27 = .ok (.iadd, 1) := by decide +kernel
theorem dX5_endClause_28 : decode cX5_endClause 28 = .ok (.putfield 27, 3) := by decide +kernel
theorem dX5_endClause_31 : decode cX5_endClause 31 = .ok (.goto 12, 3) := by decide +kernel
theorem dX5_endClause_34 : decode cX5_endClause 34 = .ok (.aload_n 0, 1) := by decide +kernel
theorem dX5_endClause_35 : decode cX5_endClause 35 = .ok (.iconst 1, 1) := by decide +kernel
theorem dX5_endClause_36 : decode cX5_endClause 36 = .ok (.aload_n 0, 1) := by decide +kernel
theorem dX5_endClause_37 : decode cX5_endClause 37 = .ok (.getfield 27, 3) := by decide +kernel
theorem dX5_endClause_40 : decode cX5_endClause 40 = .ok (.invokevirtual 48, 3) := by decide +kernel
theorem dX5_endClause_43 : decode cX5_endClause 43 = .ok (.return_, 1) := by decide +kernel
theorem dX5_passBlanks_0 : decode cX5_passBlanks 0 = .ok (.aload_n 0, 1) := by decide +kernel
theorem dX5_passBlanks_1 : decode cX5_passBlanks 1 = .ok (.getfield 27, 3) := by decide +kernel
theorem dX5_passBlanks_4 : decode cX5_passBlanks 4 = .ok (.aload_n 0, 1) := by decide +kernel
theorem dX5_passBlanks_5 : decode cX5_passBlanks 5 = .ok (.getfield 19, 3) := by decide +kernel
theorem dX5_passBlanks_8 : decode cX5_passBlanks 8 = .ok (.if_icmp .ge 25, 3) := by decide +kernel
theorem dX5_passBlanks_11 : decode cX5_passBlanks 11 = .ok (.aload_n 0, 1) := by decide +kernel
theorem dX5_passBlanks_12 : decode cX5_passBlanks 12 = .ok (.invokevirtual 40, 3) := by decide +kernel
theorem dX5_passBlanks_15 : decode cX5_passBlanks 15 = .ok (.bipush 32, 2) := by decide +kernel
theorem dX5_passBlanks_17 : decode cX5_passBlanks 17 = .ok (.if_icmp .ne 16, 3) := by decide +kernel
theorem dX5_passBlanks_20 : decode cX5_passBlanks 20 = .ok (.aload_n 0, 1) := by decide +kernel
theorem dX5_passBlanks_21 : decode cX5_passBlanks 21 = .ok (.dup, 1) := by decide +kernel
theorem dX5_passBlanks_22 : decode cX5_passBlanks 22 = .ok (.getfield 27, 3) := by decide +kernel
theorem dX5_passBlanks_25 : decode cX5_passBlanks 25 = .ok (.iconst 1, 1) := by decide +kernel
theorem dX5_passBlanks_26 : decode cX5_passBlanks 26 = .ok (.iadd, 1) := by decide +kernel
theorem dX5_passBlanks_27 : decode cX5_passBlanks 27 = .ok (.putfield 27, 3) := by decide +kernel
theorem dX5_passBlanks_30 : decode cX5_passBlanks 30 = .ok (.goto (-30), 3) := by decide +kernel
theorem dX5_passBlanks_33 : decode cX5_passBlanks 33 = .ok (.return_, 1) := by decide +kernel
theorem dX5_letterHere_0 : decode cX5_letterHere 0 = .ok (.aload_n 0, 1) := by decide +kernel
theorem dX5_letterHere_1 : decode cX5_letterHere 1 = .ok (.getfield 27, 3) := by decide +kernel
theorem dX5_letterHere_4 : decode cX5_letterHere 4 = .ok (.ifCond .lt 36, 3) := by decide +kernel
theorem dX5_letterHere_7 : decode cX5_letterHere 7 = .ok (.aload_n 0, 1) := by decide +kernel
theorem dX5_letterHere_8 : decode cX5_letterHere 8 = .ok (.getfield 27, 3) := by decide +kernel
theorem dX5_letterHere_11 : decode cX5_letterHere 11 = .ok (.aload_n 0, 1) := by decide +kernel
theorem dX5_letterHere_12 : decode cX5_letterHere 12 = .ok (.getfield 19, 3) := by decide +kernel
theorem dX5_letterHere_15 : decode cX5_letterHere 15 = .ok (.if_icmp .ge 25, 3) := by decide +kernel
theorem dX5_letterHere_18 : decode cX5_letterHere 18 = .ok (.aload_n 0, 1) := by decide +kernel
theorem dX5_letterHere_19 : decode cX5_letterHere 19 = .ok (.getfield 27, 3) := by decide +kernel
theorem dX5_letterHere_22 : decode cX5_letterHere 22 = .ok (.sipush 240, 3) := by decide +kernel
theorem dX5_letterHere_25 : decode cX5_letterHere 25 = .ok (.if_icmp .ge 15, 3) := by decide +kernel
theorem dX5_letterHere_28 : decode cX5_letterHere 28 = .ok (.aload_n 0, 1) := by decide +kernel
theorem dX5_letterHere_29 : decode cX5_letterHere 29 = .ok (.getfield 15, 3) := by decide +kernel
theorem dX5_letterHere_32 : decode cX5_letterHere 32 = .ok (.aload_n 0, 1) := by decide +kernel
theorem dX5_letterHere_33 : decode cX5_letterHere 33 = .ok (.getfield 27, 3) := by decide +kernel
theorem dX5_letterHere_36 : decode cX5_letterHere 36 = .ok (.iaload, 1) := by decide +kernel
theorem dX5_letterHere_37 : decode cX5_letterHere 37 = .ok (.goto 4, 3) := by decide +kernel
theorem dX5_letterHere_40 : decode cX5_letterHere 40 = .ok (.iconst (-1), 1) := by decide +kernel
theorem dX5_letterHere_41 : decode cX5_letterHere 41 = .ok (.ireturn, 1) := by decide +kernel
theorem dX5_isFigure_0 : decode cX5_isFigure 0 = .ok (.iload_n 0, 1) := by decide +kernel
theorem dX5_isFigure_1 : decode cX5_isFigure 1 = .ok (.bipush 48, 2) := by decide +kernel
theorem dX5_isFigure_3 : decode cX5_isFigure 3 = .ok (.if_icmp .lt 13, 3) := by decide +kernel
theorem dX5_isFigure_6 : decode cX5_isFigure 6 = .ok (.iload_n 0, 1) := by decide +kernel
theorem dX5_isFigure_7 : decode cX5_isFigure 7 = .ok (.bipush 57, 2) := by decide +kernel
theorem dX5_isFigure_9 : decode cX5_isFigure 9 = .ok (.if_icmp .gt 7, 3) := by decide +kernel
theorem dX5_isFigure_12 : decode cX5_isFigure 12 = .ok (.iconst 1, 1) := by decide +kernel
theorem dX5_isFigure_13 : decode cX5_isFigure 13 = .ok (.goto 4, 3) := by decide +kernel
theorem dX5_isFigure_16 : decode cX5_isFigure 16 = .ok (.iconst 0, 1) := by decide +kernel
theorem dX5_isFigure_17 : decode cX5_isFigure 17 = .ok (.ireturn, 1) := by decide +kernel
theorem dX5_blame_0 : decode cX5_blame 0 = .ok (.aload_n 0, 1) := by decide +kernel
theorem dX5_blame_1 : decode cX5_blame 1 = .ok (.iload_n 1, 1) := by decide +kernel
theorem dX5_blame_2 : decode cX5_blame 2 = .ok (.putfield 30, 3) := by decide +kernel
theorem dX5_blame_5 : decode cX5_blame 5 = .ok (.aload_n 0, 1) := by decide +kernel
theorem dX5_blame_6 : decode cX5_blame 6 = .ok (.iload_n 2, 1) := by decide +kernel
theorem dX5_blame_7 : decode cX5_blame 7 = .ok (.putfield 9, 3) := by decide +kernel
theorem dX5_blame_10 : decode cX5_blame 10 = .ok (.return_, 1) := by decide +kernel
theorem dX6_init_0 : decode cX6_init 0 = .ok (.aload_n 0, 1) := by decide +kernel
theorem dX6_init_1 : decode cX6_init 1 = .ok (.invokespecial 3, 3) := by decide +kernel
theorem dX6_init_4 : decode cX6_init 4 = .ok (.aload_n 0, 1) := by decide +kernel
theorem dX6_init_5 : decode cX6_init 5 = .ok (.new 9, 3) := by decide +kernel
theorem dX6_init_8 : decode cX6_init 8 = .ok (.dup, 1) := by decide +kernel
theorem dX6_init_9 : decode cX6_init 9 = .ok (.invokespecial 11, 3) := by decide +kernel
theorem dX6_init_12 : decode cX6_init 12 = .ok (.putfield 12, 3) := by decide +kernel
theorem dX6_init_15 : decode cX6_init 15 = .ok (.aload_n 0, 1) := by decide +kernel
theorem dX6_init_16 : decode cX6_init 16 = .ok (.new 18, 3) := by decide +kernel
theorem dX6_init_19 : decode cX6_init 19 = .ok (.dup, 1) := by decide +kernel
theorem dX6_init_20 : decode cX6_init 20 = .ok (.invokespecial 20, 3) := by decide +kernel
theorem dX6_init_23 : decode cX6_init 23 = .ok (.putfield 21, 3) := by decide +kernel
theorem dX6_init_26 : decode cX6_init 26 = .ok (.return_, 1) := by decide +kernel
theorem dX6_carriedBy_0 : decode cX6_carriedBy 0 = .ok (.iconst 0, 1) := by decide +kernel
theorem dX6_carriedBy_1 : decode cX6_carriedBy 1 = .ok (.istore_n 2, 1) := by decide +kernel
theorem dX6_carriedBy_2 : decode cX6_carriedBy 2 = .ok (.iconst 0, 1) := by decide +kernel
theorem dX6_carriedBy_3 : decode cX6_carriedBy 3 = .ok (.istore_n 3, 1) := by decide +kernel
theorem dX6_carriedBy_4 : decode cX6_carriedBy 4 = .ok (.iload_n 3, 1) := by decide +kernel
theorem dX6_carriedBy_5 : decode cX6_carriedBy 5 = .ok (.aload_n 0, 1) := by decide +kernel
theorem dX6_carriedBy_6 : decode cX6_carriedBy 6 = .ok (.getfield 12, 3) := by decide +kernel
theorem dX6_carriedBy_9 : decode cX6_carriedBy 9 = .ok (.getfield 25, 3) := by decide +kernel
theorem dX6_carriedBy_12 : decode cX6_carriedBy 12 = .ok (.if_icmp .ge 27, 3) := by decide +kernel
theorem dX6_carriedBy_15 : decode cX6_carriedBy 15 = .ok (.aload_n 0, 1) := by decide +kernel
theorem dX6_carriedBy_16 : decode cX6_carriedBy 16 = .ok (.getfield 21, 3) := by decide +kernel
theorem dX6_carriedBy_19 : decode cX6_carriedBy 19 = .ok (.iload_n 3, 1) := by decide +kernel
theorem dX6_carriedBy_20 : decode cX6_carriedBy 20 = .ok (.iload_n 1, 1) := by decide +kernel
theorem dX6_carriedBy_21 : decode cX6_carriedBy 21 = .ok (.invokevirtual 29, 3) := by decide +kernel
theorem dX6_carriedBy_24 : decode cX6_carriedBy 24 = .ok (.ifCond .eq 9, 3) := by decide +kernel
theorem dX6_carriedBy_27 : decode cX6_carriedBy 27 = .ok (.iload_n 2, 1) := by decide +kernel
theorem dX6_carriedBy_28 : decode cX6_carriedBy 28 = .ok (.iconst 1, 1) := by decide +kernel
theorem dX6_carriedBy_29 : decode cX6_carriedBy 29 = .ok (.iload_n 3, 1) := by decide +kernel
theorem dX6_carriedBy_30 : decode cX6_carriedBy 30 = .ok (.ishl, 1) := by decide +kernel
theorem dX6_carriedBy_31 : decode cX6_carriedBy 31 = .ok (.ior, 1) := by decide +kernel
theorem dX6_carriedBy_32 : decode cX6_carriedBy 32 = .ok (.istore_n 2, 1) := by decide +kernel
theorem dX6_carriedBy_33 : decode cX6_carriedBy 33 = .ok (.iinc 3 1, 3) := by decide +kernel
theorem dX6_carriedBy_36 : decode cX6_carriedBy 36 = .ok (.goto (-32), 3) := by decide +kernel
theorem dX6_carriedBy_39 : decode cX6_carriedBy 39 = .ok (.iload_n 2, 1) := by decide +kernel
theorem dX6_carriedBy_40 : decode cX6_carriedBy 40 = .ok (.ireturn, 1) := by decide +kernel
theorem dX6_carriedByNobody_0 : decode cX6_carriedByNobody 0 = .ok (.iconst 0, 1) := by decide +kernel
theorem dX6_carriedByNobody_1 : decode cX6_carriedByNobody 1 = .ok (.istore_n 1, 1) := by decide +kernel
theorem dX6_carriedByNobody_2 : decode cX6_carriedByNobody 2 = .ok (.iconst 0, 1) := by decide +kernel
theorem dX6_carriedByNobody_3 : decode cX6_carriedByNobody 3 = .ok (.istore_n 2, 1) := by decide +kernel
theorem dX6_carriedByNobody_4 : decode cX6_carriedByNobody 4 = .ok (.iload_n 2, 1) := by decide +kernel
theorem dX6_carriedByNobody_5 : decode cX6_carriedByNobody 5 = .ok (.aload_n 0, 1) := by decide +kernel
theorem dX6_carriedByNobody_6 : decode cX6_carriedByNobody 6 = .ok (.getfield 12, 3) := by decide +kernel
theorem dX6_carriedByNobody_9 : decode cX6_carriedByNobody 9 = .ok (.getfield 25, 3) := by decide +kernel
theorem dX6_carriedByNobody_12 : decode cX6_carriedByNobody 12 = .ok (.if_icmp .ge 26, 3) := by decide +kernel
theorem dX6_carriedByNobody_15 : decode cX6_carriedByNobody 15 = .ok (.aload_n 0, 1) := by decide +kernel
theorem dX6_carriedByNobody_16 : decode cX6_carriedByNobody 16 = .ok (.getfield 21, 3) := by decide +kernel
theorem dX6_carriedByNobody_19 : decode cX6_carriedByNobody 19 = .ok (.iload_n 2, 1) := by decide +kernel
theorem dX6_carriedByNobody_20 : decode cX6_carriedByNobody 20 = .ok (.invokevirtual 33, 3) := by decide +kernel
theorem dX6_carriedByNobody_23 : decode cX6_carriedByNobody 23 = .ok (.ifCond .ne 9, 3) := by decide +kernel
theorem dX6_carriedByNobody_26 : decode cX6_carriedByNobody 26 = .ok (.iload_n 1, 1) := by decide +kernel
theorem dX6_carriedByNobody_27 : decode cX6_carriedByNobody 27 = .ok (.iconst 1, 1) := by decide +kernel
theorem dX6_carriedByNobody_28 : decode cX6_carriedByNobody 28 = .ok (.iload_n 2, 1) := by decide +kernel
theorem dX6_carriedByNobody_29 : decode cX6_carriedByNobody 29 = .ok (.ishl, 1) := by decide +kernel
theorem dX6_carriedByNobody_30 : decode cX6_carriedByNobody 30 = .ok (.ior, 1) := by decide +kernel
theorem dX6_carriedByNobody_31 : decode cX6_carriedByNobody 31 = .ok (.istore_n 1, 1) := by decide +kernel
theorem dX6_carriedByNobody_32 : decode cX6_carriedByNobody 32 = .ok (.iinc 2 1, 3) := by decide +kernel
theorem dX6_carriedByNobody_35 : decode cX6_carriedByNobody 35 = .ok (.goto (-31), 3) := by decide +kernel
theorem dX6_carriedByNobody_38 : decode cX6_carriedByNobody 38 = .ok (.iload_n 1, 1) := by decide +kernel
theorem dX6_carriedByNobody_39 : decode cX6_carriedByNobody 39 = .ok (.ireturn, 1) := by decide +kernel
theorem dX6_sharedOnes_0 : decode cX6_sharedOnes 0 = .ok (.iconst 0, 1) := by decide +kernel
theorem dX6_sharedOnes_1 : decode cX6_sharedOnes 1 = .ok (.istore_n 1, 1) := by decide +kernel
theorem dX6_sharedOnes_2 : decode cX6_sharedOnes 2 = .ok (.iconst 0, 1) := by decide +kernel
theorem dX6_sharedOnes_3 : decode cX6_sharedOnes 3 = .ok (.istore_n 2, 1) := by decide +kernel
theorem dX6_sharedOnes_4 : decode cX6_sharedOnes 4 = .ok (.iload_n 2, 1) := by decide +kernel
theorem dX6_sharedOnes_5 : decode cX6_sharedOnes 5 = .ok (.aload_n 0, 1) := by decide +kernel
theorem dX6_sharedOnes_6 : decode cX6_sharedOnes 6 = .ok (.getfield 12, 3) := by decide +kernel
theorem dX6_sharedOnes_9 : decode cX6_sharedOnes 9 = .ok (.getfield 25, 3) := by decide +kernel
theorem dX6_sharedOnes_12 : decode cX6_sharedOnes 12 = .ok (.if_icmp .ge 26, 3) := by decide +kernel
theorem dX6_sharedOnes_15 : decode cX6_sharedOnes 15 = .ok (.aload_n 0, 1) := by decide +kernel
theorem dX6_sharedOnes_16 : decode cX6_sharedOnes 16 = .ok (.getfield 21, 3) := by decide +kernel
theorem dX6_sharedOnes_19 : decode cX6_sharedOnes 19 = .ok (.iload_n 2, 1) := by decide +kernel
theorem dX6_sharedOnes_20 : decode cX6_sharedOnes 20 = .ok (.invokevirtual 37, 3) := by decide +kernel
theorem dX6_sharedOnes_23 : decode cX6_sharedOnes 23 = .ok (.ifCond .eq 9, 3) := by decide +kernel
theorem dX6_sharedOnes_26 : decode cX6_sharedOnes 26 = .ok (.iload_n 1, 1) := by decide +kernel
theorem dX6_sharedOnes_27 : decode cX6_sharedOnes 27 = .ok (.iconst 1, 1) := by decide +kernel
theorem dX6_sharedOnes_28 : decode cX6_sharedOnes 28 = .ok (.iload_n 2, 1) := by decide +kernel
theorem dX6_sharedOnes_29 : decode cX6_sharedOnes 29 = .ok (.ishl, 1) := by decide +kernel
theorem dX6_sharedOnes_30 : decode cX6_sharedOnes 30 = .ok (.ior, 1) := by decide +kernel
theorem dX6_sharedOnes_31 : decode cX6_sharedOnes 31 = .ok (.istore_n 1, 1) := by decide +kernel
theorem dX6_sharedOnes_32 : decode cX6_sharedOnes 32 = .ok (.iinc 2 1, 3) := by decide +kernel
theorem dX6_sharedOnes_35 : decode cX6_sharedOnes 35 = .ok (.goto (-31), 3) := by decide +kernel
theorem dX6_sharedOnes_38 : decode cX6_sharedOnes 38 = .ok (.iload_n 1, 1) := by decide +kernel
theorem dX6_sharedOnes_39 : decode cX6_sharedOnes 39 = .ok (.ireturn, 1) := by decide +kernel
theorem dX6_partOf_0 : decode cX6_partOf 0 = .ok (.aload_n 0, 1) := by decide +kernel
theorem dX6_partOf_1 : decode cX6_partOf 1 = .ok (.getfield 21, 3) := by decide +kernel
theorem dX6_partOf_4 : decode cX6_partOf 4 = .ok (.getfield 40, 3) := by decide +kernel
theorem dX6_partOf_7 : decode cX6_partOf 7 = .ok (.iload_n 1, 1) := by decide +kernel
theorem dX6_partOf_8 : decode cX6_partOf 8 = .ok (.iaload, 1) := by decide +kernel
theorem dX6_partOf_9 : decode cX6_partOf 9 = .ok (.istore_n 3, 1) := by decide +kernel
theorem dX6_partOf_10 : decode cX6_partOf 10 = .ok (.aload_n 0, 1) := by decide +kernel
theorem dX6_partOf_11 : decode cX6_partOf 11 = .ok (.getfield 21, 3) := by decide +kernel
theorem dX6_partOf_14 : decode cX6_partOf 14 = .ok (.iload_n 1, 1) := by decide +kernel
theorem dX6_partOf_15 : decode cX6_partOf 15 = .ok (.invokevirtual 37, 3) := by decide +kernel
theorem dX6_partOf_18 : decode cX6_partOf 18 = .ok (.ifCond .ne 5, 3) := by decide +kernel
theorem dX6_partOf_21 : decode cX6_partOf 21 = .ok (.iload_n 3, 1) := by decide +kernel
theorem dX6_partOf_22 : decode cX6_partOf 22 = .ok (.ireturn, 1) := by decide +kernel
theorem dX6_partOf_23 : decode cX6_partOf 23 = .ok (.aload_n 0, 1) := by decide +kernel
theorem dX6_partOf_24 : decode cX6_partOf 24 = .ok (.getfield 21, 3) := by decide +kernel
theorem dX6_partOf_27 : decode cX6_partOf 27 = .ok (.getfield 44, 3) := by decide +kernel
theorem dX6_partOf_30 : decode cX6_partOf 30 = .ok (.iload_n 1, 1) := by decide +kernel
theorem dX6_partOf_31 : decode cX6_partOf 31 = .ok (.iaload, 1) := by decide +kernel
theorem dX6_partOf_32 : decode cX6_partOf 32 = .ok (.iload_n 2, 1) := by decide +kernel
theorem dX6_partOf_33 : decode cX6_partOf 33 = .ok (.if_icmp .ne 11, 3) := by decide +kernel
theorem dX6_partOf_36 : decode cX6_partOf 36 = .ok (.iload_n 3, 1) := by decide +kernel
theorem dX6_partOf_37 : decode cX6_partOf 37 = .ok (.iload_n 3, 1) := by decide +kernel
theorem dX6_partOf_38 : decode cX6_partOf 38 = .ok (.iconst 2, 1) := by decide +kernel
theorem dX6_partOf_39 : decode cX6_partOf 39 = .ok (.idiv, 1) := by decide +kernel
theorem dX6_partOf_40 : decode cX6_partOf 40 = .ok (.isub, 1) := by decide +kernel
theorem dX6_partOf_41 : decode cX6_partOf 41 = .ok (.goto 6, 3) := by decide +kernel
theorem dX6_partOf_44 : decode cX6_partOf 44 = .ok (.iload_n 3, 1) := by decide +kernel
theorem dX6_partOf_45 : decode cX6_partOf 45 = .ok (.iconst 2, 1) := by decide +kernel
theorem dX6_partOf_46 : decode cX6_partOf 46 = .ok (.idiv, 1) := by decide +kernel
theorem dX6_partOf_47 : decode cX6_partOf 47 = .ok (.ireturn, 1) := by decide +kernel
theorem dX6_partsOn_0 : decode cX6_partsOn 0 = .ok (.aload_n 0, 1) := by decide +kernel
theorem dX6_partsOn_1 : decode cX6_partsOn 1 = .ok (.iload_n 1, 1) := by decide +kernel
theorem dX6_partsOn_2 : decode cX6_partsOn 2 = .ok (.invokevirtual 47, 3) := by decide +kernel
theorem dX6_partsOn_5 : decode cX6_partsOn 5 = .ok (.istore_n 2, 1) := by decide +kernel
theorem dX6_partsOn_6 : decode cX6_partsOn 6 = .ok (.iconst 0, 1) := by decide +kernel
theorem dX6_partsOn_7 : decode cX6_partsOn 7 = .ok (.istore_n 3, 1) := by decide +kernel
theorem dX6_partsOn_8 : decode cX6_partsOn 8 = .ok (.iconst 0, 1) := by decide +kernel
theorem dX6_partsOn_9 : decode cX6_partsOn 9 = .ok (.istore 4, 2) := by decide +kernel
theorem dX6_partsOn_11 : decode cX6_partsOn 11 = .ok (.iload 4, 2) := by decide +kernel
theorem dX6_partsOn_13 : decode cX6_partsOn 13 = .ok (.aload_n 0, 1) := by decide +kernel
theorem dX6_partsOn_14 : decode cX6_partsOn 14 = .ok (.getfield 12, 3) := by decide +kernel
theorem dX6_partsOn_17 : decode cX6_partsOn 17 = .ok (.getfield 25, 3) := by decide +kernel
theorem dX6_partsOn_20 : decode cX6_partsOn 20 = .ok (.if_icmp .ge 28, 3) := by decide +kernel
theorem dX6_partsOn_23 : decode cX6_partsOn 23 = .ok (.iload_n 2, 1) := by decide +kernel
theorem dX6_partsOn_24 : decode cX6_partsOn 24 = .ok (.iload 4, 2) := by decide +kernel
theorem dX6_partsOn_26 : decode cX6_partsOn 26 = .ok (.invokestatic 51, 3) := by decide +kernel
theorem dX6_partsOn_29 : decode cX6_partsOn 29 = .ok (.ifCond .eq 13, 3) := by decide +kernel
theorem dX6_partsOn_32 : decode cX6_partsOn 32 = .ok (.iload_n 3, 1) := by decide +kernel
theorem dX6_partsOn_33 : decode cX6_partsOn 33 = .ok (.aload_n 0, 1) := by decide +kernel
theorem dX6_partsOn_34 : decode cX6_partsOn 34 = .ok (.iload 4, 2) := by decide +kernel
theorem dX6_partsOn_36 : decode cX6_partsOn 36 = .ok (.iload_n 1, 1) := by decide +kernel
theorem dX6_partsOn_37 : decode cX6_partsOn 37 = .ok (.invokevirtual 54, 3) := by decide +kernel
theorem dX6_partsOn_40 : decode cX6_partsOn 40 = .ok (.iadd, 1) := by decide +kernel
theorem dX6_partsOn_41 : decode cX6_partsOn 41 = .ok (.istore_n 3, 1) := by decide +kernel
theorem dX6_partsOn_42 : decode cX6_partsOn 42 = .ok (.iinc 4 1, 3) := by decide +kernel
theorem dX6_partsOn_45 : decode cX6_partsOn 45 = .ok (.goto (-34), 3) := by decide +kernel
theorem dX6_partsOn_48 : decode cX6_partsOn 48 = .ok (.iload_n 3, 1) := by decide +kernel
theorem dX6_partsOn_49 : decode cX6_partsOn 49 = .ok (.ireturn, 1) := by decide +kernel
theorem dX6_mostLaden_0 : decode cX6_mostLaden 0 = .ok (.iconst (-1), 1) := by decide +kernel
theorem dX6_mostLaden_1 : decode cX6_mostLaden 1 = .ok (.istore_n 1, 1) := by decide +kernel
theorem dX6_mostLaden_2 : decode cX6_mostLaden 2 = .ok (.iconst (-1), 1) := by decide +kernel
theorem dX6_mostLaden_3 : decode cX6_mostLaden 3 = .ok (.istore_n 2, 1) := by decide +kernel
theorem dX6_mostLaden_4 : decode cX6_mostLaden 4 = .ok (.iconst 0, 1) := by decide +kernel
theorem dX6_mostLaden_5 : decode cX6_mostLaden 5 = .ok (.istore_n 3, 1) := by decide +kernel
theorem dX6_mostLaden_6 : decode cX6_mostLaden 6 = .ok (.iload_n 3, 1) := by decide +kernel
theorem dX6_mostLaden_7 : decode cX6_mostLaden 7 = .ok (.aload_n 0, 1) := by decide +kernel
theorem dX6_mostLaden_8 : decode cX6_mostLaden 8 = .ok (.getfield 12, 3) := by decide +kernel
theorem dX6_mostLaden_11 : decode cX6_mostLaden 11 = .ok (.getfield 58, 3) := by decide +kernel
theorem dX6_mostLaden_14 : decode cX6_mostLaden 14 = .ok (.if_icmp .ge 27, 3) := by decide +kernel
theorem dX6_mostLaden_17 : decode cX6_mostLaden 17 = .ok (.aload_n 0, 1) := by decide +kernel
theorem dX6_mostLaden_18 : decode cX6_mostLaden 18 = .ok (.iload_n 3, 1) := by decide +kernel
theorem dX6_mostLaden_19 : decode cX6_mostLaden 19 = .ok (.invokevirtual 61, 3) := by decide +kernel
theorem dX6_mostLaden_22 : decode cX6_mostLaden 22 = .ok (.istore 4, 2) := by decide +kernel
theorem dX6_mostLaden_24 : decode cX6_mostLaden 24 = .ok (.iload 4, 2) := by decide +kernel
theorem dX6_mostLaden_26 : decode cX6_mostLaden 26 = .ok (.iload_n 2, 1) := by decide +kernel
theorem dX6_mostLaden_27 : decode cX6_mostLaden 27 = .ok (.if_icmp .le 8, 3) := by decide +kernel
theorem dX6_mostLaden_30 : decode cX6_mostLaden 30 = .ok (.iload 4, 2) := by decide +kernel
theorem dX6_mostLaden_32 : decode cX6_mostLaden 32 = .ok (.istore_n 2, 1) := by decide +kernel
theorem dX6_mostLaden_33 : decode cX6_mostLaden 33 = .ok (.iload_n 3, 1) := by decide +kernel
theorem dX6_mostLaden_34 : decode cX6_mostLaden 34 = .ok (.istore_n 1, 1) := by decide +kernel
theorem dX6_mostLaden_35 : decode cX6_mostLaden 35 = .ok (.iinc 3 1, 3) := by decide +kernel
theorem dX6_mostLaden_38 : decode cX6_mostLaden 38 = .ok (.goto (-32), 3) := by decide +kernel
theorem dX6_mostLaden_41 : decode cX6_mostLaden 41 = .ok (.iload_n 1, 1) := by decide +kernel
theorem dX6_mostLaden_42 : decode cX6_mostLaden 42 = .ok (.ireturn, 1) := by decide +kernel
theorem dX6_rubOf_0 : decode cX6_rubOf 0 = .ok (.iconst 0, 1) := by decide +kernel
theorem dX6_rubOf_1 : decode cX6_rubOf 1 = .ok (.aload_n 0, 1) := by decide +kernel
theorem dX6_rubOf_2 : decode cX6_rubOf 2 = .ok (.getfield 12, 3) := by decide +kernel
theorem dX6_rubOf_5 : decode cX6_rubOf 5 = .ok (.getfield 64, 3) := by decide +kernel
theorem dX6_rubOf_8 : decode cX6_rubOf 8 = .ok (.iload_n 1, 1) := by decide +kernel
theorem dX6_rubOf_9 : decode cX6_rubOf 9 = .ok (.iaload, 1) := by decide +kernel
theorem dX6_rubOf_10 : decode cX6_rubOf 10 = .ok (.aload_n 0, 1) := by decide +kernel
theorem dX6_rubOf_11 : decode cX6_rubOf 11 = .ok (.getfield 21, 3) := by decide +kernel
theorem dX6_rubOf_14 : decode cX6_rubOf 14 = .ok (.getfield 67, 3) := by decide +kernel
theorem dX6_rubOf_17 : decode cX6_rubOf 17 = .ok (.iload_n 1, 1) := by decide +kernel
theorem dX6_rubOf_18 : decode cX6_rubOf 18 = .ok (.iaload, 1) := by decide +kernel
theorem dX6_rubOf_19 : decode cX6_rubOf 19 = .ok (.isub, 1) := by decide +kernel
theorem dX6_rubOf_20 : decode cX6_rubOf 20 = .ok (.invokestatic 70, 3) := by decide +kernel
theorem dX6_rubOf_23 : decode cX6_rubOf 23 = .ok (.istore 5, 2) := by decide +kernel
theorem dX6_rubOf_25 : decode cX6_rubOf 25 = .ok (.aload_n 0, 1) := by decide +kernel
theorem dX6_rubOf_26 : decode cX6_rubOf 26 = .ok (.getfield 12, 3) := by decide +kernel
theorem dX6_rubOf_29 : decode cX6_rubOf 29 = .ok (.getfield 75, 3) := by decide +kernel
theorem dX6_rubOf_32 : decode cX6_rubOf 32 = .ok (.iload_n 1, 1) := by decide +kernel
theorem dX6_rubOf_33 : decode cX6_rubOf 33 = .ok (.iaload, 1) := by decide +kernel
theorem dX6_rubOf_34 : decode cX6_rubOf 34 = .ok (.tableswitch 100 1 4 #[30, 44, 66, 83], 30) := by decide +kernel
theorem dX6_rubOf_64 : decode cX6_rubOf 64 = .ok (.iload_n 3, 1) := by decide +kernel
theorem dX6_rubOf_65 : decode cX6_rubOf 65 = .ok (.ifCond .eq 10, 3) := by decide +kernel
theorem dX6_rubOf_68 : decode cX6_rubOf 68 = .ok (.iload 5, 2) := by decide +kernel
theorem dX6_rubOf_70 : decode cX6_rubOf 70 = .ok (.iconst 2, 1) := by decide +kernel
theorem dX6_rubOf_71 : decode cX6_rubOf 71 = .ok (.idiv, 1) := by decide +kernel
theorem dX6_rubOf_72 : decode cX6_rubOf 72 = .ok (.goto 5, 3) := by decide +kernel
theorem dX6_rubOf_75 : decode cX6_rubOf 75 = .ok (.iload 5, 2) := by decide +kernel
theorem dX6_rubOf_77 : decode cX6_rubOf 77 = .ok (.ireturn, 1) := by decide +kernel
theorem dX6_rubOf_78 : decode cX6_rubOf 78 = .ok (.iload 5, 2) := by decide +kernel
theorem dX6_rubOf_80 : decode cX6_rubOf 80 = .ok (.ifCond .le 18, 3) := by decide +kernel
theorem dX6_rubOf_83 : decode cX6_rubOf 83 = .ok (.iload 5, 2) := by decide +kernel
theorem dX6_rubOf_85 : decode cX6_rubOf 85 = .ok (.aload_n 0, 1) := by decide +kernel
theorem dX6_rubOf_86 : decode cX6_rubOf 86 = .ok (.getfield 12, 3) := by decide +kernel
theorem dX6_rubOf_89 : decode cX6_rubOf 89 = .ok (.getfield 78, 3) := by decide +kernel
theorem dX6_rubOf_92 : decode cX6_rubOf 92 = .ok (.iload_n 2, 1) := by decide +kernel
theorem dX6_rubOf_93 : decode cX6_rubOf 93 = .ok (.iaload, 1) := by decide +kernel
theorem dX6_rubOf_94 : decode cX6_rubOf 94 = .ok (.iadd, 1) := by decide +kernel
theorem dX6_rubOf_95 : decode cX6_rubOf 95 = .ok (.goto 4, 3) := by decide +kernel
theorem dX6_rubOf_98 : decode cX6_rubOf 98 = .ok (.iconst 0, 1) := by decide +kernel
theorem dX6_rubOf_99 : decode cX6_rubOf 99 = .ok (.ireturn, 1) := by decide +kernel
theorem dX6_rubOf_100 : decode cX6_rubOf 100 = .ok (.iload 4, 2) := by decide +kernel
theorem dX6_rubOf_102 : decode cX6_rubOf 102 = .ok (.iconst 2, 1) := by decide +kernel
theorem dX6_rubOf_103 : decode cX6_rubOf 103 = .ok (.irem, 1) := by decide +kernel
theorem dX6_rubOf_104 : decode cX6_rubOf 104 = .ok (.ifCond .eq 10, 3) := by decide +kernel
theorem dX6_rubOf_107 : decode cX6_rubOf 107 = .ok (.iload 5, 2) := by decide +kernel
theorem dX6_rubOf_109 : decode cX6_rubOf 109 = .ok (.iconst 2, 1) := by decide +kernel
theorem dX6_rubOf_110 : decode cX6_rubOf 110 = .ok (.iadd, 1) := by decide +kernel
theorem dX6_rubOf_111 : decode cX6_rubOf 111 = .ok (.goto 5, 3) := by decide +kernel
theorem dX6_rubOf_114 : decode cX6_rubOf 114 = .ok (.iload 5, 2) := by decide +kernel
theorem dX6_rubOf_116 : decode cX6_rubOf 116 = .ok (.ireturn, 1) := by decide +kernel
theorem dX6_rubOf_117 : decode cX6_rubOf 117 = .ok (.iload 4, 2) := by decide +kernel
theorem dX6_rubOf_119 : decode cX6_rubOf 119 = .ok (.invokestatic 81, 3) := by decide +kernel
theorem dX6_rubOf_122 : decode cX6_rubOf 122 = .ok (.ifCond .eq 10, 3) := by decide +kernel
theorem dX6_rubOf_125 : decode cX6_rubOf 125 = .ok (.iconst 2, 1) := by decide +kernel
theorem dX6_rubOf_126 : decode cX6_rubOf 126 = .ok (.iload 5, 2) := by decide +kernel
theorem dX6_rubOf_128 : decode cX6_rubOf 128 = .ok (.imul, 1) := by decide +kernel
theorem dX6_rubOf_129 : decode cX6_rubOf 129 = .ok (.goto 4, 3) := by decide +kernel
theorem dX6_rubOf_132 : decode cX6_rubOf 132 = .ok (.iconst 0, 1) := by decide +kernel
theorem dX6_rubOf_133 : decode cX6_rubOf 133 = .ok (.ireturn, 1) := by decide +kernel
theorem dX6_rubOf_134 : decode cX6_rubOf 134 = .ok (.iload 5, 2) := by decide +kernel
theorem dX6_rubOf_136 : decode cX6_rubOf 136 = .ok (.ireturn, 1) := by decide +kernel
theorem dX6_gallingOf_0 : decode cX6_gallingOf 0 = .ok (.iconst 0, 1) := by decide +kernel
theorem dX6_gallingOf_1 : decode cX6_gallingOf 1 = .ok (.istore 4, 2) := by decide +kernel
theorem dX6_gallingOf_3 : decode cX6_gallingOf 3 = .ok (.iconst 0, 1) := by decide +kernel
theorem dX6_gallingOf_4 : decode cX6_gallingOf 4 = .ok (.istore 5, 2) := by decide +kernel
theorem dX6_gallingOf_6 : decode cX6_gallingOf 6 = .ok (.iconst 0, 1) := by decide +kernel
theorem dX6_gallingOf_7 : decode cX6_gallingOf 7 = .ok (.istore 6, 2) := by decide +kernel
theorem dX6_gallingOf_9 : decode cX6_gallingOf 9 = .ok (.iload 6, 2) := by decide +kernel
theorem dX6_gallingOf_11 : decode cX6_gallingOf 11 = .ok (.aload_n 0, 1) := by decide +kernel
theorem dX6_gallingOf_12 : decode cX6_gallingOf 12 = .ok (.getfield 12, 3) := by decide +kernel
theorem dX6_gallingOf_15 : decode cX6_gallingOf 15 = .ok (.getfield 25, 3) := by decide +kernel
theorem dX6_gallingOf_18 : decode cX6_gallingOf 18 = .ok (.if_icmp .ge 52, 3) := by decide +kernel
theorem dX6_gallingOf_21 : decode cX6_gallingOf 21 = .ok (.iload_n 2, 1) := by decide +kernel
theorem dX6_gallingOf_22 : decode cX6_gallingOf 22 = .ok (.iload 6, 2) := by decide +kernel
theorem dX6_gallingOf_24 : decode cX6_gallingOf 24 = .ok (.invokestatic 51, 3) := by decide +kernel
theorem dX6_gallingOf_27 : decode cX6_gallingOf 27 = .ok (.ifCond .eq 37, 3) := by decide +kernel
theorem dX6_gallingOf_30 : decode cX6_gallingOf 30 = .ok (.iload 4, 2) := by decide +kernel
theorem dX6_gallingOf_32 : decode cX6_gallingOf 32 = .ok (.aload_n 0, 1) := by decide +kernel
theorem dX6_gallingOf_33 : decode cX6_gallingOf 33 = .ok (.iload 6, 2) := by decide +kernel
theorem dX6_gallingOf_35 : decode cX6_gallingOf 35 = .ok (.iload_n 1, 1) := by decide +kernel
theorem dX6_gallingOf_36 : decode cX6_gallingOf 36 = .ok (.invokevirtual 54, 3) := by decide +kernel
theorem dX6_gallingOf_39 : decode cX6_gallingOf 39 = .ok (.iadd, 1) := by decide +kernel
theorem dX6_gallingOf_40 : decode cX6_gallingOf 40 = .ok (.istore 4, 2) := by decide +kernel
theorem dX6_gallingOf_42 : decode cX6_gallingOf 42 = .ok (.iload 5, 2) := by decide +kernel
theorem dX6_gallingOf_44 : decode cX6_gallingOf 44 = .ok (.aload_n 0, 1) := by decide +kernel
theorem dX6_gallingOf_45 : decode cX6_gallingOf 45 = .ok (.iload 6, 2) := by decide +kernel
theorem dX6_gallingOf_47 : decode cX6_gallingOf 47 = .ok (.iload_n 1, 1) := by decide +kernel
theorem dX6_gallingOf_48 : decode cX6_gallingOf 48 = .ok (.aload_n 0, 1) := by decide +kernel
theorem dX6_gallingOf_49 : decode cX6_gallingOf 49 = .ok (.getfield 21, 3) := by decide +kernel
theorem dX6_gallingOf_52 : decode cX6_gallingOf 52 = .ok (.iload 6, 2) := by decide +kernel
theorem dX6_gallingOf_54 : decode cX6_gallingOf 54 = .ok (.invokevirtual 37, 3) := by decide +kernel
theorem dX6_gallingOf_57 : decode cX6_gallingOf 57 = .ok (.iload_n 3, 1) := by decide +kernel
theorem dX6_gallingOf_58 : decode cX6_gallingOf 58 = .ok (.invokevirtual 84, 3) := by decide +kernel
theorem dX6_gallingOf_61 : decode cX6_gallingOf 61 = .ok (.iadd, 1) := by decide +kernel
theorem dX6_gallingOf_62 : decode cX6_gallingOf 62 = .ok (.istore 5, 2) := by decide +kernel
theorem dX6_gallingOf_64 : decode cX6_gallingOf 64 = .ok (.iinc 6 1, 3) := by decide +kernel
theorem dX6_gallingOf_67 : decode cX6_gallingOf 67 = .ok (.goto (-58), 3) := by decide +kernel
theorem dX6_gallingOf_70 : decode cX6_gallingOf 70 = .ok (.iconst 0, 1) := by decide +kernel
theorem dX6_gallingOf_71 : decode cX6_gallingOf 71 = .ok (.iload 4, 2) := by decide +kernel
theorem dX6_gallingOf_73 : decode cX6_gallingOf 73 = .ok (.aload_n 0, 1) := by decide +kernel
theorem dX6_gallingOf_74 : decode cX6_gallingOf 74 = .ok (.getfield 12, 3) := by decide +kernel
theorem dX6_gallingOf_77 : decode cX6_gallingOf 77 = .ok (.getfield 88, 3) := by decide +kernel
theorem dX6_gallingOf_80 : decode cX6_gallingOf 80 = .ok (.iload_n 1, 1) := by decide +kernel
theorem dX6_gallingOf_81 : decode cX6_gallingOf 81 = .ok (.iaload, 1) := by decide +kernel
theorem dX6_gallingOf_82 : decode cX6_gallingOf 82 = .ok (.isub, 1) := by decide +kernel
theorem dX6_gallingOf_83 : decode cX6_gallingOf 83 = .ok (.invokestatic 70, 3) := by decide +kernel
theorem dX6_gallingOf_86 : decode cX6_gallingOf 86 = .ok (.iload 5, 2) := by decide +kernel
theorem dX6_gallingOf_88 : decode cX6_gallingOf 88 = .ok (.iadd, 1) := by decide +kernel
theorem dX6_gallingOf_89 : decode cX6_gallingOf 89 = .ok (.ireturn, 1) := by decide +kernel
theorem dX6_gallingToday_0 : decode cX6_gallingToday 0 = .ok (.aload_n 0, 1) := by decide +kernel
theorem dX6_gallingToday_1 : decode cX6_gallingToday 1 = .ok (.iload_n 1, 1) := by decide +kernel
theorem dX6_gallingToday_2 : decode cX6_gallingToday 2 = .ok (.aload_n 0, 1) := by decide +kernel
theorem dX6_gallingToday_3 : decode cX6_gallingToday 3 = .ok (.iload_n 1, 1) := by decide +kernel
theorem dX6_gallingToday_4 : decode cX6_gallingToday 4 = .ok (.invokevirtual 47, 3) := by decide +kernel
theorem dX6_gallingToday_7 : decode cX6_gallingToday 7 = .ok (.aload_n 0, 1) := by decide +kernel
theorem dX6_gallingToday_8 : decode cX6_gallingToday 8 = .ok (.getfield 21, 3) := by decide +kernel
theorem dX6_gallingToday_11 : decode cX6_gallingToday 11 = .ok (.getfield 91, 3) := by decide +kernel
theorem dX6_gallingToday_14 : decode cX6_gallingToday 14 = .ok (.invokevirtual 94, 3) := by decide +kernel
theorem dX6_gallingToday_17 : decode cX6_gallingToday 17 = .ok (.ireturn, 1) := by decide +kernel
theorem dX6_gallingOfAll_0 : decode cX6_gallingOfAll 0 = .ok (.iconst 0, 1) := by decide +kernel
theorem dX6_gallingOfAll_1 : decode cX6_gallingOfAll 1 = .ok (.istore_n 2, 1) := by decide +kernel
theorem dX6_gallingOfAll_2 : decode cX6_gallingOfAll 2 = .ok (.iconst 0, 1) := by decide +kernel
theorem dX6_gallingOfAll_3 : decode cX6_gallingOfAll 3 = .ok (.istore_n 3, 1) := by decide +kernel
theorem dX6_gallingOfAll_4 : decode cX6_gallingOfAll 4 = .ok (.iload_n 3, 1) := by decide +kernel
theorem dX6_gallingOfAll_5 : decode cX6_gallingOfAll 5 = .ok (.aload_n 0, 1) := by decide +kernel
theorem dX6_gallingOfAll_6 : decode cX6_gallingOfAll 6 = .ok (.getfield 12, 3) := by decide +kernel
theorem dX6_gallingOfAll_9 : decode cX6_gallingOfAll 9 = .ok (.getfield 58, 3) := by decide +kernel
theorem dX6_gallingOfAll_12 : decode cX6_gallingOfAll 12 = .ok (.if_icmp .ge 23, 3) := by decide +kernel
theorem dX6_gallingOfAll_15 : decode cX6_gallingOfAll 15 = .ok (.iload_n 2, 1) := by decide +kernel
theorem dX6_gallingOfAll_16 : decode cX6_gallingOfAll 16 = .ok (.aload_n 0, 1) := by decide +kernel
theorem dX6_gallingOfAll_17 : decode cX6_gallingOfAll 17 = .ok (.iload_n 3, 1) := by decide +kernel
theorem dX6_gallingOfAll_18 : decode cX6_gallingOfAll 18 = .ok (.aload_n 0, 1) := by decide +kernel
theorem dX6_gallingOfAll_19 : decode cX6_gallingOfAll 19 = .ok (.iload_n 3, 1) := by decide +kernel
theorem dX6_gallingOfAll_20 : decode cX6_gallingOfAll 20 = .ok (.invokevirtual 47, 3) := by decide +kernel
theorem dX6_gallingOfAll_23 : decode cX6_gallingOfAll 23 = .ok (.iload_n 1, 1) := by decide +kernel
theorem dX6_gallingOfAll_24 : decode cX6_gallingOfAll 24 = .ok (.invokevirtual 94, 3) := by decide +kernel
theorem dX6_gallingOfAll_27 : decode cX6_gallingOfAll 27 = .ok (.iadd, 1) := by decide +kernel
theorem dX6_gallingOfAll_28 : decode cX6_gallingOfAll 28 = .ok (.istore_n 2, 1) := by decide +kernel
theorem dX6_gallingOfAll_29 : decode cX6_gallingOfAll 29 = .ok (.iinc 3 1, 3) := by decide +kernel
theorem dX6_gallingOfAll_32 : decode cX6_gallingOfAll 32 = .ok (.goto (-28), 3) := by decide +kernel
theorem dX6_gallingOfAll_35 : decode cX6_gallingOfAll 35 = .ok (.iload_n 2, 1) := by decide +kernel
theorem dX6_gallingOfAll_36 : decode cX6_gallingOfAll 36 = .ok (.ireturn, 1) := by decide +kernel
theorem dX6_galled_0 : decode cX6_galled 0 = .ok (.iconst 0, 1) := by decide +kernel
theorem dX6_galled_1 : decode cX6_galled 1 = .ok (.istore_n 1, 1) := by decide +kernel
theorem dX6_galled_2 : decode cX6_galled 2 = .ok (.iconst 0, 1) := by decide +kernel
theorem dX6_galled_3 : decode cX6_galled 3 = .ok (.istore_n 2, 1) := by decide +kernel
theorem dX6_galled_4 : decode cX6_galled 4 = .ok (.iload_n 2, 1) := by decide +kernel
theorem dX6_galled_5 : decode cX6_galled 5 = .ok (.aload_n 0, 1) := by decide +kernel
theorem dX6_galled_6 : decode cX6_galled 6 = .ok (.getfield 12, 3) := by decide +kernel
theorem dX6_galled_9 : decode cX6_galled 9 = .ok (.getfield 58, 3) := by decide +kernel
theorem dX6_galled_12 : decode cX6_galled 12 = .ok (.if_icmp .ge 29, 3) := by decide +kernel
theorem dX6_galled_15 : decode cX6_galled 15 = .ok (.aload_n 0, 1) := by decide +kernel
theorem dX6_galled_16 : decode cX6_galled 16 = .ok (.getfield 21, 3) := by decide +kernel
theorem dX6_galled_19 : decode cX6_galled 19 = .ok (.getfield 98, 3) := by decide +kernel
theorem dX6_galled_22 : decode cX6_galled 22 = .ok (.iload_n 2, 1) := by decide +kernel
theorem dX6_galled_23 : decode cX6_galled 23 = .ok (.iaload, 1) := by decide +kernel
theorem dX6_galled_24 : decode cX6_galled 24 = .ok (.bipush 20, 2) := by decide +kernel
theorem dX6_galled_26 : decode cX6_galled 26 = .ok (.if_icmp .lt 9, 3) := by decide +kernel
theorem dX6_galled_29 : decode cX6_galled 29 = .ok (.iload_n 1, 1) := by decide +kernel
theorem dX6_galled_30 : decode cX6_galled 30 = .ok (.iconst 1, 1) := by decide +kernel
theorem dX6_galled_31 : decode cX6_galled 31 = .ok (.iload_n 2, 1) := by decide +kernel
theorem dX6_galled_32 : decode cX6_galled 32 = .ok (.ishl, 1) := by decide +kernel
theorem dX6_galled_33 : decode cX6_galled 33 = .ok (.ior, 1) := by decide +kernel
theorem dX6_galled_34 : decode cX6_galled 34 = .ok (.istore_n 1, 1) := by decide +kernel
theorem dX6_galled_35 : decode cX6_galled 35 = .ok (.iinc 2 1, 3) := by decide +kernel
theorem dX6_galled_38 : decode cX6_galled 38 = .ok (.goto (-34), 3) := by decide +kernel
theorem dX6_galled_41 : decode cX6_galled 41 = .ok (.iload_n 1, 1) := by decide +kernel
theorem dX6_galled_42 : decode cX6_galled 42 = .ok (.ireturn, 1) := by decide +kernel
theorem dX6_soreBehindDay_0 : decode cX6_soreBehindDay 0 = .ok (.iload_n 3, 1) := by decide +kernel
theorem dX6_soreBehindDay_1 : decode cX6_soreBehindDay 1 = .ok (.ifCond .ne 11, 3) := by decide +kernel
theorem dX6_soreBehindDay_4 : decode cX6_soreBehindDay 4 = .ok (.iconst 0, 1) := by decide +kernel
theorem dX6_soreBehindDay_5 : decode cX6_soreBehindDay 5 = .ok (.iload_n 2, 1) := by decide +kernel
theorem dX6_soreBehindDay_6 : decode cX6_soreBehindDay 6 = .ok (.iconst 3, 1) := by decide +kernel
theorem dX6_soreBehindDay_7 : decode cX6_soreBehindDay 7 = .ok (.isub, 1) := by decide +kernel
theorem dX6_soreBehindDay_8 : decode cX6_soreBehindDay 8 = .ok (.invokestatic 70, 3) := by decide +kernel
theorem dX6_soreBehindDay_11 : decode cX6_soreBehindDay 11 = .ok (.ireturn, 1) := by decide +kernel
theorem dX6_soreBehindDay_12 : decode cX6_soreBehindDay 12 = .ok (.sipush 9999, 3) := by decide +kernel
theorem dX6_soreBehindDay_15 : decode cX6_soreBehindDay 15 = .ok (.iload_n 2, 1) := by decide +kernel
theorem dX6_soreBehindDay_16 : decode cX6_soreBehindDay 16 = .ok (.aload_n 0, 1) := by decide +kernel
theorem dX6_soreBehindDay_17 : decode cX6_soreBehindDay 17 = .ok (.iload_n 1, 1) := by decide +kernel
theorem dX6_soreBehindDay_18 : decode cX6_soreBehindDay 18 = .ok (.iload_n 3, 1) := by decide +kernel
theorem dX6_soreBehindDay_19 : decode cX6_soreBehindDay 19 = .ok (.iload 4, 2) := by decide +kernel
theorem dX6_soreBehindDay_21 : decode cX6_soreBehindDay 21 = .ok (.invokevirtual 94, 3) := by decide +kernel
theorem dX6_soreBehindDay_24 : decode cX6_soreBehindDay 24 = .ok (.iadd, 1) := by decide +kernel
theorem dX6_soreBehindDay_25 : decode cX6_soreBehindDay 25 = .ok (.invokestatic 101, 3) := by decide +kernel
theorem dX6_soreBehindDay_28 : decode cX6_soreBehindDay 28 = .ok (.ireturn, 1) := by decide +kernel
theorem dX6_passDay_0 : decode cX6_passDay 0 = .ok (.iconst 0, 1) := by decide +kernel
theorem dX6_passDay_1 : decode cX6_passDay 1 = .ok (.istore_n 1, 1) := by decide +kernel
theorem dX6_passDay_2 : decode cX6_passDay 2 = .ok (.iload_n 1, 1) := by decide +kernel
theorem dX6_passDay_3 : decode cX6_passDay 3 = .ok (.aload_n 0, 1) := by decide +kernel
theorem dX6_passDay_4 : decode cX6_passDay 4 = .ok (.getfield 12, 3) := by decide +kernel
theorem dX6_passDay_7 : decode cX6_passDay 7 = .ok (.getfield 58, 3) := by decide +kernel
theorem dX6_passDay_10 : decode cX6_passDay 10 = .ok (.if_icmp .ge 44, 3) := by decide +kernel
theorem dX6_passDay_13 : decode cX6_passDay 13 = .ok (.aload_n 0, 1) := by decide +kernel
theorem dX6_passDay_14 : decode cX6_passDay 14 = .ok (.getfield 21, 3) := by decide +kernel
theorem dX6_passDay_17 : decode cX6_passDay 17 = .ok (.getfield 98, 3) := by decide +kernel
theorem dX6_passDay_20 : decode cX6_passDay 20 = .ok (.iload_n 1, 1) := by decide +kernel
theorem dX6_passDay_21 : decode cX6_passDay 21 = .ok (.aload_n 0, 1) := by decide +kernel
theorem dX6_passDay_22 : decode cX6_passDay 22 = .ok (.iload_n 1, 1) := by decide +kernel
theorem dX6_passDay_23 : decode cX6_passDay 23 = .ok (.aload_n 0, 1) := by decide +kernel
theorem dX6_passDay_24 : decode cX6_passDay 24 = .ok (.getfield 21, 3) := by decide +kernel
theorem dX6_passDay_27 : decode cX6_passDay 27 = .ok (.getfield 98, 3) := by decide +kernel
theorem dX6_passDay_30 : decode cX6_passDay 30 = .ok (.iload_n 1, 1) := by decide +kernel
theorem dX6_passDay_31 : decode cX6_passDay 31 = .ok (.iaload, 1) := by decide +kernel
theorem dX6_passDay_32 : decode cX6_passDay 32 = .ok (.aload_n 0, 1) := by decide +kernel
theorem dX6_passDay_33 : decode cX6_passDay 33 = .ok (.iload_n 1, 1) := by decide +kernel
theorem dX6_passDay_34 : decode cX6_passDay 34 = .ok (.invokevirtual 47, 3) := by decide +kernel
theorem dX6_passDay_37 : decode cX6_passDay 37 = .ok (.aload_n 0, 1) := by decide +kernel
theorem dX6_passDay_38 : decode cX6_passDay 38 = .ok (.getfield 21, 3) := by decide +kernel
theorem dX6_passDay_41 : decode cX6_passDay 41 = .ok (.getfield 91, 3) := by decide +kernel
theorem dX6_passDay_44 : decode cX6_passDay 44 = .ok (.invokevirtual 104, 3) := by decide +kernel
theorem dX6_passDay_47 : decode cX6_passDay 47 = .ok (.iastore, 1) := by decide +kernel
theorem dX6_passDay_48 : decode cX6_passDay 48 = .ok (.iinc 1 1, 3) := by decide +kernel
theorem dX6_passDay_51 : decode cX6_passDay 51 = .ok (.goto (-49), 3) := by decide +kernel
theorem dX6_passDay_54 : decode cX6_passDay 54 = .ok (.aload_n 0, 1) := by decide +kernel
theorem dX6_passDay_55 : decode cX6_passDay 55 = .ok (.getfield 21, 3) := by decide +kernel
theorem dX6_passDay_58 : decode cX6_passDay 58 = .ok (.dup, 1) := by decide +kernel
theorem dX6_passDay_59 : decode cX6_passDay 59 = .ok (.getfield 91, 3) := by decide +kernel
theorem dX6_passDay_62 : decode cX6_passDay 62 = .ok (.iconst 1, 1) := by decide +kernel
theorem dX6_passDay_63 : decode cX6_passDay 63 = .ok (.iadd, 1) := by decide +kernel
theorem dX6_passDay_64 : decode cX6_passDay 64 = .ok (.putfield 91, 3) := by decide +kernel
theorem dX6_passDay_67 : decode cX6_passDay 67 = .ok (.return_, 1) := by decide +kernel
theorem dX6_soreBehind_0 : decode cX6_soreBehind 0 = .ok (.aload_n 0, 1) := by decide +kernel
theorem dX6_soreBehind_1 : decode cX6_soreBehind 1 = .ok (.iload_n 1, 1) := by decide +kernel
theorem dX6_soreBehind_2 : decode cX6_soreBehind 2 = .ok (.invokevirtual 47, 3) := by decide +kernel
theorem dX6_soreBehind_5 : decode cX6_soreBehind 5 = .ok (.istore_n 3, 1) := by decide +kernel
theorem dX6_soreBehind_6 : decode cX6_soreBehind 6 = .ok (.aload_n 0, 1) := by decide +kernel
theorem dX6_soreBehind_7 : decode cX6_soreBehind 7 = .ok (.getfield 21, 3) := by decide +kernel
theorem dX6_soreBehind_10 : decode cX6_soreBehind 10 = .ok (.getfield 98, 3) := by decide +kernel
theorem dX6_soreBehind_13 : decode cX6_soreBehind 13 = .ok (.iload_n 1, 1) := by decide +kernel
theorem dX6_soreBehind_14 : decode cX6_soreBehind 14 = .ok (.iaload, 1) := by decide +kernel
theorem dX6_soreBehind_15 : decode cX6_soreBehind 15 = .ok (.istore 4, 2) := by decide +kernel
theorem dX6_soreBehind_17 : decode cX6_soreBehind 17 = .ok (.iconst 0, 1) := by decide +kernel
theorem dX6_soreBehind_18 : decode cX6_soreBehind 18 = .ok (.istore 5, 2) := by decide +kernel
theorem dX6_soreBehind_20 : decode cX6_soreBehind 20 = .ok (.iload 5, 2) := by decide +kernel
theorem dX6_soreBehind_22 : decode cX6_soreBehind 22 = .ok (.iload_n 2, 1) := by decide +kernel
theorem dX6_soreBehind_23 : decode cX6_soreBehind 23 = .ok (.if_icmp .ge 29, 3) := by decide +kernel
theorem dX6_soreBehind_26 : decode cX6_soreBehind 26 = .ok (.aload_n 0, 1) := by decide +kernel
theorem dX6_soreBehind_27 : decode cX6_soreBehind 27 = .ok (.iload_n 1, 1) := by decide +kernel
theorem dX6_soreBehind_28 : decode cX6_soreBehind 28 = .ok (.iload 4, 2) := by decide +kernel
theorem dX6_soreBehind_30 : decode cX6_soreBehind 30 = .ok (.iload_n 3, 1) := by decide +kernel
theorem dX6_soreBehind_31 : decode cX6_soreBehind 31 = .ok (.aload_n 0, 1) := by decide +kernel
theorem dX6_soreBehind_32 : decode cX6_soreBehind 32 = .ok (.getfield 21, 3) := by decide +kernel
theorem dX6_soreBehind_35 : decode cX6_soreBehind 35 = .ok (.getfield 91, 3) := by decide +kernel
theorem dX6_soreBehind_38 : decode cX6_soreBehind 38 = .ok (.iload 5, 2) := by decide +kernel
theorem dX6_soreBehind_40 : decode cX6_soreBehind 40 = .ok (.iadd, 1) := by decide +kernel
theorem dX6_soreBehind_41 : decode cX6_soreBehind 41 = .ok (.invokevirtual 104, 3) := by decide +kernel
theorem dX6_soreBehind_44 : decode cX6_soreBehind 44 = .ok (.istore 4, 2) := by decide +kernel
theorem dX6_soreBehind_46 : decode cX6_soreBehind 46 = .ok (.iinc 5 1, 3) := by decide +kernel
theorem dX6_soreBehind_49 : decode cX6_soreBehind 49 = .ok (.goto (-29), 3) := by decide +kernel
theorem dX6_soreBehind_52 : decode cX6_soreBehind 52 = .ok (.iload 4, 2) := by decide +kernel
theorem dX6_soreBehind_54 : decode cX6_soreBehind 54 = .ok (.ireturn, 1) := by decide +kernel
theorem dX6_firstGalledBehind_0 : decode cX6_firstGalledBehind 0 = .ok (.aload_n 0, 1) := by decide +kernel
theorem dX6_firstGalledBehind_1 : decode cX6_firstGalledBehind 1 = .ok (.iload_n 1, 1) := by decide +kernel
theorem dX6_firstGalledBehind_2 : decode cX6_firstGalledBehind 2 = .ok (.invokevirtual 47, 3) := by decide +kernel
theorem dX6_firstGalledBehind_5 : decode cX6_firstGalledBehind 5 = .ok (.istore_n 2, 1) := by decide +kernel
theorem dX6_firstGalledBehind_6 : decode cX6_firstGalledBehind 6 = .ok (.aload_n 0, 1) := by decide +kernel
theorem dX6_firstGalledBehind_7 : decode cX6_firstGalledBehind 7 = .ok (.getfield 21, 3) := by decide +kernel
theorem dX6_firstGalledBehind_10 : decode cX6_firstGalledBehind 10 = .ok (.getfield 98, 3) := by decide +kernel
theorem dX6_firstGalledBehind_13 : decode cX6_firstGalledBehind 13 = .ok (.iload_n 1, 1) := by decide +kernel
theorem dX6_firstGalledBehind_14 : decode cX6_firstGalledBehind 14 = .ok (.iaload, 1) := by decide +kernel
theorem dX6_firstGalledBehind_15 : decode cX6_firstGalledBehind 15 = .ok (.istore_n 3, 1) := by decide +kernel
theorem dX6_firstGalledBehind_16 : decode cX6_firstGalledBehind 16 = .ok (.iconst 0, 1) := by decide +kernel
theorem dX6_firstGalledBehind_17 : decode cX6_firstGalledBehind 17 = .ok (.istore 4, 2) := by decide +kernel
theorem dX6_firstGalledBehind_19 : decode cX6_firstGalledBehind 19 = .ok (.iload 4, 2) := by decide +kernel
theorem dX6_firstGalledBehind_21 : decode cX6_firstGalledBehind 21 = .ok (.sipush 200, 3) := by decide +kernel
theorem dX6_firstGalledBehind_24 : decode cX6_firstGalledBehind 24 = .ok (.if_icmp .gt 36, 3) := by decide +kernel
theorem dX6_firstGalledBehind_27 : decode cX6_firstGalledBehind 27 = .ok (.iload_n 3, 1) := by decide +kernel
theorem dX6_firstGalledBehind_28 : decode cX6_firstGalledBehind 28 = .ok (.bipush 20, 2) := by decide +kernel
theorem dX6_firstGalledBehind_30 : decode cX6_firstGalledBehind 30 = .ok (.if_icmp .lt 6, 3) := by decide +kernel
theorem dX6_firstGalledBehind_33 : decode cX6_firstGalledBehind 33 = .ok (.iload 4, 2) := by decide +kernel
theorem dX6_firstGalledBehind_35 : decode cX6_firstGalledBehind 35 = .ok (.ireturn, 1) := by decide +kernel
theorem dX6_firstGalledBehind_36 : decode cX6_firstGalledBehind 36 = .ok (.aload_n 0, 1) := by decide +kernel
theorem dX6_firstGalledBehind_37 : decode cX6_firstGalledBehind 37 = .ok (.iload_n 1, 1) := by decide +kernel
theorem dX6_firstGalledBehind_38 : decode cX6_firstGalledBehind 38 = .ok (.iload_n 3, 1) := by decide +kernel
theorem dX6_firstGalledBehind_39 : decode cX6_firstGalledBehind 39 = .ok (.iload_n 2, 1) := by decide +kernel
theorem dX6_firstGalledBehind_40 : decode cX6_firstGalledBehind 40 = .ok (.aload_n 0, 1) := by decide +kernel
theorem dX6_firstGalledBehind_41 : decode cX6_firstGalledBehind 41 = .ok (.getfield 21, 3) := by decide +kernel
theorem dX6_firstGalledBehind_44 : decode cX6_firstGalledBehind 44 = .ok (.getfield 91, 3) := by decide +kernel
theorem dX6_firstGalledBehind_47 : decode cX6_firstGalledBehind 47 = .ok (.iload 4, 2) := by decide +kernel
theorem dX6_firstGalledBehind_49 : decode cX6_firstGalledBehind 49 = .ok (.iadd, 1) := by decide +kernel
theorem dX6_firstGalledBehind_50 : decode cX6_firstGalledBehind 50 = .ok (.invokevirtual 104, 3) := by decide +kernel
theorem dX6_firstGalledBehind_53 : decode cX6_firstGalledBehind 53 = .ok (.istore_n 3, 1) := by decide +kernel
theorem dX6_firstGalledBehind_54 : decode cX6_firstGalledBehind 54 = .ok (.iinc 4 1, 3) := by decide +kernel
theorem dX6_firstGalledBehind_57 : decode cX6_firstGalledBehind 57 = .ok (.goto (-38), 3) := by decide +kernel
theorem dX6_firstGalledBehind_60 : decode cX6_firstGalledBehind 60 = .ok (.iconst (-1), 1) := by decide +kernel
theorem dX6_firstGalledBehind_61 : decode cX6_firstGalledBehind 61 = .ok (.ireturn, 1) := by decide +kernel
theorem dX6_worstBehind_0 : decode cX6_worstBehind 0 = .ok (.iconst 0, 1) := by decide +kernel
theorem dX6_worstBehind_1 : decode cX6_worstBehind 1 = .ok (.istore_n 2, 1) := by decide +kernel
theorem dX6_worstBehind_2 : decode cX6_worstBehind 2 = .ok (.iconst (-1), 1) := by decide +kernel
theorem dX6_worstBehind_3 : decode cX6_worstBehind 3 = .ok (.istore_n 3, 1) := by decide +kernel
theorem dX6_worstBehind_4 : decode cX6_worstBehind 4 = .ok (.iconst 0, 1) := by decide +kernel
theorem dX6_worstBehind_5 : decode cX6_worstBehind 5 = .ok (.istore 4, 2) := by decide +kernel
theorem dX6_worstBehind_7 : decode cX6_worstBehind 7 = .ok (.iload 4, 2) := by decide +kernel
theorem dX6_worstBehind_9 : decode cX6_worstBehind 9 = .ok (.iload_n 1, 1) := by decide +kernel
theorem dX6_worstBehind_10 : decode cX6_worstBehind 10 = .ok (.if_icmp .ge 37, 3) := by decide +kernel
theorem dX6_worstBehind_13 : decode cX6_worstBehind 13 = .ok (.aload_n 0, 1) := by decide +kernel
theorem dX6_worstBehind_14 : decode cX6_worstBehind 14 = .ok (.aload_n 0, 1) := by decide +kernel
theorem dX6_worstBehind_15 : decode cX6_worstBehind 15 = .ok (.getfield 21, 3) := by decide +kernel
theorem dX6_worstBehind_18 : decode cX6_worstBehind 18 = .ok (.getfield 91, 3) := by decide +kernel
theorem dX6_worstBehind_21 : decode cX6_worstBehind 21 = .ok (.iload 4, 2) := by decide +kernel
theorem dX6_worstBehind_23 : decode cX6_worstBehind 23 = .ok (.iadd, 1) := by decide +kernel
theorem dX6_worstBehind_24 : decode cX6_worstBehind 24 = .ok (.invokevirtual 108, 3) := by decide +kernel
theorem dX6_worstBehind_27 : decode cX6_worstBehind 27 = .ok (.istore 5, 2) := by decide +kernel
theorem dX6_worstBehind_29 : decode cX6_worstBehind 29 = .ok (.iload 5, 2) := by decide +kernel
theorem dX6_worstBehind_31 : decode cX6_worstBehind 31 = .ok (.iload_n 3, 1) := by decide +kernel
theorem dX6_worstBehind_32 : decode cX6_worstBehind 32 = .ok (.if_icmp .le 9, 3) := by decide +kernel
theorem dX6_worstBehind_35 : decode cX6_worstBehind 35 = .ok (.iload 5, 2) := by decide +kernel
theorem dX6_worstBehind_37 : decode cX6_worstBehind 37 = .ok (.istore_n 3, 1) := by decide +kernel
theorem dX6_worstBehind_38 : decode cX6_worstBehind 38 = .ok (.iload 4, 2) := by decide +kernel
theorem dX6_worstBehind_40 : decode cX6_worstBehind 40 = .ok (.istore_n 2, 1) := by decide +kernel
theorem dX6_worstBehind_41 : decode cX6_worstBehind 41 = .ok (.iinc 4 1, 3) := by decide +kernel
theorem dX6_worstBehind_44 : decode cX6_worstBehind 44 = .ok (.goto (-37), 3) := by decide +kernel
theorem dX6_worstBehind_47 : decode cX6_worstBehind 47 = .ok (.iload_n 2, 1) := by decide +kernel
theorem dX6_worstBehind_48 : decode cX6_worstBehind 48 = .ok (.ireturn, 1) := by decide +kernel
theorem dX6_ableToTake_0 : decode cX6_ableToTake 0 = .ok (.iconst 0, 1) := by decide +kernel
theorem dX6_ableToTake_1 : decode cX6_ableToTake 1 = .ok (.istore_n 2, 1) := by decide +kernel
theorem dX6_ableToTake_2 : decode cX6_ableToTake 2 = .ok (.iconst 0, 1) := by decide +kernel
theorem dX6_ableToTake_3 : decode cX6_ableToTake 3 = .ok (.istore_n 3, 1) := by decide +kernel
theorem dX6_ableToTake_4 : decode cX6_ableToTake 4 = .ok (.iload_n 3, 1) := by decide +kernel
theorem dX6_ableToTake_5 : decode cX6_ableToTake 5 = .ok (.aload_n 0, 1) := by decide +kernel
theorem dX6_ableToTake_6 : decode cX6_ableToTake 6 = .ok (.getfield 12, 3) := by decide +kernel
theorem dX6_ableToTake_9 : decode cX6_ableToTake 9 = .ok (.getfield 58, 3) := by decide +kernel
theorem dX6_ableToTake_12 : decode cX6_ableToTake 12 = .ok (.if_icmp .ge 57, 3) := by decide +kernel
theorem dX6_ableToTake_15 : decode cX6_ableToTake 15 = .ok (.aload_n 0, 1) := by decide +kernel
theorem dX6_ableToTake_16 : decode cX6_ableToTake 16 = .ok (.iload_n 3, 1) := by decide +kernel
theorem dX6_ableToTake_17 : decode cX6_ableToTake 17 = .ok (.invokevirtual 47, 3) := by decide +kernel
theorem dX6_ableToTake_20 : decode cX6_ableToTake 20 = .ok (.istore 4, 2) := by decide +kernel
theorem dX6_ableToTake_22 : decode cX6_ableToTake 22 = .ok (.aload_n 0, 1) := by decide +kernel
theorem dX6_ableToTake_23 : decode cX6_ableToTake 23 = .ok (.iload_n 3, 1) := by decide +kernel
theorem dX6_ableToTake_24 : decode cX6_ableToTake 24 = .ok (.iload 4, 2) := by decide +kernel
theorem dX6_ableToTake_26 : decode cX6_ableToTake 26 = .ok (.iconst 1, 1) := by decide +kernel
theorem dX6_ableToTake_27 : decode cX6_ableToTake 27 = .ok (.iload_n 1, 1) := by decide +kernel
theorem dX6_ableToTake_28 : decode cX6_ableToTake 28 = .ok (.ishl, 1) := by decide +kernel
theorem dX6_ableToTake_29 : decode cX6_ableToTake 29 = .ok (.ior, 1) := by decide +kernel
theorem dX6_ableToTake_30 : decode cX6_ableToTake 30 = .ok (.aload_n 0, 1) := by decide +kernel
theorem dX6_ableToTake_31 : decode cX6_ableToTake 31 = .ok (.getfield 21, 3) := by decide +kernel
theorem dX6_ableToTake_34 : decode cX6_ableToTake 34 = .ok (.getfield 91, 3) := by decide +kernel
theorem dX6_ableToTake_37 : decode cX6_ableToTake 37 = .ok (.invokevirtual 94, 3) := by decide +kernel
theorem dX6_ableToTake_40 : decode cX6_ableToTake 40 = .ok (.aload_n 0, 1) := by decide +kernel
theorem dX6_ableToTake_41 : decode cX6_ableToTake 41 = .ok (.iload_n 3, 1) := by decide +kernel
theorem dX6_ableToTake_42 : decode cX6_ableToTake 42 = .ok (.iload 4, 2) := by decide +kernel
theorem dX6_ableToTake_44 : decode cX6_ableToTake 44 = .ok (.aload_n 0, 1) := by decide +kernel
theorem dX6_ableToTake_45 : decode cX6_ableToTake 45 = .ok (.getfield 21, 3) := by decide +kernel
theorem dX6_ableToTake_48 : decode cX6_ableToTake 48 = .ok (.getfield 91, 3) := by decide +kernel
theorem dX6_ableToTake_51 : decode cX6_ableToTake 51 = .ok (.invokevirtual 94, 3) := by decide +kernel
theorem dX6_ableToTake_54 : decode cX6_ableToTake 54 = .ok (.if_icmp .gt 9, 3) := by decide +kernel
theorem dX6_ableToTake_57 : decode cX6_ableToTake 57 = .ok (.iload_n 2, 1) := by decide +kernel
theorem dX6_ableToTake_58 : decode cX6_ableToTake 58 = .ok (.iconst 1, 1) := by decide +kernel
theorem dX6_ableToTake_59 : decode cX6_ableToTake 59 = .ok (.iload_n 3, 1) := by decide +kernel
theorem dX6_ableToTake_60 : decode cX6_ableToTake 60 = .ok (.ishl, 1) := by decide +kernel
theorem dX6_ableToTake_61 : decode cX6_ableToTake 61 = .ok (.ior, 1) := by decide +kernel
theorem dX6_ableToTake_62 : decode cX6_ableToTake 62 = .ok (.istore_n 2, 1) := by decide +kernel
theorem dX6_ableToTake_63 : decode cX6_ableToTake 63 = .ok (.iinc 3 1, 3) := by decide +kernel
theorem dX6_ableToTake_66 : decode cX6_ableToTake 66 = .ok (.goto (-62), 3) := by decide +kernel
theorem dX6_ableToTake_69 : decode cX6_ableToTake 69 = .ok (.iload_n 2, 1) := by decide +kernel
theorem dX6_ableToTake_70 : decode cX6_ableToTake 70 = .ok (.ireturn, 1) := by decide +kernel
theorem dX6_flockForBurden_0 : decode cX6_flockForBurden 0 = .ok (.aload_n 0, 1) := by decide +kernel
theorem dX6_flockForBurden_1 : decode cX6_flockForBurden 1 = .ok (.getfield 12, 3) := by decide +kernel
theorem dX6_flockForBurden_4 : decode cX6_flockForBurden 4 = .ok (.getfield 75, 3) := by decide +kernel
theorem dX6_flockForBurden_7 : decode cX6_flockForBurden 7 = .ok (.iload_n 1, 1) := by decide +kernel
theorem dX6_flockForBurden_8 : decode cX6_flockForBurden 8 = .ok (.iaload, 1) := by decide +kernel
theorem dX6_flockForBurden_9 : decode cX6_flockForBurden 9 = .ok (.istore_n 2, 1) := by decide +kernel
theorem dX6_flockForBurden_10 : decode cX6_flockForBurden 10 = .ok (.iload_n 2, 1) := by decide +kernel
theorem dX6_flockForBurden_11 : decode cX6_flockForBurden 11 = .ok (.iconst 3, 1) := by decide +kernel
theorem dX6_flockForBurden_12 : decode cX6_flockForBurden 12 = .ok (.if_icmp .ne 17, 3) := by decide +kernel
theorem dX6_flockForBurden_15 : decode cX6_flockForBurden 15 = .ok (.aload_n 0, 1) := by decide +kernel
theorem dX6_flockForBurden_16 : decode cX6_flockForBurden 16 = .ok (.getfield 21, 3) := by decide +kernel
theorem dX6_flockForBurden_19 : decode cX6_flockForBurden 19 = .ok (.getfield 91, 3) := by decide +kernel
theorem dX6_flockForBurden_22 : decode cX6_flockForBurden 22 = .ok (.iconst 2, 1) := by decide +kernel
theorem dX6_flockForBurden_23 : decode cX6_flockForBurden 23 = .ok (.irem, 1) := by decide +kernel
theorem dX6_flockForBurden_24 : decode cX6_flockForBurden 24 = .ok (.ifCond .eq 5, 3) := by decide +kernel
theorem dX6_flockForBurden_27 : decode cX6_flockForBurden 27 = .ok (.iconst (-1), 1) := by decide +kernel
theorem dX6_flockForBurden_28 : decode cX6_flockForBurden 28 = .ok (.ireturn, 1) := by decide +kernel
theorem dX6_flockForBurden_29 : decode cX6_flockForBurden 29 = .ok (.iload_n 2, 1) := by decide +kernel
theorem dX6_flockForBurden_30 : decode cX6_flockForBurden 30 = .ok (.iconst 4, 1) := by decide +kernel
theorem dX6_flockForBurden_31 : decode cX6_flockForBurden 31 = .ok (.if_icmp .ne 18, 3) := by decide +kernel
theorem dX6_flockForBurden_34 : decode cX6_flockForBurden 34 = .ok (.aload_n 0, 1) := by decide +kernel
theorem dX6_flockForBurden_35 : decode cX6_flockForBurden 35 = .ok (.getfield 21, 3) := by decide +kernel
theorem dX6_flockForBurden_38 : decode cX6_flockForBurden 38 = .ok (.getfield 91, 3) := by decide +kernel
theorem dX6_flockForBurden_41 : decode cX6_flockForBurden 41 = .ok (.invokestatic 81, 3) := by decide +kernel
theorem dX6_flockForBurden_44 : decode cX6_flockForBurden 44 = .ok (.ifCond .ne 5, 3) := by decide +kernel
theorem dX6_flockForBurden_47 : decode cX6_flockForBurden 47 = .ok (.iconst 0, 1) := by decide +kernel
theorem dX6_flockForBurden_48 : decode cX6_flockForBurden 48 = .ok (.ireturn, 1) := by decide +kernel
theorem dX6_flockForBurden_49 : decode cX6_flockForBurden 49 = .ok (.iload_n 2, 1) := by decide +kernel
theorem dX6_flockForBurden_50 : decode cX6_flockForBurden 50 = .ok (.iconst 1, 1) := by decide +kernel
theorem dX6_flockForBurden_51 : decode cX6_flockForBurden 51 = .ok (.if_icmp .ne 18, 3) := by decide +kernel
theorem dX6_flockForBurden_54 : decode cX6_flockForBurden 54 = .ok (.aload_n 0, 1) := by decide +kernel
theorem dX6_flockForBurden_55 : decode cX6_flockForBurden 55 = .ok (.getfield 21, 3) := by decide +kernel
theorem dX6_flockForBurden_58 : decode cX6_flockForBurden 58 = .ok (.iload_n 1, 1) := by decide +kernel
theorem dX6_flockForBurden_59 : decode cX6_flockForBurden 59 = .ok (.invokevirtual 37, 3) := by decide +kernel
theorem dX6_flockForBurden_62 : decode cX6_flockForBurden 62 = .ok (.ifCond .eq 7, 3) := by decide +kernel
theorem dX6_flockForBurden_65 : decode cX6_flockForBurden 65 = .ok (.iconst 1, 1) := by decide +kernel
theorem dX6_flockForBurden_66 : decode cX6_flockForBurden 66 = .ok (.goto 4, 3) := by decide +kernel
theorem dX6_flockForBurden_69 : decode cX6_flockForBurden 69 = .ok (.iconst 0, 1) := by decide +kernel
theorem dX6_flockForBurden_70 : decode cX6_flockForBurden 70 = .ok (.istore_n 3, 1) := by decide +kernel
theorem dX6_flockForBurden_71 : decode cX6_flockForBurden 71 = .ok (.iconst 0, 1) := by decide +kernel
theorem dX6_flockForBurden_72 : decode cX6_flockForBurden 72 = .ok (.aload_n 0, 1) := by decide +kernel
theorem dX6_flockForBurden_73 : decode cX6_flockForBurden 73 = .ok (.getfield 12, 3) := by decide +kernel
theorem dX6_flockForBurden_76 : decode cX6_flockForBurden 76 = .ok (.getfield 64, 3) := by decide +kernel
theorem dX6_flockForBurden_79 : decode cX6_flockForBurden 79 = .ok (.iload_n 1, 1) := by decide +kernel
theorem dX6_flockForBurden_80 : decode cX6_flockForBurden 80 = .ok (.iaload, 1) := by decide +kernel
theorem dX6_flockForBurden_81 : decode cX6_flockForBurden 81 = .ok (.aload_n 0, 1) := by decide +kernel
theorem dX6_flockForBurden_82 : decode cX6_flockForBurden 82 = .ok (.getfield 21, 3) := by decide +kernel
theorem dX6_flockForBurden_85 : decode cX6_flockForBurden 85 = .ok (.getfield 67, 3) := by decide +kernel
theorem dX6_flockForBurden_88 : decode cX6_flockForBurden 88 = .ok (.iload_n 1, 1) := by decide +kernel
theorem dX6_flockForBurden_89 : decode cX6_flockForBurden 89 = .ok (.iaload, 1) := by decide +kernel
theorem dX6_flockForBurden_90 : decode cX6_flockForBurden 90 = .ok (.isub, 1) := by decide +kernel
theorem dX6_flockForBurden_91 : decode cX6_flockForBurden 91 = .ok (.iload_n 3, 1) := by decide +kernel
theorem dX6_flockForBurden_92 : decode cX6_flockForBurden 92 = .ok (.isub, 1) := by decide +kernel
theorem dX6_flockForBurden_93 : decode cX6_flockForBurden 93 = .ok (.invokestatic 70, 3) := by decide +kernel
theorem dX6_flockForBurden_96 : decode cX6_flockForBurden 96 = .ok (.ireturn, 1) := by decide +kernel
theorem dX6_flockForBurdens_0 : decode cX6_flockForBurdens 0 = .ok (.iconst 0, 1) := by decide +kernel
theorem dX6_flockForBurdens_1 : decode cX6_flockForBurdens 1 = .ok (.istore_n 2, 1) := by decide +kernel
theorem dX6_flockForBurdens_2 : decode cX6_flockForBurdens 2 = .ok (.iconst 0, 1) := by decide +kernel
theorem dX6_flockForBurdens_3 : decode cX6_flockForBurdens 3 = .ok (.istore_n 3, 1) := by decide +kernel
theorem dX6_flockForBurdens_4 : decode cX6_flockForBurdens 4 = .ok (.iload_n 3, 1) := by decide +kernel
theorem dX6_flockForBurdens_5 : decode cX6_flockForBurdens 5 = .ok (.aload_n 0, 1) := by decide +kernel
theorem dX6_flockForBurdens_6 : decode cX6_flockForBurdens 6 = .ok (.getfield 12, 3) := by decide +kernel
theorem dX6_flockForBurdens_9 : decode cX6_flockForBurdens 9 = .ok (.getfield 25, 3) := by decide +kernel
theorem dX6_flockForBurdens_12 : decode cX6_flockForBurdens 12 = .ok (.if_icmp .ge 37, 3) := by decide +kernel
theorem dX6_flockForBurdens_15 : decode cX6_flockForBurdens 15 = .ok (.iload_n 1, 1) := by decide +kernel
theorem dX6_flockForBurdens_16 : decode cX6_flockForBurdens 16 = .ok (.iload_n 3, 1) := by decide +kernel
theorem dX6_flockForBurdens_17 : decode cX6_flockForBurdens 17 = .ok (.invokestatic 51, 3) := by decide +kernel
theorem dX6_flockForBurdens_20 : decode cX6_flockForBurdens 20 = .ok (.ifCond .eq 23, 3) := by decide +kernel
theorem dX6_flockForBurdens_23 : decode cX6_flockForBurdens 23 = .ok (.aload_n 0, 1) := by decide +kernel
theorem dX6_flockForBurdens_24 : decode cX6_flockForBurdens 24 = .ok (.iload_n 3, 1) := by decide +kernel
theorem dX6_flockForBurdens_25 : decode cX6_flockForBurdens 25 = .ok (.invokevirtual 111, 3) := by decide +kernel
theorem dX6_flockForBurdens_28 : decode cX6_flockForBurdens 28 = .ok (.istore 4, 2) := by decide +kernel
theorem dX6_flockForBurdens_30 : decode cX6_flockForBurdens 30 = .ok (.iload 4, 2) := by decide +kernel
theorem dX6_flockForBurdens_32 : decode cX6_flockForBurdens 32 = .ok (.iconst (-1), 1) := by decide +kernel
theorem dX6_flockForBurdens_33 : decode cX6_flockForBurdens 33 = .ok (.if_icmp .ne 5, 3) := by decide +kernel
theorem dX6_flockForBurdens_36 : decode cX6_flockForBurdens 36 = .ok (.iconst (-1), 1) := by decide +kernel
theorem dX6_flockForBurdens_37 : decode cX6_flockForBurdens 37 = .ok (.ireturn, 1) := by decide +kernel
theorem dX6_flockForBurdens_38 : decode cX6_flockForBurdens 38 = .ok (.iload_n 2, 1) := by decide +kernel
theorem dX6_flockForBurdens_39 : decode cX6_flockForBurdens 39 = .ok (.iload 4, 2) := by decide +kernel
theorem dX6_flockForBurdens_41 : decode cX6_flockForBurdens 41 = .ok (.iadd, 1) := by decide +kernel
theorem dX6_flockForBurdens_42 : decode cX6_flockForBurdens 42 = .ok (.istore_n 2, 1) := by decide +kernel
theorem dX6_flockForBurdens_43 : decode cX6_flockForBurdens 43 = .ok (.iinc 3 1, 3) := by decide +kernel
theorem dX6_flockForBurdens_46 : decode cX6_flockForBurdens 46 = .ok (.goto (-42), 3) := by decide +kernel
theorem dX6_flockForBurdens_49 : decode cX6_flockForBurdens 49 = .ok (.iload_n 2, 1) := by decide +kernel
theorem dX6_flockForBurdens_50 : decode cX6_flockForBurdens 50 = .ok (.ireturn, 1) := by decide +kernel
theorem dX6_flockForBack_0 : decode cX6_flockForBack 0 = .ok (.aload_n 0, 1) := by decide +kernel
theorem dX6_flockForBack_1 : decode cX6_flockForBack 1 = .ok (.iload_n 1, 1) := by decide +kernel
theorem dX6_flockForBack_2 : decode cX6_flockForBack 2 = .ok (.invokevirtual 61, 3) := by decide +kernel
theorem dX6_flockForBack_5 : decode cX6_flockForBack 5 = .ok (.aload_n 0, 1) := by decide +kernel
theorem dX6_flockForBack_6 : decode cX6_flockForBack 6 = .ok (.getfield 12, 3) := by decide +kernel
theorem dX6_flockForBack_9 : decode cX6_flockForBack 9 = .ok (.getfield 88, 3) := by decide +kernel
theorem dX6_flockForBack_12 : decode cX6_flockForBack 12 = .ok (.iload_n 1, 1) := by decide +kernel
theorem dX6_flockForBack_13 : decode cX6_flockForBack 13 = .ok (.iaload, 1) := by decide +kernel
theorem dX6_flockForBack_14 : decode cX6_flockForBack 14 = .ok (.if_icmp .le 7, 3) := by decide +kernel
theorem dX6_flockForBack_17 : decode cX6_flockForBack 17 = .ok (.iconst (-1), 1) := by decide +kernel
theorem dX6_flockForBack_18 : decode cX6_flockForBack 18 = .ok (.goto 12, 3) := by decide +kernel
theorem dX6_flockForBack_21 : decode cX6_flockForBack 21 = .ok (.aload_n 0, 1) := by decide +kernel
theorem dX6_flockForBack_22 : decode cX6_flockForBack 22 = .ok (.aload_n 0, 1) := by decide +kernel
theorem dX6_flockForBack_23 : decode cX6_flockForBack 23 = .ok (.iload_n 1, 1) := by decide +kernel
theorem dX6_flockForBack_24 : decode cX6_flockForBack 24 = .ok (.invokevirtual 47, 3) := by decide +kernel
theorem dX6_flockForBack_27 : decode cX6_flockForBack 27 = .ok (.invokevirtual 114, 3) := by decide +kernel
theorem dX6_flockForBack_30 : decode cX6_flockForBack 30 = .ok (.ireturn, 1) := by decide +kernel
theorem dX6_flockForAll_0 : decode cX6_flockForAll 0 = .ok (.iconst 0, 1) := by decide +kernel
theorem dX6_flockForAll_1 : decode cX6_flockForAll 1 = .ok (.istore_n 1, 1) := by decide +kernel
theorem dX6_flockForAll_2 : decode cX6_flockForAll 2 = .ok (.iconst 0, 1) := by decide +kernel
theorem dX6_flockForAll_3 : decode cX6_flockForAll 3 = .ok (.istore_n 2, 1) := by decide +kernel
theorem dX6_flockForAll_4 : decode cX6_flockForAll 4 = .ok (.iload_n 2, 1) := by decide +kernel
theorem dX6_flockForAll_5 : decode cX6_flockForAll 5 = .ok (.aload_n 0, 1) := by decide +kernel
theorem dX6_flockForAll_6 : decode cX6_flockForAll 6 = .ok (.getfield 12, 3) := by decide +kernel
theorem dX6_flockForAll_9 : decode cX6_flockForAll 9 = .ok (.getfield 58, 3) := by decide +kernel
theorem dX6_flockForAll_12 : decode cX6_flockForAll 12 = .ok (.if_icmp .ge 36, 3) := by decide +kernel
theorem dX6_flockForAll_15 : decode cX6_flockForAll 15 = .ok (.aload_n 0, 1) := by decide +kernel
theorem dX6_flockForAll_16 : decode cX6_flockForAll 16 = .ok (.iload_n 2, 1) := by decide +kernel
theorem dX6_flockForAll_17 : decode cX6_flockForAll 17 = .ok (.invokevirtual 61, 3) := by decide +kernel
theorem dX6_flockForAll_20 : decode cX6_flockForAll 20 = .ok (.aload_n 0, 1) := by decide +kernel
theorem dX6_flockForAll_21 : decode cX6_flockForAll 21 = .ok (.getfield 12, 3) := by decide +kernel
theorem dX6_flockForAll_24 : decode cX6_flockForAll 24 = .ok (.getfield 88, 3) := by decide +kernel
theorem dX6_flockForAll_27 : decode cX6_flockForAll 27 = .ok (.iload_n 2, 1) := by decide +kernel
theorem dX6_flockForAll_28 : decode cX6_flockForAll 28 = .ok (.iaload, 1) := by decide +kernel
theorem dX6_flockForAll_29 : decode cX6_flockForAll 29 = .ok (.if_icmp .le 5, 3) := by decide +kernel
theorem dX6_flockForAll_32 : decode cX6_flockForAll 32 = .ok (.iconst (-1), 1) := by decide +kernel
theorem dX6_flockForAll_33 : decode cX6_flockForAll 33 = .ok (.ireturn, 1) := by decide +kernel
theorem dX6_flockForAll_34 : decode cX6_flockForAll 34 = .ok (.iload_n 1, 1) := by decide +kernel
theorem dX6_flockForAll_35 : decode cX6_flockForAll 35 = .ok (.aload_n 0, 1) := by decide +kernel
theorem dX6_flockForAll_36 : decode cX6_flockForAll 36 = .ok (.iload_n 2, 1) := by decide +kernel
theorem dX6_flockForAll_37 : decode cX6_flockForAll 37 = .ok (.invokevirtual 47, 3) := by decide +kernel
theorem dX6_flockForAll_40 : decode cX6_flockForAll 40 = .ok (.ior, 1) := by decide +kernel
theorem dX6_flockForAll_41 : decode cX6_flockForAll 41 = .ok (.istore_n 1, 1) := by decide +kernel
theorem dX6_flockForAll_42 : decode cX6_flockForAll 42 = .ok (.iinc 2 1, 3) := by decide +kernel
theorem dX6_flockForAll_45 : decode cX6_flockForAll 45 = .ok (.goto (-41), 3) := by decide +kernel
theorem dX6_flockForAll_48 : decode cX6_flockForAll 48 = .ok (.aload_n 0, 1) := by decide +kernel
theorem dX6_flockForAll_49 : decode cX6_flockForAll 49 = .ok (.iload_n 1, 1) := by decide +kernel
theorem dX6_flockForAll_50 : decode cX6_flockForAll 50 = .ok (.invokevirtual 114, 3) := by decide +kernel
theorem dX6_flockForAll_53 : decode cX6_flockForAll 53 = .ok (.ireturn, 1) := by decide +kernel
theorem dX6_ringOf_0 : decode cX6_ringOf 0 = .ok (.iconst 1, 1) := by decide +kernel
theorem dX6_ringOf_1 : decode cX6_ringOf 1 = .ok (.iload_n 1, 1) := by decide +kernel
theorem dX6_ringOf_2 : decode cX6_ringOf 2 = .ok (.ishl, 1) := by decide +kernel
theorem dX6_ringOf_3 : decode cX6_ringOf 3 = .ok (.istore_n 2, 1) := by decide +kernel
theorem dX6_ringOf_4 : decode cX6_ringOf 4 = .ok (.iconst 0, 1) := by decide +kernel
theorem dX6_ringOf_5 : decode cX6_ringOf 5 = .ok (.istore_n 3, 1) := by decide +kernel
theorem dX6_ringOf_6 : decode cX6_ringOf 6 = .ok (.iload_n 3, 1) := by decide +kernel
theorem dX6_ringOf_7 : decode cX6_ringOf 7 = .ok (.iconst 5, 1) := by decide +kernel
theorem dX6_ringOf_8 : decode cX6_ringOf 8 = .ok (.if_icmp .ge 85, 3) := by decide +kernel
theorem dX6_ringOf_11 : decode cX6_ringOf 11 = .ok (.iconst 0, 1) := by decide +kernel
theorem dX6_ringOf_12 : decode cX6_ringOf 12 = .ok (.istore 4, 2) := by decide +kernel
theorem dX6_ringOf_14 : decode cX6_ringOf 14 = .ok (.iload 4, 2) := by decide +kernel
theorem dX6_ringOf_16 : decode cX6_ringOf 16 = .ok (.aload_n 0, 1) := by decide +kernel
theorem dX6_ringOf_17 : decode cX6_ringOf 17 = .ok (.getfield 12, 3) := by decide +kernel
theorem dX6_ringOf_20 : decode cX6_ringOf 20 = .ok (.getfield 25, 3) := by decide +kernel
theorem dX6_ringOf_23 : decode cX6_ringOf 23 = .ok (.if_icmp .ge 64, 3) := by decide +kernel
theorem dX6_ringOf_26 : decode cX6_ringOf 26 = .ok (.aload_n 0, 1) := by decide +kernel
theorem dX6_ringOf_27 : decode cX6_ringOf 27 = .ok (.getfield 21, 3) := by decide +kernel
theorem dX6_ringOf_30 : decode cX6_ringOf 30 = .ok (.iload 4, 2) := by decide +kernel
theorem dX6_ringOf_32 : decode cX6_ringOf 32 = .ok (.invokevirtual 37, 3) := by decide +kernel
theorem dX6_ringOf_35 : decode cX6_ringOf 35 = .ok (.ifCond .eq 31, 3) := by decide +kernel
theorem dX6_ringOf_38 : decode cX6_ringOf 38 = .ok (.iconst 1, 1) := by decide +kernel
theorem dX6_ringOf_39 : decode cX6_ringOf 39 = .ok (.aload_n 0, 1) := by decide +kernel
theorem dX6_ringOf_40 : decode cX6_ringOf 40 = .ok (.getfield 21, 3) := by decide +kernel
theorem dX6_ringOf_43 : decode cX6_ringOf 43 = .ok (.getfield 44, 3) := by decide +kernel
theorem dX6_ringOf_46 : decode cX6_ringOf 46 = .ok (.iload 4, 2) := by decide +kernel
theorem dX6_ringOf_48 : decode cX6_ringOf 48 = .ok (.iaload, 1) := by decide +kernel
theorem dX6_ringOf_49 : decode cX6_ringOf 49 = .ok (.ishl, 1) := by decide +kernel
theorem dX6_ringOf_50 : decode cX6_ringOf 50 = .ok (.iconst 1, 1) := by decide +kernel
theorem dX6_ringOf_51 : decode cX6_ringOf 51 = .ok (.aload_n 0, 1) := by decide +kernel
theorem dX6_ringOf_52 : decode cX6_ringOf 52 = .ok (.getfield 21, 3) := by decide +kernel
theorem dX6_ringOf_55 : decode cX6_ringOf 55 = .ok (.getfield 117, 3) := by decide +kernel
theorem dX6_ringOf_58 : decode cX6_ringOf 58 = .ok (.iload 4, 2) := by decide +kernel
theorem dX6_ringOf_60 : decode cX6_ringOf 60 = .ok (.iaload, 1) := by decide +kernel
theorem dX6_ringOf_61 : decode cX6_ringOf 61 = .ok (.ishl, 1) := by decide +kernel
theorem dX6_ringOf_62 : decode cX6_ringOf 62 = .ok (.ior, 1) := by decide +kernel
theorem dX6_ringOf_63 : decode cX6_ringOf 63 = .ok (.goto 4, 3) := by decide +kernel
theorem dX6_ringOf_66 : decode cX6_ringOf 66 = .ok (.iconst 0, 1) := by decide +kernel
theorem dX6_ringOf_67 : decode cX6_ringOf 67 = .ok (.istore 5, 2) := by decide +kernel
theorem dX6_ringOf_69 : decode cX6_ringOf 69 = .ok (.iload_n 2, 1) := by decide +kernel
theorem dX6_ringOf_70 : decode cX6_ringOf 70 = .ok (.iload 5, 2) := by decide +kernel
theorem dX6_ringOf_72 : decode cX6_ringOf 72 = .ok (.iand, 1) := by decide +kernel
theorem dX6_ringOf_73 : decode cX6_ringOf 73 = .ok (.ifCond .eq 8, 3) := by decide +kernel
theorem dX6_ringOf_76 : decode cX6_ringOf 76 = .ok (.iload_n 2, 1) := by decide +kernel
theorem dX6_ringOf_77 : decode cX6_ringOf 77 = .ok (.iload 5, 2) := by decide +kernel
theorem dX6_ringOf_79 : decode cX6_ringOf 79 = .ok (.ior, 1) := by decide +kernel
theorem dX6_ringOf_80 : decode cX6_ringOf 80 = .ok (.istore_n 2, 1) := by decide +kernel
theorem dX6_ringOf_81 : decode cX6_ringOf 81 = .ok (.iinc 4 1, 3) := by decide +kernel
theorem dX6_ringOf_84 : decode cX6_ringOf 84 = .ok (.goto (-70), 3) := by decide +kernel
theorem dX6_ringOf_87 : decode cX6_ringOf 87 = .ok (.iinc 3 1, 3) := by decide +kernel
theorem dX6_ringOf_90 : decode cX6_ringOf 90 = .ok (.goto (-84), 3) := by decide +kernel
theorem dX6_ringOf_93 : decode cX6_ringOf 93 = .ok (.iload_n 2, 1) := by decide +kernel
theorem dX6_ringOf_94 : decode cX6_ringOf 94 = .ok (.ireturn, 1) := by decide +kernel
theorem dX7_init_0 : decode cX7_init 0 = .ok (.aload_n 0, 1) := by decide +kernel
theorem dX7_init_1 : decode cX7_init 1 = .ok (.invokespecial 3, 3) := by decide +kernel
theorem dX7_init_4 : decode cX7_init 4 = .ok (.aload_n 0, 1) := by decide +kernel
theorem dX7_init_5 : decode cX7_init 5 = .ok (.bipush 6, 2) := by decide +kernel
theorem dX7_init_7 : decode cX7_init 7 = .ok (.newarray .int, 2) := by decide +kernel
theorem dX7_init_9 : decode cX7_init 9 = .ok (.putfield 9, 3) := by decide +kernel
theorem dX7_init_12 : decode cX7_init 12 = .ok (.aload_n 0, 1) := by decide +kernel
theorem dX7_init_13 : decode cX7_init 13 = .ok (.bipush 6, 2) := by decide +kernel
theorem dX7_init_15 : decode cX7_init 15 = .ok (.newarray .int, 2) := by decide +kernel
theorem dX7_init_17 : decode cX7_init 17 = .ok (.putfield 15, 3) := by decide +kernel
theorem dX7_init_20 : decode cX7_init 20 = .ok (.aload_n 0, 1) := by decide +kernel
theorem dX7_init_21 : decode cX7_init 21 = .ok (.bipush 6, 2) := by decide +kernel
theorem dX7_init_23 : decode cX7_init 23 = .ok (.newarray .int, 2) := by decide +kernel
theorem dX7_init_25 : decode cX7_init 25 = .ok (.putfield 18, 3) := by decide +kernel
theorem dX7_init_28 : decode cX7_init 28 = .ok (.aload_n 0, 1) := by decide +kernel
theorem dX7_init_29 : decode cX7_init 29 = .ok (.iconst 5, 1) := by decide +kernel
theorem dX7_init_30 : decode cX7_init 30 = .ok (.newarray .int, 2) := by decide +kernel
theorem dX7_init_32 : decode cX7_init 32 = .ok (.putfield 21, 3) := by decide +kernel
theorem dX7_init_35 : decode cX7_init 35 = .ok (.aload_n 0, 1) := by decide +kernel
theorem dX7_init_36 : decode cX7_init 36 = .ok (.iconst 5, 1) := by decide +kernel
theorem dX7_init_37 : decode cX7_init 37 = .ok (.newarray .int, 2) := by decide +kernel
theorem dX7_init_39 : decode cX7_init 39 = .ok (.putfield 24, 3) := by decide +kernel
theorem dX7_init_42 : decode cX7_init 42 = .ok (.return_, 1) := by decide +kernel
theorem dX7_hasBurden_0 : decode cX7_hasBurden 0 = .ok (.iload_n 1, 1) := by decide +kernel
theorem dX7_hasBurden_1 : decode cX7_hasBurden 1 = .ok (.ifCond .lt 21, 3) := by decide +kernel
theorem dX7_hasBurden_4 : decode cX7_hasBurden 4 = .ok (.iload_n 1, 1) := by decide +kernel
theorem dX7_hasBurden_5 : decode cX7_hasBurden 5 = .ok (.aload_n 0, 1) := by decide +kernel
theorem dX7_hasBurden_6 : decode cX7_hasBurden 6 = .ok (.getfield 27, 3) := by decide +kernel
theorem dX7_hasBurden_9 : decode cX7_hasBurden 9 = .ok (.if_icmp .ge 13, 3) := by decide +kernel
theorem dX7_hasBurden_12 : decode cX7_hasBurden 12 = .ok (.iload_n 1, 1) := by decide +kernel
theorem dX7_hasBurden_13 : decode cX7_hasBurden 13 = .ok (.bipush 6, 2) := by decide +kernel
theorem dX7_hasBurden_15 : decode cX7_hasBurden 15 = .ok (.if_icmp .ge 7, 3) := by decide +kernel
theorem dX7_hasBurden_18 : decode cX7_hasBurden 18 = .ok (.iconst 1, 1) := by decide +kernel
theorem dX7_hasBurden_19 : decode cX7_hasBurden 19 = .ok (.goto 4, 3) := by decide +kernel
theorem dX7_hasBurden_22 : decode cX7_hasBurden 22 = .ok (.iconst 0, 1) := by decide +kernel
theorem dX7_hasBurden_23 : decode cX7_hasBurden 23 = .ok (.ireturn, 1) := by decide +kernel
theorem dX7_hasBack_0 : decode cX7_hasBack 0 = .ok (.iload_n 1, 1) := by decide +kernel
theorem dX7_hasBack_1 : decode cX7_hasBack 1 = .ok (.ifCond .lt 20, 3) := by decide +kernel
theorem dX7_hasBack_4 : decode cX7_hasBack 4 = .ok (.iload_n 1, 1) := by decide +kernel
theorem dX7_hasBack_5 : decode cX7_hasBack 5 = .ok (.aload_n 0, 1) := by decide +kernel
theorem dX7_hasBack_6 : decode cX7_hasBack 6 = .ok (.getfield 31, 3) := by decide +kernel
theorem dX7_hasBack_9 : decode cX7_hasBack 9 = .ok (.if_icmp .ge 12, 3) := by decide +kernel
theorem dX7_hasBack_12 : decode cX7_hasBack 12 = .ok (.iload_n 1, 1) := by decide +kernel
theorem dX7_hasBack_13 : decode cX7_hasBack 13 = .ok (.iconst 5, 1) := by decide +kernel
theorem dX7_hasBack_14 : decode cX7_hasBack 14 = .ok (.if_icmp .ge 7, 3) := by decide +kernel
theorem dX7_hasBack_17 : decode cX7_hasBack 17 = .ok (.iconst 1, 1) := by decide +kernel
theorem dX7_hasBack_18 : decode cX7_hasBack 18 = .ok (.goto 4, 3) := by decide +kernel
theorem dX7_hasBack_21 : decode cX7_hasBack 21 = .ok (.iconst 0, 1) := by decide +kernel
theorem dX7_hasBack_22 : decode cX7_hasBack 22 = .ok (.ireturn, 1) := by decide +kernel
theorem dX7_hasTwoBacks_0 : decode cX7_hasTwoBacks 0 = .ok (.aload_n 0, 1) := by decide +kernel
theorem dX7_hasTwoBacks_1 : decode cX7_hasTwoBacks 1 = .ok (.iload_n 1, 1) := by decide +kernel
theorem dX7_hasTwoBacks_2 : decode cX7_hasTwoBacks 2 = .ok (.invokevirtual 34, 3) := by decide +kernel
theorem dX7_hasTwoBacks_5 : decode cX7_hasTwoBacks 5 = .ok (.ifCond .eq 20, 3) := by decide +kernel
theorem dX7_hasTwoBacks_8 : decode cX7_hasTwoBacks 8 = .ok (.aload_n 0, 1) := by decide +kernel
theorem dX7_hasTwoBacks_9 : decode cX7_hasTwoBacks 9 = .ok (.iload_n 2, 1) := by decide +kernel
theorem dX7_hasTwoBacks_10 : decode cX7_hasTwoBacks 10 = .ok (.invokevirtual 34, 3) := by decide +kernel
theorem dX7_hasTwoBacks_13 : decode cX7_hasTwoBacks 13 = .ok (.ifCond .eq 12, 3) := by decide +kernel
theorem dX7_hasTwoBacks_16 : decode cX7_hasTwoBacks 16 = .ok (.iload_n 1, 1) := by decide +kernel
theorem dX7_hasTwoBacks_17 : decode cX7_hasTwoBacks 17 = .ok (.iload_n 2, 1) := by decide +kernel
theorem dX7_hasTwoBacks_18 : decode cX7_hasTwoBacks 18 = .ok (.if_icmp .eq 7, 3) := by decide +kernel
theorem dX7_hasTwoBacks_21 : decode cX7_hasTwoBacks 21 = .ok (.iconst 1, 1) := by decide +kernel
theorem dX7_hasTwoBacks_22 : decode cX7_hasTwoBacks 22 = .ok (.goto 4, 3) := by decide +kernel
theorem dX7_hasTwoBacks_25 : decode cX7_hasTwoBacks 25 = .ok (.iconst 0, 1) := by decide +kernel
theorem dX7_hasTwoBacks_26 : decode cX7_hasTwoBacks 26 = .ok (.ireturn, 1) := by decide +kernel
theorem dX7_clear_0 : decode cX7_clear 0 = .ok (.aload_n 0, 1) := by decide +kernel
theorem dX7_clear_1 : decode cX7_clear 1 = .ok (.iconst 0, 1) := by decide +kernel
theorem dX7_clear_2 : decode cX7_clear 2 = .ok (.putfield 38, 3) := by decide +kernel
theorem dX7_clear_5 : decode cX7_clear 5 = .ok (.aload_n 0, 1) := by decide +kernel
theorem dX7_clear_6 : decode cX7_clear 6 = .ok (.iconst 0, 1) := by decide +kernel
theorem dX7_clear_7 : decode cX7_clear 7 = .ok (.putfield 42, 3) := by decide +kernel
theorem dX7_clear_10 : decode cX7_clear 10 = .ok (.aload_n 0, 1) := by decide +kernel
theorem dX7_clear_11 : decode cX7_clear 11 = .ok (.iconst 0, 1) := by decide +kernel
theorem dX7_clear_12 : decode cX7_clear 12 = .ok (.putfield 27, 3) := by decide +kernel
theorem dX7_clear_15 : decode cX7_clear 15 = .ok (.aload_n 0, 1) := by decide +kernel
theorem dX7_clear_16 : decode cX7_clear 16 = .ok (.iconst 0, 1) := by decide +kernel
theorem dX7_clear_17 : decode cX7_clear 17 = .ok (.putfield 31, 3) := by decide +kernel
theorem dX7_clear_20 : decode cX7_clear 20 = .ok (.return_, 1) := by decide +kernel
theorem dX7_addBurden_0 : decode cX7_addBurden 0 = .ok (.aload_n 0, 1) := by decide +kernel
theorem dX7_addBurden_1 : decode cX7_addBurden 1 = .ok (.getfield 27, 3) := by decide +kernel
theorem dX7_addBurden_4 : decode cX7_addBurden 4 = .ok (.bipush 6, 2) := by decide +kernel
theorem dX7_addBurden_6 : decode cX7_addBurden 6 = .ok (.if_icmp .ge 43, 3) := by decide +kernel
theorem dX7_addBurden_9 : decode cX7_addBurden 9 = .ok (.aload_n 0, 1) := by decide +kernel
theorem dX7_addBurden_10 : decode cX7_addBurden 10 = .ok (.getfield 9, 3) := by decide +kernel
theorem dX7_addBurden_13 : decode cX7_addBurden 13 = .ok (.aload_n 0, 1) := by decide +kernel
theorem dX7_addBurden_14 : decode cX7_addBurden 14 = .ok (.getfield 27, 3) := by decide +kernel
theorem dX7_addBurden_17 : decode cX7_addBurden 17 = .ok (.iload_n 1, 1) := by decide +kernel
theorem dX7_addBurden_18 : decode cX7_addBurden 18 = .ok (.iastore, 1) := by decide +kernel
theorem dX7_addBurden_19 : decode cX7_addBurden 19 = .ok (.aload_n 0, 1) := by decide +kernel
theorem dX7_addBurden_20 : decode cX7_addBurden 20 = .ok (.getfield 15, 3) := by decide +kernel
theorem dX7_addBurden_23 : decode cX7_addBurden 23 = .ok (.aload_n 0, 1) := by decide +kernel
theorem dX7_addBurden_24 : decode cX7_addBurden 24 = .ok (.getfield 27, 3) := by decide +kernel
theorem dX7_addBurden_27 : decode cX7_addBurden 27 = .ok (.iload_n 2, 1) := by decide +kernel
theorem dX7_addBurden_28 : decode cX7_addBurden 28 = .ok (.iastore, 1) := by decide +kernel
theorem dX7_addBurden_29 : decode cX7_addBurden 29 = .ok (.aload_n 0, 1) := by decide +kernel
theorem dX7_addBurden_30 : decode cX7_addBurden 30 = .ok (.getfield 18, 3) := by decide +kernel
theorem dX7_addBurden_33 : decode cX7_addBurden 33 = .ok (.aload_n 0, 1) := by decide +kernel
theorem dX7_addBurden_34 : decode cX7_addBurden 34 = .ok (.getfield 27, 3) := by decide +kernel
theorem dX7_addBurden_37 : decode cX7_addBurden 37 = .ok (.iload_n 3, 1) := by decide +kernel
theorem dX7_addBurden_38 : decode cX7_addBurden 38 = .ok (.iastore, 1) := by decide +kernel
theorem dX7_addBurden_39 : decode cX7_addBurden 39 = .ok (.aload_n 0, 1) := by decide +kernel
theorem dX7_addBurden_40 : decode cX7_addBurden 40 = .ok (.dup, 1) := by decide +kernel
theorem dX7_addBurden_41 : decode cX7_addBurden 41 = .ok (.getfield 27, 3) := by decide +kernel
theorem dX7_addBurden_44 : decode cX7_addBurden 44 = .ok (.iconst 1, 1) := by decide +kernel
theorem dX7_addBurden_45 : decode cX7_addBurden 45 = .ok (.iadd, 1) := by decide +kernel
theorem dX7_addBurden_46 : decode cX7_addBurden 46 = .ok (.putfield 27, 3) := by decide +kernel
theorem dX7_addBurden_49 : decode cX7_addBurden 49 = .ok (.return_, 1) := by decide +kernel
theorem dX7_addBack_0 : decode cX7_addBack 0 = .ok (.aload_n 0, 1) := by decide +kernel
theorem dX7_addBack_1 : decode cX7_addBack 1 = .ok (.getfield 31, 3) := by decide +kernel
theorem dX7_addBack_4 : decode cX7_addBack 4 = .ok (.iconst 5, 1) := by decide +kernel
theorem dX7_addBack_5 : decode cX7_addBack 5 = .ok (.if_icmp .ge 33, 3) := by decide +kernel
theorem dX7_addBack_8 : decode cX7_addBack 8 = .ok (.aload_n 0, 1) := by decide +kernel
theorem dX7_addBack_9 : decode cX7_addBack 9 = .ok (.getfield 21, 3) := by decide +kernel
theorem dX7_addBack_12 : decode cX7_addBack 12 = .ok (.aload_n 0, 1) := by decide +kernel
theorem dX7_addBack_13 : decode cX7_addBack 13 = .ok (.getfield 31, 3) := by decide +kernel
theorem dX7_addBack_16 : decode cX7_addBack 16 = .ok (.iload_n 1, 1) := by decide +kernel
theorem dX7_addBack_17 : decode cX7_addBack 17 = .ok (.iastore, 1) := by decide +kernel
theorem dX7_addBack_18 : decode cX7_addBack 18 = .ok (.aload_n 0, 1) := by decide +kernel
theorem dX7_addBack_19 : decode cX7_addBack 19 = .ok (.getfield 24, 3) := by decide +kernel
theorem dX7_addBack_22 : decode cX7_addBack 22 = .ok (.aload_n 0, 1) := by decide +kernel
theorem dX7_addBack_23 : decode cX7_addBack 23 = .ok (.getfield 31, 3) := by decide +kernel
theorem dX7_addBack_26 : decode cX7_addBack 26 = .ok (.iload_n 2, 1) := by decide +kernel
theorem dX7_addBack_27 : decode cX7_addBack 27 = .ok (.iastore, 1) := by decide +kernel
theorem dX7_addBack_28 : decode cX7_addBack 28 = .ok (.aload_n 0, 1) := by decide +kernel
theorem dX7_addBack_29 : decode cX7_addBack 29 = .ok (.dup, 1) := by decide +kernel
theorem dX7_addBack_30 : decode cX7_addBack 30 = .ok (.getfield 31, 3) := by decide +kernel
theorem dX7_addBack_33 : decode cX7_addBack 33 = .ok (.iconst 1, 1) := by decide +kernel
theorem dX7_addBack_34 : decode cX7_addBack 34 = .ok (.iadd, 1) := by decide +kernel
theorem dX7_addBack_35 : decode cX7_addBack 35 = .ok (.putfield 31, 3) := by decide +kernel
theorem dX7_addBack_38 : decode cX7_addBack 38 = .ok (.return_, 1) := by decide +kernel
theorem dX7_copyFrom_0 : decode cX7_copyFrom 0 = .ok (.aload_n 0, 1) := by decide +kernel
theorem dX7_copyFrom_1 : decode cX7_copyFrom 1 = .ok (.aload_n 1, 1) := by decide +kernel
theorem dX7_copyFrom_2 : decode cX7_copyFrom 2 = .ok (.getfield 38, 3) := by decide +kernel
theorem dX7_copyFrom_5 : decode cX7_copyFrom 5 = .ok (.putfield 38, 3) := by decide +kernel
theorem dX7_copyFrom_8 : decode cX7_copyFrom 8 = .ok (.aload_n 0, 1) := by decide +kernel
theorem dX7_copyFrom_9 : decode cX7_copyFrom 9 = .ok (.aload_n 1, 1) := by decide +kernel
theorem dX7_copyFrom_10 : decode cX7_copyFrom 10 = .ok (.getfield 42, 3) := by decide +kernel
theorem dX7_copyFrom_13 : decode cX7_copyFrom 13 = .ok (.putfield 42, 3) := by decide +kernel
theorem dX7_copyFrom_16 : decode cX7_copyFrom 16 = .ok (.aload_n 0, 1) := by decide +kernel
theorem dX7_copyFrom_17 : decode cX7_copyFrom 17 = .ok (.aload_n 1, 1) := by decide +kernel
theorem dX7_copyFrom_18 : decode cX7_copyFrom 18 = .ok (.getfield 27, 3) := by decide +kernel
theorem dX7_copyFrom_21 : decode cX7_copyFrom 21 = .ok (.putfield 27, 3) := by decide +kernel
theorem dX7_copyFrom_24 : decode cX7_copyFrom 24 = .ok (.aload_n 0, 1) := by decide +kernel
theorem dX7_copyFrom_25 : decode cX7_copyFrom 25 = .ok (.aload_n 1, 1) := by decide +kernel
theorem dX7_copyFrom_26 : decode cX7_copyFrom 26 = .ok (.getfield 31, 3) := by decide +kernel
theorem dX7_copyFrom_29 : decode cX7_copyFrom 29 = .ok (.putfield 31, 3) := by decide +kernel
theorem dX7_copyFrom_32 : decode cX7_copyFrom 32 = .ok (.iconst 0, 1) := by decide +kernel
theorem dX7_copyFrom_33 : decode cX7_copyFrom 33 = .ok (.istore_n 2, 1) := by decide +kernel
theorem dX7_copyFrom_34 : decode cX7_copyFrom 34 = .ok (.iload_n 2, 1) := by decide +kernel
theorem dX7_copyFrom_35 : decode cX7_copyFrom 35 = .ok (.bipush 6, 2) := by decide +kernel
theorem dX7_copyFrom_37 : decode cX7_copyFrom 37 = .ok (.if_icmp .ge 45, 3) := by decide +kernel
theorem dX7_copyFrom_40 : decode cX7_copyFrom 40 = .ok (.aload_n 0, 1) := by decide +kernel
theorem dX7_copyFrom_41 : decode cX7_copyFrom 41 = .ok (.getfield 9, 3) := by decide +kernel
theorem dX7_copyFrom_44 : decode cX7_copyFrom 44 = .ok (.iload_n 2, 1) := by decide +kernel
theorem dX7_copyFrom_45 : decode cX7_copyFrom 45 = .ok (.aload_n 1, 1) := by decide +kernel
theorem dX7_copyFrom_46 : decode cX7_copyFrom 46 = .ok (.getfield 9, 3) := by decide +kernel
theorem dX7_copyFrom_49 : decode cX7_copyFrom 49 = .ok (.iload_n 2, 1) := by decide +kernel
theorem dX7_copyFrom_50 : decode cX7_copyFrom 50 = .ok (.iaload, 1) := by decide +kernel
theorem dX7_copyFrom_51 : decode cX7_copyFrom 51 = .ok (.iastore, 1) := by decide +kernel
theorem dX7_copyFrom_52 : decode cX7_copyFrom 52 = .ok (.aload_n 0, 1) := by decide +kernel
theorem dX7_copyFrom_53 : decode cX7_copyFrom 53 = .ok (.getfield 15, 3) := by decide +kernel
theorem dX7_copyFrom_56 : decode cX7_copyFrom 56 = .ok (.iload_n 2, 1) := by decide +kernel
theorem dX7_copyFrom_57 : decode cX7_copyFrom 57 = .ok (.aload_n 1, 1) := by decide +kernel
theorem dX7_copyFrom_58 : decode cX7_copyFrom 58 = .ok (.getfield 15, 3) := by decide +kernel
theorem dX7_copyFrom_61 : decode cX7_copyFrom 61 = .ok (.iload_n 2, 1) := by decide +kernel
theorem dX7_copyFrom_62 : decode cX7_copyFrom 62 = .ok (.iaload, 1) := by decide +kernel
theorem dX7_copyFrom_63 : decode cX7_copyFrom 63 = .ok (.iastore, 1) := by decide +kernel
theorem dX7_copyFrom_64 : decode cX7_copyFrom 64 = .ok (.aload_n 0, 1) := by decide +kernel
theorem dX7_copyFrom_65 : decode cX7_copyFrom 65 = .ok (.getfield 18, 3) := by decide +kernel
theorem dX7_copyFrom_68 : decode cX7_copyFrom 68 = .ok (.iload_n 2, 1) := by decide +kernel
theorem dX7_copyFrom_69 : decode cX7_copyFrom 69 = .ok (.aload_n 1, 1) := by decide +kernel
theorem dX7_copyFrom_70 : decode cX7_copyFrom 70 = .ok (.getfield 18, 3) := by decide +kernel
theorem dX7_copyFrom_73 : decode cX7_copyFrom 73 = .ok (.iload_n 2, 1) := by decide +kernel
theorem dX7_copyFrom_74 : decode cX7_copyFrom 74 = .ok (.iaload, 1) := by decide +kernel
theorem dX7_copyFrom_75 : decode cX7_copyFrom 75 = .ok (.iastore, 1) := by decide +kernel
theorem dX7_copyFrom_76 : decode cX7_copyFrom 76 = .ok (.iinc 2 1, 3) := by decide +kernel
theorem dX7_copyFrom_79 : decode cX7_copyFrom 79 = .ok (.goto (-45), 3) := by decide +kernel
theorem dX7_copyFrom_82 : decode cX7_copyFrom 82 = .ok (.iconst 0, 1) := by decide +kernel
theorem dX7_copyFrom_83 : decode cX7_copyFrom 83 = .ok (.istore_n 2, 1) := by decide +kernel
theorem dX7_copyFrom_84 : decode cX7_copyFrom 84 = .ok (.iload_n 2, 1) := by decide +kernel
theorem dX7_copyFrom_85 : decode cX7_copyFrom 85 = .ok (.iconst 5, 1) := by decide +kernel
theorem dX7_copyFrom_86 : decode cX7_copyFrom 86 = .ok (.if_icmp .ge 33, 3) := by decide +kernel
theorem dX7_copyFrom_89 : decode cX7_copyFrom 89 = .ok (.aload_n 0, 1) := by decide +kernel
theorem dX7_copyFrom_90 : decode cX7_copyFrom 90 = .ok (.getfield 21, 3) := by decide +kernel
theorem dX7_copyFrom_93 : decode cX7_copyFrom 93 = .ok (.iload_n 2, 1) := by decide +kernel
theorem dX7_copyFrom_94 : decode cX7_copyFrom 94 = .ok (.aload_n 1, 1) := by decide +kernel
theorem dX7_copyFrom_95 : decode cX7_copyFrom 95 = .ok (.getfield 21, 3) := by decide +kernel
theorem dX7_copyFrom_98 : decode cX7_copyFrom 98 = .ok (.iload_n 2, 1) := by decide +kernel
theorem dX7_copyFrom_99 : decode cX7_copyFrom 99 = .ok (.iaload, 1) := by decide +kernel
theorem dX7_copyFrom_100 : decode cX7_copyFrom 100 = .ok (.iastore, 1) := by decide +kernel
theorem dX7_copyFrom_101 : decode cX7_copyFrom 101 = .ok (.aload_n 0, 1) := by decide +kernel
theorem dX7_copyFrom_102 : decode cX7_copyFrom 102 = .ok (.getfield 24, 3) := by decide +kernel
theorem dX7_copyFrom_105 : decode cX7_copyFrom 105 = .ok (.iload_n 2, 1) := by decide +kernel
theorem dX7_copyFrom_106 : decode cX7_copyFrom 106 = .ok (.aload_n 1, 1) := by decide +kernel
theorem dX7_copyFrom_107 : decode cX7_copyFrom 107 = .ok (.getfield 24, 3) := by decide +kernel
theorem dX7_copyFrom_110 : decode cX7_copyFrom 110 = .ok (.iload_n 2, 1) := by decide +kernel
theorem dX7_copyFrom_111 : decode cX7_copyFrom 111 = .ok (.iaload, 1) := by decide +kernel
theorem dX7_copyFrom_112 : decode cX7_copyFrom 112 = .ok (.iastore, 1) := by decide +kernel
theorem dX7_copyFrom_113 : decode cX7_copyFrom 113 = .ok (.iinc 2 1, 3) := by decide +kernel
theorem dX7_copyFrom_116 : decode cX7_copyFrom 116 = .ok (.goto (-32), 3) := by decide +kernel
theorem dX7_copyFrom_119 : decode cX7_copyFrom 119 = .ok (.return_, 1) := by decide +kernel
theorem dX8_init_0 : decode cX8_init 0 = .ok (.aload_n 0, 1) := by decide +kernel
theorem dX8_init_1 : decode cX8_init 1 = .ok (.invokespecial 3, 3) := by decide +kernel
theorem dX8_init_4 : decode cX8_init 4 = .ok (.return_, 1) := by decide +kernel
theorem dX8_search_0 : decode cX8_search 0 = .ok (.aload_n 0, 1) := by decide +kernel
theorem dX8_search_1 : decode cX8_search 1 = .ok (.ldc 9, 2) := by decide +kernel
theorem dX8_search_3 : decode cX8_search 3 = .ok (.putfield 10, 3) := by decide +kernel
theorem dX8_search_6 : decode cX8_search 6 = .ok (.aload_n 0, 1) := by decide +kernel
theorem dX8_search_7 : decode cX8_search 7 = .ok (.iconst 0, 1) := by decide +kernel
theorem dX8_search_8 : decode cX8_search 8 = .ok (.putfield 16, 3) := by decide +kernel
theorem dX8_search_11 : decode cX8_search 11 = .ok (.aload_n 0, 1) := by decide +kernel
theorem dX8_search_12 : decode cX8_search 12 = .ok (.aload_n 1, 1) := by decide +kernel
theorem dX8_search_13 : decode cX8_search 13 = .ok (.iload_n 2, 1) := by decide +kernel
theorem dX8_search_14 : decode cX8_search 14 = .ok (.aload_n 1, 1) := by decide +kernel
theorem dX8_search_15 : decode cX8_search 15 = .ok (.iload_n 2, 1) := by decide +kernel
theorem dX8_search_16 : decode cX8_search 16 = .ok (.invokevirtual 19, 3) := by decide +kernel
theorem dX8_search_19 : decode cX8_search 19 = .ok (.aload_n 1, 1) := by decide +kernel
theorem dX8_search_20 : decode cX8_search 20 = .ok (.getfield 25, 3) := by decide +kernel
theorem dX8_search_23 : decode cX8_search 23 = .ok (.getfield 29, 3) := by decide +kernel
theorem dX8_search_26 : decode cX8_search 26 = .ok (.iload_n 2, 1) := by decide +kernel
theorem dX8_search_27 : decode cX8_search 27 = .ok (.iaload, 1) := by decide +kernel
theorem dX8_search_28 : decode cX8_search 28 = .ok (.iconst 0, 1) := by decide +kernel
theorem dX8_search_29 : decode cX8_search 29 = .ok (.iconst 0, 1) := by decide +kernel
theorem dX8_search_30 : decode cX8_search 30 = .ok (.invokevirtual 35, 3) := by decide +kernel
theorem dX8_search_33 : decode cX8_search 33 = .ok (.return_, 1) := by decide +kernel
theorem dX8_putDownNext_0 : decode cX8_putDownNext 0 = .ok (.iload_n 3, 1) := by decide +kernel
theorem dX8_putDownNext_1 : decode cX8_putDownNext 1 = .ok (.ifCond .eq 10, 3) := by decide +kernel
theorem dX8_putDownNext_4 : decode cX8_putDownNext 4 = .ok (.iload 6, 2) := by decide +kernel
theorem dX8_putDownNext_6 : decode cX8_putDownNext 6 = .ok (.bipush 6, 2) := by decide +kernel
theorem dX8_putDownNext_8 : decode cX8_putDownNext 8 = .ok (.if_icmp .lt 25, 3) := by decide +kernel
theorem dX8_putDownNext_11 : decode cX8_putDownNext 11 = .ok (.iload 4, 2) := by decide +kernel
theorem dX8_putDownNext_13 : decode cX8_putDownNext 13 = .ok (.aload_n 0, 1) := by decide +kernel
theorem dX8_putDownNext_14 : decode cX8_putDownNext 14 = .ok (.getfield 10, 3) := by decide +kernel
theorem dX8_putDownNext_17 : decode cX8_putDownNext 17 = .ok (.if_icmp .ge 15, 3) := by decide +kernel
theorem dX8_putDownNext_20 : decode cX8_putDownNext 20 = .ok (.aload_n 0, 1) := by decide +kernel
theorem dX8_putDownNext_21 : decode cX8_putDownNext 21 = .ok (.iload 4, 2) := by decide +kernel
theorem dX8_putDownNext_23 : decode cX8_putDownNext 23 = .ok (.putfield 10, 3) := by decide +kernel
theorem dX8_putDownNext_26 : decode cX8_putDownNext 26 = .ok (.aload_n 0, 1) := by decide +kernel
theorem dX8_putDownNext_27 : decode cX8_putDownNext 27 = .ok (.iload 5, 2) := by decide +kernel
theorem dX8_putDownNext_29 : decode cX8_putDownNext 29 = .ok (.putfield 16, 3) := by decide +kernel
theorem dX8_putDownNext_32 : decode cX8_putDownNext 32 = .ok (.return_, 1) := by decide +kernel
theorem dX8_putDownNext_33 : decode cX8_putDownNext 33 = .ok (.iconst 0, 1) := by decide +kernel
theorem dX8_putDownNext_34 : decode cX8_putDownNext 34 = .ok (.istore 7, 2) := by decide +kernel
theorem dX8_putDownNext_36 : decode cX8_putDownNext 36 = .ok (.iload 7, 2) := by decide +kernel
theorem dX8_putDownNext_38 : decode cX8_putDownNext 38 = .ok (.aload_n 1, 1) := by decide +kernel
theorem dX8_putDownNext_39 : decode cX8_putDownNext 39 = .ok (.getfield 39, 3) := by decide +kernel
theorem dX8_putDownNext_42 : decode cX8_putDownNext 42 = .ok (.getfield 43, 3) := by decide +kernel
theorem dX8_putDownNext_45 : decode cX8_putDownNext 45 = .ok (.if_icmp .ge 73, 3) := by decide +kernel
theorem dX8_putDownNext_48 : decode cX8_putDownNext 48 = .ok (.iload_n 3, 1) := by decide +kernel
theorem dX8_putDownNext_49 : decode cX8_putDownNext 49 = .ok (.iload 7, 2) := by decide +kernel
theorem dX8_putDownNext_51 : decode cX8_putDownNext 51 = .ok (.invokestatic 48, 3) := by decide +kernel
theorem dX8_putDownNext_54 : decode cX8_putDownNext 54 = .ok (.ifCond .eq 58, 3) := by decide +kernel
theorem dX8_putDownNext_57 : decode cX8_putDownNext 57 = .ok (.iload_n 3, 1) := by decide +kernel
theorem dX8_putDownNext_58 : decode cX8_putDownNext 58 = .ok (.iconst 1, 1) := by decide +kernel
theorem dX8_putDownNext_59 : decode cX8_putDownNext 59 = .ok (.iload 7, 2) := by decide +kernel
theorem dX8_putDownNext_61 : decode cX8_putDownNext 61 = .ok (.ishl, 1) := by decide +kernel
theorem dX8_putDownNext_62 : decode cX8_putDownNext 62 = .ok (.iconst (-1), 1) := by decide +kernel
theorem dX8_putDownNext_63 : decode cX8_putDownNext 63 = .ok (.ixor, 1) := by decide +kernel
theorem dX8_putDownNext_64 : decode cX8_putDownNext 64 = .ok (.iand, 1) := by decide +kernel
theorem dX8_putDownNext_65 : decode cX8_putDownNext 65 = .ok (.istore 8, 2) := by decide +kernel
theorem dX8_putDownNext_67 : decode cX8_putDownNext 67 = .ok (.aload_n 1, 1) := by decide +kernel
theorem dX8_putDownNext_68 : decode cX8_putDownNext 68 = .ok (.iload_n 2, 1) := by decide +kernel
theorem dX8_putDownNext_69 : decode cX8_putDownNext 69 = .ok (.iload 4, 2) := by decide +kernel
theorem dX8_putDownNext_71 : decode cX8_putDownNext 71 = .ok (.iload 8, 2) := by decide +kernel
theorem dX8_putDownNext_73 : decode cX8_putDownNext 73 = .ok (.aload_n 1, 1) := by decide +kernel
theorem dX8_putDownNext_74 : decode cX8_putDownNext 74 = .ok (.getfield 25, 3) := by decide +kernel
theorem dX8_putDownNext_77 : decode cX8_putDownNext 77 = .ok (.getfield 52, 3) := by decide +kernel
theorem dX8_putDownNext_80 : decode cX8_putDownNext 80 = .ok (.iload 6, 2) := by decide +kernel
theorem dX8_putDownNext_82 : decode cX8_putDownNext 82 = .ok (.iadd, 1) := by decide +kernel
theorem dX8_putDownNext_83 : decode cX8_putDownNext 83 = .ok (.invokevirtual 55, 3) := by decide +kernel
theorem dX8_putDownNext_86 : decode cX8_putDownNext 86 = .ok (.istore 9, 2) := by decide +kernel
theorem dX8_putDownNext_88 : decode cX8_putDownNext 88 = .ok (.aload_n 0, 1) := by decide +kernel
theorem dX8_putDownNext_89 : decode cX8_putDownNext 89 = .ok (.aload_n 1, 1) := by decide +kernel
theorem dX8_putDownNext_90 : decode cX8_putDownNext 90 = .ok (.iload_n 2, 1) := by decide +kernel
theorem dX8_putDownNext_91 : decode cX8_putDownNext 91 = .ok (.iload 8, 2) := by decide +kernel
theorem dX8_putDownNext_93 : decode cX8_putDownNext 93 = .ok (.iload 9, 2) := by decide +kernel
theorem dX8_putDownNext_95 : decode cX8_putDownNext 95 = .ok (.iload 5, 2) := by decide +kernel
theorem dX8_putDownNext_97 : decode cX8_putDownNext 97 = .ok (.bipush 10, 2) := by decide +kernel
theorem dX8_putDownNext_99 : decode cX8_putDownNext 99 = .ok (.imul, 1) := by decide +kernel
theorem dX8_putDownNext_100 : decode cX8_putDownNext 100 = .ok (.iload 7, 2) := by decide +kernel
theorem dX8_putDownNext_102 : decode cX8_putDownNext 102 = .ok (.iadd, 1) := by decide +kernel
theorem dX8_putDownNext_103 : decode cX8_putDownNext 103 = .ok (.iconst 1, 1) := by decide +kernel
theorem dX8_putDownNext_104 : decode cX8_putDownNext 104 = .ok (.iadd, 1) := by decide +kernel
theorem dX8_putDownNext_105 : decode cX8_putDownNext 105 = .ok (.iload 6, 2) := by decide +kernel
theorem dX8_putDownNext_107 : decode cX8_putDownNext 107 = .ok (.iconst 1, 1) := by decide +kernel
theorem dX8_putDownNext_108 : decode cX8_putDownNext 108 = .ok (.iadd, 1) := by decide +kernel
theorem dX8_putDownNext_109 : decode cX8_putDownNext 109 = .ok (.invokevirtual 35, 3) := by decide +kernel
theorem dX8_putDownNext_112 : decode cX8_putDownNext 112 = .ok (.iinc 7 1, 3) := by decide +kernel
theorem dX8_putDownNext_115 : decode cX8_putDownNext 115 = .ok (.goto (-79), 3) := by decide +kernel
theorem dX8_putDownNext_118 : decode cX8_putDownNext 118 = .ok (.return_, 1) := by decide +kernel
