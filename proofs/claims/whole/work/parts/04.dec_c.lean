theorem dX10_init_0 : decode cX10_init 0 = .ok (.aload_n 0, 1) := by decide +kernel
theorem dX10_init_1 : decode cX10_init 1 = .ok (.invokespecial 1, 3) := by decide +kernel
theorem dX10_init_4 : decode cX10_init 4 = .ok (.aload_n 0, 1) := by decide +kernel
theorem dX10_init_5 : decode cX10_init 5 = .ok (.bipush 6, 2) := by decide +kernel
theorem dX10_init_7 : decode cX10_init 7 = .ok (.newarray .int, 2) := by decide +kernel
theorem dX10_init_9 : decode cX10_init 9 = .ok (.putfield 7, 3) := by decide +kernel
theorem dX10_init_12 : decode cX10_init 12 = .ok (.aload_n 0, 1) := by decide +kernel
theorem dX10_init_13 : decode cX10_init 13 = .ok (.bipush 6, 2) := by decide +kernel
theorem dX10_init_15 : decode cX10_init 15 = .ok (.newarray .int, 2) := by decide +kernel
theorem dX10_init_17 : decode cX10_init 17 = .ok (.putfield 13, 3) := by decide +kernel
theorem dX10_init_20 : decode cX10_init 20 = .ok (.aload_n 0, 1) := by decide +kernel
theorem dX10_init_21 : decode cX10_init 21 = .ok (.bipush 6, 2) := by decide +kernel
theorem dX10_init_23 : decode cX10_init 23 = .ok (.newarray .int, 2) := by decide +kernel
theorem dX10_init_25 : decode cX10_init 25 = .ok (.putfield 16, 3) := by decide +kernel
theorem dX10_init_28 : decode cX10_init 28 = .ok (.aload_n 0, 1) := by decide +kernel
theorem dX10_init_29 : decode cX10_init 29 = .ok (.iconst 5, 1) := by decide +kernel
theorem dX10_init_30 : decode cX10_init 30 = .ok (.newarray .int, 2) := by decide +kernel
theorem dX10_init_32 : decode cX10_init 32 = .ok (.putfield 19, 3) := by decide +kernel
theorem dX10_init_35 : decode cX10_init 35 = .ok (.aload_n 0, 1) := by decide +kernel
theorem dX10_init_36 : decode cX10_init 36 = .ok (.iconst 5, 1) := by decide +kernel
theorem dX10_init_37 : decode cX10_init 37 = .ok (.newarray .int, 2) := by decide +kernel
theorem dX10_init_39 : decode cX10_init 39 = .ok (.putfield 22, 3) := by decide +kernel
theorem dX10_init_42 : decode cX10_init 42 = .ok (.aload_n 0, 1) := by decide +kernel
theorem dX10_init_43 : decode cX10_init 43 = .ok (.bipush 31, 2) := by decide +kernel
theorem dX10_init_45 : decode cX10_init 45 = .ok (.newarray .int, 2) := by decide +kernel
theorem dX10_init_47 : decode cX10_init 47 = .ok (.putfield 25, 3) := by decide +kernel
theorem dX10_init_50 : decode cX10_init 50 = .ok (.aload_n 0, 1) := by decide +kernel
theorem dX10_init_51 : decode cX10_init 51 = .ok (.sipush 240, 3) := by decide +kernel
theorem dX10_init_54 : decode cX10_init 54 = .ok (.newarray .int, 2) := by decide +kernel
theorem dX10_init_56 : decode cX10_init 56 = .ok (.putfield 28, 3) := by decide +kernel
theorem dX10_init_59 : decode cX10_init 59 = .ok (.aload_n 0, 1) := by decide +kernel
theorem dX10_init_60 : decode cX10_init 60 = .ok (.iconst (-1), 1) := by decide +kernel
theorem dX10_init_61 : decode cX10_init 61 = .ok (.putfield 31, 3) := by decide +kernel
theorem dX10_init_64 : decode cX10_init 64 = .ok (.aload_n 0, 1) := by decide +kernel
theorem dX10_init_65 : decode cX10_init 65 = .ok (.bipush 6, 2) := by decide +kernel
theorem dX10_init_67 : decode cX10_init 67 = .ok (.newarray .int, 2) := by decide +kernel
theorem dX10_init_69 : decode cX10_init 69 = .ok (.putfield 35, 3) := by decide +kernel
theorem dX10_init_72 : decode cX10_init 72 = .ok (.aload_n 0, 1) := by decide +kernel
theorem dX10_init_73 : decode cX10_init 73 = .ok (.bipush 6, 2) := by decide +kernel
theorem dX10_init_75 : decode cX10_init 75 = .ok (.newarray .int, 2) := by decide +kernel
theorem dX10_init_77 : decode cX10_init 77 = .ok (.putfield 38, 3) := by decide +kernel
theorem dX10_init_80 : decode cX10_init 80 = .ok (.aload_n 0, 1) := by decide +kernel
theorem dX10_init_81 : decode cX10_init 81 = .ok (.bipush 6, 2) := by decide +kernel
theorem dX10_init_83 : decode cX10_init 83 = .ok (.newarray .int, 2) := by decide +kernel
theorem dX10_init_85 : decode cX10_init 85 = .ok (.putfield 41, 3) := by decide +kernel
theorem dX10_init_88 : decode cX10_init 88 = .ok (.aload_n 0, 1) := by decide +kernel
theorem dX10_init_89 : decode cX10_init 89 = .ok (.iconst 5, 1) := by decide +kernel
theorem dX10_init_90 : decode cX10_init 90 = .ok (.newarray .int, 2) := by decide +kernel
theorem dX10_init_92 : decode cX10_init 92 = .ok (.putfield 44, 3) := by decide +kernel
theorem dX10_init_95 : decode cX10_init 95 = .ok (.aload_n 0, 1) := by decide +kernel
theorem dX10_init_96 : decode cX10_init 96 = .ok (.iconst 5, 1) := by decide +kernel
theorem dX10_init_97 : decode cX10_init 97 = .ok (.newarray .int, 2) := by decide +kernel
theorem dX10_init_99 : decode cX10_init 99 = .ok (.putfield 47, 3) := by decide +kernel
theorem dX10_init_102 : decode cX10_init 102 = .ok (.aload_n 0, 1) := by decide +kernel
theorem dX10_init_103 : decode cX10_init 103 = .ok (.sipush 496, 3) := by decide +kernel
theorem dX10_init_106 : decode cX10_init 106 = .ok (.newarray .int, 2) := by decide +kernel
theorem dX10_init_108 : decode cX10_init 108 = .ok (.putfield 50, 3) := by decide +kernel
theorem dX10_init_111 : decode cX10_init 111 = .ok (.aload_n 0, 1) := by decide +kernel
theorem dX10_init_112 : decode cX10_init 112 = .ok (.bipush 31, 2) := by decide +kernel
theorem dX10_init_114 : decode cX10_init 114 = .ok (.newarray .int, 2) := by decide +kernel
theorem dX10_init_116 : decode cX10_init 116 = .ok (.putfield 53, 3) := by decide +kernel
theorem dX10_init_119 : decode cX10_init 119 = .ok (.aload_n 0, 1) := by decide +kernel
theorem dX10_init_120 : decode cX10_init 120 = .ok (.bipush 6, 2) := by decide +kernel
theorem dX10_init_122 : decode cX10_init 122 = .ok (.newarray .int, 2) := by decide +kernel
theorem dX10_init_124 : decode cX10_init 124 = .ok (.putfield 56, 3) := by decide +kernel
theorem dX10_init_127 : decode cX10_init 127 = .ok (.aload_n 0, 1) := by decide +kernel
theorem dX10_init_128 : decode cX10_init 128 = .ok (.bipush 6, 2) := by decide +kernel
theorem dX10_init_130 : decode cX10_init 130 = .ok (.newarray .int, 2) := by decide +kernel
theorem dX10_init_132 : decode cX10_init 132 = .ok (.putfield 59, 3) := by decide +kernel
theorem dX10_init_135 : decode cX10_init 135 = .ok (.aload_n 0, 1) := by decide +kernel
theorem dX10_init_136 : decode cX10_init 136 = .ok (.bipush 6, 2) := by decide +kernel
theorem dX10_init_138 : decode cX10_init 138 = .ok (.newarray .int, 2) := by decide +kernel
theorem dX10_init_140 : decode cX10_init 140 = .ok (.putfield 62, 3) := by decide +kernel
theorem dX10_init_143 : decode cX10_init 143 = .ok (.aload_n 0, 1) := by decide +kernel
theorem dX10_init_144 : decode cX10_init 144 = .ok (.bipush 6, 2) := by decide +kernel
theorem dX10_init_146 : decode cX10_init 146 = .ok (.newarray .int, 2) := by decide +kernel
theorem dX10_init_148 : decode cX10_init 148 = .ok (.putfield 65, 3) := by decide +kernel
theorem dX10_init_151 : decode cX10_init 151 = .ok (.aload_n 0, 1) := by decide +kernel
theorem dX10_init_152 : decode cX10_init 152 = .ok (.bipush 80, 2) := by decide +kernel
theorem dX10_init_154 : decode cX10_init 154 = .ok (.newarray .int, 2) := by decide +kernel
theorem dX10_init_156 : decode cX10_init 156 = .ok (.putfield 68, 3) := by decide +kernel
theorem dX10_init_159 : decode cX10_init 159 = .ok (.aload_n 0, 1) := by decide +kernel
theorem dX10_init_160 : decode cX10_init 160 = .ok (.bipush 15, 2) := by decide +kernel
theorem dX10_init_162 : decode cX10_init 162 = .ok (.newarray .int, 2) := by decide +kernel
theorem dX10_init_164 : decode cX10_init 164 = .ok (.putfield 71, 3) := by decide +kernel
theorem dX10_init_167 : decode cX10_init 167 = .ok (.aload_n 0, 1) := by decide +kernel
theorem dX10_init_168 : decode cX10_init 168 = .ok (.bipush 15, 2) := by decide +kernel
theorem dX10_init_170 : decode cX10_init 170 = .ok (.newarray .int, 2) := by decide +kernel
theorem dX10_init_172 : decode cX10_init 172 = .ok (.putfield 74, 3) := by decide +kernel
theorem dX10_init_175 : decode cX10_init 175 = .ok (.aload_n 0, 1) := by decide +kernel
theorem dX10_init_176 : decode cX10_init 176 = .ok (.bipush 64, 2) := by decide +kernel
theorem dX10_init_178 : decode cX10_init 178 = .ok (.newarray .int, 2) := by decide +kernel
theorem dX10_init_180 : decode cX10_init 180 = .ok (.putfield 77, 3) := by decide +kernel
theorem dX10_init_183 : decode cX10_init 183 = .ok (.aload_n 0, 1) := by decide +kernel
theorem dX10_init_184 : decode cX10_init 184 = .ok (.iconst 2, 1) := by decide +kernel
theorem dX10_init_185 : decode cX10_init 185 = .ok (.newarray .boolean, 2) := by decide +kernel
theorem dX10_init_187 : decode cX10_init 187 = .ok (.putfield 80, 3) := by decide +kernel
theorem dX10_init_190 : decode cX10_init 190 = .ok (.aload_n 0, 1) := by decide +kernel
theorem dX10_init_191 : decode cX10_init 191 = .ok (.iconst 0, 1) := by decide +kernel
theorem dX10_init_192 : decode cX10_init 192 = .ok (.putfield 84, 3) := by decide +kernel
theorem dX10_init_195 : decode cX10_init 195 = .ok (.return_, 1) := by decide +kernel
theorem dX10_in_0 : decode cX10_in 0 = .ok (.lload_n 0, 1) := by decide +kernel
theorem dX10_in_1 : decode cX10_in 1 = .ok (.lload_n 2, 1) := by decide +kernel
theorem dX10_in_2 : decode cX10_in 2 = .ok (.lcmp, 1) := by decide +kernel
theorem dX10_in_3 : decode cX10_in 3 = .ok (.ifCond .lt 14, 3) := by decide +kernel
theorem dX10_in_6 : decode cX10_in 6 = .ok (.lload_n 0, 1) := by decide +kernel
theorem dX10_in_7 : decode cX10_in 7 = .ok (.lload 4, 2) := by decide +kernel
theorem dX10_in_9 : decode cX10_in 9 = .ok (.lcmp, 1) := by decide +kernel
theorem dX10_in_10 : decode cX10_in 10 = .ok (.ifCond .gt 7, 3) := by decide +kernel
theorem dX10_in_13 : decode cX10_in 13 = .ok (.iconst 1, 1) := by decide +kernel
theorem dX10_in_14 : decode cX10_in 14 = .ok (.goto 4, 3) := by decide +kernel
theorem dX10_in_17 : decode cX10_in 17 = .ok (.iconst 0, 1) := by decide +kernel
theorem dX10_in_18 : decode cX10_in 18 = .ok (.ireturn, 1) := by decide +kernel
theorem dX10_isBurden_0 : decode cX10_isBurden 0 = .ok (.iload_n 1, 1) := by decide +kernel
theorem dX10_isBurden_1 : decode cX10_isBurden 1 = .ok (.i2l, 1) := by decide +kernel
theorem dX10_isBurden_2 : decode cX10_isBurden 2 = .ok (.lconst 0, 1) := by decide +kernel
theorem dX10_isBurden_3 : decode cX10_isBurden 3 = .ok (.aload_n 0, 1) := by decide +kernel
theorem dX10_isBurden_4 : decode cX10_isBurden 4 = .ok (.getfield 88, 3) := by decide +kernel
theorem dX10_isBurden_7 : decode cX10_isBurden 7 = .ok (.iconst 1, 1) := by decide +kernel
theorem dX10_isBurden_8 : decode cX10_isBurden 8 = .ok (.isub, 1) := by decide +kernel
theorem dX10_isBurden_9 : decode cX10_isBurden 9 = .ok (.i2l, 1) := by decide +kernel
theorem dX10_isBurden_10 : decode cX10_isBurden 10 = .ok (.invokestatic 91, 3) := by decide +kernel
theorem dX10_isBurden_13 : decode cX10_isBurden 13 = .ok (.ireturn, 1) := by decide +kernel
theorem dX10_isBack_0 : decode cX10_isBack 0 = .ok (.iload_n 1, 1) := by decide +kernel
theorem dX10_isBack_1 : decode cX10_isBack 1 = .ok (.i2l, 1) := by decide +kernel
theorem dX10_isBack_2 : decode cX10_isBack 2 = .ok (.lconst 0, 1) := by decide +kernel
theorem dX10_isBack_3 : decode cX10_isBack 3 = .ok (.aload_n 0, 1) := by decide +kernel
theorem dX10_isBack_4 : decode cX10_isBack 4 = .ok (.getfield 95, 3) := by decide +kernel
theorem dX10_isBack_7 : decode cX10_isBack 7 = .ok (.iconst 1, 1) := by decide +kernel
theorem dX10_isBack_8 : decode cX10_isBack 8 = .ok (.isub, 1) := by decide +kernel
theorem dX10_isBack_9 : decode cX10_isBack 9 = .ok (.i2l, 1) := by decide +kernel
theorem dX10_isBack_10 : decode cX10_isBack 10 = .ok (.invokestatic 91, 3) := by decide +kernel
theorem dX10_isBack_13 : decode cX10_isBack 13 = .ok (.ireturn, 1) := by decide +kernel
theorem dX10_feed_0 : decode cX10_feed 0 = .ok (.iload_n 1, 1) := by decide +kernel
theorem dX10_feed_1 : decode cX10_feed 1 = .ok (.i2l, 1) := by decide +kernel
theorem dX10_feed_2 : decode cX10_feed 2 = .ok (.lconst 0, 1) := by decide +kernel
theorem dX10_feed_3 : decode cX10_feed 3 = .ok (.ldc2_w 98, 3) := by decide +kernel
theorem dX10_feed_6 : decode cX10_feed 6 = .ok (.invokestatic 91, 3) := by decide +kernel
theorem dX10_feed_9 : decode cX10_feed 9 = .ok (.ifCond .ne 6, 3) := by decide +kernel
theorem dX10_feed_12 : decode cX10_feed 12 = .ok (.ldc 100, 2) := by decide +kernel
theorem dX10_feed_14 : decode cX10_feed 14 = .ok (.ireturn, 1) := by decide +kernel
theorem dX10_feed_15 : decode cX10_feed 15 = .ok (.aload_n 0, 1) := by decide +kernel
theorem dX10_feed_16 : decode cX10_feed 16 = .ok (.getfield 101, 3) := by decide +kernel
theorem dX10_feed_19 : decode cX10_feed 19 = .ok (.sipush 240, 3) := by decide +kernel
theorem dX10_feed_22 : decode cX10_feed 22 = .ok (.if_icmp .ne 6, 3) := by decide +kernel
theorem dX10_feed_25 : decode cX10_feed 25 = .ok (.ldc 104, 2) := by decide +kernel
theorem dX10_feed_27 : decode cX10_feed 27 = .ok (.ireturn, 1) := by decide +kernel
theorem dX10_feed_28 : decode cX10_feed 28 = .ok (.aload_n 0, 1) := by decide +kernel
theorem dX10_feed_29 : decode cX10_feed 29 = .ok (.getfield 28, 3) := by decide +kernel
theorem dX10_feed_32 : decode cX10_feed 32 = .ok (.aload_n 0, 1) := by decide +kernel
theorem dX10_feed_33 : decode cX10_feed 33 = .ok (.getfield 101, 3) := by decide +kernel
theorem dX10_feed_36 : decode cX10_feed 36 = .ok (.iload_n 1, 1) := by decide +kernel
theorem dX10_feed_37 : decode cX10_feed 37 = .ok (.iastore, 1) := by decide +kernel
theorem dX10_feed_38 : decode cX10_feed 38 = .ok (.aload_n 0, 1) := by decide +kernel
theorem dX10_feed_39 : decode cX10_feed 39 = .ok (.dup, 1) := by decide +kernel
theorem dX10_feed_40 : decode cX10_feed 40 = .ok (.getfield 101, 3) := by decide +kernel
theorem dX10_feed_43 : decode cX10_feed 43 = .ok (.iconst 1, 1) := by decide +kernel
theorem dX10_feed_44 : decode cX10_feed 44 = .ok (.iadd, 1) := by decide +kernel
theorem dX10_feed_45 : decode cX10_feed 45 = .ok (.putfield 101, 3) := by decide +kernel
theorem dX10_feed_48 : decode cX10_feed 48 = .ok (.aload_n 0, 1) := by decide +kernel
theorem dX10_feed_49 : decode cX10_feed 49 = .ok (.getfield 101, 3) := by decide +kernel
theorem dX10_feed_52 : decode cX10_feed 52 = .ok (.ireturn, 1) := by decide +kernel
theorem dX10_here_0 : decode cX10_here 0 = .ok (.aload_n 0, 1) := by decide +kernel
theorem dX10_here_1 : decode cX10_here 1 = .ok (.getfield 105, 3) := by decide +kernel
theorem dX10_here_4 : decode cX10_here 4 = .ok (.aload_n 0, 1) := by decide +kernel
theorem dX10_here_5 : decode cX10_here 5 = .ok (.getfield 101, 3) := by decide +kernel
theorem dX10_here_8 : decode cX10_here 8 = .ok (.if_icmp .ge 30, 3) := by decide +kernel
theorem dX10_here_11 : decode cX10_here 11 = .ok (.aload_n 0, 1) := by decide +kernel
theorem dX10_here_12 : decode cX10_here 12 = .ok (.getfield 28, 3) := by decide +kernel
theorem dX10_here_15 : decode cX10_here 15 = .ok (.aload_n 0, 1) := by decide +kernel
theorem dX10_here_16 : decode cX10_here 16 = .ok (.getfield 105, 3) := by decide +kernel
theorem dX10_here_19 : decode cX10_here 19 = .ok (.iaload, 1) := by decide +kernel
theorem dX10_here_20 : decode cX10_here 20 = .ok (.bipush 32, 2) := by decide +kernel
theorem dX10_here_22 : decode cX10_here 22 = .ok (.if_icmp .ne 16, 3) := by decide +kernel
theorem dX10_here_25 : decode cX10_here 25 = .ok (.aload_n 0, 1) := by decide +kernel
theorem dX10_here_26 : decode cX10_here 26 = .ok (.dup, 1) := by decide +kernel
theorem dX10_here_27 : decode cX10_here 27 = .ok (.getfield 105, 3) := by decide +kernel
theorem dX10_here_30 : decode cX10_here 30 = .ok (.iconst 1, 1) := by decide +kernel
theorem dX10_here_31 : decode cX10_here 31 = .ok (.iadd, 1) := by decide +kernel
theorem dX10_here_32 : decode cX10_here 32 = .ok (.putfield 105, 3) := by decide +kernel
theorem dX10_here_35 : decode cX10_here 35 = .ok (.goto (-35), 3) := by decide +kernel
theorem dX10_here_38 : decode cX10_here 38 = .ok (.aload_n 0, 1) := by decide +kernel
theorem dX10_here_39 : decode cX10_here 39 = .ok (.getfield 105, 3) := by decide +kernel
theorem dX10_here_42 : decode cX10_here 42 = .ok (.aload_n 0, 1) := by decide +kernel
theorem dX10_here_43 : decode cX10_here 43 = .ok (.getfield 101, 3) := by decide +kernel
theorem dX10_here_46 : decode cX10_here 46 = .ok (.if_icmp .ge 15, 3) := by decide +kernel
theorem dX10_here_49 : decode cX10_here 49 = .ok (.aload_n 0, 1) := by decide +kernel
theorem dX10_here_50 : decode cX10_here 50 = .ok (.getfield 28, 3) := by decide +kernel
theorem dX10_here_53 : decode cX10_here 53 = .ok (.aload_n 0, 1) := by decide +kernel
theorem dX10_here_54 : decode cX10_here 54 = .ok (.getfield 105, 3) := by decide +kernel
theorem dX10_here_57 : decode cX10_here 57 = .ok (.iaload, 1) := by decide +kernel
theorem dX10_here_58 : decode cX10_here 58 = .ok (.goto 4, 3) := by decide +kernel
theorem dX10_here_61 : decode cX10_here 61 = .ok (.iconst (-1), 1) := by decide +kernel
theorem dX10_here_62 : decode cX10_here 62 = .ok (.ireturn, 1) := by decide +kernel
theorem dX10_fails_0 : decode cX10_fails 0 = .ok (.aload_n 0, 1) := by decide +kernel
theorem dX10_fails_1 : decode cX10_fails 1 = .ok (.iload_n 2, 1) := by decide +kernel
theorem dX10_fails_2 : decode cX10_fails 2 = .ok (.putfield 31, 3) := by decide +kernel
theorem dX10_fails_5 : decode cX10_fails 5 = .ok (.iload_n 1, 1) := by decide +kernel
theorem dX10_fails_6 : decode cX10_fails 6 = .ok (.ireturn, 1) := by decide +kernel
theorem dX10_takeNumber_0 : decode cX10_takeNumber 0 = .ok (.aload_n 0, 1) := by decide +kernel
theorem dX10_takeNumber_1 : decode cX10_takeNumber 1 = .ok (.invokevirtual 108, 3) := by decide +kernel
theorem dX10_takeNumber_4 : decode cX10_takeNumber 4 = .ok (.istore_n 3, 1) := by decide +kernel
theorem dX10_takeNumber_5 : decode cX10_takeNumber 5 = .ok (.iload_n 3, 1) := by decide +kernel
theorem dX10_takeNumber_6 : decode cX10_takeNumber 6 = .ok (.i2l, 1) := by decide +kernel
theorem dX10_takeNumber_7 : decode cX10_takeNumber 7 = .ok (.ldc2_w 112, 3) := by decide +kernel
theorem dX10_takeNumber_10 : decode cX10_takeNumber 10 = .ok (.ldc2_w 114, 3) := by decide +kernel
theorem dX10_takeNumber_13 : decode cX10_takeNumber 13 = .ok (.invokestatic 91, 3) := by decide +kernel
theorem dX10_takeNumber_16 : decode cX10_takeNumber 16 = .ok (.ifCond .ne 13, 3) := by decide +kernel
theorem dX10_takeNumber_19 : decode cX10_takeNumber 19 = .ok (.aload_n 0, 1) := by decide +kernel
theorem dX10_takeNumber_20 : decode cX10_takeNumber 20 = .ok (.iconst 1, 1) := by decide +kernel
theorem dX10_takeNumber_21 : decode cX10_takeNumber 21 = .ok (.aload_n 0, 1) := by decide +kernel
theorem dX10_takeNumber_22 : decode cX10_takeNumber 22 = .ok (.getfield 105, 3) := by decide +kernel
theorem dX10_takeNumber_25 : decode cX10_takeNumber 25 = .ok (.invokevirtual 116, 3) := by decide +kernel
theorem dX10_takeNumber_28 : decode cX10_takeNumber 28 = .ok (.ireturn, 1) := by decide +kernel
theorem dX10_takeNumber_29 : decode cX10_takeNumber 29 = .ok (.aload_n 0, 1) := by decide +kernel
theorem dX10_takeNumber_30 : decode cX10_takeNumber 30 = .ok (.aload_n 0, 1) := by decide +kernel
theorem dX10_takeNumber_31 : decode cX10_takeNumber 31 = .ok (.getfield 105, 3) := by decide +kernel
theorem dX10_takeNumber_34 : decode cX10_takeNumber 34 = .ok (.putfield 120, 3) := by decide +kernel
theorem dX10_takeNumber_37 : decode cX10_takeNumber 37 = .ok (.aload_n 0, 1) := by decide +kernel
theorem dX10_takeNumber_38 : decode cX10_takeNumber 38 = .ok (.iconst 0, 1) := by decide +kernel
theorem dX10_takeNumber_39 : decode cX10_takeNumber 39 = .ok (.putfield 123, 3) := by decide +kernel
theorem dX10_takeNumber_42 : decode cX10_takeNumber 42 = .ok (.aload_n 0, 1) := by decide +kernel
theorem dX10_takeNumber_43 : decode cX10_takeNumber 43 = .ok (.getfield 105, 3) := by decide +kernel
theorem dX10_takeNumber_46 : decode cX10_takeNumber 46 = .ok (.aload_n 0, 1) := by decide +kernel
theorem dX10_takeNumber_47 : decode cX10_takeNumber 47 = .ok (.getfield 101, 3) := by decide +kernel
theorem dX10_takeNumber_50 : decode cX10_takeNumber 50 = .ok (.if_icmp .ge 79, 3) := by decide +kernel
theorem dX10_takeNumber_53 : decode cX10_takeNumber 53 = .ok (.aload_n 0, 1) := by decide +kernel
theorem dX10_takeNumber_54 : decode cX10_takeNumber 54 = .ok (.getfield 28, 3) := by decide +kernel
theorem dX10_takeNumber_57 : decode cX10_takeNumber 57 = .ok (.aload_n 0, 1) := by decide +kernel
theorem dX10_takeNumber_58 : decode cX10_takeNumber 58 = .ok (.getfield 105, 3) := by decide +kernel
theorem dX10_takeNumber_61 : decode cX10_takeNumber 61 = .ok (.iaload, 1) := by decide +kernel
theorem dX10_takeNumber_62 : decode cX10_takeNumber 62 = .ok (.i2l, 1) := by decide +kernel
theorem dX10_takeNumber_63 : decode cX10_takeNumber 63 = .ok (.ldc2_w 112, 3) := by decide +kernel
theorem dX10_takeNumber_66 : decode cX10_takeNumber 66 = .ok (.ldc2_w 114, 3) := by decide +kernel
theorem dX10_takeNumber_69 : decode cX10_takeNumber 69 = .ok (.invokestatic 91, 3) := by decide +kernel
theorem dX10_takeNumber_72 : decode cX10_takeNumber 72 = .ok (.ifCond .eq 57, 3) := by decide +kernel
theorem dX10_takeNumber_75 : decode cX10_takeNumber 75 = .ok (.aload_n 0, 1) := by decide +kernel
theorem dX10_takeNumber_76 : decode cX10_takeNumber 76 = .ok (.aload_n 0, 1) := by decide +kernel
theorem dX10_takeNumber_77 : decode cX10_takeNumber 77 = .ok (.getfield 123, 3) := by decide +kernel
theorem dX10_takeNumber_80 : decode cX10_takeNumber 80 = .ok (.sipush 10000, 3) := by decide +kernel
theorem dX10_takeNumber_83 : decode cX10_takeNumber 83 = .ok (.if_icmp .le 10, 3) := by decide +kernel
theorem dX10_takeNumber_86 : decode cX10_takeNumber 86 = .ok (.aload_n 0, 1) := by decide +kernel
theorem dX10_takeNumber_87 : decode cX10_takeNumber 87 = .ok (.getfield 123, 3) := by decide +kernel
theorem dX10_takeNumber_90 : decode cX10_takeNumber 90 = .ok (.goto 23, 3) := by decide +kernel
theorem dX10_takeNumber_93 : decode cX10_takeNumber 93 = .ok (.bipush 10, 2) := by decide +kernel
theorem dX10_takeNumber_95 : decode cX10_takeNumber 95 = .ok (.aload_n 0, 1) := by decide +kernel
theorem dX10_takeNumber_96 : decode cX10_takeNumber 96 = .ok (.getfield 123, 3) := by decide +kernel
theorem dX10_takeNumber_99 : decode cX10_takeNumber 99 = .ok (.imul, 1) := by decide +kernel
theorem dX10_takeNumber_100 : decode cX10_takeNumber 100 = .ok (.aload_n 0, 1) := by decide +kernel
theorem dX10_takeNumber_101 : decode cX10_takeNumber 101 = .ok (.getfield 28, 3) := by decide +kernel
theorem dX10_takeNumber_104 : decode cX10_takeNumber 104 = .ok (.aload_n 0, 1) := by decide +kernel
theorem dX10_takeNumber_105 : decode cX10_takeNumber 105 = .ok (.getfield 105, 3) := by decide +kernel
theorem dX10_takeNumber_108 : decode cX10_takeNumber 108 = .ok (.iaload, 1) := by decide +kernel
theorem dX10_takeNumber_109 : decode cX10_takeNumber 109 = .ok (.iadd, 1) := by decide +kernel
theorem dX10_takeNumber_110 : decode cX10_takeNumber 110 = .ok (.bipush 48, 2) := by decide +kernel
theorem dX10_takeNumber_112 : decode cX10_takeNumber 112 = .ok (.isub, 1) := by decide +kernel
theorem dX10_takeNumber_113 : decode cX10_takeNumber 113 = .ok (.putfield 123, 3) := by decide +kernel
theorem dX10_takeNumber_116 : decode cX10_takeNumber 116 = .ok (.aload_n 0, 1) := by decide +kernel
theorem dX10_takeNumber_117 : decode cX10_takeNumber 117 = .ok (.dup, 1) := by decide +kernel
theorem dX10_takeNumber_118 : decode cX10_takeNumber 118 = .ok (.getfield 105, 3) := by decide +kernel
theorem dX10_takeNumber_121 : decode cX10_takeNumber 121 = .ok (.iconst 1, 1) := by decide +kernel
theorem dX10_takeNumber_122 : decode cX10_takeNumber 122 = .ok (.iadd, 1) := by decide +kernel
theorem dX10_takeNumber_123 : decode cX10_takeNumber 123 = .ok (.putfield 105, 3) := by decide +kernel
theorem dX10_takeNumber_126 : decode cX10_takeNumber 126 = .ok (.goto (-84), 3) := by decide +kernel
theorem dX10_takeNumber_129 : decode cX10_takeNumber 129 = .ok (.aload_n 0, 1) := by decide +kernel
theorem dX10_takeNumber_130 : decode cX10_takeNumber 130 = .ok (.getfield 105, 3) := by decide +kernel
theorem dX10_takeNumber_133 : decode cX10_takeNumber 133 = .ok (.aload_n 0, 1) := by decide +kernel
theorem dX10_takeNumber_134 : decode cX10_takeNumber 134 = .ok (.getfield 120, 3) := by decide +kernel
theorem dX10_takeNumber_137 : decode cX10_takeNumber 137 = .ok (.isub, 1) := by decide +kernel
theorem dX10_takeNumber_138 : decode cX10_takeNumber 138 = .ok (.iconst 3, 1) := by decide +kernel
theorem dX10_takeNumber_139 : decode cX10_takeNumber 139 = .ok (.if_icmp .gt 18, 3) := by decide +kernel
theorem dX10_takeNumber_142 : decode cX10_takeNumber 142 = .ok (.aload_n 0, 1) := by decide +kernel
theorem dX10_takeNumber_143 : decode cX10_takeNumber 143 = .ok (.getfield 123, 3) := by decide +kernel
theorem dX10_takeNumber_146 : decode cX10_takeNumber 146 = .ok (.i2l, 1) := by decide +kernel
theorem dX10_takeNumber_147 : decode cX10_takeNumber 147 = .ok (.iload_n 1, 1) := by decide +kernel
theorem dX10_takeNumber_148 : decode cX10_takeNumber 148 = .ok (.i2l, 1) := by decide +kernel
theorem dX10_takeNumber_149 : decode cX10_takeNumber 149 = .ok (.iload_n 2, 1) := by decide +kernel
theorem dX10_takeNumber_150 : decode cX10_takeNumber 150 = .ok (.i2l, 1) := by decide +kernel
theorem dX10_takeNumber_151 : decode cX10_takeNumber 151 = .ok (.invokestatic 91, 3) := by decide +kernel
theorem dX10_takeNumber_154 : decode cX10_takeNumber 154 = .ok (.ifCond .ne 15, 3) := by decide +kernel
theorem dX10_takeNumber_157 : decode cX10_takeNumber 157 = .ok (.aload_n 0, 1) := by decide +kernel
theorem dX10_takeNumber_158 : decode cX10_takeNumber 158 = .ok (.iconst 2, 1) := by decide +kernel
theorem dX10_takeNumber_159 : decode cX10_takeNumber 159 = .ok (.aload_n 0, 1) := by decide +kernel
theorem dX10_takeNumber_160 : decode cX10_takeNumber 160 = .ok (.getfield 120, 3) := by decide +kernel
theorem dX10_takeNumber_163 : decode cX10_takeNumber 163 = .ok (.invokevirtual 116, 3) := by decide +kernel
theorem dX10_takeNumber_166 : decode cX10_takeNumber 166 = .ok (.goto 4, 3) := by decide +kernel
theorem dX10_takeNumber_169 : decode cX10_takeNumber 169 = .ok (.iconst 0, 1) := by decide +kernel
theorem dX10_takeNumber_170 : decode cX10_takeNumber 170 = .ok (.ireturn, 1) := by decide +kernel
theorem dX10_into_0 : decode cX10_into 0 = .ok (.aload_n 0, 1) := by decide +kernel
theorem dX10_into_1 : decode cX10_into 1 = .ok (.iload_n 3, 1) := by decide +kernel
theorem dX10_into_2 : decode cX10_into 2 = .ok (.iload 4, 2) := by decide +kernel
theorem dX10_into_4 : decode cX10_into 4 = .ok (.invokevirtual 126, 3) := by decide +kernel
theorem dX10_into_7 : decode cX10_into 7 = .ok (.istore 5, 2) := by decide +kernel
theorem dX10_into_9 : decode cX10_into 9 = .ok (.aload_n 1, 1) := by decide +kernel
theorem dX10_into_10 : decode cX10_into 10 = .ok (.iload_n 2, 1) := by decide +kernel
theorem dX10_into_11 : decode cX10_into 11 = .ok (.aload_n 0, 1) := by decide +kernel
theorem dX10_into_12 : decode cX10_into 12 = .ok (.getfield 123, 3) := by decide +kernel
theorem dX10_into_15 : decode cX10_into 15 = .ok (.iastore, 1) := by decide +kernel
theorem dX10_into_16 : decode cX10_into 16 = .ok (.iload 5, 2) := by decide +kernel
theorem dX10_into_18 : decode cX10_into 18 = .ok (.ireturn, 1) := by decide +kernel
theorem dX10_takeShop_0 : decode cX10_takeShop 0 = .ok (.aload_n 0, 1) := by decide +kernel
theorem dX10_takeShop_1 : decode cX10_takeShop 1 = .ok (.iconst 1, 1) := by decide +kernel
theorem dX10_takeShop_2 : decode cX10_takeShop 2 = .ok (.putfield 129, 3) := by decide +kernel
theorem dX10_takeShop_5 : decode cX10_takeShop 5 = .ok (.aload_n 0, 1) := by decide +kernel
theorem dX10_takeShop_6 : decode cX10_takeShop 6 = .ok (.iconst 0, 1) := by decide +kernel
theorem dX10_takeShop_7 : decode cX10_takeShop 7 = .ok (.bipush 99, 2) := by decide +kernel
theorem dX10_takeShop_9 : decode cX10_takeShop 9 = .ok (.invokevirtual 126, 3) := by decide +kernel
theorem dX10_takeShop_12 : decode cX10_takeShop 12 = .ok (.istore_n 1, 1) := by decide +kernel
theorem dX10_takeShop_13 : decode cX10_takeShop 13 = .ok (.aload_n 0, 1) := by decide +kernel
theorem dX10_takeShop_14 : decode cX10_takeShop 14 = .ok (.aload_n 0, 1) := by decide +kernel
theorem dX10_takeShop_15 : decode cX10_takeShop 15 = .ok (.getfield 123, 3) := by decide +kernel
theorem dX10_takeShop_18 : decode cX10_takeShop 18 = .ok (.putfield 132, 3) := by decide +kernel
theorem dX10_takeShop_21 : decode cX10_takeShop 21 = .ok (.iload_n 1, 1) := by decide +kernel
theorem dX10_takeShop_22 : decode cX10_takeShop 22 = .ok (.ireturn, 1) := by decide +kernel
theorem dX10_takeBurden_0 : decode cX10_takeBurden 0 = .ok (.aload_n 0, 1) := by decide +kernel
theorem dX10_takeBurden_1 : decode cX10_takeBurden 1 = .ok (.getfield 135, 3) := by decide +kernel
theorem dX10_takeBurden_4 : decode cX10_takeBurden 4 = .ok (.istore_n 1, 1) := by decide +kernel
theorem dX10_takeBurden_5 : decode cX10_takeBurden 5 = .ok (.aload_n 0, 1) := by decide +kernel
theorem dX10_takeBurden_6 : decode cX10_takeBurden 6 = .ok (.dup, 1) := by decide +kernel
theorem dX10_takeBurden_7 : decode cX10_takeBurden 7 = .ok (.getfield 135, 3) := by decide +kernel
theorem dX10_takeBurden_10 : decode cX10_takeBurden 10 = .ok (.iconst 1, 1) := by decide +kernel
theorem dX10_takeBurden_11 : decode cX10_takeBurden 11 = .ok (.iadd, 1) := by decide +kernel
theorem dX10_takeBurden_12 : decode cX10_takeBurden 12 = .ok (.putfield 135, 3) := by decide +kernel
theorem dX10_takeBurden_15 : decode cX10_takeBurden 15 = .ok (.aload_n 0, 1) := by decide +kernel
theorem dX10_takeBurden_16 : decode cX10_takeBurden 16 = .ok (.aload_n 0, 1) := by decide +kernel
theorem dX10_takeBurden_17 : decode cX10_takeBurden 17 = .ok (.getfield 35, 3) := by decide +kernel
theorem dX10_takeBurden_20 : decode cX10_takeBurden 20 = .ok (.iload_n 1, 1) := by decide +kernel
theorem dX10_takeBurden_21 : decode cX10_takeBurden 21 = .ok (.iconst 0, 1) := by decide +kernel
theorem dX10_takeBurden_22 : decode cX10_takeBurden 22 = .ok (.iconst 4, 1) := by decide +kernel
theorem dX10_takeBurden_23 : decode cX10_takeBurden 23 = .ok (.invokevirtual 138, 3) := by decide +kernel
theorem dX10_takeBurden_26 : decode cX10_takeBurden 26 = .ok (.istore_n 2, 1) := by decide +kernel
theorem dX10_takeBurden_27 : decode cX10_takeBurden 27 = .ok (.iload_n 2, 1) := by decide +kernel
theorem dX10_takeBurden_28 : decode cX10_takeBurden 28 = .ok (.ifCond .le 7, 3) := by decide +kernel
theorem dX10_takeBurden_31 : decode cX10_takeBurden 31 = .ok (.iload_n 2, 1) := by decide +kernel
theorem dX10_takeBurden_32 : decode cX10_takeBurden 32 = .ok (.goto 15, 3) := by decide +kernel
theorem dX10_takeBurden_35 : decode cX10_takeBurden 35 = .ok (.aload_n 0, 1) := by decide +kernel
theorem dX10_takeBurden_36 : decode cX10_takeBurden 36 = .ok (.aload_n 0, 1) := by decide +kernel
theorem dX10_takeBurden_37 : decode cX10_takeBurden 37 = .ok (.getfield 38, 3) := by decide +kernel
theorem dX10_takeBurden_40 : decode cX10_takeBurden 40 = .ok (.iload_n 1, 1) := by decide +kernel
theorem dX10_takeBurden_41 : decode cX10_takeBurden 41 = .ok (.iconst 1, 1) := by decide +kernel
theorem dX10_takeBurden_42 : decode cX10_takeBurden 42 = .ok (.bipush 60, 2) := by decide +kernel
theorem dX10_takeBurden_44 : decode cX10_takeBurden 44 = .ok (.invokevirtual 138, 3) := by decide +kernel
theorem dX10_takeBurden_47 : decode cX10_takeBurden 47 = .ok (.istore_n 2, 1) := by decide +kernel
theorem dX10_takeBurden_48 : decode cX10_takeBurden 48 = .ok (.iload_n 2, 1) := by decide +kernel
theorem dX10_takeBurden_49 : decode cX10_takeBurden 49 = .ok (.ifCond .le 7, 3) := by decide +kernel
theorem dX10_takeBurden_52 : decode cX10_takeBurden 52 = .ok (.iload_n 2, 1) := by decide +kernel
theorem dX10_takeBurden_53 : decode cX10_takeBurden 53 = .ok (.goto 15, 3) := by decide +kernel
theorem dX10_takeBurden_56 : decode cX10_takeBurden 56 = .ok (.aload_n 0, 1) := by decide +kernel
theorem dX10_takeBurden_57 : decode cX10_takeBurden 57 = .ok (.aload_n 0, 1) := by decide +kernel
theorem dX10_takeBurden_58 : decode cX10_takeBurden 58 = .ok (.getfield 41, 3) := by decide +kernel
theorem dX10_takeBurden_61 : decode cX10_takeBurden 61 = .ok (.iload_n 1, 1) := by decide +kernel
theorem dX10_takeBurden_62 : decode cX10_takeBurden 62 = .ok (.iconst 0, 1) := by decide +kernel
theorem dX10_takeBurden_63 : decode cX10_takeBurden 63 = .ok (.bipush 20, 2) := by decide +kernel
theorem dX10_takeBurden_65 : decode cX10_takeBurden 65 = .ok (.invokevirtual 138, 3) := by decide +kernel
theorem dX10_takeBurden_68 : decode cX10_takeBurden 68 = .ok (.ireturn, 1) := by decide +kernel
theorem dX10_takeBack_0 : decode cX10_takeBack 0 = .ok (.aload_n 0, 1) := by decide +kernel
theorem dX10_takeBack_1 : decode cX10_takeBack 1 = .ok (.getfield 142, 3) := by decide +kernel
theorem dX10_takeBack_4 : decode cX10_takeBack 4 = .ok (.istore_n 1, 1) := by decide +kernel
theorem dX10_takeBack_5 : decode cX10_takeBack 5 = .ok (.aload_n 0, 1) := by decide +kernel
theorem dX10_takeBack_6 : decode cX10_takeBack 6 = .ok (.dup, 1) := by decide +kernel
theorem dX10_takeBack_7 : decode cX10_takeBack 7 = .ok (.getfield 142, 3) := by decide +kernel
theorem dX10_takeBack_10 : decode cX10_takeBack 10 = .ok (.iconst 1, 1) := by decide +kernel
theorem dX10_takeBack_11 : decode cX10_takeBack 11 = .ok (.iadd, 1) := by decide +kernel
theorem dX10_takeBack_12 : decode cX10_takeBack 12 = .ok (.putfield 142, 3) := by decide +kernel
theorem dX10_takeBack_15 : decode cX10_takeBack 15 = .ok (.aload_n 0, 1) := by decide +kernel
theorem dX10_takeBack_16 : decode cX10_takeBack 16 = .ok (.aload_n 0, 1) := by decide +kernel
theorem dX10_takeBack_17 : decode cX10_takeBack 17 = .ok (.getfield 44, 3) := by decide +kernel
theorem dX10_takeBack_20 : decode cX10_takeBack 20 = .ok (.iload_n 1, 1) := by decide +kernel
theorem dX10_takeBack_21 : decode cX10_takeBack 21 = .ok (.iconst 1, 1) := by decide +kernel
theorem dX10_takeBack_22 : decode cX10_takeBack 22 = .ok (.bipush 99, 2) := by decide +kernel
theorem dX10_takeBack_24 : decode cX10_takeBack 24 = .ok (.invokevirtual 138, 3) := by decide +kernel
theorem dX10_takeBack_27 : decode cX10_takeBack 27 = .ok (.istore_n 2, 1) := by decide +kernel
theorem dX10_takeBack_28 : decode cX10_takeBack 28 = .ok (.iload_n 2, 1) := by decide +kernel
theorem dX10_takeBack_29 : decode cX10_takeBack 29 = .ok (.ifCond .le 7, 3) := by decide +kernel
theorem dX10_takeBack_32 : decode cX10_takeBack 32 = .ok (.iload_n 2, 1) := by decide +kernel
theorem dX10_takeBack_33 : decode cX10_takeBack 33 = .ok (.goto 15, 3) := by decide +kernel
theorem dX10_takeBack_36 : decode cX10_takeBack 36 = .ok (.aload_n 0, 1) := by decide +kernel
theorem dX10_takeBack_37 : decode cX10_takeBack 37 = .ok (.aload_n 0, 1) := by decide +kernel
theorem dX10_takeBack_38 : decode cX10_takeBack 38 = .ok (.getfield 47, 3) := by decide +kernel
theorem dX10_takeBack_41 : decode cX10_takeBack 41 = .ok (.iload_n 1, 1) := by decide +kernel
theorem dX10_takeBack_42 : decode cX10_takeBack 42 = .ok (.iconst 0, 1) := by decide +kernel
theorem dX10_takeBack_43 : decode cX10_takeBack 43 = .ok (.bipush 9, 2) := by decide +kernel
theorem dX10_takeBack_45 : decode cX10_takeBack 45 = .ok (.invokevirtual 138, 3) := by decide +kernel
theorem dX10_takeBack_48 : decode cX10_takeBack 48 = .ok (.ireturn, 1) := by decide +kernel
theorem dX10_takeClause_0 : decode cX10_takeClause 0 = .ok (.aload_n 0, 1) := by decide +kernel
theorem dX10_takeClause_1 : decode cX10_takeClause 1 = .ok (.invokevirtual 108, 3) := by decide +kernel
theorem dX10_takeClause_4 : decode cX10_takeClause 4 = .ok (.istore_n 1, 1) := by decide +kernel
theorem dX10_takeClause_5 : decode cX10_takeClause 5 = .ok (.iload_n 1, 1) := by decide +kernel
theorem dX10_takeClause_6 : decode cX10_takeClause 6 = .ok (.bipush 102, 2) := by decide +kernel
theorem dX10_takeClause_8 : decode cX10_takeClause 8 = .ok (.if_icmp .ne 7, 3) := by decide +kernel
theorem dX10_takeClause_11 : decode cX10_takeClause 11 = .ok (.iconst 0, 1) := by decide +kernel
theorem dX10_takeClause_12 : decode cX10_takeClause 12 = .ok (.goto 24, 3) := by decide +kernel
theorem dX10_takeClause_15 : decode cX10_takeClause 15 = .ok (.iload_n 1, 1) := by decide +kernel
theorem dX10_takeClause_16 : decode cX10_takeClause 16 = .ok (.bipush 98, 2) := by decide +kernel
theorem dX10_takeClause_18 : decode cX10_takeClause 18 = .ok (.if_icmp .ne 7, 3) := by decide +kernel
theorem dX10_takeClause_21 : decode cX10_takeClause 21 = .ok (.iconst 1, 1) := by decide +kernel
theorem dX10_takeClause_22 : decode cX10_takeClause 22 = .ok (.goto 14, 3) := by decide +kernel
theorem dX10_takeClause_25 : decode cX10_takeClause 25 = .ok (.iload_n 1, 1) := by decide +kernel
theorem dX10_takeClause_26 : decode cX10_takeClause 26 = .ok (.bipush 112, 2) := by decide +kernel
theorem dX10_takeClause_28 : decode cX10_takeClause 28 = .ok (.if_icmp .ne 7, 3) := by decide +kernel
theorem dX10_takeClause_31 : decode cX10_takeClause 31 = .ok (.iconst 2, 1) := by decide +kernel
theorem dX10_takeClause_32 : decode cX10_takeClause 32 = .ok (.goto 4, 3) := by decide +kernel
theorem dX10_takeClause_35 : decode cX10_takeClause 35 = .ok (.iconst (-1), 1) := by decide +kernel
theorem dX10_takeClause_36 : decode cX10_takeClause 36 = .ok (.istore_n 2, 1) := by decide +kernel
theorem dX10_takeClause_37 : decode cX10_takeClause 37 = .ok (.iload_n 2, 1) := by decide +kernel
theorem dX10_takeClause_38 : decode cX10_takeClause 38 = .ok (.ifCond .lt 14, 3) := by decide +kernel
theorem dX10_takeClause_41 : decode cX10_takeClause 41 = .ok (.iload_n 2, 1) := by decide +kernel
theorem dX10_takeClause_42 : decode cX10_takeClause 42 = .ok (.ifCond .le 20, 3) := by decide +kernel
theorem dX10_takeClause_45 : decode cX10_takeClause 45 = .ok (.aload_n 0, 1) := by decide +kernel
theorem dX10_takeClause_46 : decode cX10_takeClause 46 = .ok (.getfield 129, 3) := by decide +kernel
theorem dX10_takeClause_49 : decode cX10_takeClause 49 = .ok (.ifCond .ne 13, 3) := by decide +kernel
theorem dX10_takeClause_52 : decode cX10_takeClause 52 = .ok (.aload_n 0, 1) := by decide +kernel
theorem dX10_takeClause_53 : decode cX10_takeClause 53 = .ok (.iconst 1, 1) := by decide +kernel
theorem dX10_takeClause_54 : decode cX10_takeClause 54 = .ok (.aload_n 0, 1) := by decide +kernel
theorem dX10_takeClause_55 : decode cX10_takeClause 55 = .ok (.getfield 105, 3) := by decide +kernel
theorem dX10_takeClause_58 : decode cX10_takeClause 58 = .ok (.invokevirtual 116, 3) := by decide +kernel
theorem dX10_takeClause_61 : decode cX10_takeClause 61 = .ok (.ireturn, 1) := by decide +kernel
theorem dX10_takeClause_62 : decode cX10_takeClause 62 = .ok (.iload_n 2, 1) := by decide +kernel
theorem dX10_takeClause_63 : decode cX10_takeClause 63 = .ok (.ifCond .ne 10, 3) := by decide +kernel
theorem dX10_takeClause_66 : decode cX10_takeClause 66 = .ok (.aload_n 0, 1) := by decide +kernel
theorem dX10_takeClause_67 : decode cX10_takeClause 67 = .ok (.getfield 129, 3) := by decide +kernel
theorem dX10_takeClause_70 : decode cX10_takeClause 70 = .ok (.goto 38, 3) := by decide +kernel
theorem dX10_takeClause_73 : decode cX10_takeClause 73 = .ok (.iload_n 2, 1) := by decide +kernel
theorem dX10_takeClause_74 : decode cX10_takeClause 74 = .ok (.iconst 1, 1) := by decide +kernel
theorem dX10_takeClause_75 : decode cX10_takeClause 75 = .ok (.if_icmp .ne 20, 3) := by decide +kernel
theorem dX10_takeClause_78 : decode cX10_takeClause 78 = .ok (.aload_n 0, 1) := by decide +kernel
theorem dX10_takeClause_79 : decode cX10_takeClause 79 = .ok (.getfield 135, 3) := by decide +kernel
theorem dX10_takeClause_82 : decode cX10_takeClause 82 = .ok (.bipush 6, 2) := by decide +kernel
theorem dX10_takeClause_84 : decode cX10_takeClause 84 = .ok (.if_icmp .ne 7, 3) := by decide +kernel
theorem dX10_takeClause_87 : decode cX10_takeClause 87 = .ok (.iconst 1, 1) := by decide +kernel
theorem dX10_takeClause_88 : decode cX10_takeClause 88 = .ok (.goto 20, 3) := by decide +kernel
theorem dX10_takeClause_91 : decode cX10_takeClause 91 = .ok (.iconst 0, 1) := by decide +kernel
theorem dX10_takeClause_92 : decode cX10_takeClause 92 = .ok (.goto 16, 3) := by decide +kernel
theorem dX10_takeClause_95 : decode cX10_takeClause 95 = .ok (.aload_n 0, 1) := by decide +kernel
theorem dX10_takeClause_96 : decode cX10_takeClause 96 = .ok (.getfield 142, 3) := by decide +kernel
theorem dX10_takeClause_99 : decode cX10_takeClause 99 = .ok (.iconst 5, 1) := by decide +kernel
theorem dX10_takeClause_100 : decode cX10_takeClause 100 = .ok (.if_icmp .ne 7, 3) := by decide +kernel
theorem dX10_takeClause_103 : decode cX10_takeClause 103 = .ok (.iconst 1, 1) := by decide +kernel
theorem dX10_takeClause_104 : decode cX10_takeClause 104 = .ok (.goto 4, 3) := by decide +kernel
theorem dX10_takeClause_107 : decode cX10_takeClause 107 = .ok (.iconst 0, 1) := by decide +kernel
theorem dX10_takeClause_108 : decode cX10_takeClause 108 = .ok (.istore_n 3, 1) := by decide +kernel
theorem dX10_takeClause_109 : decode cX10_takeClause 109 = .ok (.iload_n 3, 1) := by decide +kernel
theorem dX10_takeClause_110 : decode cX10_takeClause 110 = .ok (.ifCond .eq 13, 3) := by decide +kernel
theorem dX10_takeClause_113 : decode cX10_takeClause 113 = .ok (.aload_n 0, 1) := by decide +kernel
theorem dX10_takeClause_114 : decode cX10_takeClause 114 = .ok (.iconst 3, 1) := by decide +kernel
theorem dX10_takeClause_115 : decode cX10_takeClause 115 = .ok (.aload_n 0, 1) := by decide +kernel
theorem dX10_takeClause_116 : decode cX10_takeClause 116 = .ok (.getfield 105, 3) := by decide +kernel
theorem dX10_takeClause_119 : decode cX10_takeClause 119 = .ok (.invokevirtual 116, 3) := by decide +kernel
theorem dX10_takeClause_122 : decode cX10_takeClause 122 = .ok (.ireturn, 1) := by decide +kernel
theorem dX10_takeClause_123 : decode cX10_takeClause 123 = .ok (.aload_n 0, 1) := by decide +kernel
theorem dX10_takeClause_124 : decode cX10_takeClause 124 = .ok (.dup, 1) := by decide +kernel
theorem dX10_takeClause_125 : decode cX10_takeClause 125 = .ok (.getfield 105, 3) := by decide +kernel
theorem dX10_takeClause_128 : decode cX10_takeClause 128 = .ok (.iconst 1, 1) := by decide +kernel
theorem dX10_takeClause_129 : decode cX10_takeClause 129 = .ok (.iadd, 1) := by decide +kernel
theorem dX10_takeClause_130 : decode cX10_takeClause 130 = .ok (.putfield 105, 3) := by decide +kernel
theorem dX10_takeClause_133 : decode cX10_takeClause 133 = .ok (.iload_n 2, 1) := by decide +kernel
theorem dX10_takeClause_134 : decode cX10_takeClause 134 = .ok (.ifCond .ne 10, 3) := by decide +kernel
theorem dX10_takeClause_137 : decode cX10_takeClause 137 = .ok (.aload_n 0, 1) := by decide +kernel
theorem dX10_takeClause_138 : decode cX10_takeClause 138 = .ok (.invokevirtual 145, 3) := by decide +kernel
theorem dX10_takeClause_141 : decode cX10_takeClause 141 = .ok (.goto 19, 3) := by decide +kernel
theorem dX10_takeClause_144 : decode cX10_takeClause 144 = .ok (.iload_n 2, 1) := by decide +kernel
theorem dX10_takeClause_145 : decode cX10_takeClause 145 = .ok (.iconst 1, 1) := by decide +kernel
theorem dX10_takeClause_146 : decode cX10_takeClause 146 = .ok (.if_icmp .ne 10, 3) := by decide +kernel
theorem dX10_takeClause_149 : decode cX10_takeClause 149 = .ok (.aload_n 0, 1) := by decide +kernel
theorem dX10_takeClause_150 : decode cX10_takeClause 150 = .ok (.invokevirtual 148, 3) := by decide +kernel
theorem dX10_takeClause_153 : decode cX10_takeClause 153 = .ok (.goto 7, 3) := by decide +kernel
theorem dX10_takeClause_156 : decode cX10_takeClause 156 = .ok (.aload_n 0, 1) := by decide +kernel
theorem dX10_takeClause_157 : decode cX10_takeClause 157 = .ok (.invokevirtual 151, 3) := by decide +kernel
theorem dX10_takeClause_160 : decode cX10_takeClause 160 = .ok (.istore 4, 2) := by decide +kernel
theorem dX10_takeClause_162 : decode cX10_takeClause 162 = .ok (.iload 4, 2) := by decide +kernel
theorem dX10_takeClause_164 : decode cX10_takeClause 164 = .ok (.ifCond .ne 22, 3) := by decide +kernel
theorem dX10_takeClause_167 : decode cX10_takeClause 167 = .ok (.aload_n 0, 1) := by decide +kernel
theorem dX10_takeClause_168 : decode cX10_takeClause 168 = .ok (.invokevirtual 108, 3) := by decide +kernel
theorem dX10_takeClause_171 : decode cX10_takeClause 171 = .ok (.bipush 59, 2) := by decide +kernel
theorem dX10_takeClause_173 : decode cX10_takeClause 173 = .ok (.if_icmp .eq 13, 3) := by decide +kernel
theorem dX10_takeClause_176 : decode cX10_takeClause 176 = .ok (.aload_n 0, 1) := by decide +kernel
theorem dX10_takeClause_177 : decode cX10_takeClause 177 = .ok (.iconst 1, 1) := by decide +kernel
theorem dX10_takeClause_178 : decode cX10_takeClause 178 = .ok (.aload_n 0, 1) := by decide +kernel
theorem dX10_takeClause_179 : decode cX10_takeClause 179 = .ok (.getfield 105, 3) := by decide +kernel
theorem dX10_takeClause_182 : decode cX10_takeClause 182 = .ok (.invokevirtual 116, 3) := by decide +kernel
theorem dX10_takeClause_185 : decode cX10_takeClause 185 = .ok (.ireturn, 1) := by decide +kernel
theorem dX10_takeClause_186 : decode cX10_takeClause 186 = .ok (.aload_n 0, 1) := by decide +kernel
theorem dX10_takeClause_187 : decode cX10_takeClause 187 = .ok (.dup, 1) := by decide +kernel
theorem dX10_takeClause_188 : decode cX10_takeClause 188 = .ok (.getfield 105, 3) := by decide +kernel
theorem dX10_takeClause_191 : decode cX10_takeClause 191 = .ok (.iconst 1, 1) := by decide +kernel
theorem dX10_takeClause_192 : decode cX10_takeClause 192 = .ok (.iadd, 1) := by decide +kernel
theorem dX10_takeClause_193 : decode cX10_takeClause 193 = .ok (.putfield 105, 3) := by decide +kernel
theorem dX10_takeClause_196 : decode cX10_takeClause 196 = .ok (.iload 4, 2) := by decide +kernel
theorem dX10_takeClause_198 : decode cX10_takeClause 198 = .ok (.ireturn, 1) := by decide +kernel
theorem dX10_copyRow_0 : decode cX10_copyRow 0 = .ok (.iconst 0, 1) := by decide +kernel
theorem dX10_copyRow_1 : decode cX10_copyRow 1 = .ok (.istore_n 3, 1) := by decide +kernel
theorem dX10_copyRow_2 : decode cX10_copyRow 2 = .ok (.iload_n 3, 1) := by decide +kernel
theorem dX10_copyRow_3 : decode cX10_copyRow 3 = .ok (.iload_n 2, 1) := by decide +kernel
theorem dX10_copyRow_4 : decode cX10_copyRow 4 = .ok (.if_icmp .ge 15, 3) := by decide +kernel
theorem dX10_copyRow_7 : decode cX10_copyRow 7 = .ok (.aload_n 1, 1) := by decide +kernel
theorem dX10_copyRow_8 : decode cX10_copyRow 8 = .ok (.iload_n 3, 1) := by decide +kernel
theorem dX10_copyRow_9 : decode cX10_copyRow 9 = .ok (.aload_n 0, 1) := by decide +kernel
theorem dX10_copyRow_10 : decode cX10_copyRow 10 = .ok (.iload_n 3, 1) := by decide +kernel
theorem dX10_copyRow_11 : decode cX10_copyRow 11 = .ok (.iaload, 1) := by decide +kernel
theorem dX10_copyRow_12 : decode cX10_copyRow 12 = .ok (.iastore, 1) := by decide +kernel
theorem dX10_copyRow_13 : decode cX10_copyRow 13 = .ok (.iinc 3 1, 3) := by decide +kernel
theorem dX10_copyRow_16 : decode cX10_copyRow 16 = .ok (.goto (-14), 3) := by decide +kernel
theorem dX10_copyRow_19 : decode cX10_copyRow 19 = .ok (.return_, 1) := by decide +kernel
theorem dX10_takeRead_0 : decode cX10_takeRead 0 = .ok (.aload_n 0, 1) := by decide +kernel
theorem dX10_takeRead_1 : decode cX10_takeRead 1 = .ok (.aload_n 0, 1) := by decide +kernel
theorem dX10_takeRead_2 : decode cX10_takeRead 2 = .ok (.getfield 129, 3) := by decide +kernel
theorem dX10_takeRead_5 : decode cX10_takeRead 5 = .ok (.putfield 84, 3) := by decide +kernel
theorem dX10_takeRead_8 : decode cX10_takeRead 8 = .ok (.aload_n 0, 1) := by decide +kernel
theorem dX10_takeRead_9 : decode cX10_takeRead 9 = .ok (.aload_n 0, 1) := by decide +kernel
theorem dX10_takeRead_10 : decode cX10_takeRead 10 = .ok (.getfield 129, 3) := by decide +kernel
theorem dX10_takeRead_13 : decode cX10_takeRead 13 = .ok (.ifCond .eq 10, 3) := by decide +kernel
theorem dX10_takeRead_16 : decode cX10_takeRead 16 = .ok (.aload_n 0, 1) := by decide +kernel
theorem dX10_takeRead_17 : decode cX10_takeRead 17 = .ok (.getfield 132, 3) := by decide +kernel
theorem dX10_takeRead_20 : decode cX10_takeRead 20 = .ok (.goto 4, 3) := by decide +kernel
theorem dX10_takeRead_23 : decode cX10_takeRead 23 = .ok (.iconst 0, 1) := by decide +kernel
theorem dX10_takeRead_24 : decode cX10_takeRead 24 = .ok (.putfield 154, 3) := by decide +kernel
theorem dX10_takeRead_27 : decode cX10_takeRead 27 = .ok (.aload_n 0, 1) := by decide +kernel
theorem dX10_takeRead_28 : decode cX10_takeRead 28 = .ok (.aload_n 0, 1) := by decide +kernel
theorem dX10_takeRead_29 : decode cX10_takeRead 29 = .ok (.getfield 135, 3) := by decide +kernel
theorem dX10_takeRead_32 : decode cX10_takeRead 32 = .ok (.putfield 88, 3) := by decide +kernel
theorem dX10_takeRead_35 : decode cX10_takeRead 35 = .ok (.aload_n 0, 1) := by decide +kernel
theorem dX10_takeRead_36 : decode cX10_takeRead 36 = .ok (.aload_n 0, 1) := by decide +kernel
theorem dX10_takeRead_37 : decode cX10_takeRead 37 = .ok (.getfield 142, 3) := by decide +kernel
theorem dX10_takeRead_40 : decode cX10_takeRead 40 = .ok (.putfield 95, 3) := by decide +kernel
theorem dX10_takeRead_43 : decode cX10_takeRead 43 = .ok (.aload_n 0, 1) := by decide +kernel
theorem dX10_takeRead_44 : decode cX10_takeRead 44 = .ok (.getfield 35, 3) := by decide +kernel
theorem dX10_takeRead_47 : decode cX10_takeRead 47 = .ok (.aload_n 0, 1) := by decide +kernel
theorem dX10_takeRead_48 : decode cX10_takeRead 48 = .ok (.getfield 7, 3) := by decide +kernel
theorem dX10_takeRead_51 : decode cX10_takeRead 51 = .ok (.aload_n 0, 1) := by decide +kernel
theorem dX10_takeRead_52 : decode cX10_takeRead 52 = .ok (.getfield 88, 3) := by decide +kernel
theorem dX10_takeRead_55 : decode cX10_takeRead 55 = .ok (.invokestatic 157, 3) := by decide +kernel
theorem dX10_takeRead_58 : decode cX10_takeRead 58 = .ok (.aload_n 0, 1) := by decide +kernel
theorem dX10_takeRead_59 : decode cX10_takeRead 59 = .ok (.getfield 38, 3) := by decide +kernel
theorem dX10_takeRead_62 : decode cX10_takeRead 62 = .ok (.aload_n 0, 1) := by decide +kernel
theorem dX10_takeRead_63 : decode cX10_takeRead 63 = .ok (.getfield 13, 3) := by decide +kernel
theorem dX10_takeRead_66 : decode cX10_takeRead 66 = .ok (.aload_n 0, 1) := by decide +kernel
theorem dX10_takeRead_67 : decode cX10_takeRead 67 = .ok (.getfield 88, 3) := by decide +kernel
theorem dX10_takeRead_70 : decode cX10_takeRead 70 = .ok (.invokestatic 157, 3) := by decide +kernel
theorem dX10_takeRead_73 : decode cX10_takeRead 73 = .ok (.aload_n 0, 1) := by decide +kernel
theorem dX10_takeRead_74 : decode cX10_takeRead 74 = .ok (.getfield 41, 3) := by decide +kernel
theorem dX10_takeRead_77 : decode cX10_takeRead 77 = .ok (.aload_n 0, 1) := by decide +kernel
theorem dX10_takeRead_78 : decode cX10_takeRead 78 = .ok (.getfield 16, 3) := by decide +kernel
theorem dX10_takeRead_81 : decode cX10_takeRead 81 = .ok (.aload_n 0, 1) := by decide +kernel
theorem dX10_takeRead_82 : decode cX10_takeRead 82 = .ok (.getfield 88, 3) := by decide +kernel
theorem dX10_takeRead_85 : decode cX10_takeRead 85 = .ok (.invokestatic 157, 3) := by decide +kernel
theorem dX10_takeRead_88 : decode cX10_takeRead 88 = .ok (.aload_n 0, 1) := by decide +kernel
theorem dX10_takeRead_89 : decode cX10_takeRead 89 = .ok (.getfield 44, 3) := by decide +kernel
theorem dX10_takeRead_92 : decode cX10_takeRead 92 = .ok (.aload_n 0, 1) := by decide +kernel
theorem dX10_takeRead_93 : decode cX10_takeRead 93 = .ok (.getfield 19, 3) := by decide +kernel
theorem dX10_takeRead_96 : decode cX10_takeRead 96 = .ok (.aload_n 0, 1) := by decide +kernel
theorem dX10_takeRead_97 : decode cX10_takeRead 97 = .ok (.getfield 95, 3) := by decide +kernel
theorem dX10_takeRead_100 : decode cX10_takeRead 100 = .ok (.invokestatic 157, 3) := by decide +kernel
theorem dX10_takeRead_103 : decode cX10_takeRead 103 = .ok (.aload_n 0, 1) := by decide +kernel
theorem dX10_takeRead_104 : decode cX10_takeRead 104 = .ok (.getfield 47, 3) := by decide +kernel
theorem dX10_takeRead_107 : decode cX10_takeRead 107 = .ok (.aload_n 0, 1) := by decide +kernel
theorem dX10_takeRead_108 : decode cX10_takeRead 108 = .ok (.getfield 22, 3) := by decide +kernel
theorem dX10_takeRead_111 : decode cX10_takeRead 111 = .ok (.aload_n 0, 1) := by decide +kernel
theorem dX10_takeRead_112 : decode cX10_takeRead 112 = .ok (.getfield 95, 3) := by decide +kernel
theorem dX10_takeRead_115 : decode cX10_takeRead 115 = .ok (.invokestatic 157, 3) := by decide +kernel
theorem dX10_takeRead_118 : decode cX10_takeRead 118 = .ok (.iconst 0, 1) := by decide +kernel
theorem dX10_takeRead_119 : decode cX10_takeRead 119 = .ok (.istore_n 1, 1) := by decide +kernel
theorem dX10_takeRead_120 : decode cX10_takeRead 120 = .ok (.iload_n 1, 1) := by decide +kernel
theorem dX10_takeRead_121 : decode cX10_takeRead 121 = .ok (.bipush 31, 2) := by decide +kernel
theorem dX10_takeRead_123 : decode cX10_takeRead 123 = .ok (.if_icmp .ge 34, 3) := by decide +kernel
theorem dX10_takeRead_126 : decode cX10_takeRead 126 = .ok (.aload_n 0, 1) := by decide +kernel
theorem dX10_takeRead_127 : decode cX10_takeRead 127 = .ok (.getfield 25, 3) := by decide +kernel
theorem dX10_takeRead_130 : decode cX10_takeRead 130 = .ok (.iload_n 1, 1) := by decide +kernel
theorem dX10_takeRead_131 : decode cX10_takeRead 131 = .ok (.iload_n 1, 1) := by decide +kernel
theorem dX10_takeRead_132 : decode cX10_takeRead 132 = .ok (.i2l, 1) := by decide +kernel
theorem dX10_takeRead_133 : decode cX10_takeRead 133 = .ok (.ldc2_w 161, 3) := by decide +kernel
theorem dX10_takeRead_136 : decode cX10_takeRead 136 = .ok (.ldc2_w 163, 3) := by decide +kernel
theorem dX10_takeRead_139 : decode cX10_takeRead 139 = .ok (.invokestatic 91, 3) := by decide +kernel
theorem dX10_takeRead_142 : decode cX10_takeRead 142 = .ok (.ifCond .eq 7, 3) := by decide +kernel
theorem dX10_takeRead_145 : decode cX10_takeRead 145 = .ok (.iconst (-1), 1) := by decide +kernel
theorem dX10_takeRead_146 : decode cX10_takeRead 146 = .ok (.goto 4, 3) := by decide +kernel
theorem dX10_takeRead_149 : decode cX10_takeRead 149 = .ok (.iconst 0, 1) := by decide +kernel
theorem dX10_takeRead_150 : decode cX10_takeRead 150 = .ok (.iastore, 1) := by decide +kernel
theorem dX10_takeRead_151 : decode cX10_takeRead 151 = .ok (.iinc 1 1, 3) := by decide +kernel
theorem dX10_takeRead_154 : decode cX10_takeRead 154 = .ok (.goto (-34), 3) := by decide +kernel
theorem dX10_takeRead_157 : decode cX10_takeRead 157 = .ok (.aload_n 0, 1) := by decide +kernel
theorem dX10_takeRead_158 : decode cX10_takeRead 158 = .ok (.getfield 13, 3) := by decide +kernel
theorem dX10_takeRead_161 : decode cX10_takeRead 161 = .ok (.aload_n 0, 1) := by decide +kernel
theorem dX10_takeRead_162 : decode cX10_takeRead 162 = .ok (.getfield 25, 3) := by decide +kernel
theorem dX10_takeRead_165 : decode cX10_takeRead 165 = .ok (.aload_n 0, 1) := by decide +kernel
theorem dX10_takeRead_166 : decode cX10_takeRead 166 = .ok (.getfield 88, 3) := by decide +kernel
theorem dX10_takeRead_169 : decode cX10_takeRead 169 = .ok (.invokestatic 157, 3) := by decide +kernel
theorem dX10_takeRead_172 : decode cX10_takeRead 172 = .ok (.aload_n 0, 1) := by decide +kernel
theorem dX10_takeRead_173 : decode cX10_takeRead 173 = .ok (.getfield 25, 3) := by decide +kernel
theorem dX10_takeRead_176 : decode cX10_takeRead 176 = .ok (.bipush 29, 2) := by decide +kernel
theorem dX10_takeRead_178 : decode cX10_takeRead 178 = .ok (.aload_n 0, 1) := by decide +kernel
theorem dX10_takeRead_179 : decode cX10_takeRead 179 = .ok (.getfield 154, 3) := by decide +kernel
theorem dX10_takeRead_182 : decode cX10_takeRead 182 = .ok (.iastore, 1) := by decide +kernel
theorem dX10_takeRead_183 : decode cX10_takeRead 183 = .ok (.return_, 1) := by decide +kernel
theorem dX10_shop_0 : decode cX10_shop 0 = .ok (.aload_n 0, 1) := by decide +kernel
theorem dX10_shop_1 : decode cX10_shop 1 = .ok (.iconst (-1), 1) := by decide +kernel
theorem dX10_shop_2 : decode cX10_shop 2 = .ok (.putfield 31, 3) := by decide +kernel
theorem dX10_shop_5 : decode cX10_shop 5 = .ok (.aload_n 0, 1) := by decide +kernel
theorem dX10_shop_6 : decode cX10_shop 6 = .ok (.iconst 0, 1) := by decide +kernel
theorem dX10_shop_7 : decode cX10_shop 7 = .ok (.putfield 105, 3) := by decide +kernel
theorem dX10_shop_10 : decode cX10_shop 10 = .ok (.aload_n 0, 1) := by decide +kernel
theorem dX10_shop_11 : decode cX10_shop 11 = .ok (.iconst 0, 1) := by decide +kernel
theorem dX10_shop_12 : decode cX10_shop 12 = .ok (.putfield 129, 3) := by decide +kernel
theorem dX10_shop_15 : decode cX10_shop 15 = .ok (.aload_n 0, 1) := by decide +kernel
theorem dX10_shop_16 : decode cX10_shop 16 = .ok (.iconst 0, 1) := by decide +kernel
theorem dX10_shop_17 : decode cX10_shop 17 = .ok (.putfield 135, 3) := by decide +kernel
theorem dX10_shop_20 : decode cX10_shop 20 = .ok (.aload_n 0, 1) := by decide +kernel
theorem dX10_shop_21 : decode cX10_shop 21 = .ok (.iconst 0, 1) := by decide +kernel
theorem dX10_shop_22 : decode cX10_shop 22 = .ok (.putfield 142, 3) := by decide +kernel
theorem dX10_shop_25 : decode cX10_shop 25 = .ok (.iconst 0, 1) := by decide +kernel
theorem dX10_shop_26 : decode cX10_shop 26 = .ok (.istore_n 1, 1) := by decide +kernel
theorem dX10_shop_27 : decode cX10_shop 27 = .ok (.iload_n 1, 1) := by decide +kernel
theorem dX10_shop_28 : decode cX10_shop 28 = .ok (.ifCond .ne 18, 3) := by decide +kernel
theorem dX10_shop_31 : decode cX10_shop 31 = .ok (.aload_n 0, 1) := by decide +kernel
theorem dX10_shop_32 : decode cX10_shop 32 = .ok (.invokevirtual 108, 3) := by decide +kernel
theorem dX10_shop_35 : decode cX10_shop 35 = .ok (.ifCond .lt 11, 3) := by decide +kernel
theorem dX10_shop_38 : decode cX10_shop 38 = .ok (.aload_n 0, 1) := by decide +kernel
theorem dX10_shop_39 : decode cX10_shop 39 = .ok (.invokevirtual 165, 3) := by decide +kernel
theorem dX10_shop_42 : decode cX10_shop 42 = .ok (.istore_n 1, 1) := by decide +kernel
theorem dX10_shop_43 : decode cX10_shop 43 = .ok (.goto (-16), 3) := by decide +kernel
theorem dX10_shop_46 : decode cX10_shop 46 = .ok (.aload_n 0, 1) := by decide +kernel
theorem dX10_shop_47 : decode cX10_shop 47 = .ok (.iconst 0, 1) := by decide +kernel
theorem dX10_shop_48 : decode cX10_shop 48 = .ok (.putfield 101, 3) := by decide +kernel
theorem dX10_shop_51 : decode cX10_shop 51 = .ok (.iload_n 1, 1) := by decide +kernel
theorem dX10_shop_52 : decode cX10_shop 52 = .ok (.ifCond .le 8, 3) := by decide +kernel
theorem dX10_shop_55 : decode cX10_shop 55 = .ok (.bipush (-10), 2) := by decide +kernel
theorem dX10_shop_57 : decode cX10_shop 57 = .ok (.iload_n 1, 1) := by decide +kernel
theorem dX10_shop_58 : decode cX10_shop 58 = .ok (.isub, 1) := by decide +kernel
theorem dX10_shop_59 : decode cX10_shop 59 = .ok (.ireturn, 1) := by decide +kernel
theorem dX10_shop_60 : decode cX10_shop 60 = .ok (.aload_n 0, 1) := by decide +kernel
theorem dX10_shop_61 : decode cX10_shop 61 = .ok (.invokevirtual 168, 3) := by decide +kernel
theorem dX10_shop_64 : decode cX10_shop 64 = .ok (.aload_n 0, 1) := by decide +kernel
theorem dX10_shop_65 : decode cX10_shop 65 = .ok (.iconst 0, 1) := by decide +kernel
theorem dX10_shop_66 : decode cX10_shop 66 = .ok (.putfield 171, 3) := by decide +kernel
theorem dX10_shop_69 : decode cX10_shop 69 = .ok (.aload_n 0, 1) := by decide +kernel
theorem dX10_shop_70 : decode cX10_shop 70 = .ok (.iconst 0, 1) := by decide +kernel
theorem dX10_shop_71 : decode cX10_shop 71 = .ok (.putfield 174, 3) := by decide +kernel
theorem dX10_shop_74 : decode cX10_shop 74 = .ok (.aload_n 0, 1) := by decide +kernel
theorem dX10_shop_75 : decode cX10_shop 75 = .ok (.iconst 0, 1) := by decide +kernel
theorem dX10_shop_76 : decode cX10_shop 76 = .ok (.putfield 177, 3) := by decide +kernel
theorem dX10_shop_79 : decode cX10_shop 79 = .ok (.aload_n 0, 1) := by decide +kernel
theorem dX10_shop_80 : decode cX10_shop 80 = .ok (.getfield 80, 3) := by decide +kernel
theorem dX10_shop_83 : decode cX10_shop 83 = .ok (.iconst 0, 1) := by decide +kernel
theorem dX10_shop_84 : decode cX10_shop 84 = .ok (.iconst 0, 1) := by decide +kernel
theorem dX10_shop_85 : decode cX10_shop 85 = .ok (.bastore, 1) := by decide +kernel
theorem dX10_shop_86 : decode cX10_shop 86 = .ok (.aload_n 0, 1) := by decide +kernel
theorem dX10_shop_87 : decode cX10_shop 87 = .ok (.getfield 80, 3) := by decide +kernel
theorem dX10_shop_90 : decode cX10_shop 90 = .ok (.iconst 1, 1) := by decide +kernel
theorem dX10_shop_91 : decode cX10_shop 91 = .ok (.iconst 0, 1) := by decide +kernel
theorem dX10_shop_92 : decode cX10_shop 92 = .ok (.bastore, 1) := by decide +kernel
theorem dX10_shop_93 : decode cX10_shop 93 = .ok (.aload_n 0, 1) := by decide +kernel
theorem dX10_shop_94 : decode cX10_shop 94 = .ok (.getfield 88, 3) := by decide +kernel
theorem dX10_shop_97 : decode cX10_shop 97 = .ok (.ireturn, 1) := by decide +kernel
theorem dX10_fault_0 : decode cX10_fault 0 = .ok (.aload_n 0, 1) := by decide +kernel
theorem dX10_fault_1 : decode cX10_fault 1 = .ok (.getfield 31, 3) := by decide +kernel
theorem dX10_fault_4 : decode cX10_fault 4 = .ok (.ireturn, 1) := by decide +kernel
theorem dX10_notBelow_0 : decode cX10_notBelow 0 = .ok (.iload_n 0, 1) := by decide +kernel
theorem dX10_notBelow_1 : decode cX10_notBelow 1 = .ok (.ifCond .le 7, 3) := by decide +kernel
theorem dX10_notBelow_4 : decode cX10_notBelow 4 = .ok (.iload_n 0, 1) := by decide +kernel
theorem dX10_notBelow_5 : decode cX10_notBelow 5 = .ok (.goto 4, 3) := by decide +kernel
theorem dX10_notBelow_8 : decode cX10_notBelow 8 = .ok (.iconst 0, 1) := by decide +kernel
theorem dX10_notBelow_9 : decode cX10_notBelow 9 = .ok (.ireturn, 1) := by decide +kernel
theorem dX10_bears_0 : decode cX10_bears 0 = .ok (.aload_n 0, 1) := by decide +kernel
theorem dX10_bears_1 : decode cX10_bears 1 = .ok (.getfield 25, 3) := by decide +kernel
theorem dX10_bears_4 : decode cX10_bears 4 = .ok (.bipush 12, 2) := by decide +kernel
theorem dX10_bears_6 : decode cX10_bears 6 = .ok (.iload_n 1, 1) := by decide +kernel
theorem dX10_bears_7 : decode cX10_bears 7 = .ok (.iadd, 1) := by decide +kernel
theorem dX10_bears_8 : decode cX10_bears 8 = .ok (.iaload, 1) := by decide +kernel
theorem dX10_bears_9 : decode cX10_bears 9 = .ok (.iload_n 2, 1) := by decide +kernel
theorem dX10_bears_10 : decode cX10_bears 10 = .ok (.if_icmp .eq 16, 3) := by decide +kernel
theorem dX10_bears_13 : decode cX10_bears 13 = .ok (.aload_n 0, 1) := by decide +kernel
theorem dX10_bears_14 : decode cX10_bears 14 = .ok (.getfield 25, 3) := by decide +kernel
theorem dX10_bears_17 : decode cX10_bears 17 = .ok (.bipush 18, 2) := by decide +kernel
theorem dX10_bears_19 : decode cX10_bears 19 = .ok (.iload_n 1, 1) := by decide +kernel
theorem dX10_bears_20 : decode cX10_bears 20 = .ok (.iadd, 1) := by decide +kernel
theorem dX10_bears_21 : decode cX10_bears 21 = .ok (.iaload, 1) := by decide +kernel
theorem dX10_bears_22 : decode cX10_bears 22 = .ok (.iload_n 2, 1) := by decide +kernel
theorem dX10_bears_23 : decode cX10_bears 23 = .ok (.if_icmp .ne 7, 3) := by decide +kernel
theorem dX10_bears_26 : decode cX10_bears 26 = .ok (.iconst 1, 1) := by decide +kernel
theorem dX10_bears_27 : decode cX10_bears 27 = .ok (.goto 4, 3) := by decide +kernel
theorem dX10_bears_30 : decode cX10_bears 30 = .ok (.iconst 0, 1) := by decide +kernel
theorem dX10_bears_31 : decode cX10_bears 31 = .ok (.ireturn, 1) := by decide +kernel
theorem dX10_isShared_0 : decode cX10_isShared 0 = .ok (.aload_n 0, 1) := by decide +kernel
theorem dX10_isShared_1 : decode cX10_isShared 1 = .ok (.getfield 25, 3) := by decide +kernel
theorem dX10_isShared_4 : decode cX10_isShared 4 = .ok (.bipush 18, 2) := by decide +kernel
theorem dX10_isShared_6 : decode cX10_isShared 6 = .ok (.iload_n 1, 1) := by decide +kernel
theorem dX10_isShared_7 : decode cX10_isShared 7 = .ok (.iadd, 1) := by decide +kernel
theorem dX10_isShared_8 : decode cX10_isShared 8 = .ok (.iaload, 1) := by decide +kernel
theorem dX10_isShared_9 : decode cX10_isShared 9 = .ok (.iconst (-1), 1) := by decide +kernel
theorem dX10_isShared_10 : decode cX10_isShared 10 = .ok (.if_icmp .eq 7, 3) := by decide +kernel
theorem dX10_isShared_13 : decode cX10_isShared 13 = .ok (.iconst 1, 1) := by decide +kernel
theorem dX10_isShared_14 : decode cX10_isShared 14 = .ok (.goto 4, 3) := by decide +kernel
theorem dX10_isShared_17 : decode cX10_isShared 17 = .ok (.iconst 0, 1) := by decide +kernel
theorem dX10_isShared_18 : decode cX10_isShared 18 = .ok (.ireturn, 1) := by decide +kernel
theorem dX10_partOf_0 : decode cX10_partOf 0 = .ok (.aload_n 0, 1) := by decide +kernel
theorem dX10_partOf_1 : decode cX10_partOf 1 = .ok (.iload_n 1, 1) := by decide +kernel
theorem dX10_partOf_2 : decode cX10_partOf 2 = .ok (.iload_n 2, 1) := by decide +kernel
theorem dX10_partOf_3 : decode cX10_partOf 3 = .ok (.invokevirtual 180, 3) := by decide +kernel
theorem dX10_partOf_6 : decode cX10_partOf 6 = .ok (.ifCond .ne 5, 3) := by decide +kernel
theorem dX10_partOf_9 : decode cX10_partOf 9 = .ok (.iconst 0, 1) := by decide +kernel
theorem dX10_partOf_10 : decode cX10_partOf 10 = .ok (.ireturn, 1) := by decide +kernel
theorem dX10_partOf_11 : decode cX10_partOf 11 = .ok (.aload_n 0, 1) := by decide +kernel
theorem dX10_partOf_12 : decode cX10_partOf 12 = .ok (.iload_n 1, 1) := by decide +kernel
theorem dX10_partOf_13 : decode cX10_partOf 13 = .ok (.invokevirtual 184, 3) := by decide +kernel
theorem dX10_partOf_16 : decode cX10_partOf 16 = .ok (.ifCond .ne 12, 3) := by decide +kernel
theorem dX10_partOf_19 : decode cX10_partOf 19 = .ok (.aload_n 0, 1) := by decide +kernel
theorem dX10_partOf_20 : decode cX10_partOf 20 = .ok (.getfield 25, 3) := by decide +kernel
theorem dX10_partOf_23 : decode cX10_partOf 23 = .ok (.iload_n 1, 1) := by decide +kernel
theorem dX10_partOf_24 : decode cX10_partOf 24 = .ok (.iaload, 1) := by decide +kernel
theorem dX10_partOf_25 : decode cX10_partOf 25 = .ok (.goto 42, 3) := by decide +kernel
theorem dX10_partOf_28 : decode cX10_partOf 28 = .ok (.aload_n 0, 1) := by decide +kernel
theorem dX10_partOf_29 : decode cX10_partOf 29 = .ok (.getfield 25, 3) := by decide +kernel
theorem dX10_partOf_32 : decode cX10_partOf 32 = .ok (.bipush 12, 2) := by decide +kernel
theorem dX10_partOf_34 : decode cX10_partOf 34 = .ok (.iload_n 1, 1) := by decide +kernel
theorem dX10_partOf_35 : decode cX10_partOf 35 = .ok (.iadd, 1) := by decide +kernel
theorem dX10_partOf_36 : decode cX10_partOf 36 = .ok (.iaload, 1) := by decide +kernel
theorem dX10_partOf_37 : decode cX10_partOf 37 = .ok (.iload_n 2, 1) := by decide +kernel
theorem dX10_partOf_38 : decode cX10_partOf 38 = .ok (.if_icmp .ne 21, 3) := by decide +kernel
theorem dX10_partOf_41 : decode cX10_partOf 41 = .ok (.aload_n 0, 1) := by decide +kernel
theorem dX10_partOf_42 : decode cX10_partOf 42 = .ok (.getfield 25, 3) := by decide +kernel
theorem dX10_partOf_45 : decode cX10_partOf 45 = .ok (.iload_n 1, 1) := by decide +kernel
theorem dX10_partOf_46 : decode cX10_partOf 46 = .ok (.iaload, 1) := by decide +kernel
theorem dX10_partOf_47 : decode cX10_partOf 47 = .ok (.aload_n 0, 1) := by decide +kernel
theorem dX10_partOf_48 : decode cX10_partOf 48 = .ok (.getfield 25, 3) := by decide +kernel
theorem dX10_partOf_51 : decode cX10_partOf 51 = .ok (.iload_n 1, 1) := by decide +kernel
theorem dX10_partOf_52 : decode cX10_partOf 52 = .ok (.iaload, 1) := by decide +kernel
theorem dX10_partOf_53 : decode cX10_partOf 53 = .ok (.iconst 2, 1) := by decide +kernel
theorem dX10_partOf_54 : decode cX10_partOf 54 = .ok (.idiv, 1) := by decide +kernel
theorem dX10_partOf_55 : decode cX10_partOf 55 = .ok (.isub, 1) := by decide +kernel
theorem dX10_partOf_56 : decode cX10_partOf 56 = .ok (.goto 11, 3) := by decide +kernel
theorem dX10_partOf_59 : decode cX10_partOf 59 = .ok (.aload_n 0, 1) := by decide +kernel
theorem dX10_partOf_60 : decode cX10_partOf 60 = .ok (.getfield 25, 3) := by decide +kernel
theorem dX10_partOf_63 : decode cX10_partOf 63 = .ok (.iload_n 1, 1) := by decide +kernel
theorem dX10_partOf_64 : decode cX10_partOf 64 = .ok (.iaload, 1) := by decide +kernel
theorem dX10_partOf_65 : decode cX10_partOf 65 = .ok (.iconst 2, 1) := by decide +kernel
theorem dX10_partOf_66 : decode cX10_partOf 66 = .ok (.idiv, 1) := by decide +kernel
theorem dX10_partOf_67 : decode cX10_partOf 67 = .ok (.ireturn, 1) := by decide +kernel
theorem dX10_isAugust_0 : decode cX10_isAugust 0 = .ok (.aload_n 0, 1) := by decide +kernel
theorem dX10_isAugust_1 : decode cX10_isAugust 1 = .ok (.getfield 25, 3) := by decide +kernel
theorem dX10_isAugust_4 : decode cX10_isAugust 4 = .ok (.bipush 30, 2) := by decide +kernel
theorem dX10_isAugust_6 : decode cX10_isAugust 6 = .ok (.iaload, 1) := by decide +kernel
theorem dX10_isAugust_7 : decode cX10_isAugust 7 = .ok (.bipush 12, 2) := by decide +kernel
theorem dX10_isAugust_9 : decode cX10_isAugust 9 = .ok (.irem, 1) := by decide +kernel
theorem dX10_isAugust_10 : decode cX10_isAugust 10 = .ok (.bipush 7, 2) := by decide +kernel
theorem dX10_isAugust_12 : decode cX10_isAugust 12 = .ok (.if_icmp .ne 7, 3) := by decide +kernel
theorem dX10_isAugust_15 : decode cX10_isAugust 15 = .ok (.iconst 1, 1) := by decide +kernel
theorem dX10_isAugust_16 : decode cX10_isAugust 16 = .ok (.goto 4, 3) := by decide +kernel
theorem dX10_isAugust_19 : decode cX10_isAugust 19 = .ok (.iconst 0, 1) := by decide +kernel
theorem dX10_isAugust_20 : decode cX10_isAugust 20 = .ok (.ireturn, 1) := by decide +kernel
theorem dX10_restOf_0 : decode cX10_restOf 0 = .ok (.aload_n 0, 1) := by decide +kernel
theorem dX10_restOf_1 : decode cX10_restOf 1 = .ok (.getfield 16, 3) := by decide +kernel
theorem dX10_restOf_4 : decode cX10_restOf 4 = .ok (.iload_n 1, 1) := by decide +kernel
theorem dX10_restOf_5 : decode cX10_restOf 5 = .ok (.iaload, 1) := by decide +kernel
theorem dX10_restOf_6 : decode cX10_restOf 6 = .ok (.aload_n 0, 1) := by decide +kernel
theorem dX10_restOf_7 : decode cX10_restOf 7 = .ok (.getfield 25, 3) := by decide +kernel
theorem dX10_restOf_10 : decode cX10_restOf 10 = .ok (.bipush 6, 2) := by decide +kernel
theorem dX10_restOf_12 : decode cX10_restOf 12 = .ok (.iload_n 1, 1) := by decide +kernel
theorem dX10_restOf_13 : decode cX10_restOf 13 = .ok (.iadd, 1) := by decide +kernel
theorem dX10_restOf_14 : decode cX10_restOf 14 = .ok (.iaload, 1) := by decide +kernel
theorem dX10_restOf_15 : decode cX10_restOf 15 = .ok (.isub, 1) := by decide +kernel
theorem dX10_restOf_16 : decode cX10_restOf 16 = .ok (.invokestatic 188, 3) := by decide +kernel
theorem dX10_restOf_19 : decode cX10_restOf 19 = .ok (.ireturn, 1) := by decide +kernel
theorem dX10_rubsOn_0 : decode cX10_rubsOn 0 = .ok (.aload_n 0, 1) := by decide +kernel
theorem dX10_rubsOn_1 : decode cX10_rubsOn 1 = .ok (.iload_n 1, 1) := by decide +kernel
theorem dX10_rubsOn_2 : decode cX10_rubsOn 2 = .ok (.invokevirtual 192, 3) := by decide +kernel
theorem dX10_rubsOn_5 : decode cX10_rubsOn 5 = .ok (.istore_n 3, 1) := by decide +kernel
theorem dX10_rubsOn_6 : decode cX10_rubsOn 6 = .ok (.aload_n 0, 1) := by decide +kernel
theorem dX10_rubsOn_7 : decode cX10_rubsOn 7 = .ok (.getfield 7, 3) := by decide +kernel
theorem dX10_rubsOn_10 : decode cX10_rubsOn 10 = .ok (.iload_n 1, 1) := by decide +kernel
theorem dX10_rubsOn_11 : decode cX10_rubsOn 11 = .ok (.iaload, 1) := by decide +kernel
theorem dX10_rubsOn_12 : decode cX10_rubsOn 12 = .ok (.tableswitch 94 1 4 #[32, 48, 65, 79], 32) := by decide +kernel
theorem dX10_rubsOn_44 : decode cX10_rubsOn 44 = .ok (.aload_n 0, 1) := by decide +kernel
theorem dX10_rubsOn_45 : decode cX10_rubsOn 45 = .ok (.iload_n 1, 1) := by decide +kernel
theorem dX10_rubsOn_46 : decode cX10_rubsOn 46 = .ok (.invokevirtual 184, 3) := by decide +kernel
theorem dX10_rubsOn_49 : decode cX10_rubsOn 49 = .ok (.ifCond .eq 9, 3) := by decide +kernel
theorem dX10_rubsOn_52 : decode cX10_rubsOn 52 = .ok (.iload_n 3, 1) := by decide +kernel
theorem dX10_rubsOn_53 : decode cX10_rubsOn 53 = .ok (.iconst 2, 1) := by decide +kernel
theorem dX10_rubsOn_54 : decode cX10_rubsOn 54 = .ok (.idiv, 1) := by decide +kernel
theorem dX10_rubsOn_55 : decode cX10_rubsOn 55 = .ok (.goto 4, 3) := by decide +kernel
theorem dX10_rubsOn_58 : decode cX10_rubsOn 58 = .ok (.iload_n 3, 1) := by decide +kernel
theorem dX10_rubsOn_59 : decode cX10_rubsOn 59 = .ok (.ireturn, 1) := by decide +kernel
theorem dX10_rubsOn_60 : decode cX10_rubsOn 60 = .ok (.iload_n 3, 1) := by decide +kernel
theorem dX10_rubsOn_61 : decode cX10_rubsOn 61 = .ok (.ifCond .le 14, 3) := by decide +kernel
theorem dX10_rubsOn_64 : decode cX10_rubsOn 64 = .ok (.iload_n 3, 1) := by decide +kernel
theorem dX10_rubsOn_65 : decode cX10_rubsOn 65 = .ok (.aload_n 0, 1) := by decide +kernel
theorem dX10_rubsOn_66 : decode cX10_rubsOn 66 = .ok (.getfield 22, 3) := by decide +kernel
theorem dX10_rubsOn_69 : decode cX10_rubsOn 69 = .ok (.iload_n 2, 1) := by decide +kernel
theorem dX10_rubsOn_70 : decode cX10_rubsOn 70 = .ok (.iaload, 1) := by decide +kernel
theorem dX10_rubsOn_71 : decode cX10_rubsOn 71 = .ok (.iadd, 1) := by decide +kernel
theorem dX10_rubsOn_72 : decode cX10_rubsOn 72 = .ok (.goto 4, 3) := by decide +kernel
theorem dX10_rubsOn_75 : decode cX10_rubsOn 75 = .ok (.iconst 0, 1) := by decide +kernel
theorem dX10_rubsOn_76 : decode cX10_rubsOn 76 = .ok (.ireturn, 1) := by decide +kernel
theorem dX10_rubsOn_77 : decode cX10_rubsOn 77 = .ok (.iload_n 3, 1) := by decide +kernel
theorem dX10_rubsOn_78 : decode cX10_rubsOn 78 = .ok (.iconst 2, 1) := by decide +kernel
theorem dX10_rubsOn_79 : decode cX10_rubsOn 79 = .ok (.aload_n 0, 1) := by decide +kernel
theorem dX10_rubsOn_80 : decode cX10_rubsOn 80 = .ok (.getfield 25, 3) := by decide +kernel
theorem dX10_rubsOn_83 : decode cX10_rubsOn 83 = .ok (.bipush 30, 2) := by decide +kernel
theorem dX10_rubsOn_85 : decode cX10_rubsOn 85 = .ok (.iaload, 1) := by decide +kernel
theorem dX10_rubsOn_86 : decode cX10_rubsOn 86 = .ok (.iconst 2, 1) := by decide +kernel
theorem dX10_rubsOn_87 : decode cX10_rubsOn 87 = .ok (.irem, 1) := by decide +kernel
theorem dX10_rubsOn_88 : decode cX10_rubsOn 88 = .ok (.imul, 1) := by decide +kernel
theorem dX10_rubsOn_89 : decode cX10_rubsOn 89 = .ok (.iadd, 1) := by decide +kernel
theorem dX10_rubsOn_90 : decode cX10_rubsOn 90 = .ok (.ireturn, 1) := by decide +kernel
theorem dX10_rubsOn_91 : decode cX10_rubsOn 91 = .ok (.aload_n 0, 1) := by decide +kernel
theorem dX10_rubsOn_92 : decode cX10_rubsOn 92 = .ok (.invokevirtual 195, 3) := by decide +kernel
theorem dX10_rubsOn_95 : decode cX10_rubsOn 95 = .ok (.ifCond .eq 9, 3) := by decide +kernel
theorem dX10_rubsOn_98 : decode cX10_rubsOn 98 = .ok (.iconst 2, 1) := by decide +kernel
theorem dX10_rubsOn_99 : decode cX10_rubsOn 99 = .ok (.iload_n 3, 1) := by decide +kernel
theorem dX10_rubsOn_100 : decode cX10_rubsOn 100 = .ok (.imul, 1) := by decide +kernel
theorem dX10_rubsOn_101 : decode cX10_rubsOn 101 = .ok (.goto 4, 3) := by decide +kernel
theorem dX10_rubsOn_104 : decode cX10_rubsOn 104 = .ok (.iconst 0, 1) := by decide +kernel
theorem dX10_rubsOn_105 : decode cX10_rubsOn 105 = .ok (.ireturn, 1) := by decide +kernel
theorem dX10_rubsOn_106 : decode cX10_rubsOn 106 = .ok (.iload_n 3, 1) := by decide +kernel
theorem dX10_rubsOn_107 : decode cX10_rubsOn 107 = .ok (.ireturn, 1) := by decide +kernel
theorem dX10_partsOf_0 : decode cX10_partsOf 0 = .ok (.iconst 0, 1) := by decide +kernel
theorem dX10_partsOf_1 : decode cX10_partsOf 1 = .ok (.istore_n 2, 1) := by decide +kernel
theorem dX10_partsOf_2 : decode cX10_partsOf 2 = .ok (.iconst 0, 1) := by decide +kernel
theorem dX10_partsOf_3 : decode cX10_partsOf 3 = .ok (.istore_n 3, 1) := by decide +kernel
theorem dX10_partsOf_4 : decode cX10_partsOf 4 = .ok (.iload_n 3, 1) := by decide +kernel
theorem dX10_partsOf_5 : decode cX10_partsOf 5 = .ok (.aload_n 0, 1) := by decide +kernel
theorem dX10_partsOf_6 : decode cX10_partsOf 6 = .ok (.getfield 88, 3) := by decide +kernel
theorem dX10_partsOf_9 : decode cX10_partsOf 9 = .ok (.if_icmp .ge 18, 3) := by decide +kernel
theorem dX10_partsOf_12 : decode cX10_partsOf 12 = .ok (.iload_n 2, 1) := by decide +kernel
theorem dX10_partsOf_13 : decode cX10_partsOf 13 = .ok (.aload_n 0, 1) := by decide +kernel
theorem dX10_partsOf_14 : decode cX10_partsOf 14 = .ok (.iload_n 3, 1) := by decide +kernel
theorem dX10_partsOf_15 : decode cX10_partsOf 15 = .ok (.iload_n 1, 1) := by decide +kernel
theorem dX10_partsOf_16 : decode cX10_partsOf 16 = .ok (.invokevirtual 199, 3) := by decide +kernel
theorem dX10_partsOf_19 : decode cX10_partsOf 19 = .ok (.iadd, 1) := by decide +kernel
theorem dX10_partsOf_20 : decode cX10_partsOf 20 = .ok (.istore_n 2, 1) := by decide +kernel
theorem dX10_partsOf_21 : decode cX10_partsOf 21 = .ok (.iinc 3 1, 3) := by decide +kernel
theorem dX10_partsOf_24 : decode cX10_partsOf 24 = .ok (.goto (-20), 3) := by decide +kernel
theorem dX10_partsOf_27 : decode cX10_partsOf 27 = .ok (.iload_n 2, 1) := by decide +kernel
theorem dX10_partsOf_28 : decode cX10_partsOf 28 = .ok (.ireturn, 1) := by decide +kernel
theorem dX10_gallingOf_0 : decode cX10_gallingOf 0 = .ok (.aload_n 0, 1) := by decide +kernel
theorem dX10_gallingOf_1 : decode cX10_gallingOf 1 = .ok (.iload_n 1, 1) := by decide +kernel
theorem dX10_gallingOf_2 : decode cX10_gallingOf 2 = .ok (.invokevirtual 202, 3) := by decide +kernel
theorem dX10_gallingOf_5 : decode cX10_gallingOf 5 = .ok (.aload_n 0, 1) := by decide +kernel
theorem dX10_gallingOf_6 : decode cX10_gallingOf 6 = .ok (.getfield 19, 3) := by decide +kernel
theorem dX10_gallingOf_9 : decode cX10_gallingOf 9 = .ok (.iload_n 1, 1) := by decide +kernel
theorem dX10_gallingOf_10 : decode cX10_gallingOf 10 = .ok (.iaload, 1) := by decide +kernel
theorem dX10_gallingOf_11 : decode cX10_gallingOf 11 = .ok (.isub, 1) := by decide +kernel
theorem dX10_gallingOf_12 : decode cX10_gallingOf 12 = .ok (.invokestatic 188, 3) := by decide +kernel
theorem dX10_gallingOf_15 : decode cX10_gallingOf 15 = .ok (.istore_n 2, 1) := by decide +kernel
theorem dX10_gallingOf_16 : decode cX10_gallingOf 16 = .ok (.iconst 0, 1) := by decide +kernel
theorem dX10_gallingOf_17 : decode cX10_gallingOf 17 = .ok (.istore_n 3, 1) := by decide +kernel
theorem dX10_gallingOf_18 : decode cX10_gallingOf 18 = .ok (.iload_n 3, 1) := by decide +kernel
theorem dX10_gallingOf_19 : decode cX10_gallingOf 19 = .ok (.aload_n 0, 1) := by decide +kernel
theorem dX10_gallingOf_20 : decode cX10_gallingOf 20 = .ok (.getfield 88, 3) := by decide +kernel
theorem dX10_gallingOf_23 : decode cX10_gallingOf 23 = .ok (.if_icmp .ge 31, 3) := by decide +kernel
theorem dX10_gallingOf_26 : decode cX10_gallingOf 26 = .ok (.iload_n 2, 1) := by decide +kernel
theorem dX10_gallingOf_27 : decode cX10_gallingOf 27 = .ok (.aload_n 0, 1) := by decide +kernel
theorem dX10_gallingOf_28 : decode cX10_gallingOf 28 = .ok (.iload_n 3, 1) := by decide +kernel
theorem dX10_gallingOf_29 : decode cX10_gallingOf 29 = .ok (.iload_n 1, 1) := by decide +kernel
theorem dX10_gallingOf_30 : decode cX10_gallingOf 30 = .ok (.invokevirtual 180, 3) := by decide +kernel
theorem dX10_gallingOf_33 : decode cX10_gallingOf 33 = .ok (.ifCond .eq 12, 3) := by decide +kernel
theorem dX10_gallingOf_36 : decode cX10_gallingOf 36 = .ok (.aload_n 0, 1) := by decide +kernel
theorem dX10_gallingOf_37 : decode cX10_gallingOf 37 = .ok (.iload_n 3, 1) := by decide +kernel
theorem dX10_gallingOf_38 : decode cX10_gallingOf 38 = .ok (.iload_n 1, 1) := by decide +kernel
theorem dX10_gallingOf_39 : decode cX10_gallingOf 39 = .ok (.invokevirtual 205, 3) := by decide +kernel
theorem dX10_gallingOf_42 : decode cX10_gallingOf 42 = .ok (.goto 4, 3) := by decide +kernel
theorem dX10_gallingOf_45 : decode cX10_gallingOf 45 = .ok (.iconst 0, 1) := by decide +kernel
theorem dX10_gallingOf_46 : decode cX10_gallingOf 46 = .ok (.iadd, 1) := by decide +kernel
theorem dX10_gallingOf_47 : decode cX10_gallingOf 47 = .ok (.istore_n 2, 1) := by decide +kernel
theorem dX10_gallingOf_48 : decode cX10_gallingOf 48 = .ok (.iinc 3 1, 3) := by decide +kernel
theorem dX10_gallingOf_51 : decode cX10_gallingOf 51 = .ok (.goto (-33), 3) := by decide +kernel
theorem dX10_gallingOf_54 : decode cX10_gallingOf 54 = .ok (.iload_n 2, 1) := by decide +kernel
theorem dX10_gallingOf_55 : decode cX10_gallingOf 55 = .ok (.ireturn, 1) := by decide +kernel
theorem dX10_allGalling_0 : decode cX10_allGalling 0 = .ok (.iconst 0, 1) := by decide +kernel
theorem dX10_allGalling_1 : decode cX10_allGalling 1 = .ok (.istore_n 1, 1) := by decide +kernel
theorem dX10_allGalling_2 : decode cX10_allGalling 2 = .ok (.iconst 0, 1) := by decide +kernel
theorem dX10_allGalling_3 : decode cX10_allGalling 3 = .ok (.istore_n 2, 1) := by decide +kernel
theorem dX10_allGalling_4 : decode cX10_allGalling 4 = .ok (.iload_n 2, 1) := by decide +kernel
theorem dX10_allGalling_5 : decode cX10_allGalling 5 = .ok (.aload_n 0, 1) := by decide +kernel
theorem dX10_allGalling_6 : decode cX10_allGalling 6 = .ok (.getfield 95, 3) := by decide +kernel
theorem dX10_allGalling_9 : decode cX10_allGalling 9 = .ok (.if_icmp .ge 17, 3) := by decide +kernel
theorem dX10_allGalling_12 : decode cX10_allGalling 12 = .ok (.iload_n 1, 1) := by decide +kernel
theorem dX10_allGalling_13 : decode cX10_allGalling 13 = .ok (.aload_n 0, 1) := by decide +kernel
theorem dX10_allGalling_14 : decode cX10_allGalling 14 = .ok (.iload_n 2, 1) := by decide +kernel
theorem dX10_allGalling_15 : decode cX10_allGalling 15 = .ok (.invokevirtual 208, 3) := by decide +kernel
theorem dX10_allGalling_18 : decode cX10_allGalling 18 = .ok (.iadd, 1) := by decide +kernel
theorem dX10_allGalling_19 : decode cX10_allGalling 19 = .ok (.istore_n 1, 1) := by decide +kernel
theorem dX10_allGalling_20 : decode cX10_allGalling 20 = .ok (.iinc 2 1, 3) := by decide +kernel
theorem dX10_allGalling_23 : decode cX10_allGalling 23 = .ok (.goto (-19), 3) := by decide +kernel
theorem dX10_allGalling_26 : decode cX10_allGalling 26 = .ok (.iload_n 1, 1) := by decide +kernel
theorem dX10_allGalling_27 : decode cX10_allGalling 27 = .ok (.ireturn, 1) := by decide +kernel
theorem dX10_carriedBy_0 : decode cX10_carriedBy 0 = .ok (.iconst 0, 1) := by decide +kernel
theorem dX10_carriedBy_1 : decode cX10_carriedBy 1 = .ok (.istore_n 2, 1) := by decide +kernel
theorem dX10_carriedBy_2 : decode cX10_carriedBy 2 = .ok (.iconst 0, 1) := by decide +kernel
theorem dX10_carriedBy_3 : decode cX10_carriedBy 3 = .ok (.istore_n 3, 1) := by decide +kernel
theorem dX10_carriedBy_4 : decode cX10_carriedBy 4 = .ok (.iload_n 3, 1) := by decide +kernel
theorem dX10_carriedBy_5 : decode cX10_carriedBy 5 = .ok (.aload_n 0, 1) := by decide +kernel
theorem dX10_carriedBy_6 : decode cX10_carriedBy 6 = .ok (.getfield 88, 3) := by decide +kernel
theorem dX10_carriedBy_9 : decode cX10_carriedBy 9 = .ok (.if_icmp .ge 28, 3) := by decide +kernel
theorem dX10_carriedBy_12 : decode cX10_carriedBy 12 = .ok (.iload_n 2, 1) := by decide +kernel
theorem dX10_carriedBy_13 : decode cX10_carriedBy 13 = .ok (.aload_n 0, 1) := by decide +kernel
theorem dX10_carriedBy_14 : decode cX10_carriedBy 14 = .ok (.iload_n 3, 1) := by decide +kernel
theorem dX10_carriedBy_15 : decode cX10_carriedBy 15 = .ok (.iload_n 1, 1) := by decide +kernel
theorem dX10_carriedBy_16 : decode cX10_carriedBy 16 = .ok (.invokevirtual 180, 3) := by decide +kernel
theorem dX10_carriedBy_19 : decode cX10_carriedBy 19 = .ok (.ifCond .eq 9, 3) := by decide +kernel
theorem dX10_carriedBy_22 : decode cX10_carriedBy 22 = .ok (.iconst 1, 1) := by decide +kernel
theorem dX10_carriedBy_23 : decode cX10_carriedBy 23 = .ok (.iload_n 3, 1) := by decide +kernel
theorem dX10_carriedBy_24 : decode cX10_carriedBy 24 = .ok (.ishl, 1) := by decide +kernel
theorem dX10_carriedBy_25 : decode cX10_carriedBy 25 = .ok (.goto 4, 3) := by decide +kernel
theorem dX10_carriedBy_28 : decode cX10_carriedBy 28 = .ok (.iconst 0, 1) := by decide +kernel
theorem dX10_carriedBy_29 : decode cX10_carriedBy 29 = .ok (.ior, 1) := by decide +kernel
theorem dX10_carriedBy_30 : decode cX10_carriedBy 30 = .ok (.istore_n 2, 1) := by decide +kernel
theorem dX10_carriedBy_31 : decode cX10_carriedBy 31 = .ok (.iinc 3 1, 3) := by decide +kernel
theorem dX10_carriedBy_34 : decode cX10_carriedBy 34 = .ok (.goto (-30), 3) := by decide +kernel
theorem dX10_carriedBy_37 : decode cX10_carriedBy 37 = .ok (.iload_n 2, 1) := by decide +kernel
theorem dX10_carriedBy_38 : decode cX10_carriedBy 38 = .ok (.ireturn, 1) := by decide +kernel
theorem dX10_galledOnes_0 : decode cX10_galledOnes 0 = .ok (.iconst 0, 1) := by decide +kernel
theorem dX10_galledOnes_1 : decode cX10_galledOnes 1 = .ok (.istore_n 1, 1) := by decide +kernel
theorem dX10_galledOnes_2 : decode cX10_galledOnes 2 = .ok (.iconst 0, 1) := by decide +kernel
theorem dX10_galledOnes_3 : decode cX10_galledOnes 3 = .ok (.istore_n 2, 1) := by decide +kernel
theorem dX10_galledOnes_4 : decode cX10_galledOnes 4 = .ok (.iload_n 2, 1) := by decide +kernel
theorem dX10_galledOnes_5 : decode cX10_galledOnes 5 = .ok (.aload_n 0, 1) := by decide +kernel
theorem dX10_galledOnes_6 : decode cX10_galledOnes 6 = .ok (.getfield 95, 3) := by decide +kernel
theorem dX10_galledOnes_9 : decode cX10_galledOnes 9 = .ok (.if_icmp .ge 33, 3) := by decide +kernel
theorem dX10_galledOnes_12 : decode cX10_galledOnes 12 = .ok (.iload_n 1, 1) := by decide +kernel
theorem dX10_galledOnes_13 : decode cX10_galledOnes 13 = .ok (.aload_n 0, 1) := by decide +kernel
theorem dX10_galledOnes_14 : decode cX10_galledOnes 14 = .ok (.getfield 25, 3) := by decide +kernel
theorem dX10_galledOnes_17 : decode cX10_galledOnes 17 = .ok (.bipush 24, 2) := by decide +kernel
theorem dX10_galledOnes_19 : decode cX10_galledOnes 19 = .ok (.iload_n 2, 1) := by decide +kernel
theorem dX10_galledOnes_20 : decode cX10_galledOnes 20 = .ok (.iadd, 1) := by decide +kernel
theorem dX10_galledOnes_21 : decode cX10_galledOnes 21 = .ok (.iaload, 1) := by decide +kernel
theorem dX10_galledOnes_22 : decode cX10_galledOnes 22 = .ok (.bipush 20, 2) := by decide +kernel
theorem dX10_galledOnes_24 : decode cX10_galledOnes 24 = .ok (.if_icmp .lt 9, 3) := by decide +kernel
theorem dX10_galledOnes_27 : decode cX10_galledOnes 27 = .ok (.iconst 1, 1) := by decide +kernel
theorem dX10_galledOnes_28 : decode cX10_galledOnes 28 = .ok (.iload_n 2, 1) := by decide +kernel
theorem dX10_galledOnes_29 : decode cX10_galledOnes 29 = .ok (.ishl, 1) := by decide +kernel
theorem dX10_galledOnes_30 : decode cX10_galledOnes 30 = .ok (.goto 4, 3) := by decide +kernel
theorem dX10_galledOnes_33 : decode cX10_galledOnes 33 = .ok (.iconst 0, 1) := by decide +kernel
theorem dX10_galledOnes_34 : decode cX10_galledOnes 34 = .ok (.ior, 1) := by decide +kernel
theorem dX10_galledOnes_35 : decode cX10_galledOnes 35 = .ok (.istore_n 1, 1) := by decide +kernel
theorem dX10_galledOnes_36 : decode cX10_galledOnes 36 = .ok (.iinc 2 1, 3) := by decide +kernel
theorem dX10_galledOnes_39 : decode cX10_galledOnes 39 = .ok (.goto (-35), 3) := by decide +kernel
theorem dX10_galledOnes_42 : decode cX10_galledOnes 42 = .ok (.iload_n 1, 1) := by decide +kernel
theorem dX10_galledOnes_43 : decode cX10_galledOnes 43 = .ok (.ireturn, 1) := by decide +kernel
theorem dX10_freeOnes_0 : decode cX10_freeOnes 0 = .ok (.iconst 0, 1) := by decide +kernel
theorem dX10_freeOnes_1 : decode cX10_freeOnes 1 = .ok (.istore_n 1, 1) := by decide +kernel
theorem dX10_freeOnes_2 : decode cX10_freeOnes 2 = .ok (.iconst 0, 1) := by decide +kernel
theorem dX10_freeOnes_3 : decode cX10_freeOnes 3 = .ok (.istore_n 2, 1) := by decide +kernel
theorem dX10_freeOnes_4 : decode cX10_freeOnes 4 = .ok (.iload_n 2, 1) := by decide +kernel
theorem dX10_freeOnes_5 : decode cX10_freeOnes 5 = .ok (.aload_n 0, 1) := by decide +kernel
theorem dX10_freeOnes_6 : decode cX10_freeOnes 6 = .ok (.getfield 88, 3) := by decide +kernel
theorem dX10_freeOnes_9 : decode cX10_freeOnes 9 = .ok (.if_icmp .ge 32, 3) := by decide +kernel
theorem dX10_freeOnes_12 : decode cX10_freeOnes 12 = .ok (.iload_n 1, 1) := by decide +kernel
theorem dX10_freeOnes_13 : decode cX10_freeOnes 13 = .ok (.aload_n 0, 1) := by decide +kernel
theorem dX10_freeOnes_14 : decode cX10_freeOnes 14 = .ok (.getfield 25, 3) := by decide +kernel
theorem dX10_freeOnes_17 : decode cX10_freeOnes 17 = .ok (.bipush 12, 2) := by decide +kernel
theorem dX10_freeOnes_19 : decode cX10_freeOnes 19 = .ok (.iload_n 2, 1) := by decide +kernel
theorem dX10_freeOnes_20 : decode cX10_freeOnes 20 = .ok (.iadd, 1) := by decide +kernel
theorem dX10_freeOnes_21 : decode cX10_freeOnes 21 = .ok (.iaload, 1) := by decide +kernel
theorem dX10_freeOnes_22 : decode cX10_freeOnes 22 = .ok (.iconst (-1), 1) := by decide +kernel
theorem dX10_freeOnes_23 : decode cX10_freeOnes 23 = .ok (.if_icmp .ne 9, 3) := by decide +kernel
theorem dX10_freeOnes_26 : decode cX10_freeOnes 26 = .ok (.iconst 1, 1) := by decide +kernel
theorem dX10_freeOnes_27 : decode cX10_freeOnes 27 = .ok (.iload_n 2, 1) := by decide +kernel
theorem dX10_freeOnes_28 : decode cX10_freeOnes 28 = .ok (.ishl, 1) := by decide +kernel
theorem dX10_freeOnes_29 : decode cX10_freeOnes 29 = .ok (.goto 4, 3) := by decide +kernel
theorem dX10_freeOnes_32 : decode cX10_freeOnes 32 = .ok (.iconst 0, 1) := by decide +kernel
theorem dX10_freeOnes_33 : decode cX10_freeOnes 33 = .ok (.ior, 1) := by decide +kernel
theorem dX10_freeOnes_34 : decode cX10_freeOnes 34 = .ok (.istore_n 1, 1) := by decide +kernel
theorem dX10_freeOnes_35 : decode cX10_freeOnes 35 = .ok (.iinc 2 1, 3) := by decide +kernel
theorem dX10_freeOnes_38 : decode cX10_freeOnes 38 = .ok (.goto (-34), 3) := by decide +kernel
theorem dX10_freeOnes_41 : decode cX10_freeOnes 41 = .ok (.iload_n 1, 1) := by decide +kernel
theorem dX10_freeOnes_42 : decode cX10_freeOnes 42 = .ok (.ireturn, 1) := by decide +kernel
theorem dX10_sharedOnes_0 : decode cX10_sharedOnes 0 = .ok (.iconst 0, 1) := by decide +kernel
theorem dX10_sharedOnes_1 : decode cX10_sharedOnes 1 = .ok (.istore_n 1, 1) := by decide +kernel
theorem dX10_sharedOnes_2 : decode cX10_sharedOnes 2 = .ok (.iconst 0, 1) := by decide +kernel
theorem dX10_sharedOnes_3 : decode cX10_sharedOnes 3 = .ok (.istore_n 2, 1) := by decide +kernel
theorem dX10_sharedOnes_4 : decode cX10_sharedOnes 4 = .ok (.iload_n 2, 1) := by decide +kernel
theorem dX10_sharedOnes_5 : decode cX10_sharedOnes 5 = .ok (.aload_n 0, 1) := by decide +kernel
theorem dX10_sharedOnes_6 : decode cX10_sharedOnes 6 = .ok (.getfield 88, 3) := by decide +kernel
theorem dX10_sharedOnes_9 : decode cX10_sharedOnes 9 = .ok (.if_icmp .ge 27, 3) := by decide +kernel
theorem dX10_sharedOnes_12 : decode cX10_sharedOnes 12 = .ok (.iload_n 1, 1) := by decide +kernel
theorem dX10_sharedOnes_13 : decode cX10_sharedOnes 13 = .ok (.aload_n 0, 1) := by decide +kernel
theorem dX10_sharedOnes_14 : decode cX10_sharedOnes 14 = .ok (.iload_n 2, 1) := by decide +kernel
theorem dX10_sharedOnes_15 : decode cX10_sharedOnes 15 = .ok (.invokevirtual 184, 3) := by decide +kernel
theorem dX10_sharedOnes_18 : decode cX10_sharedOnes 18 = .ok (.ifCond .eq 9, 3) := by decide +kernel
theorem dX10_sharedOnes_21 : decode cX10_sharedOnes 21 = .ok (.iconst 1, 1) := by decide +kernel
theorem dX10_sharedOnes_22 : decode cX10_sharedOnes 22 = .ok (.iload_n 2, 1) := by decide +kernel
theorem dX10_sharedOnes_23 : decode cX10_sharedOnes 23 = .ok (.ishl, 1) := by decide +kernel
theorem dX10_sharedOnes_24 : decode cX10_sharedOnes 24 = .ok (.goto 4, 3) := by decide +kernel
theorem dX10_sharedOnes_27 : decode cX10_sharedOnes 27 = .ok (.iconst 0, 1) := by decide +kernel
theorem dX10_sharedOnes_28 : decode cX10_sharedOnes 28 = .ok (.ior, 1) := by decide +kernel
theorem dX10_sharedOnes_29 : decode cX10_sharedOnes 29 = .ok (.istore_n 1, 1) := by decide +kernel
theorem dX10_sharedOnes_30 : decode cX10_sharedOnes 30 = .ok (.iinc 2 1, 3) := by decide +kernel
theorem dX10_sharedOnes_33 : decode cX10_sharedOnes 33 = .ok (.goto (-29), 3) := by decide +kernel
theorem dX10_sharedOnes_36 : decode cX10_sharedOnes 36 = .ok (.iload_n 1, 1) := by decide +kernel
theorem dX10_sharedOnes_37 : decode cX10_sharedOnes 37 = .ok (.ireturn, 1) := by decide +kernel
theorem dX10_most_0 : decode cX10_most 0 = .ok (.iconst (-1), 1) := by decide +kernel
theorem dX10_most_1 : decode cX10_most 1 = .ok (.istore_n 1, 1) := by decide +kernel
theorem dX10_most_2 : decode cX10_most 2 = .ok (.iconst 0, 1) := by decide +kernel
theorem dX10_most_3 : decode cX10_most 3 = .ok (.istore_n 2, 1) := by decide +kernel
theorem dX10_most_4 : decode cX10_most 4 = .ok (.iload_n 2, 1) := by decide +kernel
theorem dX10_most_5 : decode cX10_most 5 = .ok (.aload_n 0, 1) := by decide +kernel
theorem dX10_most_6 : decode cX10_most 6 = .ok (.getfield 95, 3) := by decide +kernel
theorem dX10_most_9 : decode cX10_most 9 = .ok (.if_icmp .ge 32, 3) := by decide +kernel
theorem dX10_most_12 : decode cX10_most 12 = .ok (.iload_n 1, 1) := by decide +kernel
theorem dX10_most_13 : decode cX10_most 13 = .ok (.ifCond .lt 16, 3) := by decide +kernel
theorem dX10_most_16 : decode cX10_most 16 = .ok (.aload_n 0, 1) := by decide +kernel
theorem dX10_most_17 : decode cX10_most 17 = .ok (.iload_n 2, 1) := by decide +kernel
theorem dX10_most_18 : decode cX10_most 18 = .ok (.invokevirtual 202, 3) := by decide +kernel
theorem dX10_most_21 : decode cX10_most 21 = .ok (.aload_n 0, 1) := by decide +kernel
theorem dX10_most_22 : decode cX10_most 22 = .ok (.iload_n 1, 1) := by decide +kernel
theorem dX10_most_23 : decode cX10_most 23 = .ok (.invokevirtual 202, 3) := by decide +kernel
theorem dX10_most_26 : decode cX10_most 26 = .ok (.if_icmp .le 7, 3) := by decide +kernel
theorem dX10_most_29 : decode cX10_most 29 = .ok (.iload_n 2, 1) := by decide +kernel
theorem dX10_most_30 : decode cX10_most 30 = .ok (.goto 4, 3) := by decide +kernel
theorem dX10_most_33 : decode cX10_most 33 = .ok (.iload_n 1, 1) := by decide +kernel
theorem dX10_most_34 : decode cX10_most 34 = .ok (.istore_n 1, 1) := by decide +kernel
theorem dX10_most_35 : decode cX10_most 35 = .ok (.iinc 2 1, 3) := by decide +kernel
theorem dX10_most_38 : decode cX10_most 38 = .ok (.goto (-34), 3) := by decide +kernel
theorem dX10_most_41 : decode cX10_most 41 = .ok (.iload_n 1, 1) := by decide +kernel
theorem dX10_most_42 : decode cX10_most 42 = .ok (.ireturn, 1) := by decide +kernel
theorem dX10_needOf_0 : decode cX10_needOf 0 = .ok (.aload_n 0, 1) := by decide +kernel
theorem dX10_needOf_1 : decode cX10_needOf 1 = .ok (.iload_n 1, 1) := by decide +kernel
theorem dX10_needOf_2 : decode cX10_needOf 2 = .ok (.invokevirtual 192, 3) := by decide +kernel
theorem dX10_needOf_5 : decode cX10_needOf 5 = .ok (.istore_n 2, 1) := by decide +kernel
theorem dX10_needOf_6 : decode cX10_needOf 6 = .ok (.aload_n 0, 1) := by decide +kernel
theorem dX10_needOf_7 : decode cX10_needOf 7 = .ok (.getfield 7, 3) := by decide +kernel
theorem dX10_needOf_10 : decode cX10_needOf 10 = .ok (.iload_n 1, 1) := by decide +kernel
theorem dX10_needOf_11 : decode cX10_needOf 11 = .ok (.iaload, 1) := by decide +kernel
theorem dX10_needOf_12 : decode cX10_needOf 12 = .ok (.tableswitch 84 1 4 #[32, 84, 51, 71], 32) := by decide +kernel
theorem dX10_needOf_44 : decode cX10_needOf 44 = .ok (.aload_n 0, 1) := by decide +kernel
theorem dX10_needOf_45 : decode cX10_needOf 45 = .ok (.iload_n 1, 1) := by decide +kernel
theorem dX10_needOf_46 : decode cX10_needOf 46 = .ok (.invokevirtual 184, 3) := by decide +kernel
theorem dX10_needOf_49 : decode cX10_needOf 49 = .ok (.ifCond .eq 12, 3) := by decide +kernel
theorem dX10_needOf_52 : decode cX10_needOf 52 = .ok (.iload_n 2, 1) := by decide +kernel
theorem dX10_needOf_53 : decode cX10_needOf 53 = .ok (.iconst 1, 1) := by decide +kernel
theorem dX10_needOf_54 : decode cX10_needOf 54 = .ok (.isub, 1) := by decide +kernel
theorem dX10_needOf_55 : decode cX10_needOf 55 = .ok (.invokestatic 188, 3) := by decide +kernel
theorem dX10_needOf_58 : decode cX10_needOf 58 = .ok (.goto 4, 3) := by decide +kernel
theorem dX10_needOf_61 : decode cX10_needOf 61 = .ok (.iload_n 2, 1) := by decide +kernel
theorem dX10_needOf_62 : decode cX10_needOf 62 = .ok (.ireturn, 1) := by decide +kernel
theorem dX10_needOf_63 : decode cX10_needOf 63 = .ok (.aload_n 0, 1) := by decide +kernel
theorem dX10_needOf_64 : decode cX10_needOf 64 = .ok (.getfield 25, 3) := by decide +kernel
theorem dX10_needOf_67 : decode cX10_needOf 67 = .ok (.bipush 30, 2) := by decide +kernel
theorem dX10_needOf_69 : decode cX10_needOf 69 = .ok (.iaload, 1) := by decide +kernel
theorem dX10_needOf_70 : decode cX10_needOf 70 = .ok (.iconst 2, 1) := by decide +kernel
theorem dX10_needOf_71 : decode cX10_needOf 71 = .ok (.irem, 1) := by decide +kernel
theorem dX10_needOf_72 : decode cX10_needOf 72 = .ok (.iconst 1, 1) := by decide +kernel
theorem dX10_needOf_73 : decode cX10_needOf 73 = .ok (.if_icmp .ne 8, 3) := by decide +kernel
theorem dX10_needOf_76 : decode cX10_needOf 76 = .ok (.ldc 211, 2) := by decide +kernel
theorem dX10_needOf_78 : decode cX10_needOf 78 = .ok (.goto 4, 3) := by decide +kernel
theorem dX10_needOf_81 : decode cX10_needOf 81 = .ok (.iload_n 2, 1) := by decide +kernel
theorem dX10_needOf_82 : decode cX10_needOf 82 = .ok (.ireturn, 1) := by decide +kernel
theorem dX10_needOf_83 : decode cX10_needOf 83 = .ok (.aload_n 0, 1) := by decide +kernel
theorem dX10_needOf_84 : decode cX10_needOf 84 = .ok (.invokevirtual 195, 3) := by decide +kernel
theorem dX10_needOf_87 : decode cX10_needOf 87 = .ok (.ifCond .eq 7, 3) := by decide +kernel
theorem dX10_needOf_90 : decode cX10_needOf 90 = .ok (.iload_n 2, 1) := by decide +kernel
theorem dX10_needOf_91 : decode cX10_needOf 91 = .ok (.goto 4, 3) := by decide +kernel
theorem dX10_needOf_94 : decode cX10_needOf 94 = .ok (.iconst 0, 1) := by decide +kernel
theorem dX10_needOf_95 : decode cX10_needOf 95 = .ok (.ireturn, 1) := by decide +kernel
theorem dX10_needOf_96 : decode cX10_needOf 96 = .ok (.iload_n 2, 1) := by decide +kernel
theorem dX10_needOf_97 : decode cX10_needOf 97 = .ok (.ireturn, 1) := by decide +kernel
theorem dX10_stuffFor_0 : decode cX10_stuffFor 0 = .ok (.aload_n 0, 1) := by decide +kernel
theorem dX10_stuffFor_1 : decode cX10_stuffFor 1 = .ok (.iload_n 1, 1) := by decide +kernel
theorem dX10_stuffFor_2 : decode cX10_stuffFor 2 = .ok (.invokevirtual 202, 3) := by decide +kernel
theorem dX10_stuffFor_5 : decode cX10_stuffFor 5 = .ok (.aload_n 0, 1) := by decide +kernel
theorem dX10_stuffFor_6 : decode cX10_stuffFor 6 = .ok (.getfield 19, 3) := by decide +kernel
theorem dX10_stuffFor_9 : decode cX10_stuffFor 9 = .ok (.iload_n 1, 1) := by decide +kernel
theorem dX10_stuffFor_10 : decode cX10_stuffFor 10 = .ok (.iaload, 1) := by decide +kernel
theorem dX10_stuffFor_11 : decode cX10_stuffFor 11 = .ok (.if_icmp .le 8, 3) := by decide +kernel
theorem dX10_stuffFor_14 : decode cX10_stuffFor 14 = .ok (.ldc 211, 2) := by decide +kernel
theorem dX10_stuffFor_16 : decode cX10_stuffFor 16 = .ok (.goto 4, 3) := by decide +kernel
theorem dX10_stuffFor_19 : decode cX10_stuffFor 19 = .ok (.iconst 0, 1) := by decide +kernel
theorem dX10_stuffFor_20 : decode cX10_stuffFor 20 = .ok (.istore_n 2, 1) := by decide +kernel
theorem dX10_stuffFor_21 : decode cX10_stuffFor 21 = .ok (.iconst 0, 1) := by decide +kernel
theorem dX10_stuffFor_22 : decode cX10_stuffFor 22 = .ok (.istore_n 3, 1) := by decide +kernel
theorem dX10_stuffFor_23 : decode cX10_stuffFor 23 = .ok (.iload_n 3, 1) := by decide +kernel
theorem dX10_stuffFor_24 : decode cX10_stuffFor 24 = .ok (.aload_n 0, 1) := by decide +kernel
theorem dX10_stuffFor_25 : decode cX10_stuffFor 25 = .ok (.getfield 88, 3) := by decide +kernel
theorem dX10_stuffFor_28 : decode cX10_stuffFor 28 = .ok (.if_icmp .ge 30, 3) := by decide +kernel
theorem dX10_stuffFor_31 : decode cX10_stuffFor 31 = .ok (.iload_n 2, 1) := by decide +kernel
theorem dX10_stuffFor_32 : decode cX10_stuffFor 32 = .ok (.aload_n 0, 1) := by decide +kernel
theorem dX10_stuffFor_33 : decode cX10_stuffFor 33 = .ok (.iload_n 3, 1) := by decide +kernel
theorem dX10_stuffFor_34 : decode cX10_stuffFor 34 = .ok (.iload_n 1, 1) := by decide +kernel
theorem dX10_stuffFor_35 : decode cX10_stuffFor 35 = .ok (.invokevirtual 180, 3) := by decide +kernel
theorem dX10_stuffFor_38 : decode cX10_stuffFor 38 = .ok (.ifCond .eq 11, 3) := by decide +kernel
theorem dX10_stuffFor_41 : decode cX10_stuffFor 41 = .ok (.aload_n 0, 1) := by decide +kernel
theorem dX10_stuffFor_42 : decode cX10_stuffFor 42 = .ok (.iload_n 3, 1) := by decide +kernel
theorem dX10_stuffFor_43 : decode cX10_stuffFor 43 = .ok (.invokevirtual 212, 3) := by decide +kernel
theorem dX10_stuffFor_46 : decode cX10_stuffFor 46 = .ok (.goto 4, 3) := by decide +kernel
theorem dX10_stuffFor_49 : decode cX10_stuffFor 49 = .ok (.iconst 0, 1) := by decide +kernel
theorem dX10_stuffFor_50 : decode cX10_stuffFor 50 = .ok (.iadd, 1) := by decide +kernel
theorem dX10_stuffFor_51 : decode cX10_stuffFor 51 = .ok (.istore_n 2, 1) := by decide +kernel
theorem dX10_stuffFor_52 : decode cX10_stuffFor 52 = .ok (.iinc 3 1, 3) := by decide +kernel
theorem dX10_stuffFor_55 : decode cX10_stuffFor 55 = .ok (.goto (-32), 3) := by decide +kernel
theorem dX10_stuffFor_58 : decode cX10_stuffFor 58 = .ok (.iload_n 2, 1) := by decide +kernel
theorem dX10_stuffFor_59 : decode cX10_stuffFor 59 = .ok (.ldc 211, 2) := by decide +kernel
theorem dX10_stuffFor_61 : decode cX10_stuffFor 61 = .ok (.if_icmp .ge 7, 3) := by decide +kernel
theorem dX10_stuffFor_64 : decode cX10_stuffFor 64 = .ok (.iload_n 2, 1) := by decide +kernel
theorem dX10_stuffFor_65 : decode cX10_stuffFor 65 = .ok (.goto 4, 3) := by decide +kernel
theorem dX10_stuffFor_68 : decode cX10_stuffFor 68 = .ok (.iconst (-1), 1) := by decide +kernel
theorem dX10_stuffFor_69 : decode cX10_stuffFor 69 = .ok (.ireturn, 1) := by decide +kernel
theorem dX10_stuffForAll_0 : decode cX10_stuffForAll 0 = .ok (.iconst 0, 1) := by decide +kernel
theorem dX10_stuffForAll_1 : decode cX10_stuffForAll 1 = .ok (.istore_n 1, 1) := by decide +kernel
theorem dX10_stuffForAll_2 : decode cX10_stuffForAll 2 = .ok (.iconst 0, 1) := by decide +kernel
theorem dX10_stuffForAll_3 : decode cX10_stuffForAll 3 = .ok (.istore_n 2, 1) := by decide +kernel
theorem dX10_stuffForAll_4 : decode cX10_stuffForAll 4 = .ok (.iload_n 2, 1) := by decide +kernel
theorem dX10_stuffForAll_5 : decode cX10_stuffForAll 5 = .ok (.aload_n 0, 1) := by decide +kernel
theorem dX10_stuffForAll_6 : decode cX10_stuffForAll 6 = .ok (.getfield 95, 3) := by decide +kernel
theorem dX10_stuffForAll_9 : decode cX10_stuffForAll 9 = .ok (.if_icmp .ge 32, 3) := by decide +kernel
theorem dX10_stuffForAll_12 : decode cX10_stuffForAll 12 = .ok (.iload_n 1, 1) := by decide +kernel
theorem dX10_stuffForAll_13 : decode cX10_stuffForAll 13 = .ok (.aload_n 0, 1) := by decide +kernel
theorem dX10_stuffForAll_14 : decode cX10_stuffForAll 14 = .ok (.iload_n 2, 1) := by decide +kernel
theorem dX10_stuffForAll_15 : decode cX10_stuffForAll 15 = .ok (.invokevirtual 202, 3) := by decide +kernel
theorem dX10_stuffForAll_18 : decode cX10_stuffForAll 18 = .ok (.aload_n 0, 1) := by decide +kernel
theorem dX10_stuffForAll_19 : decode cX10_stuffForAll 19 = .ok (.getfield 19, 3) := by decide +kernel
theorem dX10_stuffForAll_22 : decode cX10_stuffForAll 22 = .ok (.iload_n 2, 1) := by decide +kernel
theorem dX10_stuffForAll_23 : decode cX10_stuffForAll 23 = .ok (.iaload, 1) := by decide +kernel
theorem dX10_stuffForAll_24 : decode cX10_stuffForAll 24 = .ok (.if_icmp .le 8, 3) := by decide +kernel
theorem dX10_stuffForAll_27 : decode cX10_stuffForAll 27 = .ok (.ldc 211, 2) := by decide +kernel
theorem dX10_stuffForAll_29 : decode cX10_stuffForAll 29 = .ok (.goto 4, 3) := by decide +kernel
theorem dX10_stuffForAll_32 : decode cX10_stuffForAll 32 = .ok (.iconst 0, 1) := by decide +kernel
theorem dX10_stuffForAll_33 : decode cX10_stuffForAll 33 = .ok (.iadd, 1) := by decide +kernel
theorem dX10_stuffForAll_34 : decode cX10_stuffForAll 34 = .ok (.istore_n 1, 1) := by decide +kernel
theorem dX10_stuffForAll_35 : decode cX10_stuffForAll 35 = .ok (.iinc 2 1, 3) := by decide +kernel
theorem dX10_stuffForAll_38 : decode cX10_stuffForAll 38 = .ok (.goto (-34), 3) := by decide +kernel
theorem dX10_stuffForAll_41 : decode cX10_stuffForAll 41 = .ok (.iconst 0, 1) := by decide +kernel
theorem dX10_stuffForAll_42 : decode cX10_stuffForAll 42 = .ok (.istore_n 2, 1) := by decide +kernel
theorem dX10_stuffForAll_43 : decode cX10_stuffForAll 43 = .ok (.iload_n 2, 1) := by decide +kernel
theorem dX10_stuffForAll_44 : decode cX10_stuffForAll 44 = .ok (.aload_n 0, 1) := by decide +kernel
theorem dX10_stuffForAll_45 : decode cX10_stuffForAll 45 = .ok (.getfield 88, 3) := by decide +kernel
theorem dX10_stuffForAll_48 : decode cX10_stuffForAll 48 = .ok (.if_icmp .ge 34, 3) := by decide +kernel
theorem dX10_stuffForAll_51 : decode cX10_stuffForAll 51 = .ok (.iload_n 1, 1) := by decide +kernel
theorem dX10_stuffForAll_52 : decode cX10_stuffForAll 52 = .ok (.aload_n 0, 1) := by decide +kernel
theorem dX10_stuffForAll_53 : decode cX10_stuffForAll 53 = .ok (.getfield 25, 3) := by decide +kernel
theorem dX10_stuffForAll_56 : decode cX10_stuffForAll 56 = .ok (.bipush 12, 2) := by decide +kernel
theorem dX10_stuffForAll_58 : decode cX10_stuffForAll 58 = .ok (.iload_n 2, 1) := by decide +kernel
theorem dX10_stuffForAll_59 : decode cX10_stuffForAll 59 = .ok (.iadd, 1) := by decide +kernel
theorem dX10_stuffForAll_60 : decode cX10_stuffForAll 60 = .ok (.iaload, 1) := by decide +kernel
theorem dX10_stuffForAll_61 : decode cX10_stuffForAll 61 = .ok (.iconst (-1), 1) := by decide +kernel
theorem dX10_stuffForAll_62 : decode cX10_stuffForAll 62 = .ok (.if_icmp .eq 11, 3) := by decide +kernel
theorem dX10_stuffForAll_65 : decode cX10_stuffForAll 65 = .ok (.aload_n 0, 1) := by decide +kernel
theorem dX10_stuffForAll_66 : decode cX10_stuffForAll 66 = .ok (.iload_n 2, 1) := by decide +kernel
theorem dX10_stuffForAll_67 : decode cX10_stuffForAll 67 = .ok (.invokevirtual 212, 3) := by decide +kernel
theorem dX10_stuffForAll_70 : decode cX10_stuffForAll 70 = .ok (.goto 4, 3) := by decide +kernel
theorem dX10_stuffForAll_73 : decode cX10_stuffForAll 73 = .ok (.iconst 0, 1) := by decide +kernel
theorem dX10_stuffForAll_74 : decode cX10_stuffForAll 74 = .ok (.iadd, 1) := by decide +kernel
theorem dX10_stuffForAll_75 : decode cX10_stuffForAll 75 = .ok (.istore_n 1, 1) := by decide +kernel
theorem dX10_stuffForAll_76 : decode cX10_stuffForAll 76 = .ok (.iinc 2 1, 3) := by decide +kernel
theorem dX10_stuffForAll_79 : decode cX10_stuffForAll 79 = .ok (.goto (-36), 3) := by decide +kernel
theorem dX10_stuffForAll_82 : decode cX10_stuffForAll 82 = .ok (.iload_n 1, 1) := by decide +kernel
theorem dX10_stuffForAll_83 : decode cX10_stuffForAll 83 = .ok (.ldc 211, 2) := by decide +kernel
theorem dX10_stuffForAll_85 : decode cX10_stuffForAll 85 = .ok (.if_icmp .ge 7, 3) := by decide +kernel
theorem dX10_stuffForAll_88 : decode cX10_stuffForAll 88 = .ok (.iload_n 1, 1) := by decide +kernel
theorem dX10_stuffForAll_89 : decode cX10_stuffForAll 89 = .ok (.goto 4, 3) := by decide +kernel
theorem dX10_stuffForAll_92 : decode cX10_stuffForAll 92 = .ok (.iconst (-1), 1) := by decide +kernel
theorem dX10_stuffForAll_93 : decode cX10_stuffForAll 93 = .ok (.ireturn, 1) := by decide +kernel
theorem dX10_ringOf_0 : decode cX10_ringOf 0 = .ok (.iconst 1, 1) := by decide +kernel
theorem dX10_ringOf_1 : decode cX10_ringOf 1 = .ok (.iload_n 1, 1) := by decide +kernel
theorem dX10_ringOf_2 : decode cX10_ringOf 2 = .ok (.ishl, 1) := by decide +kernel
theorem dX10_ringOf_3 : decode cX10_ringOf 3 = .ok (.istore_n 2, 1) := by decide +kernel
theorem dX10_ringOf_4 : decode cX10_ringOf 4 = .ok (.iconst 0, 1) := by decide +kernel
theorem dX10_ringOf_5 : decode cX10_ringOf 5 = .ok (.istore_n 3, 1) := by decide +kernel
theorem dX10_ringOf_6 : decode cX10_ringOf 6 = .ok (.iload_n 3, 1) := by decide +kernel
theorem dX10_ringOf_7 : decode cX10_ringOf 7 = .ok (.iconst 5, 1) := by decide +kernel
theorem dX10_ringOf_8 : decode cX10_ringOf 8 = .ok (.if_icmp .ge 83, 3) := by decide +kernel
theorem dX10_ringOf_11 : decode cX10_ringOf 11 = .ok (.iconst 0, 1) := by decide +kernel
theorem dX10_ringOf_12 : decode cX10_ringOf 12 = .ok (.istore 4, 2) := by decide +kernel
theorem dX10_ringOf_14 : decode cX10_ringOf 14 = .ok (.iload 4, 2) := by decide +kernel
theorem dX10_ringOf_16 : decode cX10_ringOf 16 = .ok (.aload_n 0, 1) := by decide +kernel
theorem dX10_ringOf_17 : decode cX10_ringOf 17 = .ok (.getfield 88, 3) := by decide +kernel
theorem dX10_ringOf_20 : decode cX10_ringOf 20 = .ok (.if_icmp .ge 65, 3) := by decide +kernel
theorem dX10_ringOf_23 : decode cX10_ringOf 23 = .ok (.aload_n 0, 1) := by decide +kernel
theorem dX10_ringOf_24 : decode cX10_ringOf 24 = .ok (.iload 4, 2) := by decide +kernel
theorem dX10_ringOf_26 : decode cX10_ringOf 26 = .ok (.invokevirtual 184, 3) := by decide +kernel
theorem dX10_ringOf_29 : decode cX10_ringOf 29 = .ok (.ifCond .eq 31, 3) := by decide +kernel
theorem dX10_ringOf_32 : decode cX10_ringOf 32 = .ok (.iconst 1, 1) := by decide +kernel
theorem dX10_ringOf_33 : decode cX10_ringOf 33 = .ok (.aload_n 0, 1) := by decide +kernel
theorem dX10_ringOf_34 : decode cX10_ringOf 34 = .ok (.getfield 25, 3) := by decide +kernel
theorem dX10_ringOf_37 : decode cX10_ringOf 37 = .ok (.bipush 12, 2) := by decide +kernel
theorem dX10_ringOf_39 : decode cX10_ringOf 39 = .ok (.iload 4, 2) := by decide +kernel
theorem dX10_ringOf_41 : decode cX10_ringOf 41 = .ok (.iadd, 1) := by decide +kernel
theorem dX10_ringOf_42 : decode cX10_ringOf 42 = .ok (.iaload, 1) := by decide +kernel
theorem dX10_ringOf_43 : decode cX10_ringOf 43 = .ok (.ishl, 1) := by decide +kernel
theorem dX10_ringOf_44 : decode cX10_ringOf 44 = .ok (.iconst 1, 1) := by decide +kernel
theorem dX10_ringOf_45 : decode cX10_ringOf 45 = .ok (.aload_n 0, 1) := by decide +kernel
theorem dX10_ringOf_46 : decode cX10_ringOf 46 = .ok (.getfield 25, 3) := by decide +kernel
theorem dX10_ringOf_49 : decode cX10_ringOf 49 = .ok (.bipush 18, 2) := by decide +kernel
theorem dX10_ringOf_51 : decode cX10_ringOf 51 = .ok (.iload 4, 2) := by decide +kernel
theorem dX10_ringOf_53 : decode cX10_ringOf 53 = .ok (.iadd, 1) := by decide +kernel
theorem dX10_ringOf_54 : decode cX10_ringOf 54 = .ok (.iaload, 1) := by decide +kernel
theorem dX10_ringOf_55 : decode cX10_ringOf 55 = .ok (.ishl, 1) := by decide +kernel
theorem dX10_ringOf_56 : decode cX10_ringOf 56 = .ok (.ior, 1) := by decide +kernel
theorem dX10_ringOf_57 : decode cX10_ringOf 57 = .ok (.goto 4, 3) := by decide +kernel
theorem dX10_ringOf_60 : decode cX10_ringOf 60 = .ok (.iconst 0, 1) := by decide +kernel
theorem dX10_ringOf_61 : decode cX10_ringOf 61 = .ok (.istore 5, 2) := by decide +kernel
theorem dX10_ringOf_63 : decode cX10_ringOf 63 = .ok (.iload_n 2, 1) := by decide +kernel
theorem dX10_ringOf_64 : decode cX10_ringOf 64 = .ok (.iload_n 2, 1) := by decide +kernel
theorem dX10_ringOf_65 : decode cX10_ringOf 65 = .ok (.iload 5, 2) := by decide +kernel
theorem dX10_ringOf_67 : decode cX10_ringOf 67 = .ok (.iand, 1) := by decide +kernel
theorem dX10_ringOf_68 : decode cX10_ringOf 68 = .ok (.ifCond .eq 8, 3) := by decide +kernel
theorem dX10_ringOf_71 : decode cX10_ringOf 71 = .ok (.iload 5, 2) := by decide +kernel
theorem dX10_ringOf_73 : decode cX10_ringOf 73 = .ok (.goto 4, 3) := by decide +kernel
theorem dX10_ringOf_76 : decode cX10_ringOf 76 = .ok (.iconst 0, 1) := by decide +kernel
theorem dX10_ringOf_77 : decode cX10_ringOf 77 = .ok (.ior, 1) := by decide +kernel
theorem dX10_ringOf_78 : decode cX10_ringOf 78 = .ok (.istore_n 2, 1) := by decide +kernel
theorem dX10_ringOf_79 : decode cX10_ringOf 79 = .ok (.iinc 4 1, 3) := by decide +kernel
theorem dX10_ringOf_82 : decode cX10_ringOf 82 = .ok (.goto (-68), 3) := by decide +kernel
theorem dX10_ringOf_85 : decode cX10_ringOf 85 = .ok (.iinc 3 1, 3) := by decide +kernel
theorem dX10_ringOf_88 : decode cX10_ringOf 88 = .ok (.goto (-82), 3) := by decide +kernel
theorem dX10_ringOf_91 : decode cX10_ringOf 91 = .ok (.iload_n 2, 1) := by decide +kernel
theorem dX10_ringOf_92 : decode cX10_ringOf 92 = .ok (.ireturn, 1) := by decide +kernel
theorem dX10_told_0 : decode cX10_told 0 = .ok (.iload_n 1, 1) := by decide +kernel
theorem dX10_told_1 : decode cX10_told 1 = .ok (.tableswitch 164 0 14 #[75, 80, 85, 90, 98, 106, 111, 116, 121, 126, 131, 144, 149, 154, 159], 75) := by decide +kernel
theorem dX10_told_76 : decode cX10_told 76 = .ok (.aload_n 0, 1) := by decide +kernel
theorem dX10_told_77 : decode cX10_told 77 = .ok (.getfield 88, 3) := by decide +kernel
theorem dX10_told_80 : decode cX10_told 80 = .ok (.ireturn, 1) := by decide +kernel
theorem dX10_told_81 : decode cX10_told 81 = .ok (.aload_n 0, 1) := by decide +kernel
theorem dX10_told_82 : decode cX10_told 82 = .ok (.getfield 95, 3) := by decide +kernel
theorem dX10_told_85 : decode cX10_told 85 = .ok (.ireturn, 1) := by decide +kernel
theorem dX10_told_86 : decode cX10_told 86 = .ok (.aload_n 0, 1) := by decide +kernel
theorem dX10_told_87 : decode cX10_told 87 = .ok (.getfield 101, 3) := by decide +kernel
theorem dX10_told_90 : decode cX10_told 90 = .ok (.ireturn, 1) := by decide +kernel
theorem dX10_told_91 : decode cX10_told 91 = .ok (.aload_n 0, 1) := by decide +kernel
theorem dX10_told_92 : decode cX10_told 92 = .ok (.getfield 25, 3) := by decide +kernel
theorem dX10_told_95 : decode cX10_told 95 = .ok (.bipush 30, 2) := by decide +kernel
theorem dX10_told_97 : decode cX10_told 97 = .ok (.iaload, 1) := by decide +kernel
theorem dX10_told_98 : decode cX10_told 98 = .ok (.ireturn, 1) := by decide +kernel
theorem dX10_told_99 : decode cX10_told 99 = .ok (.aload_n 0, 1) := by decide +kernel
theorem dX10_told_100 : decode cX10_told 100 = .ok (.getfield 25, 3) := by decide +kernel
theorem dX10_told_103 : decode cX10_told 103 = .ok (.bipush 29, 2) := by decide +kernel
theorem dX10_told_105 : decode cX10_told 105 = .ok (.iaload, 1) := by decide +kernel
theorem dX10_told_106 : decode cX10_told 106 = .ok (.ireturn, 1) := by decide +kernel
theorem dX10_told_107 : decode cX10_told 107 = .ok (.aload_n 0, 1) := by decide +kernel
theorem dX10_told_108 : decode cX10_told 108 = .ok (.invokevirtual 215, 3) := by decide +kernel
theorem dX10_told_111 : decode cX10_told 111 = .ok (.ireturn, 1) := by decide +kernel
theorem dX10_told_112 : decode cX10_told 112 = .ok (.aload_n 0, 1) := by decide +kernel
theorem dX10_told_113 : decode cX10_told 113 = .ok (.invokevirtual 218, 3) := by decide +kernel
theorem dX10_told_116 : decode cX10_told 116 = .ok (.ireturn, 1) := by decide +kernel
theorem dX10_told_117 : decode cX10_told 117 = .ok (.aload_n 0, 1) := by decide +kernel
theorem dX10_told_118 : decode cX10_told 118 = .ok (.invokevirtual 221, 3) := by decide +kernel
theorem dX10_told_121 : decode cX10_told 121 = .ok (.ireturn, 1) := by decide +kernel
theorem dX10_told_122 : decode cX10_told 122 = .ok (.aload_n 0, 1) := by decide +kernel
theorem dX10_told_123 : decode cX10_told 123 = .ok (.invokevirtual 224, 3) := by decide +kernel
theorem dX10_told_126 : decode cX10_told 126 = .ok (.ireturn, 1) := by decide +kernel
theorem dX10_told_127 : decode cX10_told 127 = .ok (.aload_n 0, 1) := by decide +kernel
theorem dX10_told_128 : decode cX10_told 128 = .ok (.invokevirtual 227, 3) := by decide +kernel
theorem dX10_told_131 : decode cX10_told 131 = .ok (.ireturn, 1) := by decide +kernel
theorem dX10_told_132 : decode cX10_told 132 = .ok (.aload_n 0, 1) := by decide +kernel
theorem dX10_told_133 : decode cX10_told 133 = .ok (.invokevirtual 195, 3) := by decide +kernel
theorem dX10_told_136 : decode cX10_told 136 = .ok (.ifCond .eq 7, 3) := by decide +kernel
theorem dX10_told_139 : decode cX10_told 139 = .ok (.iconst 1, 1) := by decide +kernel
theorem dX10_told_140 : decode cX10_told 140 = .ok (.goto 4, 3) := by decide +kernel
theorem dX10_told_143 : decode cX10_told 143 = .ok (.iconst 0, 1) := by decide +kernel
theorem dX10_told_144 : decode cX10_told 144 = .ok (.ireturn, 1) := by decide +kernel
theorem dX10_told_145 : decode cX10_told 145 = .ok (.aload_n 0, 1) := by decide +kernel
theorem dX10_told_146 : decode cX10_told 146 = .ok (.getfield 171, 3) := by decide +kernel
theorem dX10_told_149 : decode cX10_told 149 = .ok (.ireturn, 1) := by decide +kernel
theorem dX10_told_150 : decode cX10_told 150 = .ok (.aload_n 0, 1) := by decide +kernel
theorem dX10_told_151 : decode cX10_told 151 = .ok (.getfield 174, 3) := by decide +kernel
theorem dX10_told_154 : decode cX10_told 154 = .ok (.ireturn, 1) := by decide +kernel
theorem dX10_told_155 : decode cX10_told 155 = .ok (.aload_n 0, 1) := by decide +kernel
theorem dX10_told_156 : decode cX10_told 156 = .ok (.getfield 177, 3) := by decide +kernel
theorem dX10_told_159 : decode cX10_told 159 = .ok (.ireturn, 1) := by decide +kernel
theorem dX10_told_160 : decode cX10_told 160 = .ok (.aload_n 0, 1) := by decide +kernel
theorem dX10_told_161 : decode cX10_told 161 = .ok (.invokevirtual 230, 3) := by decide +kernel
theorem dX10_told_164 : decode cX10_told 164 = .ok (.ireturn, 1) := by decide +kernel
theorem dX10_told_165 : decode cX10_told 165 = .ok (.ldc 100, 2) := by decide +kernel
theorem dX10_told_167 : decode cX10_told 167 = .ok (.ireturn, 1) := by decide +kernel
theorem dX10_burden_0 : decode cX10_burden 0 = .ok (.aload_n 0, 1) := by decide +kernel
theorem dX10_burden_1 : decode cX10_burden 1 = .ok (.iload_n 1, 1) := by decide +kernel
theorem dX10_burden_2 : decode cX10_burden 2 = .ok (.invokevirtual 233, 3) := by decide +kernel
theorem dX10_burden_5 : decode cX10_burden 5 = .ok (.ifCond .ne 6, 3) := by decide +kernel
theorem dX10_burden_8 : decode cX10_burden 8 = .ok (.ldc 236, 2) := by decide +kernel
theorem dX10_burden_10 : decode cX10_burden 10 = .ok (.ireturn, 1) := by decide +kernel
theorem dX10_burden_11 : decode cX10_burden 11 = .ok (.iload_n 2, 1) := by decide +kernel
theorem dX10_burden_12 : decode cX10_burden 12 = .ok (.tableswitch 91 0 5 #[40, 47, 54, 61, 71, 81], 40) := by decide +kernel
theorem dX10_burden_52 : decode cX10_burden 52 = .ok (.aload_n 0, 1) := by decide +kernel
theorem dX10_burden_53 : decode cX10_burden 53 = .ok (.getfield 7, 3) := by decide +kernel
theorem dX10_burden_56 : decode cX10_burden 56 = .ok (.iload_n 1, 1) := by decide +kernel
theorem dX10_burden_57 : decode cX10_burden 57 = .ok (.iaload, 1) := by decide +kernel
theorem dX10_burden_58 : decode cX10_burden 58 = .ok (.ireturn, 1) := by decide +kernel
theorem dX10_burden_59 : decode cX10_burden 59 = .ok (.aload_n 0, 1) := by decide +kernel
theorem dX10_burden_60 : decode cX10_burden 60 = .ok (.getfield 25, 3) := by decide +kernel
theorem dX10_burden_63 : decode cX10_burden 63 = .ok (.iload_n 1, 1) := by decide +kernel
theorem dX10_burden_64 : decode cX10_burden 64 = .ok (.iaload, 1) := by decide +kernel
theorem dX10_burden_65 : decode cX10_burden 65 = .ok (.ireturn, 1) := by decide +kernel
theorem dX10_burden_66 : decode cX10_burden 66 = .ok (.aload_n 0, 1) := by decide +kernel
theorem dX10_burden_67 : decode cX10_burden 67 = .ok (.getfield 16, 3) := by decide +kernel
theorem dX10_burden_70 : decode cX10_burden 70 = .ok (.iload_n 1, 1) := by decide +kernel
theorem dX10_burden_71 : decode cX10_burden 71 = .ok (.iaload, 1) := by decide +kernel
theorem dX10_burden_72 : decode cX10_burden 72 = .ok (.ireturn, 1) := by decide +kernel
theorem dX10_burden_73 : decode cX10_burden 73 = .ok (.aload_n 0, 1) := by decide +kernel
theorem dX10_burden_74 : decode cX10_burden 74 = .ok (.getfield 25, 3) := by decide +kernel
theorem dX10_burden_77 : decode cX10_burden 77 = .ok (.bipush 6, 2) := by decide +kernel
theorem dX10_burden_79 : decode cX10_burden 79 = .ok (.iload_n 1, 1) := by decide +kernel
theorem dX10_burden_80 : decode cX10_burden 80 = .ok (.iadd, 1) := by decide +kernel
theorem dX10_burden_81 : decode cX10_burden 81 = .ok (.iaload, 1) := by decide +kernel
theorem dX10_burden_82 : decode cX10_burden 82 = .ok (.ireturn, 1) := by decide +kernel
theorem dX10_burden_83 : decode cX10_burden 83 = .ok (.aload_n 0, 1) := by decide +kernel
theorem dX10_burden_84 : decode cX10_burden 84 = .ok (.getfield 25, 3) := by decide +kernel
theorem dX10_burden_87 : decode cX10_burden 87 = .ok (.bipush 12, 2) := by decide +kernel
theorem dX10_burden_89 : decode cX10_burden 89 = .ok (.iload_n 1, 1) := by decide +kernel
theorem dX10_burden_90 : decode cX10_burden 90 = .ok (.iadd, 1) := by decide +kernel
theorem dX10_burden_91 : decode cX10_burden 91 = .ok (.iaload, 1) := by decide +kernel
theorem dX10_burden_92 : decode cX10_burden 92 = .ok (.ireturn, 1) := by decide +kernel
theorem dX10_burden_93 : decode cX10_burden 93 = .ok (.aload_n 0, 1) := by decide +kernel
theorem dX10_burden_94 : decode cX10_burden 94 = .ok (.getfield 25, 3) := by decide +kernel
theorem dX10_burden_97 : decode cX10_burden 97 = .ok (.bipush 18, 2) := by decide +kernel
theorem dX10_burden_99 : decode cX10_burden 99 = .ok (.iload_n 1, 1) := by decide +kernel
theorem dX10_burden_100 : decode cX10_burden 100 = .ok (.iadd, 1) := by decide +kernel
theorem dX10_burden_101 : decode cX10_burden 101 = .ok (.iaload, 1) := by decide +kernel
theorem dX10_burden_102 : decode cX10_burden 102 = .ok (.ireturn, 1) := by decide +kernel
theorem dX10_burden_103 : decode cX10_burden 103 = .ok (.ldc 100, 2) := by decide +kernel
theorem dX10_burden_105 : decode cX10_burden 105 = .ok (.ireturn, 1) := by decide +kernel
theorem dX10_back_0 : decode cX10_back 0 = .ok (.aload_n 0, 1) := by decide +kernel
theorem dX10_back_1 : decode cX10_back 1 = .ok (.iload_n 1, 1) := by decide +kernel
theorem dX10_back_2 : decode cX10_back 2 = .ok (.invokevirtual 237, 3) := by decide +kernel
theorem dX10_back_5 : decode cX10_back 5 = .ok (.ifCond .ne 6, 3) := by decide +kernel
theorem dX10_back_8 : decode cX10_back 8 = .ok (.ldc 236, 2) := by decide +kernel
theorem dX10_back_10 : decode cX10_back 10 = .ok (.ireturn, 1) := by decide +kernel
theorem dX10_back_11 : decode cX10_back 11 = .ok (.iload_n 2, 1) := by decide +kernel
theorem dX10_back_12 : decode cX10_back 12 = .ok (.tableswitch 102 0 7 #[48, 55, 62, 72, 78, 84, 90, 96], 48) := by decide +kernel
theorem dX10_back_60 : decode cX10_back 60 = .ok (.aload_n 0, 1) := by decide +kernel
theorem dX10_back_61 : decode cX10_back 61 = .ok (.getfield 19, 3) := by decide +kernel
theorem dX10_back_64 : decode cX10_back 64 = .ok (.iload_n 1, 1) := by decide +kernel
theorem dX10_back_65 : decode cX10_back 65 = .ok (.iaload, 1) := by decide +kernel
theorem dX10_back_66 : decode cX10_back 66 = .ok (.ireturn, 1) := by decide +kernel
theorem dX10_back_67 : decode cX10_back 67 = .ok (.aload_n 0, 1) := by decide +kernel
theorem dX10_back_68 : decode cX10_back 68 = .ok (.getfield 22, 3) := by decide +kernel
theorem dX10_back_71 : decode cX10_back 71 = .ok (.iload_n 1, 1) := by decide +kernel
theorem dX10_back_72 : decode cX10_back 72 = .ok (.iaload, 1) := by decide +kernel
theorem dX10_back_73 : decode cX10_back 73 = .ok (.ireturn, 1) := by decide +kernel
theorem dX10_back_74 : decode cX10_back 74 = .ok (.aload_n 0, 1) := by decide +kernel
theorem dX10_back_75 : decode cX10_back 75 = .ok (.getfield 25, 3) := by decide +kernel
theorem dX10_back_78 : decode cX10_back 78 = .ok (.bipush 24, 2) := by decide +kernel
theorem dX10_back_80 : decode cX10_back 80 = .ok (.iload_n 1, 1) := by decide +kernel
theorem dX10_back_81 : decode cX10_back 81 = .ok (.iadd, 1) := by decide +kernel
theorem dX10_back_82 : decode cX10_back 82 = .ok (.iaload, 1) := by decide +kernel
theorem dX10_back_83 : decode cX10_back 83 = .ok (.ireturn, 1) := by decide +kernel
theorem dX10_back_84 : decode cX10_back 84 = .ok (.aload_n 0, 1) := by decide +kernel
theorem dX10_back_85 : decode cX10_back 85 = .ok (.iload_n 1, 1) := by decide +kernel
theorem dX10_back_86 : decode cX10_back 86 = .ok (.invokevirtual 208, 3) := by decide +kernel
theorem dX10_back_89 : decode cX10_back 89 = .ok (.ireturn, 1) := by decide +kernel
theorem dX10_back_90 : decode cX10_back 90 = .ok (.aload_n 0, 1) := by decide +kernel
theorem dX10_back_91 : decode cX10_back 91 = .ok (.iload_n 1, 1) := by decide +kernel
theorem dX10_back_92 : decode cX10_back 92 = .ok (.invokevirtual 240, 3) := by decide +kernel
theorem dX10_back_95 : decode cX10_back 95 = .ok (.ireturn, 1) := by decide +kernel
theorem dX10_back_96 : decode cX10_back 96 = .ok (.aload_n 0, 1) := by decide +kernel
theorem dX10_back_97 : decode cX10_back 97 = .ok (.iload_n 1, 1) := by decide +kernel
theorem dX10_back_98 : decode cX10_back 98 = .ok (.invokevirtual 202, 3) := by decide +kernel
theorem dX10_back_101 : decode cX10_back 101 = .ok (.ireturn, 1) := by decide +kernel
theorem dX10_back_102 : decode cX10_back 102 = .ok (.aload_n 0, 1) := by decide +kernel
theorem dX10_back_103 : decode cX10_back 103 = .ok (.iload_n 1, 1) := by decide +kernel
theorem dX10_back_104 : decode cX10_back 104 = .ok (.invokevirtual 243, 3) := by decide +kernel
theorem dX10_back_107 : decode cX10_back 107 = .ok (.ireturn, 1) := by decide +kernel
theorem dX10_back_108 : decode cX10_back 108 = .ok (.aload_n 0, 1) := by decide +kernel
theorem dX10_back_109 : decode cX10_back 109 = .ok (.iload_n 1, 1) := by decide +kernel
theorem dX10_back_110 : decode cX10_back 110 = .ok (.invokevirtual 246, 3) := by decide +kernel
theorem dX10_back_113 : decode cX10_back 113 = .ok (.ireturn, 1) := by decide +kernel
theorem dX10_back_114 : decode cX10_back 114 = .ok (.ldc 100, 2) := by decide +kernel
theorem dX10_back_116 : decode cX10_back 116 = .ok (.ireturn, 1) := by decide +kernel
theorem dX10_remember_0 : decode cX10_remember 0 = .ok (.aload_n 0, 1) := by decide +kernel
theorem dX10_remember_1 : decode cX10_remember 1 = .ok (.getfield 177, 3) := by decide +kernel
theorem dX10_remember_4 : decode cX10_remember 4 = .ok (.bipush 16, 2) := by decide +kernel
theorem dX10_remember_6 : decode cX10_remember 6 = .ok (.if_icmp .ne 44, 3) := by decide +kernel
theorem dX10_remember_9 : decode cX10_remember 9 = .ok (.bipush 31, 2) := by decide +kernel
theorem dX10_remember_11 : decode cX10_remember 11 = .ok (.istore_n 1, 1) := by decide +kernel
theorem dX10_remember_12 : decode cX10_remember 12 = .ok (.iload_n 1, 1) := by decide +kernel
theorem dX10_remember_13 : decode cX10_remember 13 = .ok (.sipush 496, 3) := by decide +kernel
theorem dX10_remember_16 : decode cX10_remember 16 = .ok (.if_icmp .ge 24, 3) := by decide +kernel
theorem dX10_remember_19 : decode cX10_remember 19 = .ok (.aload_n 0, 1) := by decide +kernel
theorem dX10_remember_20 : decode cX10_remember 20 = .ok (.getfield 50, 3) := by decide +kernel
theorem dX10_remember_23 : decode cX10_remember 23 = .ok (.iload_n 1, 1) := by decide +kernel
theorem dX10_remember_24 : decode cX10_remember 24 = .ok (.bipush 31, 2) := by decide +kernel
theorem dX10_remember_26 : decode cX10_remember 26 = .ok (.isub, 1) := by decide +kernel
theorem dX10_remember_27 : decode cX10_remember 27 = .ok (.aload_n 0, 1) := by decide +kernel
theorem dX10_remember_28 : decode cX10_remember 28 = .ok (.getfield 50, 3) := by decide +kernel
theorem dX10_remember_31 : decode cX10_remember 31 = .ok (.iload_n 1, 1) := by decide +kernel
theorem dX10_remember_32 : decode cX10_remember 32 = .ok (.iaload, 1) := by decide +kernel
theorem dX10_remember_33 : decode cX10_remember 33 = .ok (.iastore, 1) := by decide +kernel
theorem dX10_remember_34 : decode cX10_remember 34 = .ok (.iinc 1 1, 3) := by decide +kernel
theorem dX10_remember_37 : decode cX10_remember 37 = .ok (.goto (-25), 3) := by decide +kernel
theorem dX10_remember_40 : decode cX10_remember 40 = .ok (.aload_n 0, 1) := by decide +kernel
theorem dX10_remember_41 : decode cX10_remember 41 = .ok (.dup, 1) := by decide +kernel
theorem dX10_remember_42 : decode cX10_remember 42 = .ok (.getfield 177, 3) := by decide +kernel
theorem dX10_remember_45 : decode cX10_remember 45 = .ok (.iconst 1, 1) := by decide +kernel
theorem dX10_remember_46 : decode cX10_remember 46 = .ok (.isub, 1) := by decide +kernel
theorem dX10_remember_47 : decode cX10_remember 47 = .ok (.putfield 177, 3) := by decide +kernel
theorem dX10_remember_50 : decode cX10_remember 50 = .ok (.iconst 0, 1) := by decide +kernel
theorem dX10_remember_51 : decode cX10_remember 51 = .ok (.istore_n 1, 1) := by decide +kernel
theorem dX10_remember_52 : decode cX10_remember 52 = .ok (.iload_n 1, 1) := by decide +kernel
theorem dX10_remember_53 : decode cX10_remember 53 = .ok (.bipush 31, 2) := by decide +kernel
theorem dX10_remember_55 : decode cX10_remember 55 = .ok (.if_icmp .ge 29, 3) := by decide +kernel
theorem dX10_remember_58 : decode cX10_remember 58 = .ok (.aload_n 0, 1) := by decide +kernel
theorem dX10_remember_59 : decode cX10_remember 59 = .ok (.getfield 50, 3) := by decide +kernel
theorem dX10_remember_62 : decode cX10_remember 62 = .ok (.bipush 31, 2) := by decide +kernel
theorem dX10_remember_64 : decode cX10_remember 64 = .ok (.aload_n 0, 1) := by decide +kernel
theorem dX10_remember_65 : decode cX10_remember 65 = .ok (.getfield 177, 3) := by decide +kernel
theorem dX10_remember_68 : decode cX10_remember 68 = .ok (.imul, 1) := by decide +kernel
theorem dX10_remember_69 : decode cX10_remember 69 = .ok (.iload_n 1, 1) := by decide +kernel
theorem dX10_remember_70 : decode cX10_remember 70 = .ok (.iadd, 1) := by decide +kernel
theorem dX10_remember_71 : decode cX10_remember 71 = .ok (.aload_n 0, 1) := by decide +kernel
theorem dX10_remember_72 : decode cX10_remember 72 = .ok (.getfield 25, 3) := by decide +kernel
theorem dX10_remember_75 : decode cX10_remember 75 = .ok (.iload_n 1, 1) := by decide +kernel
theorem dX10_remember_76 : decode cX10_remember 76 = .ok (.iaload, 1) := by decide +kernel
theorem dX10_remember_77 : decode cX10_remember 77 = .ok (.iastore, 1) := by decide +kernel
theorem dX10_remember_78 : decode cX10_remember 78 = .ok (.iinc 1 1, 3) := by decide +kernel
theorem dX10_remember_81 : decode cX10_remember 81 = .ok (.goto (-29), 3) := by decide +kernel
theorem dX10_remember_84 : decode cX10_remember 84 = .ok (.aload_n 0, 1) := by decide +kernel
theorem dX10_remember_85 : decode cX10_remember 85 = .ok (.dup, 1) := by decide +kernel
theorem dX10_remember_86 : decode cX10_remember 86 = .ok (.getfield 177, 3) := by decide +kernel
theorem dX10_remember_89 : decode cX10_remember 89 = .ok (.iconst 1, 1) := by decide +kernel
theorem dX10_remember_90 : decode cX10_remember 90 = .ok (.iadd, 1) := by decide +kernel
theorem dX10_remember_91 : decode cX10_remember 91 = .ok (.putfield 177, 3) := by decide +kernel
theorem dX10_remember_94 : decode cX10_remember 94 = .ok (.return_, 1) := by decide +kernel
theorem dX10_pass_0 : decode cX10_pass 0 = .ok (.iconst 0, 1) := by decide +kernel
theorem dX10_pass_1 : decode cX10_pass 1 = .ok (.istore_n 1, 1) := by decide +kernel
theorem dX10_pass_2 : decode cX10_pass 2 = .ok (.iload_n 1, 1) := by decide +kernel
theorem dX10_pass_3 : decode cX10_pass 3 = .ok (.aload_n 0, 1) := by decide +kernel
theorem dX10_pass_4 : decode cX10_pass 4 = .ok (.getfield 95, 3) := by decide +kernel
theorem dX10_pass_7 : decode cX10_pass 7 = .ok (.if_icmp .ge 64, 3) := by decide +kernel
theorem dX10_pass_10 : decode cX10_pass 10 = .ok (.aload_n 0, 1) := by decide +kernel
theorem dX10_pass_11 : decode cX10_pass 11 = .ok (.getfield 25, 3) := by decide +kernel
theorem dX10_pass_14 : decode cX10_pass 14 = .ok (.bipush 24, 2) := by decide +kernel
theorem dX10_pass_16 : decode cX10_pass 16 = .ok (.iload_n 1, 1) := by decide +kernel
theorem dX10_pass_17 : decode cX10_pass 17 = .ok (.iadd, 1) := by decide +kernel
theorem dX10_pass_18 : decode cX10_pass 18 = .ok (.iaload, 1) := by decide +kernel
theorem dX10_pass_19 : decode cX10_pass 19 = .ok (.aload_n 0, 1) := by decide +kernel
theorem dX10_pass_20 : decode cX10_pass 20 = .ok (.iload_n 1, 1) := by decide +kernel
theorem dX10_pass_21 : decode cX10_pass 21 = .ok (.invokevirtual 240, 3) := by decide +kernel
theorem dX10_pass_24 : decode cX10_pass 24 = .ok (.ifCond .ne 8, 3) := by decide +kernel
theorem dX10_pass_27 : decode cX10_pass 27 = .ok (.bipush (-3), 2) := by decide +kernel
theorem dX10_pass_29 : decode cX10_pass 29 = .ok (.goto 8, 3) := by decide +kernel
theorem dX10_pass_32 : decode cX10_pass 32 = .ok (.aload_n 0, 1) := by decide +kernel
theorem dX10_pass_33 : decode cX10_pass 33 = .ok (.iload_n 1, 1) := by decide +kernel
theorem dX10_pass_34 : decode cX10_pass 34 = .ok (.invokevirtual 208, 3) := by decide +kernel
theorem dX10_pass_37 : decode cX10_pass 37 = .ok (.iadd, 1) := by decide +kernel
theorem dX10_pass_38 : decode cX10_pass 38 = .ok (.istore_n 2, 1) := by decide +kernel
theorem dX10_pass_39 : decode cX10_pass 39 = .ok (.aload_n 0, 1) := by decide +kernel
theorem dX10_pass_40 : decode cX10_pass 40 = .ok (.getfield 25, 3) := by decide +kernel
theorem dX10_pass_43 : decode cX10_pass 43 = .ok (.bipush 24, 2) := by decide +kernel
theorem dX10_pass_45 : decode cX10_pass 45 = .ok (.iload_n 1, 1) := by decide +kernel
theorem dX10_pass_46 : decode cX10_pass 46 = .ok (.iadd, 1) := by decide +kernel
theorem dX10_pass_47 : decode cX10_pass 47 = .ok (.iload_n 2, 1) := by decide +kernel
theorem dX10_pass_48 : decode cX10_pass 48 = .ok (.sipush 9999, 3) := by decide +kernel
theorem dX10_pass_51 : decode cX10_pass 51 = .ok (.if_icmp .le 9, 3) := by decide +kernel
theorem dX10_pass_54 : decode cX10_pass 54 = .ok (.sipush 9999, 3) := by decide +kernel
theorem dX10_pass_57 : decode cX10_pass 57 = .ok (.goto 7, 3) := by decide +kernel
theorem dX10_pass_60 : decode cX10_pass 60 = .ok (.iload_n 2, 1) := by decide +kernel
theorem dX10_pass_61 : decode cX10_pass 61 = .ok (.invokestatic 188, 3) := by decide +kernel
theorem dX10_pass_64 : decode cX10_pass 64 = .ok (.iastore, 1) := by decide +kernel
theorem dX10_pass_65 : decode cX10_pass 65 = .ok (.iinc 1 1, 3) := by decide +kernel
theorem dX10_pass_68 : decode cX10_pass 68 = .ok (.goto (-66), 3) := by decide +kernel
theorem dX10_pass_71 : decode cX10_pass 71 = .ok (.aload_n 0, 1) := by decide +kernel
theorem dX10_pass_72 : decode cX10_pass 72 = .ok (.getfield 25, 3) := by decide +kernel
theorem dX10_pass_75 : decode cX10_pass 75 = .ok (.bipush 30, 2) := by decide +kernel
theorem dX10_pass_77 : decode cX10_pass 77 = .ok (.dup2, 1) := by decide +kernel
theorem dX10_pass_78 : decode cX10_pass 78 = .ok (.iaload, 1) := by decide +kernel
theorem dX10_pass_79 : decode cX10_pass 79 = .ok (.iconst 1, 1) := by decide +kernel
theorem dX10_pass_80 : decode cX10_pass 80 = .ok (.iadd, 1) := by decide +kernel
theorem dX10_pass_81 : decode cX10_pass 81 = .ok (.iastore, 1) := by decide +kernel
theorem dX10_pass_82 : decode cX10_pass 82 = .ok (.return_, 1) := by decide +kernel
theorem dX10_daysRefused_0 : decode cX10_daysRefused 0 = .ok (.iload_n 1, 1) := by decide +kernel
theorem dX10_daysRefused_1 : decode cX10_daysRefused 1 = .ok (.i2l, 1) := by decide +kernel
theorem dX10_daysRefused_2 : decode cX10_daysRefused 2 = .ok (.lconst 1, 1) := by decide +kernel
theorem dX10_daysRefused_3 : decode cX10_daysRefused 3 = .ok (.ldc2_w 249, 3) := by decide +kernel
theorem dX10_daysRefused_6 : decode cX10_daysRefused 6 = .ok (.invokestatic 91, 3) := by decide +kernel
theorem dX10_daysRefused_9 : decode cX10_daysRefused 9 = .ok (.ifCond .ne 6, 3) := by decide +kernel
theorem dX10_daysRefused_12 : decode cX10_daysRefused 12 = .ok (.ldc 100, 2) := by decide +kernel
theorem dX10_daysRefused_14 : decode cX10_daysRefused 14 = .ok (.ireturn, 1) := by decide +kernel
theorem dX10_daysRefused_15 : decode cX10_daysRefused 15 = .ok (.aload_n 0, 1) := by decide +kernel
theorem dX10_daysRefused_16 : decode cX10_daysRefused 16 = .ok (.getfield 84, 3) := by decide +kernel
theorem dX10_daysRefused_19 : decode cX10_daysRefused 19 = .ok (.ifCond .ne 8, 3) := by decide +kernel
theorem dX10_daysRefused_22 : decode cX10_daysRefused 22 = .ok (.ldc 251, 2) := by decide +kernel
theorem dX10_daysRefused_24 : decode cX10_daysRefused 24 = .ok (.goto 22, 3) := by decide +kernel
theorem dX10_daysRefused_27 : decode cX10_daysRefused 27 = .ok (.aload_n 0, 1) := by decide +kernel
theorem dX10_daysRefused_28 : decode cX10_daysRefused 28 = .ok (.getfield 25, 3) := by decide +kernel
theorem dX10_daysRefused_31 : decode cX10_daysRefused 31 = .ok (.bipush 30, 2) := by decide +kernel
theorem dX10_daysRefused_33 : decode cX10_daysRefused 33 = .ok (.iaload, 1) := by decide +kernel
theorem dX10_daysRefused_34 : decode cX10_daysRefused 34 = .ok (.sipush 9000, 3) := by decide +kernel
theorem dX10_daysRefused_37 : decode cX10_daysRefused 37 = .ok (.if_icmp .le 8, 3) := by decide +kernel
theorem dX10_daysRefused_40 : decode cX10_daysRefused 40 = .ok (.ldc 104, 2) := by decide +kernel
theorem dX10_daysRefused_42 : decode cX10_daysRefused 42 = .ok (.goto 4, 3) := by decide +kernel
theorem dX10_daysRefused_45 : decode cX10_daysRefused 45 = .ok (.iconst 0, 1) := by decide +kernel
theorem dX10_daysRefused_46 : decode cX10_daysRefused 46 = .ok (.ireturn, 1) := by decide +kernel
theorem dX10_day_0 : decode cX10_day 0 = .ok (.aload_n 0, 1) := by decide +kernel
theorem dX10_day_1 : decode cX10_day 1 = .ok (.iload_n 1, 1) := by decide +kernel
theorem dX10_day_2 : decode cX10_day 2 = .ok (.invokevirtual 252, 3) := by decide +kernel
theorem dX10_day_5 : decode cX10_day 5 = .ok (.istore_n 2, 1) := by decide +kernel
theorem dX10_day_6 : decode cX10_day 6 = .ok (.iload_n 2, 1) := by decide +kernel
theorem dX10_day_7 : decode cX10_day 7 = .ok (.ifCond .eq 5, 3) := by decide +kernel
theorem dX10_day_10 : decode cX10_day 10 = .ok (.iload_n 2, 1) := by decide +kernel
theorem dX10_day_11 : decode cX10_day 11 = .ok (.ireturn, 1) := by decide +kernel
theorem dX10_day_12 : decode cX10_day 12 = .ok (.aload_n 0, 1) := by decide +kernel
theorem dX10_day_13 : decode cX10_day 13 = .ok (.invokevirtual 255, 3) := by decide +kernel
theorem dX10_day_16 : decode cX10_day 16 = .ok (.iconst 0, 1) := by decide +kernel
theorem dX10_day_17 : decode cX10_day 17 = .ok (.istore_n 3, 1) := by decide +kernel
theorem dX10_day_18 : decode cX10_day 18 = .ok (.iload_n 3, 1) := by decide +kernel
theorem dX10_day_19 : decode cX10_day 19 = .ok (.iload_n 1, 1) := by decide +kernel
theorem dX10_day_20 : decode cX10_day 20 = .ok (.if_icmp .ge 13, 3) := by decide +kernel
theorem dX10_day_23 : decode cX10_day 23 = .ok (.aload_n 0, 1) := by decide +kernel
theorem dX10_day_24 : decode cX10_day 24 = .ok (.invokevirtual 258, 3) := by decide +kernel
theorem dX10_day_27 : decode cX10_day 27 = .ok (.iinc 3 1, 3) := by decide +kernel
theorem dX10_day_30 : decode cX10_day 30 = .ok (.goto (-12), 3) := by decide +kernel
theorem dX10_day_33 : decode cX10_day 33 = .ok (.aload_n 0, 1) := by decide +kernel
theorem dX10_day_34 : decode cX10_day 34 = .ok (.invokevirtual 215, 3) := by decide +kernel
theorem dX10_day_37 : decode cX10_day 37 = .ok (.ireturn, 1) := by decide +kernel
theorem dX10_take_0 : decode cX10_take 0 = .ok (.aload_n 0, 1) := by decide +kernel
theorem dX10_take_1 : decode cX10_take 1 = .ok (.iload_n 1, 1) := by decide +kernel
theorem dX10_take_2 : decode cX10_take 2 = .ok (.invokevirtual 233, 3) := by decide +kernel
theorem dX10_take_5 : decode cX10_take 5 = .ok (.ifCond .eq 11, 3) := by decide +kernel
theorem dX10_take_8 : decode cX10_take 8 = .ok (.aload_n 0, 1) := by decide +kernel
theorem dX10_take_9 : decode cX10_take 9 = .ok (.iload_n 2, 1) := by decide +kernel
theorem dX10_take_10 : decode cX10_take 10 = .ok (.invokevirtual 237, 3) := by decide +kernel
theorem dX10_take_13 : decode cX10_take 13 = .ok (.ifCond .ne 6, 3) := by decide +kernel
theorem dX10_take_16 : decode cX10_take 16 = .ok (.ldc 236, 2) := by decide +kernel
theorem dX10_take_18 : decode cX10_take 18 = .ok (.ireturn, 1) := by decide +kernel
theorem dX10_take_19 : decode cX10_take 19 = .ok (.aload_n 0, 1) := by decide +kernel
theorem dX10_take_20 : decode cX10_take 20 = .ok (.getfield 25, 3) := by decide +kernel
theorem dX10_take_23 : decode cX10_take 23 = .ok (.bipush 12, 2) := by decide +kernel
theorem dX10_take_25 : decode cX10_take 25 = .ok (.iload_n 1, 1) := by decide +kernel
theorem dX10_take_26 : decode cX10_take 26 = .ok (.iadd, 1) := by decide +kernel
theorem dX10_take_27 : decode cX10_take 27 = .ok (.iaload, 1) := by decide +kernel
