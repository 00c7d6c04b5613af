theorem dX9_init_0 : decode cX9_init 0 = .ok (.aload_n 0, 1) := by decide +kernel
theorem dX9_init_1 : decode cX9_init 1 = .ok (.invokespecial 1, 3) := by decide +kernel
theorem dX9_init_4 : decode cX9_init 4 = .ok (.aload_n 0, 1) := by decide +kernel
theorem dX9_init_5 : decode cX9_init 5 = .ok (.new 7, 3) := by decide +kernel
theorem dX9_init_8 : decode cX9_init 8 = .ok (.dup, 1) := by decide +kernel
theorem dX9_init_9 : decode cX9_init 9 = .ok (.invokespecial 9, 3) := by decide +kernel
theorem dX9_init_12 : decode cX9_init 12 = .ok (.putfield 10, 3) := by decide +kernel
theorem dX9_init_15 : decode cX9_init 15 = .ok (.aload_n 0, 1) := by decide +kernel
theorem dX9_init_16 : decode cX9_init 16 = .ok (.new 16, 3) := by decide +kernel
theorem dX9_init_19 : decode cX9_init 19 = .ok (.dup, 1) := by decide +kernel
theorem dX9_init_20 : decode cX9_init 20 = .ok (.invokespecial 18, 3) := by decide +kernel
theorem dX9_init_23 : decode cX9_init 23 = .ok (.putfield 19, 3) := by decide +kernel
theorem dX9_init_26 : decode cX9_init 26 = .ok (.aload_n 0, 1) := by decide +kernel
theorem dX9_init_27 : decode cX9_init 27 = .ok (.new 23, 3) := by decide +kernel
theorem dX9_init_30 : decode cX9_init 30 = .ok (.dup, 1) := by decide +kernel
theorem dX9_init_31 : decode cX9_init 31 = .ok (.invokespecial 25, 3) := by decide +kernel
theorem dX9_init_34 : decode cX9_init 34 = .ok (.putfield 26, 3) := by decide +kernel
theorem dX9_init_37 : decode cX9_init 37 = .ok (.aload_n 0, 1) := by decide +kernel
theorem dX9_init_38 : decode cX9_init 38 = .ok (.aload_n 0, 1) := by decide +kernel
theorem dX9_init_39 : decode cX9_init 39 = .ok (.getfield 26, 3) := by decide +kernel
theorem dX9_init_42 : decode cX9_init 42 = .ok (.getfield 30, 3) := by decide +kernel
theorem dX9_init_45 : decode cX9_init 45 = .ok (.putfield 33, 3) := by decide +kernel
theorem dX9_init_48 : decode cX9_init 48 = .ok (.aload_n 0, 1) := by decide +kernel
theorem dX9_init_49 : decode cX9_init 49 = .ok (.aload_n 0, 1) := by decide +kernel
theorem dX9_init_50 : decode cX9_init 50 = .ok (.getfield 26, 3) := by decide +kernel
theorem dX9_init_53 : decode cX9_init 53 = .ok (.getfield 34, 3) := by decide +kernel
theorem dX9_init_56 : decode cX9_init 56 = .ok (.putfield 38, 3) := by decide +kernel
theorem dX9_init_59 : decode cX9_init 59 = .ok (.aload_n 0, 1) := by decide +kernel
theorem dX9_init_60 : decode cX9_init 60 = .ok (.new 39, 3) := by decide +kernel
theorem dX9_init_63 : decode cX9_init 63 = .ok (.dup, 1) := by decide +kernel
theorem dX9_init_64 : decode cX9_init 64 = .ok (.invokespecial 41, 3) := by decide +kernel
theorem dX9_init_67 : decode cX9_init 67 = .ok (.putfield 42, 3) := by decide +kernel
theorem dX9_init_70 : decode cX9_init 70 = .ok (.aload_n 0, 1) := by decide +kernel
theorem dX9_init_71 : decode cX9_init 71 = .ok (.new 46, 3) := by decide +kernel
theorem dX9_init_74 : decode cX9_init 74 = .ok (.dup, 1) := by decide +kernel
theorem dX9_init_75 : decode cX9_init 75 = .ok (.invokespecial 48, 3) := by decide +kernel
theorem dX9_init_78 : decode cX9_init 78 = .ok (.putfield 49, 3) := by decide +kernel
theorem dX9_init_81 : decode cX9_init 81 = .ok (.aload_n 0, 1) := by decide +kernel
theorem dX9_init_82 : decode cX9_init 82 = .ok (.new 53, 3) := by decide +kernel
theorem dX9_init_85 : decode cX9_init 85 = .ok (.dup, 1) := by decide +kernel
theorem dX9_init_86 : decode cX9_init 86 = .ok (.invokespecial 55, 3) := by decide +kernel
theorem dX9_init_89 : decode cX9_init 89 = .ok (.putfield 56, 3) := by decide +kernel
theorem dX9_init_92 : decode cX9_init 92 = .ok (.aload_n 0, 1) := by decide +kernel
theorem dX9_init_93 : decode cX9_init 93 = .ok (.new 60, 3) := by decide +kernel
theorem dX9_init_96 : decode cX9_init 96 = .ok (.dup, 1) := by decide +kernel
theorem dX9_init_97 : decode cX9_init 97 = .ok (.invokespecial 62, 3) := by decide +kernel
theorem dX9_init_100 : decode cX9_init 100 = .ok (.putfield 63, 3) := by decide +kernel
theorem dX9_init_103 : decode cX9_init 103 = .ok (.aload_n 0, 1) := by decide +kernel
theorem dX9_init_104 : decode cX9_init 104 = .ok (.new 67, 3) := by decide +kernel
theorem dX9_init_107 : decode cX9_init 107 = .ok (.dup, 1) := by decide +kernel
theorem dX9_init_108 : decode cX9_init 108 = .ok (.invokespecial 69, 3) := by decide +kernel
theorem dX9_init_111 : decode cX9_init 111 = .ok (.putfield 70, 3) := by decide +kernel
theorem dX9_init_114 : decode cX9_init 114 = .ok (.aload_n 0, 1) := by decide +kernel
theorem dX9_init_115 : decode cX9_init 115 = .ok (.iconst 2, 1) := by decide +kernel
theorem dX9_init_116 : decode cX9_init 116 = .ok (.anewarray 74, 3) := by decide +kernel
theorem dX9_init_119 : decode cX9_init 119 = .ok (.putfield 76, 3) := by decide +kernel
theorem dX9_init_122 : decode cX9_init 122 = .ok (.aload_n 0, 1) := by decide +kernel
theorem dX9_init_123 : decode cX9_init 123 = .ok (.iconst 2, 1) := by decide +kernel
theorem dX9_init_124 : decode cX9_init 124 = .ok (.newarray .int, 2) := by decide +kernel
theorem dX9_init_126 : decode cX9_init 126 = .ok (.putfield 80, 3) := by decide +kernel
theorem dX9_init_129 : decode cX9_init 129 = .ok (.aload_n 0, 1) := by decide +kernel
theorem dX9_init_130 : decode cX9_init 130 = .ok (.iconst 2, 1) := by decide +kernel
theorem dX9_init_131 : decode cX9_init 131 = .ok (.newarray .boolean, 2) := by decide +kernel
theorem dX9_init_133 : decode cX9_init 133 = .ok (.putfield 84, 3) := by decide +kernel
theorem dX9_init_136 : decode cX9_init 136 = .ok (.iconst 0, 1) := by decide +kernel
theorem dX9_init_137 : decode cX9_init 137 = .ok (.istore_n 1, 1) := by decide +kernel
theorem dX9_init_138 : decode cX9_init 138 = .ok (.iload_n 1, 1) := by decide +kernel
theorem dX9_init_139 : decode cX9_init 139 = .ok (.aload_n 0, 1) := by decide +kernel
theorem dX9_init_140 : decode cX9_init 140 = .ok (.getfield 76, 3) := by decide +kernel
theorem dX9_init_143 : decode cX9_init 143 = .ok (.arraylength, 1) := by decide +kernel
theorem dX9_init_144 : decode cX9_init 144 = .ok (.if_icmp .ge 22, 3) := by decide +kernel
theorem dX9_init_147 : decode cX9_init 147 = .ok (.aload_n 0, 1) := by decide +kernel
theorem dX9_init_148 : decode cX9_init 148 = .ok (.getfield 76, 3) := by decide +kernel
theorem dX9_init_151 : decode cX9_init 151 = .ok (.iload_n 1, 1) := by decide +kernel
theorem dX9_init_152 : decode cX9_init 152 = .ok (.new 74, 3) := by decide +kernel
theorem dX9_init_155 : decode cX9_init 155 = .ok (.dup, 1) := by decide +kernel
theorem dX9_init_156 : decode cX9_init 156 = .ok (.invokespecial 88, 3) := by decide +kernel
theorem dX9_init_159 : decode cX9_init 159 = .ok (.aastore, 1) := by decide +kernel
theorem dX9_init_160 : decode cX9_init 160 = .ok (.iinc 1 1, 3) := by decide +kernel
theorem dX9_init_163 : decode cX9_init 163 = .ok (.goto (-25), 3) := by decide +kernel
theorem dX9_init_166 : decode cX9_init 166 = .ok (.return_, 1) := by decide +kernel
theorem dX9_feed_0 : decode cX9_feed 0 = .ok (.iload_n 1, 1) := by decide +kernel
theorem dX9_feed_1 : decode cX9_feed 1 = .ok (.iconst 0, 1) := by decide +kernel
theorem dX9_feed_2 : decode cX9_feed 2 = .ok (.sipush 255, 3) := by decide +kernel
theorem dX9_feed_5 : decode cX9_feed 5 = .ok (.invokestatic 89, 3) := by decide +kernel
theorem dX9_feed_8 : decode cX9_feed 8 = .ok (.ifCond .ne 6, 3) := by decide +kernel
theorem dX9_feed_11 : decode cX9_feed 11 = .ok (.ldc 93, 2) := by decide +kernel
theorem dX9_feed_13 : decode cX9_feed 13 = .ok (.ireturn, 1) := by decide +kernel
theorem dX9_feed_14 : decode cX9_feed 14 = .ok (.aload_n 0, 1) := by decide +kernel
theorem dX9_feed_15 : decode cX9_feed 15 = .ok (.getfield 10, 3) := by decide +kernel
theorem dX9_feed_18 : decode cX9_feed 18 = .ok (.iload_n 1, 1) := by decide +kernel
theorem dX9_feed_19 : decode cX9_feed 19 = .ok (.invokevirtual 94, 3) := by decide +kernel
theorem dX9_feed_22 : decode cX9_feed 22 = .ok (.ifCond .eq 13, 3) := by decide +kernel
theorem dX9_feed_25 : decode cX9_feed 25 = .ok (.aload_n 0, 1) := by decide +kernel
theorem dX9_feed_26 : decode cX9_feed 26 = .ok (.getfield 10, 3) := by decide +kernel
theorem dX9_feed_29 : decode cX9_feed 29 = .ok (.getfield 98, 3) := by decide +kernel
theorem dX9_feed_32 : decode cX9_feed 32 = .ok (.goto 5, 3) := by decide +kernel
theorem dX9_feed_35 : decode cX9_feed 35 = .ok (.ldc 102, 2) := by decide +kernel
theorem dX9_feed_37 : decode cX9_feed 37 = .ok (.ireturn, 1) := by decide +kernel
theorem dX9_shop_0 : decode cX9_shop 0 = .ok (.aload_n 0, 1) := by decide +kernel
theorem dX9_shop_1 : decode cX9_shop 1 = .ok (.getfield 10, 3) := by decide +kernel
theorem dX9_shop_4 : decode cX9_shop 4 = .ok (.aload_n 0, 1) := by decide +kernel
theorem dX9_shop_5 : decode cX9_shop 5 = .ok (.getfield 19, 3) := by decide +kernel
theorem dX9_shop_8 : decode cX9_shop 8 = .ok (.invokevirtual 103, 3) := by decide +kernel
theorem dX9_shop_11 : decode cX9_shop 11 = .ok (.istore_n 1, 1) := by decide +kernel
theorem dX9_shop_12 : decode cX9_shop 12 = .ok (.iload_n 1, 1) := by decide +kernel
theorem dX9_shop_13 : decode cX9_shop 13 = .ok (.ifCond .eq 8, 3) := by decide +kernel
theorem dX9_shop_16 : decode cX9_shop 16 = .ok (.bipush (-10), 2) := by decide +kernel
theorem dX9_shop_18 : decode cX9_shop 18 = .ok (.iload_n 1, 1) := by decide +kernel
theorem dX9_shop_19 : decode cX9_shop 19 = .ok (.isub, 1) := by decide +kernel
theorem dX9_shop_20 : decode cX9_shop 20 = .ok (.ireturn, 1) := by decide +kernel
theorem dX9_shop_21 : decode cX9_shop 21 = .ok (.aload_n 0, 1) := by decide +kernel
theorem dX9_shop_22 : decode cX9_shop 22 = .ok (.getfield 33, 3) := by decide +kernel
theorem dX9_shop_25 : decode cX9_shop 25 = .ok (.aload_n 0, 1) := by decide +kernel
theorem dX9_shop_26 : decode cX9_shop 26 = .ok (.getfield 19, 3) := by decide +kernel
theorem dX9_shop_29 : decode cX9_shop 29 = .ok (.invokevirtual 107, 3) := by decide +kernel
theorem dX9_shop_32 : decode cX9_shop 32 = .ok (.aload_n 0, 1) := by decide +kernel
theorem dX9_shop_33 : decode cX9_shop 33 = .ok (.getfield 38, 3) := by decide +kernel
theorem dX9_shop_36 : decode cX9_shop 36 = .ok (.aload_n 0, 1) := by decide +kernel
theorem dX9_shop_37 : decode cX9_shop 37 = .ok (.getfield 33, 3) := by decide +kernel
theorem dX9_shop_40 : decode cX9_shop 40 = .ok (.invokevirtual 111, 3) := by decide +kernel
theorem dX9_shop_43 : decode cX9_shop 43 = .ok (.aload_n 0, 1) := by decide +kernel
theorem dX9_shop_44 : decode cX9_shop 44 = .ok (.getfield 63, 3) := by decide +kernel
theorem dX9_shop_47 : decode cX9_shop 47 = .ok (.invokevirtual 114, 3) := by decide +kernel
theorem dX9_shop_50 : decode cX9_shop 50 = .ok (.aload_n 0, 1) := by decide +kernel
theorem dX9_shop_51 : decode cX9_shop 51 = .ok (.getfield 70, 3) := by decide +kernel
theorem dX9_shop_54 : decode cX9_shop 54 = .ok (.invokevirtual 117, 3) := by decide +kernel
theorem dX9_shop_57 : decode cX9_shop 57 = .ok (.aload_n 0, 1) := by decide +kernel
theorem dX9_shop_58 : decode cX9_shop 58 = .ok (.getfield 56, 3) := by decide +kernel
theorem dX9_shop_61 : decode cX9_shop 61 = .ok (.invokevirtual 118, 3) := by decide +kernel
theorem dX9_shop_64 : decode cX9_shop 64 = .ok (.iconst 0, 1) := by decide +kernel
theorem dX9_shop_65 : decode cX9_shop 65 = .ok (.istore_n 2, 1) := by decide +kernel
theorem dX9_shop_66 : decode cX9_shop 66 = .ok (.iload_n 2, 1) := by decide +kernel
theorem dX9_shop_67 : decode cX9_shop 67 = .ok (.aload_n 0, 1) := by decide +kernel
theorem dX9_shop_68 : decode cX9_shop 68 = .ok (.getfield 84, 3) := by decide +kernel
theorem dX9_shop_71 : decode cX9_shop 71 = .ok (.arraylength, 1) := by decide +kernel
theorem dX9_shop_72 : decode cX9_shop 72 = .ok (.if_icmp .ge 16, 3) := by decide +kernel
theorem dX9_shop_75 : decode cX9_shop 75 = .ok (.aload_n 0, 1) := by decide +kernel
theorem dX9_shop_76 : decode cX9_shop 76 = .ok (.getfield 84, 3) := by decide +kernel
theorem dX9_shop_79 : decode cX9_shop 79 = .ok (.iload_n 2, 1) := by decide +kernel
theorem dX9_shop_80 : decode cX9_shop 80 = .ok (.iconst 0, 1) := by decide +kernel
theorem dX9_shop_81 : decode cX9_shop 81 = .ok (.bastore, 1) := by decide +kernel
theorem dX9_shop_82 : decode cX9_shop 82 = .ok (.iinc 2 1, 3) := by decide +kernel
theorem dX9_shop_85 : decode cX9_shop 85 = .ok (.goto (-19), 3) := by decide +kernel
theorem dX9_shop_88 : decode cX9_shop 88 = .ok (.aload_n 0, 1) := by decide +kernel
theorem dX9_shop_89 : decode cX9_shop 89 = .ok (.getfield 33, 3) := by decide +kernel
theorem dX9_shop_92 : decode cX9_shop 92 = .ok (.getfield 119, 3) := by decide +kernel
theorem dX9_shop_95 : decode cX9_shop 95 = .ok (.ireturn, 1) := by decide +kernel
theorem dX9_fault_0 : decode cX9_fault 0 = .ok (.aload_n 0, 1) := by decide +kernel
theorem dX9_fault_1 : decode cX9_fault 1 = .ok (.getfield 10, 3) := by decide +kernel
theorem dX9_fault_4 : decode cX9_fault 4 = .ok (.getfield 122, 3) := by decide +kernel
theorem dX9_fault_7 : decode cX9_fault 7 = .ok (.ireturn, 1) := by decide +kernel
theorem dX9_told_0 : decode cX9_told 0 = .ok (.iload_n 1, 1) := by decide +kernel
theorem dX9_told_1 : decode cX9_told 1 = .ok (.tableswitch 213 0 14 #[75, 83, 91, 99, 107, 115, 123, 138, 146, 154, 162, 181, 189, 197, 205], 75) := by decide +kernel
theorem dX9_told_76 : decode cX9_told 76 = .ok (.aload_n 0, 1) := by decide +kernel
theorem dX9_told_77 : decode cX9_told 77 = .ok (.getfield 33, 3) := by decide +kernel
theorem dX9_told_80 : decode cX9_told 80 = .ok (.getfield 119, 3) := by decide +kernel
theorem dX9_told_83 : decode cX9_told 83 = .ok (.ireturn, 1) := by decide +kernel
theorem dX9_told_84 : decode cX9_told 84 = .ok (.aload_n 0, 1) := by decide +kernel
theorem dX9_told_85 : decode cX9_told 85 = .ok (.getfield 33, 3) := by decide +kernel
theorem dX9_told_88 : decode cX9_told 88 = .ok (.getfield 125, 3) := by decide +kernel
theorem dX9_told_91 : decode cX9_told 91 = .ok (.ireturn, 1) := by decide +kernel
theorem dX9_told_92 : decode cX9_told 92 = .ok (.aload_n 0, 1) := by decide +kernel
theorem dX9_told_93 : decode cX9_told 93 = .ok (.getfield 10, 3) := by decide +kernel
theorem dX9_told_96 : decode cX9_told 96 = .ok (.getfield 98, 3) := by decide +kernel
theorem dX9_told_99 : decode cX9_told 99 = .ok (.ireturn, 1) := by decide +kernel
theorem dX9_told_100 : decode cX9_told 100 = .ok (.aload_n 0, 1) := by decide +kernel
theorem dX9_told_101 : decode cX9_told 101 = .ok (.getfield 38, 3) := by decide +kernel
theorem dX9_told_104 : decode cX9_told 104 = .ok (.getfield 128, 3) := by decide +kernel
theorem dX9_told_107 : decode cX9_told 107 = .ok (.ireturn, 1) := by decide +kernel
theorem dX9_told_108 : decode cX9_told 108 = .ok (.aload_n 0, 1) := by decide +kernel
theorem dX9_told_109 : decode cX9_told 109 = .ok (.getfield 38, 3) := by decide +kernel
theorem dX9_told_112 : decode cX9_told 112 = .ok (.getfield 131, 3) := by decide +kernel
theorem dX9_told_115 : decode cX9_told 115 = .ok (.ireturn, 1) := by decide +kernel
theorem dX9_told_116 : decode cX9_told 116 = .ok (.aload_n 0, 1) := by decide +kernel
theorem dX9_told_117 : decode cX9_told 117 = .ok (.getfield 26, 3) := by decide +kernel
theorem dX9_told_120 : decode cX9_told 120 = .ok (.invokevirtual 134, 3) := by decide +kernel
theorem dX9_told_123 : decode cX9_told 123 = .ok (.ireturn, 1) := by decide +kernel
theorem dX9_told_124 : decode cX9_told 124 = .ok (.aload_n 0, 1) := by decide +kernel
theorem dX9_told_125 : decode cX9_told 125 = .ok (.getfield 26, 3) := by decide +kernel
theorem dX9_told_128 : decode cX9_told 128 = .ok (.aload_n 0, 1) := by decide +kernel
theorem dX9_told_129 : decode cX9_told 129 = .ok (.getfield 38, 3) := by decide +kernel
theorem dX9_told_132 : decode cX9_told 132 = .ok (.getfield 128, 3) := by decide +kernel
theorem dX9_told_135 : decode cX9_told 135 = .ok (.invokevirtual 138, 3) := by decide +kernel
theorem dX9_told_138 : decode cX9_told 138 = .ok (.ireturn, 1) := by decide +kernel
theorem dX9_told_139 : decode cX9_told 139 = .ok (.aload_n 0, 1) := by decide +kernel
theorem dX9_told_140 : decode cX9_told 140 = .ok (.getfield 26, 3) := by decide +kernel
theorem dX9_told_143 : decode cX9_told 143 = .ok (.invokevirtual 142, 3) := by decide +kernel
theorem dX9_told_146 : decode cX9_told 146 = .ok (.ireturn, 1) := by decide +kernel
theorem dX9_told_147 : decode cX9_told 147 = .ok (.aload_n 0, 1) := by decide +kernel
theorem dX9_told_148 : decode cX9_told 148 = .ok (.getfield 26, 3) := by decide +kernel
theorem dX9_told_151 : decode cX9_told 151 = .ok (.invokevirtual 145, 3) := by decide +kernel
theorem dX9_told_154 : decode cX9_told 154 = .ok (.ireturn, 1) := by decide +kernel
theorem dX9_told_155 : decode cX9_told 155 = .ok (.aload_n 0, 1) := by decide +kernel
theorem dX9_told_156 : decode cX9_told 156 = .ok (.getfield 26, 3) := by decide +kernel
theorem dX9_told_159 : decode cX9_told 159 = .ok (.invokevirtual 148, 3) := by decide +kernel
theorem dX9_told_162 : decode cX9_told 162 = .ok (.ireturn, 1) := by decide +kernel
theorem dX9_told_163 : decode cX9_told 163 = .ok (.aload_n 0, 1) := by decide +kernel
theorem dX9_told_164 : decode cX9_told 164 = .ok (.getfield 38, 3) := by decide +kernel
theorem dX9_told_167 : decode cX9_told 167 = .ok (.getfield 128, 3) := by decide +kernel
theorem dX9_told_170 : decode cX9_told 170 = .ok (.invokestatic 151, 3) := by decide +kernel
theorem dX9_told_173 : decode cX9_told 173 = .ok (.ifCond .eq 7, 3) := by decide +kernel
theorem dX9_told_176 : decode cX9_told 176 = .ok (.iconst 1, 1) := by decide +kernel
theorem dX9_told_177 : decode cX9_told 177 = .ok (.goto 4, 3) := by decide +kernel
theorem dX9_told_180 : decode cX9_told 180 = .ok (.iconst 0, 1) := by decide +kernel
theorem dX9_told_181 : decode cX9_told 181 = .ok (.ireturn, 1) := by decide +kernel
theorem dX9_told_182 : decode cX9_told 182 = .ok (.aload_n 0, 1) := by decide +kernel
theorem dX9_told_183 : decode cX9_told 183 = .ok (.getfield 63, 3) := by decide +kernel
theorem dX9_told_186 : decode cX9_told 186 = .ok (.getfield 154, 3) := by decide +kernel
theorem dX9_told_189 : decode cX9_told 189 = .ok (.ireturn, 1) := by decide +kernel
theorem dX9_told_190 : decode cX9_told 190 = .ok (.aload_n 0, 1) := by decide +kernel
theorem dX9_told_191 : decode cX9_told 191 = .ok (.getfield 70, 3) := by decide +kernel
theorem dX9_told_194 : decode cX9_told 194 = .ok (.getfield 157, 3) := by decide +kernel
theorem dX9_told_197 : decode cX9_told 197 = .ok (.ireturn, 1) := by decide +kernel
theorem dX9_told_198 : decode cX9_told 198 = .ok (.aload_n 0, 1) := by decide +kernel
theorem dX9_told_199 : decode cX9_told 199 = .ok (.getfield 56, 3) := by decide +kernel
theorem dX9_told_202 : decode cX9_told 202 = .ok (.getfield 158, 3) := by decide +kernel
theorem dX9_told_205 : decode cX9_told 205 = .ok (.ireturn, 1) := by decide +kernel
theorem dX9_told_206 : decode cX9_told 206 = .ok (.aload_n 0, 1) := by decide +kernel
theorem dX9_told_207 : decode cX9_told 207 = .ok (.getfield 26, 3) := by decide +kernel
theorem dX9_told_210 : decode cX9_told 210 = .ok (.invokevirtual 159, 3) := by decide +kernel
theorem dX9_told_213 : decode cX9_told 213 = .ok (.ireturn, 1) := by decide +kernel
theorem dX9_told_214 : decode cX9_told 214 = .ok (.ldc 93, 2) := by decide +kernel
theorem dX9_told_216 : decode cX9_told 216 = .ok (.ireturn, 1) := by decide +kernel
theorem dX9_burden_0 : decode cX9_burden 0 = .ok (.aload_n 0, 1) := by decide +kernel
theorem dX9_burden_1 : decode cX9_burden 1 = .ok (.getfield 33, 3) := by decide +kernel
theorem dX9_burden_4 : decode cX9_burden 4 = .ok (.iload_n 1, 1) := by decide +kernel
theorem dX9_burden_5 : decode cX9_burden 5 = .ok (.invokevirtual 162, 3) := by decide +kernel
theorem dX9_burden_8 : decode cX9_burden 8 = .ok (.ifCond .ne 6, 3) := by decide +kernel
theorem dX9_burden_11 : decode cX9_burden 11 = .ok (.ldc 165, 2) := by decide +kernel
theorem dX9_burden_13 : decode cX9_burden 13 = .ok (.ireturn, 1) := by decide +kernel
theorem dX9_burden_14 : decode cX9_burden 14 = .ok (.iload_n 2, 1) := by decide +kernel
theorem dX9_burden_15 : decode cX9_burden 15 = .ok (.tableswitch 97 0 5 #[37, 47, 57, 67, 77, 87], 37) := by decide +kernel
theorem dX9_burden_52 : decode cX9_burden 52 = .ok (.aload_n 0, 1) := by decide +kernel
theorem dX9_burden_53 : decode cX9_burden 53 = .ok (.getfield 33, 3) := by decide +kernel
theorem dX9_burden_56 : decode cX9_burden 56 = .ok (.getfield 166, 3) := by decide +kernel
theorem dX9_burden_59 : decode cX9_burden 59 = .ok (.iload_n 1, 1) := by decide +kernel
theorem dX9_burden_60 : decode cX9_burden 60 = .ok (.iaload, 1) := by decide +kernel
theorem dX9_burden_61 : decode cX9_burden 61 = .ok (.ireturn, 1) := by decide +kernel
theorem dX9_burden_62 : decode cX9_burden 62 = .ok (.aload_n 0, 1) := by decide +kernel
theorem dX9_burden_63 : decode cX9_burden 63 = .ok (.getfield 38, 3) := by decide +kernel
theorem dX9_burden_66 : decode cX9_burden 66 = .ok (.getfield 169, 3) := by decide +kernel
theorem dX9_burden_69 : decode cX9_burden 69 = .ok (.iload_n 1, 1) := by decide +kernel
theorem dX9_burden_70 : decode cX9_burden 70 = .ok (.iaload, 1) := by decide +kernel
theorem dX9_burden_71 : decode cX9_burden 71 = .ok (.ireturn, 1) := by decide +kernel
theorem dX9_burden_72 : decode cX9_burden 72 = .ok (.aload_n 0, 1) := by decide +kernel
theorem dX9_burden_73 : decode cX9_burden 73 = .ok (.getfield 33, 3) := by decide +kernel
theorem dX9_burden_76 : decode cX9_burden 76 = .ok (.getfield 172, 3) := by decide +kernel
theorem dX9_burden_79 : decode cX9_burden 79 = .ok (.iload_n 1, 1) := by decide +kernel
theorem dX9_burden_80 : decode cX9_burden 80 = .ok (.iaload, 1) := by decide +kernel
theorem dX9_burden_81 : decode cX9_burden 81 = .ok (.ireturn, 1) := by decide +kernel
theorem dX9_burden_82 : decode cX9_burden 82 = .ok (.aload_n 0, 1) := by decide +kernel
theorem dX9_burden_83 : decode cX9_burden 83 = .ok (.getfield 38, 3) := by decide +kernel
theorem dX9_burden_86 : decode cX9_burden 86 = .ok (.getfield 175, 3) := by decide +kernel
theorem dX9_burden_89 : decode cX9_burden 89 = .ok (.iload_n 1, 1) := by decide +kernel
theorem dX9_burden_90 : decode cX9_burden 90 = .ok (.iaload, 1) := by decide +kernel
theorem dX9_burden_91 : decode cX9_burden 91 = .ok (.ireturn, 1) := by decide +kernel
theorem dX9_burden_92 : decode cX9_burden 92 = .ok (.aload_n 0, 1) := by decide +kernel
theorem dX9_burden_93 : decode cX9_burden 93 = .ok (.getfield 38, 3) := by decide +kernel
theorem dX9_burden_96 : decode cX9_burden 96 = .ok (.getfield 178, 3) := by decide +kernel
theorem dX9_burden_99 : decode cX9_burden 99 = .ok (.iload_n 1, 1) := by decide +kernel
theorem dX9_burden_100 : decode cX9_burden 100 = .ok (.iaload, 1) := by decide +kernel
theorem dX9_burden_101 : decode cX9_burden 101 = .ok (.ireturn, 1) := by decide +kernel
theorem dX9_burden_102 : decode cX9_burden 102 = .ok (.aload_n 0, 1) := by decide +kernel
theorem dX9_burden_103 : decode cX9_burden 103 = .ok (.getfield 38, 3) := by decide +kernel
theorem dX9_burden_106 : decode cX9_burden 106 = .ok (.getfield 181, 3) := by decide +kernel
theorem dX9_burden_109 : decode cX9_burden 109 = .ok (.iload_n 1, 1) := by decide +kernel
theorem dX9_burden_110 : decode cX9_burden 110 = .ok (.iaload, 1) := by decide +kernel
theorem dX9_burden_111 : decode cX9_burden 111 = .ok (.ireturn, 1) := by decide +kernel
theorem dX9_burden_112 : decode cX9_burden 112 = .ok (.ldc 93, 2) := by decide +kernel
theorem dX9_burden_114 : decode cX9_burden 114 = .ok (.ireturn, 1) := by decide +kernel
theorem dX9_back_0 : decode cX9_back 0 = .ok (.aload_n 0, 1) := by decide +kernel
theorem dX9_back_1 : decode cX9_back 1 = .ok (.getfield 33, 3) := by decide +kernel
theorem dX9_back_4 : decode cX9_back 4 = .ok (.iload_n 1, 1) := by decide +kernel
theorem dX9_back_5 : decode cX9_back 5 = .ok (.invokevirtual 184, 3) := by decide +kernel
theorem dX9_back_8 : decode cX9_back 8 = .ok (.ifCond .ne 6, 3) := by decide +kernel
theorem dX9_back_11 : decode cX9_back 11 = .ok (.ldc 165, 2) := by decide +kernel
theorem dX9_back_13 : decode cX9_back 13 = .ok (.ireturn, 1) := by decide +kernel
theorem dX9_back_14 : decode cX9_back 14 = .ok (.iload_n 2, 1) := by decide +kernel
theorem dX9_back_15 : decode cX9_back 15 = .ok (.tableswitch 120 0 7 #[45, 55, 65, 75, 84, 93, 102, 111], 45) := by decide +kernel
theorem dX9_back_60 : decode cX9_back 60 = .ok (.aload_n 0, 1) := by decide +kernel
theorem dX9_back_61 : decode cX9_back 61 = .ok (.getfield 33, 3) := by decide +kernel
theorem dX9_back_64 : decode cX9_back 64 = .ok (.getfield 187, 3) := by decide +kernel
theorem dX9_back_67 : decode cX9_back 67 = .ok (.iload_n 1, 1) := by decide +kernel
theorem dX9_back_68 : decode cX9_back 68 = .ok (.iaload, 1) := by decide +kernel
theorem dX9_back_69 : decode cX9_back 69 = .ok (.ireturn, 1) := by decide +kernel
theorem dX9_back_70 : decode cX9_back 70 = .ok (.aload_n 0, 1) := by decide +kernel
theorem dX9_back_71 : decode cX9_back 71 = .ok (.getfield 33, 3) := by decide +kernel
theorem dX9_back_74 : decode cX9_back 74 = .ok (.getfield 190, 3) := by decide +kernel
theorem dX9_back_77 : decode cX9_back 77 = .ok (.iload_n 1, 1) := by decide +kernel
theorem dX9_back_78 : decode cX9_back 78 = .ok (.iaload, 1) := by decide +kernel
theorem dX9_back_79 : decode cX9_back 79 = .ok (.ireturn, 1) := by decide +kernel
theorem dX9_back_80 : decode cX9_back 80 = .ok (.aload_n 0, 1) := by decide +kernel
theorem dX9_back_81 : decode cX9_back 81 = .ok (.getfield 38, 3) := by decide +kernel
theorem dX9_back_84 : decode cX9_back 84 = .ok (.getfield 193, 3) := by decide +kernel
theorem dX9_back_87 : decode cX9_back 87 = .ok (.iload_n 1, 1) := by decide +kernel
theorem dX9_back_88 : decode cX9_back 88 = .ok (.iaload, 1) := by decide +kernel
theorem dX9_back_89 : decode cX9_back 89 = .ok (.ireturn, 1) := by decide +kernel
theorem dX9_back_90 : decode cX9_back 90 = .ok (.aload_n 0, 1) := by decide +kernel
theorem dX9_back_91 : decode cX9_back 91 = .ok (.getfield 26, 3) := by decide +kernel
theorem dX9_back_94 : decode cX9_back 94 = .ok (.iload_n 1, 1) := by decide +kernel
theorem dX9_back_95 : decode cX9_back 95 = .ok (.invokevirtual 196, 3) := by decide +kernel
theorem dX9_back_98 : decode cX9_back 98 = .ok (.ireturn, 1) := by decide +kernel
theorem dX9_back_99 : decode cX9_back 99 = .ok (.aload_n 0, 1) := by decide +kernel
theorem dX9_back_100 : decode cX9_back 100 = .ok (.getfield 26, 3) := by decide +kernel
theorem dX9_back_103 : decode cX9_back 103 = .ok (.iload_n 1, 1) := by decide +kernel
theorem dX9_back_104 : decode cX9_back 104 = .ok (.invokevirtual 199, 3) := by decide +kernel
theorem dX9_back_107 : decode cX9_back 107 = .ok (.ireturn, 1) := by decide +kernel
theorem dX9_back_108 : decode cX9_back 108 = .ok (.aload_n 0, 1) := by decide +kernel
theorem dX9_back_109 : decode cX9_back 109 = .ok (.getfield 26, 3) := by decide +kernel
theorem dX9_back_112 : decode cX9_back 112 = .ok (.iload_n 1, 1) := by decide +kernel
theorem dX9_back_113 : decode cX9_back 113 = .ok (.invokevirtual 202, 3) := by decide +kernel
theorem dX9_back_116 : decode cX9_back 116 = .ok (.ireturn, 1) := by decide +kernel
theorem dX9_back_117 : decode cX9_back 117 = .ok (.aload_n 0, 1) := by decide +kernel
theorem dX9_back_118 : decode cX9_back 118 = .ok (.getfield 26, 3) := by decide +kernel
theorem dX9_back_121 : decode cX9_back 121 = .ok (.iload_n 1, 1) := by decide +kernel
theorem dX9_back_122 : decode cX9_back 122 = .ok (.invokevirtual 205, 3) := by decide +kernel
theorem dX9_back_125 : decode cX9_back 125 = .ok (.ireturn, 1) := by decide +kernel
theorem dX9_back_126 : decode cX9_back 126 = .ok (.aload_n 0, 1) := by decide +kernel
theorem dX9_back_127 : decode cX9_back 127 = .ok (.getfield 26, 3) := by decide +kernel
theorem dX9_back_130 : decode cX9_back 130 = .ok (.iload_n 1, 1) := by decide +kernel
theorem dX9_back_131 : decode cX9_back 131 = .ok (.invokevirtual 208, 3) := by decide +kernel
theorem dX9_back_134 : decode cX9_back 134 = .ok (.ireturn, 1) := by decide +kernel
theorem dX9_back_135 : decode cX9_back 135 = .ok (.ldc 93, 2) := by decide +kernel
theorem dX9_back_137 : decode cX9_back 137 = .ok (.ireturn, 1) := by decide +kernel
theorem dX9_day_0 : decode cX9_day 0 = .ok (.aload_n 0, 1) := by decide +kernel
theorem dX9_day_1 : decode cX9_day 1 = .ok (.iload_n 1, 1) := by decide +kernel
theorem dX9_day_2 : decode cX9_day 2 = .ok (.invokevirtual 211, 3) := by decide +kernel
theorem dX9_day_5 : decode cX9_day 5 = .ok (.istore_n 2, 1) := by decide +kernel
theorem dX9_day_6 : decode cX9_day 6 = .ok (.iload_n 2, 1) := by decide +kernel
theorem dX9_day_7 : decode cX9_day 7 = .ok (.ifCond .eq 5, 3) := by decide +kernel
theorem dX9_day_10 : decode cX9_day 10 = .ok (.iload_n 2, 1) := by decide +kernel
theorem dX9_day_11 : decode cX9_day 11 = .ok (.ireturn, 1) := by decide +kernel
theorem dX9_day_12 : decode cX9_day 12 = .ok (.aload_n 0, 1) := by decide +kernel
theorem dX9_day_13 : decode cX9_day 13 = .ok (.getfield 56, 3) := by decide +kernel
theorem dX9_day_16 : decode cX9_day 16 = .ok (.aload_n 0, 1) := by decide +kernel
theorem dX9_day_17 : decode cX9_day 17 = .ok (.getfield 38, 3) := by decide +kernel
theorem dX9_day_20 : decode cX9_day 20 = .ok (.invokevirtual 214, 3) := by decide +kernel
theorem dX9_day_23 : decode cX9_day 23 = .ok (.iconst 0, 1) := by decide +kernel
theorem dX9_day_24 : decode cX9_day 24 = .ok (.istore_n 3, 1) := by decide +kernel
theorem dX9_day_25 : decode cX9_day 25 = .ok (.iload_n 3, 1) := by decide +kernel
theorem dX9_day_26 : decode cX9_day 26 = .ok (.iload_n 1, 1) := by decide +kernel
theorem dX9_day_27 : decode cX9_day 27 = .ok (.if_icmp .ge 16, 3) := by decide +kernel
theorem dX9_day_30 : decode cX9_day 30 = .ok (.aload_n 0, 1) := by decide +kernel
theorem dX9_day_31 : decode cX9_day 31 = .ok (.getfield 26, 3) := by decide +kernel
theorem dX9_day_34 : decode cX9_day 34 = .ok (.invokevirtual 217, 3) := by decide +kernel
theorem dX9_day_37 : decode cX9_day 37 = .ok (.iinc 3 1, 3) := by decide +kernel
theorem dX9_day_40 : decode cX9_day 40 = .ok (.goto (-15), 3) := by decide +kernel
theorem dX9_day_43 : decode cX9_day 43 = .ok (.aload_n 0, 1) := by decide +kernel
theorem dX9_day_44 : decode cX9_day 44 = .ok (.getfield 26, 3) := by decide +kernel
theorem dX9_day_47 : decode cX9_day 47 = .ok (.invokevirtual 134, 3) := by decide +kernel
theorem dX9_day_50 : decode cX9_day 50 = .ok (.ireturn, 1) := by decide +kernel
theorem dX9_take_0 : decode cX9_take 0 = .ok (.aload_n 0, 1) := by decide +kernel
theorem dX9_take_1 : decode cX9_take 1 = .ok (.getfield 33, 3) := by decide +kernel
theorem dX9_take_4 : decode cX9_take 4 = .ok (.iload_n 1, 1) := by decide +kernel
theorem dX9_take_5 : decode cX9_take 5 = .ok (.invokevirtual 162, 3) := by decide +kernel
theorem dX9_take_8 : decode cX9_take 8 = .ok (.ifCond .eq 14, 3) := by decide +kernel
theorem dX9_take_11 : decode cX9_take 11 = .ok (.aload_n 0, 1) := by decide +kernel
theorem dX9_take_12 : decode cX9_take 12 = .ok (.getfield 33, 3) := by decide +kernel
theorem dX9_take_15 : decode cX9_take 15 = .ok (.iload_n 2, 1) := by decide +kernel
theorem dX9_take_16 : decode cX9_take 16 = .ok (.invokevirtual 184, 3) := by decide +kernel
theorem dX9_take_19 : decode cX9_take 19 = .ok (.ifCond .ne 6, 3) := by decide +kernel
theorem dX9_take_22 : decode cX9_take 22 = .ok (.ldc 165, 2) := by decide +kernel
theorem dX9_take_24 : decode cX9_take 24 = .ok (.ireturn, 1) := by decide +kernel
theorem dX9_take_25 : decode cX9_take 25 = .ok (.aload_n 0, 1) := by decide +kernel
theorem dX9_take_26 : decode cX9_take 26 = .ok (.getfield 38, 3) := by decide +kernel
theorem dX9_take_29 : decode cX9_take 29 = .ok (.iload_n 1, 1) := by decide +kernel
theorem dX9_take_30 : decode cX9_take 30 = .ok (.invokevirtual 220, 3) := by decide +kernel
theorem dX9_take_33 : decode cX9_take 33 = .ok (.ifCond .eq 6, 3) := by decide +kernel
theorem dX9_take_36 : decode cX9_take 36 = .ok (.ldc 223, 2) := by decide +kernel
theorem dX9_take_38 : decode cX9_take 38 = .ok (.ireturn, 1) := by decide +kernel
theorem dX9_take_39 : decode cX9_take 39 = .ok (.aload_n 0, 1) := by decide +kernel
theorem dX9_take_40 : decode cX9_take 40 = .ok (.getfield 56, 3) := by decide +kernel
theorem dX9_take_43 : decode cX9_take 43 = .ok (.aload_n 0, 1) := by decide +kernel
theorem dX9_take_44 : decode cX9_take 44 = .ok (.getfield 38, 3) := by decide +kernel
theorem dX9_take_47 : decode cX9_take 47 = .ok (.invokevirtual 214, 3) := by decide +kernel
theorem dX9_take_50 : decode cX9_take 50 = .ok (.aload_n 0, 1) := by decide +kernel
theorem dX9_take_51 : decode cX9_take 51 = .ok (.getfield 38, 3) := by decide +kernel
theorem dX9_take_54 : decode cX9_take 54 = .ok (.iload_n 1, 1) := by decide +kernel
theorem dX9_take_55 : decode cX9_take 55 = .ok (.iload_n 2, 1) := by decide +kernel
theorem dX9_take_56 : decode cX9_take 56 = .ok (.invokevirtual 224, 3) := by decide +kernel
theorem dX9_take_59 : decode cX9_take 59 = .ok (.aload_n 0, 1) := by decide +kernel
theorem dX9_take_60 : decode cX9_take 60 = .ok (.getfield 26, 3) := by decide +kernel
theorem dX9_take_63 : decode cX9_take 63 = .ok (.iload_n 2, 1) := by decide +kernel
theorem dX9_take_64 : decode cX9_take 64 = .ok (.invokevirtual 196, 3) := by decide +kernel
theorem dX9_take_67 : decode cX9_take 67 = .ok (.ireturn, 1) := by decide +kernel
theorem dX9_share_0 : decode cX9_share 0 = .ok (.aload_n 0, 1) := by decide +kernel
theorem dX9_share_1 : decode cX9_share 1 = .ok (.getfield 33, 3) := by decide +kernel
theorem dX9_share_4 : decode cX9_share 4 = .ok (.iload_n 1, 1) := by decide +kernel
theorem dX9_share_5 : decode cX9_share 5 = .ok (.invokevirtual 162, 3) := by decide +kernel
theorem dX9_share_8 : decode cX9_share 8 = .ok (.ifCond .eq 14, 3) := by decide +kernel
theorem dX9_share_11 : decode cX9_share 11 = .ok (.aload_n 0, 1) := by decide +kernel
theorem dX9_share_12 : decode cX9_share 12 = .ok (.getfield 33, 3) := by decide +kernel
theorem dX9_share_15 : decode cX9_share 15 = .ok (.iload_n 2, 1) := by decide +kernel
theorem dX9_share_16 : decode cX9_share 16 = .ok (.invokevirtual 184, 3) := by decide +kernel
theorem dX9_share_19 : decode cX9_share 19 = .ok (.ifCond .ne 6, 3) := by decide +kernel
theorem dX9_share_22 : decode cX9_share 22 = .ok (.ldc 165, 2) := by decide +kernel
theorem dX9_share_24 : decode cX9_share 24 = .ok (.ireturn, 1) := by decide +kernel
theorem dX9_share_25 : decode cX9_share 25 = .ok (.aload_n 0, 1) := by decide +kernel
theorem dX9_share_26 : decode cX9_share 26 = .ok (.getfield 38, 3) := by decide +kernel
theorem dX9_share_29 : decode cX9_share 29 = .ok (.iload_n 1, 1) := by decide +kernel
theorem dX9_share_30 : decode cX9_share 30 = .ok (.iload_n 2, 1) := by decide +kernel
theorem dX9_share_31 : decode cX9_share 31 = .ok (.invokevirtual 228, 3) := by decide +kernel
theorem dX9_share_34 : decode cX9_share 34 = .ok (.ifCond .ne 6, 3) := by decide +kernel
theorem dX9_share_37 : decode cX9_share 37 = .ok (.ldc 223, 2) := by decide +kernel
theorem dX9_share_39 : decode cX9_share 39 = .ok (.ireturn, 1) := by decide +kernel
theorem dX9_share_40 : decode cX9_share 40 = .ok (.aload_n 0, 1) := by decide +kernel
theorem dX9_share_41 : decode cX9_share 41 = .ok (.getfield 56, 3) := by decide +kernel
theorem dX9_share_44 : decode cX9_share 44 = .ok (.aload_n 0, 1) := by decide +kernel
theorem dX9_share_45 : decode cX9_share 45 = .ok (.getfield 38, 3) := by decide +kernel
theorem dX9_share_48 : decode cX9_share 48 = .ok (.invokevirtual 214, 3) := by decide +kernel
theorem dX9_share_51 : decode cX9_share 51 = .ok (.aload_n 0, 1) := by decide +kernel
theorem dX9_share_52 : decode cX9_share 52 = .ok (.getfield 38, 3) := by decide +kernel
theorem dX9_share_55 : decode cX9_share 55 = .ok (.iload_n 1, 1) := by decide +kernel
theorem dX9_share_56 : decode cX9_share 56 = .ok (.iload_n 2, 1) := by decide +kernel
theorem dX9_share_57 : decode cX9_share 57 = .ok (.invokevirtual 232, 3) := by decide +kernel
theorem dX9_share_60 : decode cX9_share 60 = .ok (.aload_n 0, 1) := by decide +kernel
theorem dX9_share_61 : decode cX9_share 61 = .ok (.getfield 26, 3) := by decide +kernel
theorem dX9_share_64 : decode cX9_share 64 = .ok (.iload_n 2, 1) := by decide +kernel
theorem dX9_share_65 : decode cX9_share 65 = .ok (.invokevirtual 196, 3) := by decide +kernel
theorem dX9_share_68 : decode cX9_share 68 = .ok (.ireturn, 1) := by decide +kernel
theorem dX9_down_0 : decode cX9_down 0 = .ok (.aload_n 0, 1) := by decide +kernel
theorem dX9_down_1 : decode cX9_down 1 = .ok (.getfield 33, 3) := by decide +kernel
theorem dX9_down_4 : decode cX9_down 4 = .ok (.iload_n 1, 1) := by decide +kernel
theorem dX9_down_5 : decode cX9_down 5 = .ok (.invokevirtual 162, 3) := by decide +kernel
theorem dX9_down_8 : decode cX9_down 8 = .ok (.ifCond .eq 14, 3) := by decide +kernel
theorem dX9_down_11 : decode cX9_down 11 = .ok (.aload_n 0, 1) := by decide +kernel
theorem dX9_down_12 : decode cX9_down 12 = .ok (.getfield 33, 3) := by decide +kernel
theorem dX9_down_15 : decode cX9_down 15 = .ok (.iload_n 2, 1) := by decide +kernel
theorem dX9_down_16 : decode cX9_down 16 = .ok (.invokevirtual 184, 3) := by decide +kernel
theorem dX9_down_19 : decode cX9_down 19 = .ok (.ifCond .ne 6, 3) := by decide +kernel
theorem dX9_down_22 : decode cX9_down 22 = .ok (.ldc 165, 2) := by decide +kernel
theorem dX9_down_24 : decode cX9_down 24 = .ok (.ireturn, 1) := by decide +kernel
theorem dX9_down_25 : decode cX9_down 25 = .ok (.aload_n 0, 1) := by decide +kernel
theorem dX9_down_26 : decode cX9_down 26 = .ok (.getfield 38, 3) := by decide +kernel
theorem dX9_down_29 : decode cX9_down 29 = .ok (.iload_n 1, 1) := by decide +kernel
theorem dX9_down_30 : decode cX9_down 30 = .ok (.iload_n 2, 1) := by decide +kernel
theorem dX9_down_31 : decode cX9_down 31 = .ok (.invokevirtual 235, 3) := by decide +kernel
theorem dX9_down_34 : decode cX9_down 34 = .ok (.ifCond .ne 6, 3) := by decide +kernel
theorem dX9_down_37 : decode cX9_down 37 = .ok (.ldc 223, 2) := by decide +kernel
theorem dX9_down_39 : decode cX9_down 39 = .ok (.ireturn, 1) := by decide +kernel
theorem dX9_down_40 : decode cX9_down 40 = .ok (.aload_n 0, 1) := by decide +kernel
theorem dX9_down_41 : decode cX9_down 41 = .ok (.getfield 56, 3) := by decide +kernel
theorem dX9_down_44 : decode cX9_down 44 = .ok (.aload_n 0, 1) := by decide +kernel
theorem dX9_down_45 : decode cX9_down 45 = .ok (.getfield 38, 3) := by decide +kernel
theorem dX9_down_48 : decode cX9_down 48 = .ok (.invokevirtual 214, 3) := by decide +kernel
theorem dX9_down_51 : decode cX9_down 51 = .ok (.aload_n 0, 1) := by decide +kernel
theorem dX9_down_52 : decode cX9_down 52 = .ok (.getfield 38, 3) := by decide +kernel
theorem dX9_down_55 : decode cX9_down 55 = .ok (.iload_n 1, 1) := by decide +kernel
theorem dX9_down_56 : decode cX9_down 56 = .ok (.iload_n 2, 1) := by decide +kernel
theorem dX9_down_57 : decode cX9_down 57 = .ok (.invokevirtual 238, 3) := by decide +kernel
theorem dX9_down_60 : decode cX9_down 60 = .ok (.aload_n 0, 1) := by decide +kernel
theorem dX9_down_61 : decode cX9_down 61 = .ok (.getfield 26, 3) := by decide +kernel
theorem dX9_down_64 : decode cX9_down 64 = .ok (.iload_n 2, 1) := by decide +kernel
theorem dX9_down_65 : decode cX9_down 65 = .ok (.invokevirtual 196, 3) := by decide +kernel
theorem dX9_down_68 : decode cX9_down 68 = .ok (.ireturn, 1) := by decide +kernel
theorem dX9_hand_0 : decode cX9_hand 0 = .ok (.aload_n 0, 1) := by decide +kernel
theorem dX9_hand_1 : decode cX9_hand 1 = .ok (.getfield 33, 3) := by decide +kernel
theorem dX9_hand_4 : decode cX9_hand 4 = .ok (.iload_n 1, 1) := by decide +kernel
theorem dX9_hand_5 : decode cX9_hand 5 = .ok (.invokevirtual 162, 3) := by decide +kernel
theorem dX9_hand_8 : decode cX9_hand 8 = .ok (.ifCond .eq 15, 3) := by decide +kernel
theorem dX9_hand_11 : decode cX9_hand 11 = .ok (.aload_n 0, 1) := by decide +kernel
theorem dX9_hand_12 : decode cX9_hand 12 = .ok (.getfield 33, 3) := by decide +kernel
theorem dX9_hand_15 : decode cX9_hand 15 = .ok (.iload_n 2, 1) := by decide +kernel
theorem dX9_hand_16 : decode cX9_hand 16 = .ok (.iload_n 3, 1) := by decide +kernel
theorem dX9_hand_17 : decode cX9_hand 17 = .ok (.invokevirtual 241, 3) := by decide +kernel
theorem dX9_hand_20 : decode cX9_hand 20 = .ok (.ifCond .ne 6, 3) := by decide +kernel
theorem dX9_hand_23 : decode cX9_hand 23 = .ok (.ldc 165, 2) := by decide +kernel
theorem dX9_hand_25 : decode cX9_hand 25 = .ok (.ireturn, 1) := by decide +kernel
theorem dX9_hand_26 : decode cX9_hand 26 = .ok (.aload_n 0, 1) := by decide +kernel
theorem dX9_hand_27 : decode cX9_hand 27 = .ok (.getfield 38, 3) := by decide +kernel
theorem dX9_hand_30 : decode cX9_hand 30 = .ok (.iload_n 1, 1) := by decide +kernel
theorem dX9_hand_31 : decode cX9_hand 31 = .ok (.iload_n 2, 1) := by decide +kernel
theorem dX9_hand_32 : decode cX9_hand 32 = .ok (.invokevirtual 235, 3) := by decide +kernel
theorem dX9_hand_35 : decode cX9_hand 35 = .ok (.ifCond .eq 15, 3) := by decide +kernel
theorem dX9_hand_38 : decode cX9_hand 38 = .ok (.aload_n 0, 1) := by decide +kernel
theorem dX9_hand_39 : decode cX9_hand 39 = .ok (.getfield 38, 3) := by decide +kernel
theorem dX9_hand_42 : decode cX9_hand 42 = .ok (.iload_n 1, 1) := by decide +kernel
theorem dX9_hand_43 : decode cX9_hand 43 = .ok (.iload_n 3, 1) := by decide +kernel
theorem dX9_hand_44 : decode cX9_hand 44 = .ok (.invokevirtual 235, 3) := by decide +kernel
theorem dX9_hand_47 : decode cX9_hand 47 = .ok (.ifCond .eq 6, 3) := by decide +kernel
theorem dX9_hand_50 : decode cX9_hand 50 = .ok (.ldc 223, 2) := by decide +kernel
theorem dX9_hand_52 : decode cX9_hand 52 = .ok (.ireturn, 1) := by decide +kernel
theorem dX9_hand_53 : decode cX9_hand 53 = .ok (.aload_n 0, 1) := by decide +kernel
theorem dX9_hand_54 : decode cX9_hand 54 = .ok (.getfield 56, 3) := by decide +kernel
theorem dX9_hand_57 : decode cX9_hand 57 = .ok (.aload_n 0, 1) := by decide +kernel
theorem dX9_hand_58 : decode cX9_hand 58 = .ok (.getfield 38, 3) := by decide +kernel
theorem dX9_hand_61 : decode cX9_hand 61 = .ok (.invokevirtual 214, 3) := by decide +kernel
theorem dX9_hand_64 : decode cX9_hand 64 = .ok (.aload_n 0, 1) := by decide +kernel
theorem dX9_hand_65 : decode cX9_hand 65 = .ok (.getfield 38, 3) := by decide +kernel
theorem dX9_hand_68 : decode cX9_hand 68 = .ok (.iload_n 1, 1) := by decide +kernel
theorem dX9_hand_69 : decode cX9_hand 69 = .ok (.iload_n 2, 1) := by decide +kernel
theorem dX9_hand_70 : decode cX9_hand 70 = .ok (.iload_n 3, 1) := by decide +kernel
theorem dX9_hand_71 : decode cX9_hand 71 = .ok (.invokevirtual 244, 3) := by decide +kernel
theorem dX9_hand_74 : decode cX9_hand 74 = .ok (.aload_n 0, 1) := by decide +kernel
theorem dX9_hand_75 : decode cX9_hand 75 = .ok (.getfield 26, 3) := by decide +kernel
theorem dX9_hand_78 : decode cX9_hand 78 = .ok (.iload_n 3, 1) := by decide +kernel
theorem dX9_hand_79 : decode cX9_hand 79 = .ok (.invokevirtual 196, 3) := by decide +kernel
theorem dX9_hand_82 : decode cX9_hand 82 = .ok (.ireturn, 1) := by decide +kernel
theorem dX9_stuff_0 : decode cX9_stuff 0 = .ok (.aload_n 0, 1) := by decide +kernel
theorem dX9_stuff_1 : decode cX9_stuff 1 = .ok (.getfield 33, 3) := by decide +kernel
theorem dX9_stuff_4 : decode cX9_stuff 4 = .ok (.iload_n 1, 1) := by decide +kernel
theorem dX9_stuff_5 : decode cX9_stuff 5 = .ok (.invokevirtual 162, 3) := by decide +kernel
theorem dX9_stuff_8 : decode cX9_stuff 8 = .ok (.ifCond .ne 6, 3) := by decide +kernel
theorem dX9_stuff_11 : decode cX9_stuff 11 = .ok (.ldc 165, 2) := by decide +kernel
theorem dX9_stuff_13 : decode cX9_stuff 13 = .ok (.ireturn, 1) := by decide +kernel
theorem dX9_stuff_14 : decode cX9_stuff 14 = .ok (.iload_n 2, 1) := by decide +kernel
theorem dX9_stuff_15 : decode cX9_stuff 15 = .ok (.bipush (-30), 2) := by decide +kernel
theorem dX9_stuff_17 : decode cX9_stuff 17 = .ok (.bipush 30, 2) := by decide +kernel
theorem dX9_stuff_19 : decode cX9_stuff 19 = .ok (.invokestatic 89, 3) := by decide +kernel
theorem dX9_stuff_22 : decode cX9_stuff 22 = .ok (.ifCond .ne 6, 3) := by decide +kernel
theorem dX9_stuff_25 : decode cX9_stuff 25 = .ok (.ldc 93, 2) := by decide +kernel
theorem dX9_stuff_27 : decode cX9_stuff 27 = .ok (.ireturn, 1) := by decide +kernel
theorem dX9_stuff_28 : decode cX9_stuff 28 = .ok (.aload_n 0, 1) := by decide +kernel
theorem dX9_stuff_29 : decode cX9_stuff 29 = .ok (.getfield 38, 3) := by decide +kernel
theorem dX9_stuff_32 : decode cX9_stuff 32 = .ok (.getfield 175, 3) := by decide +kernel
theorem dX9_stuff_35 : decode cX9_stuff 35 = .ok (.iload_n 1, 1) := by decide +kernel
theorem dX9_stuff_36 : decode cX9_stuff 36 = .ok (.iaload, 1) := by decide +kernel
theorem dX9_stuff_37 : decode cX9_stuff 37 = .ok (.iload_n 2, 1) := by decide +kernel
theorem dX9_stuff_38 : decode cX9_stuff 38 = .ok (.iadd, 1) := by decide +kernel
theorem dX9_stuff_39 : decode cX9_stuff 39 = .ok (.iconst 0, 1) := by decide +kernel
theorem dX9_stuff_40 : decode cX9_stuff 40 = .ok (.bipush 30, 2) := by decide +kernel
theorem dX9_stuff_42 : decode cX9_stuff 42 = .ok (.invokestatic 89, 3) := by decide +kernel
theorem dX9_stuff_45 : decode cX9_stuff 45 = .ok (.ifCond .eq 14, 3) := by decide +kernel
theorem dX9_stuff_48 : decode cX9_stuff 48 = .ok (.aload_n 0, 1) := by decide +kernel
theorem dX9_stuff_49 : decode cX9_stuff 49 = .ok (.getfield 38, 3) := by decide +kernel
theorem dX9_stuff_52 : decode cX9_stuff 52 = .ok (.getfield 131, 3) := by decide +kernel
theorem dX9_stuff_55 : decode cX9_stuff 55 = .ok (.iload_n 2, 1) := by decide +kernel
theorem dX9_stuff_56 : decode cX9_stuff 56 = .ok (.if_icmp .ge 6, 3) := by decide +kernel
theorem dX9_stuff_59 : decode cX9_stuff 59 = .ok (.ldc 223, 2) := by decide +kernel
theorem dX9_stuff_61 : decode cX9_stuff 61 = .ok (.ireturn, 1) := by decide +kernel
theorem dX9_stuff_62 : decode cX9_stuff 62 = .ok (.aload_n 0, 1) := by decide +kernel
theorem dX9_stuff_63 : decode cX9_stuff 63 = .ok (.getfield 56, 3) := by decide +kernel
theorem dX9_stuff_66 : decode cX9_stuff 66 = .ok (.aload_n 0, 1) := by decide +kernel
theorem dX9_stuff_67 : decode cX9_stuff 67 = .ok (.getfield 38, 3) := by decide +kernel
theorem dX9_stuff_70 : decode cX9_stuff 70 = .ok (.invokevirtual 214, 3) := by decide +kernel
theorem dX9_stuff_73 : decode cX9_stuff 73 = .ok (.aload_n 0, 1) := by decide +kernel
theorem dX9_stuff_74 : decode cX9_stuff 74 = .ok (.getfield 38, 3) := by decide +kernel
theorem dX9_stuff_77 : decode cX9_stuff 77 = .ok (.getfield 175, 3) := by decide +kernel
theorem dX9_stuff_80 : decode cX9_stuff 80 = .ok (.iload_n 1, 1) := by decide +kernel
theorem dX9_stuff_81 : decode cX9_stuff 81 = .ok (.dup2, 1) := by decide +kernel
theorem dX9_stuff_82 : decode cX9_stuff 82 = .ok (.iaload, 1) := by decide +kernel
theorem dX9_stuff_83 : decode cX9_stuff 83 = .ok (.iload_n 2, 1) := by decide +kernel
theorem dX9_stuff_84 : decode cX9_stuff 84 = .ok (.iadd, 1) := by decide +kernel
theorem dX9_stuff_85 : decode cX9_stuff 85 = .ok (.iastore, 1) := by decide +kernel
theorem dX9_stuff_86 : decode cX9_stuff 86 = .ok (.aload_n 0, 1) := by decide +kernel
theorem dX9_stuff_87 : decode cX9_stuff 87 = .ok (.getfield 38, 3) := by decide +kernel
theorem dX9_stuff_90 : decode cX9_stuff 90 = .ok (.dup, 1) := by decide +kernel
theorem dX9_stuff_91 : decode cX9_stuff 91 = .ok (.getfield 131, 3) := by decide +kernel
theorem dX9_stuff_94 : decode cX9_stuff 94 = .ok (.iload_n 2, 1) := by decide +kernel
theorem dX9_stuff_95 : decode cX9_stuff 95 = .ok (.isub, 1) := by decide +kernel
theorem dX9_stuff_96 : decode cX9_stuff 96 = .ok (.putfield 131, 3) := by decide +kernel
theorem dX9_stuff_99 : decode cX9_stuff 99 = .ok (.aload_n 0, 1) := by decide +kernel
theorem dX9_stuff_100 : decode cX9_stuff 100 = .ok (.getfield 38, 3) := by decide +kernel
theorem dX9_stuff_103 : decode cX9_stuff 103 = .ok (.getfield 175, 3) := by decide +kernel
theorem dX9_stuff_106 : decode cX9_stuff 106 = .ok (.iload_n 1, 1) := by decide +kernel
theorem dX9_stuff_107 : decode cX9_stuff 107 = .ok (.iaload, 1) := by decide +kernel
theorem dX9_stuff_108 : decode cX9_stuff 108 = .ok (.ireturn, 1) := by decide +kernel
theorem dX9_weigh_0 : decode cX9_weigh 0 = .ok (.aload_n 0, 1) := by decide +kernel
theorem dX9_weigh_1 : decode cX9_weigh 1 = .ok (.getfield 33, 3) := by decide +kernel
theorem dX9_weigh_4 : decode cX9_weigh 4 = .ok (.iload_n 1, 1) := by decide +kernel
theorem dX9_weigh_5 : decode cX9_weigh 5 = .ok (.invokevirtual 162, 3) := by decide +kernel
theorem dX9_weigh_8 : decode cX9_weigh 8 = .ok (.ifCond .ne 6, 3) := by decide +kernel
theorem dX9_weigh_11 : decode cX9_weigh 11 = .ok (.ldc 165, 2) := by decide +kernel
theorem dX9_weigh_13 : decode cX9_weigh 13 = .ok (.ireturn, 1) := by decide +kernel
theorem dX9_weigh_14 : decode cX9_weigh 14 = .ok (.iload_n 2, 1) := by decide +kernel
theorem dX9_weigh_15 : decode cX9_weigh 15 = .ok (.iconst 1, 1) := by decide +kernel
theorem dX9_weigh_16 : decode cX9_weigh 16 = .ok (.bipush 60, 2) := by decide +kernel
theorem dX9_weigh_18 : decode cX9_weigh 18 = .ok (.invokestatic 89, 3) := by decide +kernel
theorem dX9_weigh_21 : decode cX9_weigh 21 = .ok (.ifCond .ne 6, 3) := by decide +kernel
theorem dX9_weigh_24 : decode cX9_weigh 24 = .ok (.ldc 93, 2) := by decide +kernel
theorem dX9_weigh_26 : decode cX9_weigh 26 = .ok (.ireturn, 1) := by decide +kernel
theorem dX9_weigh_27 : decode cX9_weigh 27 = .ok (.aload_n 0, 1) := by decide +kernel
theorem dX9_weigh_28 : decode cX9_weigh 28 = .ok (.getfield 56, 3) := by decide +kernel
theorem dX9_weigh_31 : decode cX9_weigh 31 = .ok (.aload_n 0, 1) := by decide +kernel
theorem dX9_weigh_32 : decode cX9_weigh 32 = .ok (.getfield 38, 3) := by decide +kernel
theorem dX9_weigh_35 : decode cX9_weigh 35 = .ok (.invokevirtual 214, 3) := by decide +kernel
theorem dX9_weigh_38 : decode cX9_weigh 38 = .ok (.aload_n 0, 1) := by decide +kernel
theorem dX9_weigh_39 : decode cX9_weigh 39 = .ok (.getfield 38, 3) := by decide +kernel
theorem dX9_weigh_42 : decode cX9_weigh 42 = .ok (.getfield 169, 3) := by decide +kernel
theorem dX9_weigh_45 : decode cX9_weigh 45 = .ok (.iload_n 1, 1) := by decide +kernel
theorem dX9_weigh_46 : decode cX9_weigh 46 = .ok (.iaload, 1) := by decide +kernel
theorem dX9_weigh_47 : decode cX9_weigh 47 = .ok (.istore_n 3, 1) := by decide +kernel
theorem dX9_weigh_48 : decode cX9_weigh 48 = .ok (.aload_n 0, 1) := by decide +kernel
theorem dX9_weigh_49 : decode cX9_weigh 49 = .ok (.getfield 38, 3) := by decide +kernel
theorem dX9_weigh_52 : decode cX9_weigh 52 = .ok (.getfield 169, 3) := by decide +kernel
theorem dX9_weigh_55 : decode cX9_weigh 55 = .ok (.iload_n 1, 1) := by decide +kernel
theorem dX9_weigh_56 : decode cX9_weigh 56 = .ok (.iload_n 2, 1) := by decide +kernel
theorem dX9_weigh_57 : decode cX9_weigh 57 = .ok (.iastore, 1) := by decide +kernel
theorem dX9_weigh_58 : decode cX9_weigh 58 = .ok (.iload_n 3, 1) := by decide +kernel
theorem dX9_weigh_59 : decode cX9_weigh 59 = .ok (.ireturn, 1) := by decide +kernel
theorem dX9_drift_0 : decode cX9_drift 0 = .ok (.aload_n 0, 1) := by decide +kernel
theorem dX9_drift_1 : decode cX9_drift 1 = .ok (.iload_n 1, 1) := by decide +kernel
theorem dX9_drift_2 : decode cX9_drift 2 = .ok (.invokevirtual 211, 3) := by decide +kernel
theorem dX9_drift_5 : decode cX9_drift 5 = .ok (.istore_n 2, 1) := by decide +kernel
theorem dX9_drift_6 : decode cX9_drift 6 = .ok (.iload_n 2, 1) := by decide +kernel
theorem dX9_drift_7 : decode cX9_drift 7 = .ok (.ifCond .eq 5, 3) := by decide +kernel
theorem dX9_drift_10 : decode cX9_drift 10 = .ok (.iload_n 2, 1) := by decide +kernel
theorem dX9_drift_11 : decode cX9_drift 11 = .ok (.ireturn, 1) := by decide +kernel
theorem dX9_drift_12 : decode cX9_drift 12 = .ok (.aload_n 0, 1) := by decide +kernel
theorem dX9_drift_13 : decode cX9_drift 13 = .ok (.getfield 56, 3) := by decide +kernel
theorem dX9_drift_16 : decode cX9_drift 16 = .ok (.aload_n 0, 1) := by decide +kernel
theorem dX9_drift_17 : decode cX9_drift 17 = .ok (.getfield 38, 3) := by decide +kernel
theorem dX9_drift_20 : decode cX9_drift 20 = .ok (.invokevirtual 214, 3) := by decide +kernel
theorem dX9_drift_23 : decode cX9_drift 23 = .ok (.iconst 0, 1) := by decide +kernel
theorem dX9_drift_24 : decode cX9_drift 24 = .ok (.istore_n 3, 1) := by decide +kernel
theorem dX9_drift_25 : decode cX9_drift 25 = .ok (.iload_n 3, 1) := by decide +kernel
theorem dX9_drift_26 : decode cX9_drift 26 = .ok (.iload_n 1, 1) := by decide +kernel
theorem dX9_drift_27 : decode cX9_drift 27 = .ok (.if_icmp .ge 20, 3) := by decide +kernel
theorem dX9_drift_30 : decode cX9_drift 30 = .ok (.aload_n 0, 1) := by decide +kernel
theorem dX9_drift_31 : decode cX9_drift 31 = .ok (.invokevirtual 248, 3) := by decide +kernel
theorem dX9_drift_34 : decode cX9_drift 34 = .ok (.aload_n 0, 1) := by decide +kernel
theorem dX9_drift_35 : decode cX9_drift 35 = .ok (.getfield 26, 3) := by decide +kernel
theorem dX9_drift_38 : decode cX9_drift 38 = .ok (.invokevirtual 217, 3) := by decide +kernel
theorem dX9_drift_41 : decode cX9_drift 41 = .ok (.iinc 3 1, 3) := by decide +kernel
theorem dX9_drift_44 : decode cX9_drift 44 = .ok (.goto (-19), 3) := by decide +kernel
theorem dX9_drift_47 : decode cX9_drift 47 = .ok (.aload_n 0, 1) := by decide +kernel
theorem dX9_drift_48 : decode cX9_drift 48 = .ok (.getfield 26, 3) := by decide +kernel
theorem dX9_drift_51 : decode cX9_drift 51 = .ok (.invokevirtual 134, 3) := by decide +kernel
theorem dX9_drift_54 : decode cX9_drift 54 = .ok (.ireturn, 1) := by decide +kernel
theorem dX9_undo_0 : decode cX9_undo 0 = .ok (.aload_n 0, 1) := by decide +kernel
theorem dX9_undo_1 : decode cX9_undo 1 = .ok (.getfield 56, 3) := by decide +kernel
theorem dX9_undo_4 : decode cX9_undo 4 = .ok (.aload_n 0, 1) := by decide +kernel
theorem dX9_undo_5 : decode cX9_undo 5 = .ok (.getfield 38, 3) := by decide +kernel
theorem dX9_undo_8 : decode cX9_undo 8 = .ok (.invokevirtual 251, 3) := by decide +kernel
theorem dX9_undo_11 : decode cX9_undo 11 = .ok (.ifCond .eq 13, 3) := by decide +kernel
theorem dX9_undo_14 : decode cX9_undo 14 = .ok (.aload_n 0, 1) := by decide +kernel
theorem dX9_undo_15 : decode cX9_undo 15 = .ok (.getfield 56, 3) := by decide +kernel
theorem dX9_undo_18 : decode cX9_undo 18 = .ok (.getfield 158, 3) := by decide +kernel
theorem dX9_undo_21 : decode cX9_undo 21 = .ok (.goto 5, 3) := by decide +kernel
theorem dX9_undo_24 : decode cX9_undo 24 = .ok (.ldc 223, 2) := by decide +kernel
theorem dX9_undo_26 : decode cX9_undo 26 = .ok (.ireturn, 1) := by decide +kernel
theorem dX9_sore_0 : decode cX9_sore 0 = .ok (.aload_n 0, 1) := by decide +kernel
theorem dX9_sore_1 : decode cX9_sore 1 = .ok (.getfield 33, 3) := by decide +kernel
theorem dX9_sore_4 : decode cX9_sore 4 = .ok (.iload_n 1, 1) := by decide +kernel
theorem dX9_sore_5 : decode cX9_sore 5 = .ok (.invokevirtual 184, 3) := by decide +kernel
theorem dX9_sore_8 : decode cX9_sore 8 = .ok (.ifCond .ne 6, 3) := by decide +kernel
theorem dX9_sore_11 : decode cX9_sore 11 = .ok (.ldc 165, 2) := by decide +kernel
theorem dX9_sore_13 : decode cX9_sore 13 = .ok (.ireturn, 1) := by decide +kernel
theorem dX9_sore_14 : decode cX9_sore 14 = .ok (.iload_n 2, 1) := by decide +kernel
theorem dX9_sore_15 : decode cX9_sore 15 = .ok (.iconst 0, 1) := by decide +kernel
theorem dX9_sore_16 : decode cX9_sore 16 = .ok (.sipush 200, 3) := by decide +kernel
theorem dX9_sore_19 : decode cX9_sore 19 = .ok (.invokestatic 89, 3) := by decide +kernel
theorem dX9_sore_22 : decode cX9_sore 22 = .ok (.ifCond .ne 6, 3) := by decide +kernel
theorem dX9_sore_25 : decode cX9_sore 25 = .ok (.ldc 93, 2) := by decide +kernel
theorem dX9_sore_27 : decode cX9_sore 27 = .ok (.ireturn, 1) := by decide +kernel
theorem dX9_sore_28 : decode cX9_sore 28 = .ok (.aload_n 0, 1) := by decide +kernel
theorem dX9_sore_29 : decode cX9_sore 29 = .ok (.getfield 26, 3) := by decide +kernel
theorem dX9_sore_32 : decode cX9_sore 32 = .ok (.iload_n 1, 1) := by decide +kernel
theorem dX9_sore_33 : decode cX9_sore 33 = .ok (.iload_n 2, 1) := by decide +kernel
theorem dX9_sore_34 : decode cX9_sore 34 = .ok (.invokevirtual 255, 3) := by decide +kernel
theorem dX9_sore_37 : decode cX9_sore 37 = .ok (.ireturn, 1) := by decide +kernel
theorem dX9_when_0 : decode cX9_when 0 = .ok (.aload_n 0, 1) := by decide +kernel
theorem dX9_when_1 : decode cX9_when 1 = .ok (.getfield 33, 3) := by decide +kernel
theorem dX9_when_4 : decode cX9_when 4 = .ok (.iload_n 1, 1) := by decide +kernel
theorem dX9_when_5 : decode cX9_when 5 = .ok (.invokevirtual 184, 3) := by decide +kernel
theorem dX9_when_8 : decode cX9_when 8 = .ok (.ifCond .ne 6, 3) := by decide +kernel
theorem dX9_when_11 : decode cX9_when 11 = .ok (.ldc 165, 2) := by decide +kernel
theorem dX9_when_13 : decode cX9_when 13 = .ok (.ireturn, 1) := by decide +kernel
theorem dX9_when_14 : decode cX9_when 14 = .ok (.aload_n 0, 1) := by decide +kernel
theorem dX9_when_15 : decode cX9_when 15 = .ok (.getfield 26, 3) := by decide +kernel
theorem dX9_when_18 : decode cX9_when 18 = .ok (.iload_n 1, 1) := by decide +kernel
theorem dX9_when_19 : decode cX9_when 19 = .ok (.invokevirtual 259, 3) := by decide +kernel
theorem dX9_when_22 : decode cX9_when 22 = .ok (.ireturn, 1) := by decide +kernel
theorem dX9_worst_0 : decode cX9_worst 0 = .ok (.iload_n 1, 1) := by decide +kernel
theorem dX9_worst_1 : decode cX9_worst 1 = .ok (.iconst 1, 1) := by decide +kernel
theorem dX9_worst_2 : decode cX9_worst 2 = .ok (.bipush 60, 2) := by decide +kernel
theorem dX9_worst_4 : decode cX9_worst 4 = .ok (.invokestatic 89, 3) := by decide +kernel
theorem dX9_worst_7 : decode cX9_worst 7 = .ok (.ifCond .eq 12, 3) := by decide +kernel
theorem dX9_worst_10 : decode cX9_worst 10 = .ok (.iload_n 2, 1) := by decide +kernel
theorem dX9_worst_11 : decode cX9_worst 11 = .ok (.iconst 0, 1) := by decide +kernel
theorem dX9_worst_12 : decode cX9_worst 12 = .ok (.iconst 1, 1) := by decide +kernel
theorem dX9_worst_13 : decode cX9_worst 13 = .ok (.invokestatic 89, 3) := by decide +kernel
theorem dX9_worst_16 : decode cX9_worst 16 = .ok (.ifCond .ne 6, 3) := by decide +kernel
theorem dX9_worst_19 : decode cX9_worst 19 = .ok (.ldc 93, 2) := by decide +kernel
theorem dX9_worst_21 : decode cX9_worst 21 = .ok (.ireturn, 1) := by decide +kernel
theorem dX9_worst_22 : decode cX9_worst 22 = .ok (.aload_n 0, 1) := by decide +kernel
theorem dX9_worst_23 : decode cX9_worst 23 = .ok (.getfield 33, 3) := by decide +kernel
theorem dX9_worst_26 : decode cX9_worst 26 = .ok (.getfield 262, 3) := by decide +kernel
theorem dX9_worst_29 : decode cX9_worst 29 = .ok (.ifCond .ne 6, 3) := by decide +kernel
theorem dX9_worst_32 : decode cX9_worst 32 = .ok (.ldc 223, 2) := by decide +kernel
theorem dX9_worst_34 : decode cX9_worst 34 = .ok (.ireturn, 1) := by decide +kernel
theorem dX9_worst_35 : decode cX9_worst 35 = .ok (.aload_n 0, 1) := by decide +kernel
theorem dX9_worst_36 : decode cX9_worst 36 = .ok (.getfield 26, 3) := by decide +kernel
theorem dX9_worst_39 : decode cX9_worst 39 = .ok (.iload_n 1, 1) := by decide +kernel
theorem dX9_worst_40 : decode cX9_worst 40 = .ok (.invokevirtual 266, 3) := by decide +kernel
theorem dX9_worst_43 : decode cX9_worst 43 = .ok (.istore_n 3, 1) := by decide +kernel
theorem dX9_worst_44 : decode cX9_worst 44 = .ok (.iload_n 2, 1) := by decide +kernel
theorem dX9_worst_45 : decode cX9_worst 45 = .ok (.ifCond .ne 7, 3) := by decide +kernel
theorem dX9_worst_48 : decode cX9_worst 48 = .ok (.iload_n 3, 1) := by decide +kernel
theorem dX9_worst_49 : decode cX9_worst 49 = .ok (.goto 19, 3) := by decide +kernel
theorem dX9_worst_52 : decode cX9_worst 52 = .ok (.aload_n 0, 1) := by decide +kernel
theorem dX9_worst_53 : decode cX9_worst 53 = .ok (.getfield 26, 3) := by decide +kernel
theorem dX9_worst_56 : decode cX9_worst 56 = .ok (.aload_n 0, 1) := by decide +kernel
theorem dX9_worst_57 : decode cX9_worst 57 = .ok (.getfield 38, 3) := by decide +kernel
theorem dX9_worst_60 : decode cX9_worst 60 = .ok (.getfield 128, 3) := by decide +kernel
theorem dX9_worst_63 : decode cX9_worst 63 = .ok (.iload_n 3, 1) := by decide +kernel
theorem dX9_worst_64 : decode cX9_worst 64 = .ok (.iadd, 1) := by decide +kernel
theorem dX9_worst_65 : decode cX9_worst 65 = .ok (.invokevirtual 138, 3) := by decide +kernel
theorem dX9_worst_68 : decode cX9_worst 68 = .ok (.ireturn, 1) := by decide +kernel
theorem dX9_fit_0 : decode cX9_fit 0 = .ok (.iload_n 1, 1) := by decide +kernel
theorem dX9_fit_1 : decode cX9_fit 1 = .ok (.iconst (-1), 1) := by decide +kernel
theorem dX9_fit_2 : decode cX9_fit 2 = .ok (.if_icmp .eq 17, 3) := by decide +kernel
theorem dX9_fit_5 : decode cX9_fit 5 = .ok (.aload_n 0, 1) := by decide +kernel
theorem dX9_fit_6 : decode cX9_fit 6 = .ok (.getfield 33, 3) := by decide +kernel
theorem dX9_fit_9 : decode cX9_fit 9 = .ok (.iload_n 1, 1) := by decide +kernel
theorem dX9_fit_10 : decode cX9_fit 10 = .ok (.invokevirtual 162, 3) := by decide +kernel
theorem dX9_fit_13 : decode cX9_fit 13 = .ok (.ifCond .ne 6, 3) := by decide +kernel
theorem dX9_fit_16 : decode cX9_fit 16 = .ok (.ldc 165, 2) := by decide +kernel
theorem dX9_fit_18 : decode cX9_fit 18 = .ok (.ireturn, 1) := by decide +kernel
theorem dX9_fit_19 : decode cX9_fit 19 = .ok (.aload_n 0, 1) := by decide +kernel
theorem dX9_fit_20 : decode cX9_fit 20 = .ok (.getfield 33, 3) := by decide +kernel
theorem dX9_fit_23 : decode cX9_fit 23 = .ok (.getfield 125, 3) := by decide +kernel
theorem dX9_fit_26 : decode cX9_fit 26 = .ok (.iconst 1, 1) := by decide +kernel
theorem dX9_fit_27 : decode cX9_fit 27 = .ok (.if_icmp .ge 5, 3) := by decide +kernel
theorem dX9_fit_30 : decode cX9_fit 30 = .ok (.iconst (-1), 1) := by decide +kernel
theorem dX9_fit_31 : decode cX9_fit 31 = .ok (.ireturn, 1) := by decide +kernel
theorem dX9_fit_32 : decode cX9_fit 32 = .ok (.aload_n 0, 1) := by decide +kernel
theorem dX9_fit_33 : decode cX9_fit 33 = .ok (.getfield 42, 3) := by decide +kernel
theorem dX9_fit_36 : decode cX9_fit 36 = .ok (.aload_n 0, 1) := by decide +kernel
theorem dX9_fit_37 : decode cX9_fit 37 = .ok (.getfield 26, 3) := by decide +kernel
theorem dX9_fit_40 : decode cX9_fit 40 = .ok (.invokevirtual 269, 3) := by decide +kernel
theorem dX9_fit_43 : decode cX9_fit 43 = .ok (.iload_n 1, 1) := by decide +kernel
theorem dX9_fit_44 : decode cX9_fit 44 = .ok (.iconst (-1), 1) := by decide +kernel
theorem dX9_fit_45 : decode cX9_fit 45 = .ok (.if_icmp .ne 13, 3) := by decide +kernel
theorem dX9_fit_48 : decode cX9_fit 48 = .ok (.aload_n 0, 1) := by decide +kernel
theorem dX9_fit_49 : decode cX9_fit 49 = .ok (.getfield 42, 3) := by decide +kernel
theorem dX9_fit_52 : decode cX9_fit 52 = .ok (.getfield 273, 3) := by decide +kernel
theorem dX9_fit_55 : decode cX9_fit 55 = .ok (.goto 12, 3) := by decide +kernel
theorem dX9_fit_58 : decode cX9_fit 58 = .ok (.aload_n 0, 1) := by decide +kernel
theorem dX9_fit_59 : decode cX9_fit 59 = .ok (.getfield 42, 3) := by decide +kernel
theorem dX9_fit_62 : decode cX9_fit 62 = .ok (.getfield 276, 3) := by decide +kernel
theorem dX9_fit_65 : decode cX9_fit 65 = .ok (.iload_n 1, 1) := by decide +kernel
theorem dX9_fit_66 : decode cX9_fit 66 = .ok (.iaload, 1) := by decide +kernel
theorem dX9_fit_67 : decode cX9_fit 67 = .ok (.ireturn, 1) := by decide +kernel
theorem dX9_byTwo_0 : decode cX9_byTwo 0 = .ok (.aload_n 0, 1) := by decide +kernel
theorem dX9_byTwo_1 : decode cX9_byTwo 1 = .ok (.getfield 33, 3) := by decide +kernel
theorem dX9_byTwo_4 : decode cX9_byTwo 4 = .ok (.iload_n 1, 1) := by decide +kernel
theorem dX9_byTwo_5 : decode cX9_byTwo 5 = .ok (.invokevirtual 162, 3) := by decide +kernel
theorem dX9_byTwo_8 : decode cX9_byTwo 8 = .ok (.ifCond .ne 6, 3) := by decide +kernel
theorem dX9_byTwo_11 : decode cX9_byTwo 11 = .ok (.ldc 165, 2) := by decide +kernel
theorem dX9_byTwo_13 : decode cX9_byTwo 13 = .ok (.ireturn, 1) := by decide +kernel
theorem dX9_byTwo_14 : decode cX9_byTwo 14 = .ok (.iload_n 2, 1) := by decide +kernel
theorem dX9_byTwo_15 : decode cX9_byTwo 15 = .ok (.iconst 0, 1) := by decide +kernel
theorem dX9_byTwo_16 : decode cX9_byTwo 16 = .ok (.iconst 1, 1) := by decide +kernel
theorem dX9_byTwo_17 : decode cX9_byTwo 17 = .ok (.invokestatic 89, 3) := by decide +kernel
theorem dX9_byTwo_20 : decode cX9_byTwo 20 = .ok (.ifCond .ne 6, 3) := by decide +kernel
theorem dX9_byTwo_23 : decode cX9_byTwo 23 = .ok (.ldc 93, 2) := by decide +kernel
theorem dX9_byTwo_25 : decode cX9_byTwo 25 = .ok (.ireturn, 1) := by decide +kernel
theorem dX9_byTwo_26 : decode cX9_byTwo 26 = .ok (.aload_n 0, 1) := by decide +kernel
theorem dX9_byTwo_27 : decode cX9_byTwo 27 = .ok (.getfield 33, 3) := by decide +kernel
theorem dX9_byTwo_30 : decode cX9_byTwo 30 = .ok (.getfield 125, 3) := by decide +kernel
theorem dX9_byTwo_33 : decode cX9_byTwo 33 = .ok (.iconst 2, 1) := by decide +kernel
theorem dX9_byTwo_34 : decode cX9_byTwo 34 = .ok (.if_icmp .ge 5, 3) := by decide +kernel
theorem dX9_byTwo_37 : decode cX9_byTwo 37 = .ok (.iconst (-1), 1) := by decide +kernel
theorem dX9_byTwo_38 : decode cX9_byTwo 38 = .ok (.ireturn, 1) := by decide +kernel
theorem dX9_byTwo_39 : decode cX9_byTwo 39 = .ok (.aload_n 0, 1) := by decide +kernel
theorem dX9_byTwo_40 : decode cX9_byTwo 40 = .ok (.getfield 42, 3) := by decide +kernel
theorem dX9_byTwo_43 : decode cX9_byTwo 43 = .ok (.aload_n 0, 1) := by decide +kernel
theorem dX9_byTwo_44 : decode cX9_byTwo 44 = .ok (.getfield 26, 3) := by decide +kernel
theorem dX9_byTwo_47 : decode cX9_byTwo 47 = .ok (.iload_n 1, 1) := by decide +kernel
theorem dX9_byTwo_48 : decode cX9_byTwo 48 = .ok (.invokevirtual 279, 3) := by decide +kernel
theorem dX9_byTwo_51 : decode cX9_byTwo 51 = .ok (.iload_n 2, 1) := by decide +kernel
theorem dX9_byTwo_52 : decode cX9_byTwo 52 = .ok (.ifCond .ne 13, 3) := by decide +kernel
theorem dX9_byTwo_55 : decode cX9_byTwo 55 = .ok (.aload_n 0, 1) := by decide +kernel
theorem dX9_byTwo_56 : decode cX9_byTwo 56 = .ok (.getfield 42, 3) := by decide +kernel
theorem dX9_byTwo_59 : decode cX9_byTwo 59 = .ok (.getfield 273, 3) := by decide +kernel
theorem dX9_byTwo_62 : decode cX9_byTwo 62 = .ok (.goto 10, 3) := by decide +kernel
theorem dX9_byTwo_65 : decode cX9_byTwo 65 = .ok (.aload_n 0, 1) := by decide +kernel
theorem dX9_byTwo_66 : decode cX9_byTwo 66 = .ok (.getfield 42, 3) := by decide +kernel
theorem dX9_byTwo_69 : decode cX9_byTwo 69 = .ok (.getfield 283, 3) := by decide +kernel
theorem dX9_byTwo_72 : decode cX9_byTwo 72 = .ok (.ireturn, 1) := by decide +kernel
theorem dX9_order_0 : decode cX9_order 0 = .ok (.aload_n 0, 1) := by decide +kernel
theorem dX9_order_1 : decode cX9_order 1 = .ok (.getfield 33, 3) := by decide +kernel
theorem dX9_order_4 : decode cX9_order 4 = .ok (.iload_n 1, 1) := by decide +kernel
theorem dX9_order_5 : decode cX9_order 5 = .ok (.invokevirtual 184, 3) := by decide +kernel
theorem dX9_order_8 : decode cX9_order 8 = .ok (.ifCond .ne 6, 3) := by decide +kernel
theorem dX9_order_11 : decode cX9_order 11 = .ok (.ldc 165, 2) := by decide +kernel
theorem dX9_order_13 : decode cX9_order 13 = .ok (.ireturn, 1) := by decide +kernel
theorem dX9_order_14 : decode cX9_order 14 = .ok (.iload_n 2, 1) := by decide +kernel
theorem dX9_order_15 : decode cX9_order 15 = .ok (.iconst 0, 1) := by decide +kernel
theorem dX9_order_16 : decode cX9_order 16 = .ok (.iconst 1, 1) := by decide +kernel
theorem dX9_order_17 : decode cX9_order 17 = .ok (.invokestatic 89, 3) := by decide +kernel
theorem dX9_order_20 : decode cX9_order 20 = .ok (.ifCond .ne 6, 3) := by decide +kernel
theorem dX9_order_23 : decode cX9_order 23 = .ok (.ldc 93, 2) := by decide +kernel
theorem dX9_order_25 : decode cX9_order 25 = .ok (.ireturn, 1) := by decide +kernel
theorem dX9_order_26 : decode cX9_order 26 = .ok (.aload_n 0, 1) := by decide +kernel
theorem dX9_order_27 : decode cX9_order 27 = .ok (.getfield 49, 3) := by decide +kernel
theorem dX9_order_30 : decode cX9_order 30 = .ok (.aload_n 0, 1) := by decide +kernel
theorem dX9_order_31 : decode cX9_order 31 = .ok (.getfield 26, 3) := by decide +kernel
theorem dX9_order_34 : decode cX9_order 34 = .ok (.iload_n 1, 1) := by decide +kernel
theorem dX9_order_35 : decode cX9_order 35 = .ok (.invokevirtual 286, 3) := by decide +kernel
theorem dX9_order_38 : decode cX9_order 38 = .ok (.iload_n 2, 1) := by decide +kernel
theorem dX9_order_39 : decode cX9_order 39 = .ok (.ifCond .ne 13, 3) := by decide +kernel
theorem dX9_order_42 : decode cX9_order 42 = .ok (.aload_n 0, 1) := by decide +kernel
theorem dX9_order_43 : decode cX9_order 43 = .ok (.getfield 49, 3) := by decide +kernel
theorem dX9_order_46 : decode cX9_order 46 = .ok (.getfield 289, 3) := by decide +kernel
theorem dX9_order_49 : decode cX9_order 49 = .ok (.goto 10, 3) := by decide +kernel
theorem dX9_order_52 : decode cX9_order 52 = .ok (.aload_n 0, 1) := by decide +kernel
theorem dX9_order_53 : decode cX9_order 53 = .ok (.getfield 49, 3) := by decide +kernel
theorem dX9_order_56 : decode cX9_order 56 = .ok (.getfield 292, 3) := by decide +kernel
theorem dX9_order_59 : decode cX9_order 59 = .ok (.ireturn, 1) := by decide +kernel
theorem dX9_could_0 : decode cX9_could 0 = .ok (.aload_n 0, 1) := by decide +kernel
theorem dX9_could_1 : decode cX9_could 1 = .ok (.getfield 33, 3) := by decide +kernel
theorem dX9_could_4 : decode cX9_could 4 = .ok (.iload_n 1, 1) := by decide +kernel
theorem dX9_could_5 : decode cX9_could 5 = .ok (.invokevirtual 162, 3) := by decide +kernel
theorem dX9_could_8 : decode cX9_could 8 = .ok (.ifCond .ne 6, 3) := by decide +kernel
theorem dX9_could_11 : decode cX9_could 11 = .ok (.ldc 165, 2) := by decide +kernel
theorem dX9_could_13 : decode cX9_could 13 = .ok (.ireturn, 1) := by decide +kernel
theorem dX9_could_14 : decode cX9_could 14 = .ok (.aload_n 0, 1) := by decide +kernel
theorem dX9_could_15 : decode cX9_could 15 = .ok (.getfield 38, 3) := by decide +kernel
theorem dX9_could_18 : decode cX9_could 18 = .ok (.iload_n 1, 1) := by decide +kernel
theorem dX9_could_19 : decode cX9_could 19 = .ok (.invokevirtual 220, 3) := by decide +kernel
theorem dX9_could_22 : decode cX9_could 22 = .ok (.ifCond .eq 6, 3) := by decide +kernel
theorem dX9_could_25 : decode cX9_could 25 = .ok (.ldc 223, 2) := by decide +kernel
theorem dX9_could_27 : decode cX9_could 27 = .ok (.ireturn, 1) := by decide +kernel
theorem dX9_could_28 : decode cX9_could 28 = .ok (.aload_n 0, 1) := by decide +kernel
theorem dX9_could_29 : decode cX9_could 29 = .ok (.getfield 26, 3) := by decide +kernel
theorem dX9_could_32 : decode cX9_could 32 = .ok (.iload_n 1, 1) := by decide +kernel
theorem dX9_could_33 : decode cX9_could 33 = .ok (.invokevirtual 295, 3) := by decide +kernel
theorem dX9_could_36 : decode cX9_could 36 = .ok (.ireturn, 1) := by decide +kernel
theorem dX9_shareOf_0 : decode cX9_shareOf 0 = .ok (.aload_n 0, 1) := by decide +kernel
theorem dX9_shareOf_1 : decode cX9_shareOf 1 = .ok (.getfield 33, 3) := by decide +kernel
theorem dX9_shareOf_4 : decode cX9_shareOf 4 = .ok (.iload_n 1, 1) := by decide +kernel
theorem dX9_shareOf_5 : decode cX9_shareOf 5 = .ok (.invokevirtual 162, 3) := by decide +kernel
theorem dX9_shareOf_8 : decode cX9_shareOf 8 = .ok (.ifCond .eq 15, 3) := by decide +kernel
theorem dX9_shareOf_11 : decode cX9_shareOf 11 = .ok (.aload_n 0, 1) := by decide +kernel
theorem dX9_shareOf_12 : decode cX9_shareOf 12 = .ok (.getfield 33, 3) := by decide +kernel
theorem dX9_shareOf_15 : decode cX9_shareOf 15 = .ok (.iload_n 2, 1) := by decide +kernel
theorem dX9_shareOf_16 : decode cX9_shareOf 16 = .ok (.iload_n 3, 1) := by decide +kernel
theorem dX9_shareOf_17 : decode cX9_shareOf 17 = .ok (.invokevirtual 241, 3) := by decide +kernel
theorem dX9_shareOf_20 : decode cX9_shareOf 20 = .ok (.ifCond .ne 6, 3) := by decide +kernel
theorem dX9_shareOf_23 : decode cX9_shareOf 23 = .ok (.ldc 165, 2) := by decide +kernel
theorem dX9_shareOf_25 : decode cX9_shareOf 25 = .ok (.ireturn, 1) := by decide +kernel
theorem dX9_shareOf_26 : decode cX9_shareOf 26 = .ok (.aload_n 0, 1) := by decide +kernel
theorem dX9_shareOf_27 : decode cX9_shareOf 27 = .ok (.getfield 33, 3) := by decide +kernel
theorem dX9_shareOf_30 : decode cX9_shareOf 30 = .ok (.getfield 187, 3) := by decide +kernel
theorem dX9_shareOf_33 : decode cX9_shareOf 33 = .ok (.iload_n 2, 1) := by decide +kernel
theorem dX9_shareOf_34 : decode cX9_shareOf 34 = .ok (.iaload, 1) := by decide +kernel
theorem dX9_shareOf_35 : decode cX9_shareOf 35 = .ok (.aload_n 0, 1) := by decide +kernel
theorem dX9_shareOf_36 : decode cX9_shareOf 36 = .ok (.getfield 33, 3) := by decide +kernel
theorem dX9_shareOf_39 : decode cX9_shareOf 39 = .ok (.getfield 187, 3) := by decide +kernel
theorem dX9_shareOf_42 : decode cX9_shareOf 42 = .ok (.iload_n 3, 1) := by decide +kernel
theorem dX9_shareOf_43 : decode cX9_shareOf 43 = .ok (.iaload, 1) := by decide +kernel
theorem dX9_shareOf_44 : decode cX9_shareOf 44 = .ok (.iadd, 1) := by decide +kernel
theorem dX9_shareOf_45 : decode cX9_shareOf 45 = .ok (.istore 4, 2) := by decide +kernel
theorem dX9_shareOf_47 : decode cX9_shareOf 47 = .ok (.iload 4, 2) := by decide +kernel
theorem dX9_shareOf_49 : decode cX9_shareOf 49 = .ok (.iconst 1, 1) := by decide +kernel
theorem dX9_shareOf_50 : decode cX9_shareOf 50 = .ok (.if_icmp .ge 6, 3) := by decide +kernel
theorem dX9_shareOf_53 : decode cX9_shareOf 53 = .ok (.ldc 165, 2) := by decide +kernel
theorem dX9_shareOf_55 : decode cX9_shareOf 55 = .ok (.ireturn, 1) := by decide +kernel
theorem dX9_shareOf_56 : decode cX9_shareOf 56 = .ok (.aload_n 0, 1) := by decide +kernel
theorem dX9_shareOf_57 : decode cX9_shareOf 57 = .ok (.getfield 38, 3) := by decide +kernel
theorem dX9_shareOf_60 : decode cX9_shareOf 60 = .ok (.getfield 169, 3) := by decide +kernel
theorem dX9_shareOf_63 : decode cX9_shareOf 63 = .ok (.iload_n 1, 1) := by decide +kernel
theorem dX9_shareOf_64 : decode cX9_shareOf 64 = .ok (.iaload, 1) := by decide +kernel
theorem dX9_shareOf_65 : decode cX9_shareOf 65 = .ok (.aload_n 0, 1) := by decide +kernel
theorem dX9_shareOf_66 : decode cX9_shareOf 66 = .ok (.getfield 38, 3) := by decide +kernel
theorem dX9_shareOf_69 : decode cX9_shareOf 69 = .ok (.getfield 169, 3) := by decide +kernel
theorem dX9_shareOf_72 : decode cX9_shareOf 72 = .ok (.iload_n 1, 1) := by decide +kernel
theorem dX9_shareOf_73 : decode cX9_shareOf 73 = .ok (.iaload, 1) := by decide +kernel
theorem dX9_shareOf_74 : decode cX9_shareOf 74 = .ok (.aload_n 0, 1) := by decide +kernel
theorem dX9_shareOf_75 : decode cX9_shareOf 75 = .ok (.getfield 33, 3) := by decide +kernel
theorem dX9_shareOf_78 : decode cX9_shareOf 78 = .ok (.getfield 187, 3) := by decide +kernel
theorem dX9_shareOf_81 : decode cX9_shareOf 81 = .ok (.iload_n 3, 1) := by decide +kernel
theorem dX9_shareOf_82 : decode cX9_shareOf 82 = .ok (.iaload, 1) := by decide +kernel
theorem dX9_shareOf_83 : decode cX9_shareOf 83 = .ok (.imul, 1) := by decide +kernel
theorem dX9_shareOf_84 : decode cX9_shareOf 84 = .ok (.iload 4, 2) := by decide +kernel
theorem dX9_shareOf_86 : decode cX9_shareOf 86 = .ok (.idiv, 1) := by decide +kernel
theorem dX9_shareOf_87 : decode cX9_shareOf 87 = .ok (.isub, 1) := by decide +kernel
theorem dX9_shareOf_88 : decode cX9_shareOf 88 = .ok (.ireturn, 1) := by decide +kernel
theorem dX9_fair_0 : decode cX9_fair 0 = .ok (.iload_n 1, 1) := by decide +kernel
theorem dX9_fair_1 : decode cX9_fair 1 = .ok (.iconst 0, 1) := by decide +kernel
theorem dX9_fair_2 : decode cX9_fair 2 = .ok (.bipush 60, 2) := by decide +kernel
theorem dX9_fair_4 : decode cX9_fair 4 = .ok (.invokestatic 89, 3) := by decide +kernel
theorem dX9_fair_7 : decode cX9_fair 7 = .ok (.ifCond .eq 13, 3) := by decide +kernel
theorem dX9_fair_10 : decode cX9_fair 10 = .ok (.iload_n 2, 1) := by decide +kernel
theorem dX9_fair_11 : decode cX9_fair 11 = .ok (.iconst 0, 1) := by decide +kernel
theorem dX9_fair_12 : decode cX9_fair 12 = .ok (.bipush 100, 2) := by decide +kernel
theorem dX9_fair_14 : decode cX9_fair 14 = .ok (.invokestatic 89, 3) := by decide +kernel
theorem dX9_fair_17 : decode cX9_fair 17 = .ok (.ifCond .ne 6, 3) := by decide +kernel
theorem dX9_fair_20 : decode cX9_fair 20 = .ok (.ldc 93, 2) := by decide +kernel
theorem dX9_fair_22 : decode cX9_fair 22 = .ok (.ireturn, 1) := by decide +kernel
theorem dX9_fair_23 : decode cX9_fair 23 = .ok (.ldc2_w 298, 3) := by decide +kernel
theorem dX9_fair_26 : decode cX9_fair 26 = .ok (.lstore_n 3, 1) := by decide +kernel
theorem dX9_fair_27 : decode cX9_fair 27 = .ok (.iconst 0, 1) := by decide +kernel
theorem dX9_fair_28 : decode cX9_fair 28 = .ok (.istore 5, 2) := by decide +kernel
theorem dX9_fair_30 : decode cX9_fair 30 = .ok (.iload 5, 2) := by decide +kernel
theorem dX9_fair_32 : decode cX9_fair 32 = .ok (.iload_n 1, 1) := by decide +kernel
theorem dX9_fair_33 : decode cX9_fair 33 = .ok (.if_icmp .ge 18, 3) := by decide +kernel
theorem dX9_fair_36 : decode cX9_fair 36 = .ok (.lload_n 3, 1) := by decide +kernel
theorem dX9_fair_37 : decode cX9_fair 37 = .ok (.iload_n 2, 1) := by decide +kernel
theorem dX9_fair_38 : decode cX9_fair 38 = .ok (.i2l, 1) := by decide +kernel
theorem dX9_fair_39 : decode cX9_fair 39 = .ok (.lmul, 1) := by decide +kernel
theorem dX9_fair_40 : decode cX9_fair 40 = .ok (.ldc2_w 300, 3) := by decide +kernel
theorem dX9_fair_43 : decode cX9_fair 43 = .ok (.ldiv, 1) := by decide +kernel
theorem dX9_fair_44 : decode cX9_fair 44 = .ok (.lstore_n 3, 1) := by decide +kernel
theorem dX9_fair_45 : decode cX9_fair 45 = .ok (.iinc 5 1, 3) := by decide +kernel
theorem dX9_fair_48 : decode cX9_fair 48 = .ok (.goto (-18), 3) := by decide +kernel
theorem dX9_fair_51 : decode cX9_fair 51 = .ok (.lload_n 3, 1) := by decide +kernel
theorem dX9_fair_52 : decode cX9_fair 52 = .ok (.l2i, 1) := by decide +kernel
theorem dX9_fair_53 : decode cX9_fair 53 = .ok (.ireturn, 1) := by decide +kernel
theorem dX9_feel_0 : decode cX9_feel 0 = .ok (.iload_n 1, 1) := by decide +kernel
theorem dX9_feel_1 : decode cX9_feel 1 = .ok (.iconst 1, 1) := by decide +kernel
theorem dX9_feel_2 : decode cX9_feel 2 = .ok (.bipush 99, 2) := by decide +kernel
theorem dX9_feel_4 : decode cX9_feel 4 = .ok (.invokestatic 89, 3) := by decide +kernel
theorem dX9_feel_7 : decode cX9_feel 7 = .ok (.ifCond .eq 23, 3) := by decide +kernel
theorem dX9_feel_10 : decode cX9_feel 10 = .ok (.iload_n 2, 1) := by decide +kernel
theorem dX9_feel_11 : decode cX9_feel 11 = .ok (.iconst 0, 1) := by decide +kernel
theorem dX9_feel_12 : decode cX9_feel 12 = .ok (.bipush 30, 2) := by decide +kernel
theorem dX9_feel_14 : decode cX9_feel 14 = .ok (.invokestatic 89, 3) := by decide +kernel
theorem dX9_feel_17 : decode cX9_feel 17 = .ok (.ifCond .eq 13, 3) := by decide +kernel
theorem dX9_feel_20 : decode cX9_feel 20 = .ok (.iload_n 3, 1) := by decide +kernel
theorem dX9_feel_21 : decode cX9_feel 21 = .ok (.iconst 0, 1) := by decide +kernel
theorem dX9_feel_22 : decode cX9_feel 22 = .ok (.bipush 99, 2) := by decide +kernel
theorem dX9_feel_24 : decode cX9_feel 24 = .ok (.invokestatic 89, 3) := by decide +kernel
theorem dX9_feel_27 : decode cX9_feel 27 = .ok (.ifCond .ne 6, 3) := by decide +kernel
theorem dX9_feel_30 : decode cX9_feel 30 = .ok (.ldc 93, 2) := by decide +kernel
theorem dX9_feel_32 : decode cX9_feel 32 = .ok (.ireturn, 1) := by decide +kernel
theorem dX9_feel_33 : decode cX9_feel 33 = .ok (.aload_n 0, 1) := by decide +kernel
theorem dX9_feel_34 : decode cX9_feel 34 = .ok (.getfield 63, 3) := by decide +kernel
theorem dX9_feel_37 : decode cX9_feel 37 = .ok (.iload_n 1, 1) := by decide +kernel
theorem dX9_feel_38 : decode cX9_feel 38 = .ok (.iload_n 2, 1) := by decide +kernel
theorem dX9_feel_39 : decode cX9_feel 39 = .ok (.iload_n 3, 1) := by decide +kernel
theorem dX9_feel_40 : decode cX9_feel 40 = .ok (.invokevirtual 302, 3) := by decide +kernel
theorem dX9_feel_43 : decode cX9_feel 43 = .ok (.ifCond .eq 13, 3) := by decide +kernel
theorem dX9_feel_46 : decode cX9_feel 46 = .ok (.aload_n 0, 1) := by decide +kernel
theorem dX9_feel_47 : decode cX9_feel 47 = .ok (.getfield 63, 3) := by decide +kernel
theorem dX9_feel_50 : decode cX9_feel 50 = .ok (.getfield 154, 3) := by decide +kernel
theorem dX9_feel_53 : decode cX9_feel 53 = .ok (.goto 5, 3) := by decide +kernel
theorem dX9_feel_56 : decode cX9_feel 56 = .ok (.ldc 102, 2) := by decide +kernel
theorem dX9_feel_58 : decode cX9_feel 58 = .ok (.ireturn, 1) := by decide +kernel
theorem dX9_carries_0 : decode cX9_carries 0 = .ok (.iload_n 1, 1) := by decide +kernel
theorem dX9_carries_1 : decode cX9_carries 1 = .ok (.iconst 0, 1) := by decide +kernel
theorem dX9_carries_2 : decode cX9_carries 2 = .ok (.iconst 2, 1) := by decide +kernel
theorem dX9_carries_3 : decode cX9_carries 3 = .ok (.invokestatic 89, 3) := by decide +kernel
theorem dX9_carries_6 : decode cX9_carries 6 = .ok (.ifCond .ne 6, 3) := by decide +kernel
theorem dX9_carries_9 : decode cX9_carries 9 = .ok (.ldc 93, 2) := by decide +kernel
theorem dX9_carries_11 : decode cX9_carries 11 = .ok (.ireturn, 1) := by decide +kernel
theorem dX9_carries_12 : decode cX9_carries 12 = .ok (.aload_n 0, 1) := by decide +kernel
theorem dX9_carries_13 : decode cX9_carries 13 = .ok (.getfield 63, 3) := by decide +kernel
theorem dX9_carries_16 : decode cX9_carries 16 = .ok (.invokevirtual 304, 3) := by decide +kernel
theorem dX9_carries_19 : decode cX9_carries 19 = .ok (.iload_n 1, 1) := by decide +kernel
theorem dX9_carries_20 : decode cX9_carries 20 = .ok (.ifCond .ne 11, 3) := by decide +kernel
theorem dX9_carries_23 : decode cX9_carries 23 = .ok (.aload_n 0, 1) := by decide +kernel
theorem dX9_carries_24 : decode cX9_carries 24 = .ok (.getfield 63, 3) := by decide +kernel
theorem dX9_carries_27 : decode cX9_carries 27 = .ok (.getfield 307, 3) := by decide +kernel
theorem dX9_carries_30 : decode cX9_carries 30 = .ok (.ireturn, 1) := by decide +kernel
theorem dX9_carries_31 : decode cX9_carries 31 = .ok (.iload_n 1, 1) := by decide +kernel
theorem dX9_carries_32 : decode cX9_carries 32 = .ok (.iconst 1, 1) := by decide +kernel
theorem dX9_carries_33 : decode cX9_carries 33 = .ok (.if_icmp .ne 13, 3) := by decide +kernel
theorem dX9_carries_36 : decode cX9_carries 36 = .ok (.aload_n 0, 1) := by decide +kernel
theorem dX9_carries_37 : decode cX9_carries 37 = .ok (.getfield 63, 3) := by decide +kernel
theorem dX9_carries_40 : decode cX9_carries 40 = .ok (.invokevirtual 310, 3) := by decide +kernel
theorem dX9_carries_43 : decode cX9_carries 43 = .ok (.goto 10, 3) := by decide +kernel
theorem dX9_carries_46 : decode cX9_carries 46 = .ok (.aload_n 0, 1) := by decide +kernel
theorem dX9_carries_47 : decode cX9_carries 47 = .ok (.getfield 63, 3) := by decide +kernel
theorem dX9_carries_50 : decode cX9_carries 50 = .ok (.invokevirtual 313, 3) := by decide +kernel
theorem dX9_carries_53 : decode cX9_carries 53 = .ok (.ireturn, 1) := by decide +kernel
theorem dX9_tryNext_0 : decode cX9_tryNext 0 = .ok (.aload_n 0, 1) := by decide +kernel
theorem dX9_tryNext_1 : decode cX9_tryNext 1 = .ok (.getfield 63, 3) := by decide +kernel
theorem dX9_tryNext_4 : decode cX9_tryNext 4 = .ok (.invokevirtual 304, 3) := by decide +kernel
theorem dX9_tryNext_7 : decode cX9_tryNext 7 = .ok (.aload_n 0, 1) := by decide +kernel
theorem dX9_tryNext_8 : decode cX9_tryNext 8 = .ok (.getfield 63, 3) := by decide +kernel
theorem dX9_tryNext_11 : decode cX9_tryNext 11 = .ok (.invokevirtual 316, 3) := by decide +kernel
theorem dX9_tryNext_14 : decode cX9_tryNext 14 = .ok (.ireturn, 1) := by decide +kernel
theorem dX9_write_0 : decode cX9_write 0 = .ok (.aload_n 0, 1) := by decide +kernel
theorem dX9_write_1 : decode cX9_write 1 = .ok (.getfield 33, 3) := by decide +kernel
theorem dX9_write_4 : decode cX9_write 4 = .ok (.iload_n 1, 1) := by decide +kernel
theorem dX9_write_5 : decode cX9_write 5 = .ok (.invokevirtual 184, 3) := by decide +kernel
theorem dX9_write_8 : decode cX9_write 8 = .ok (.ifCond .ne 6, 3) := by decide +kernel
theorem dX9_write_11 : decode cX9_write 11 = .ok (.ldc 165, 2) := by decide +kernel
theorem dX9_write_13 : decode cX9_write 13 = .ok (.ireturn, 1) := by decide +kernel
theorem dX9_write_14 : decode cX9_write 14 = .ok (.iload_n 2, 1) := by decide +kernel
theorem dX9_write_15 : decode cX9_write 15 = .ok (.iconst 0, 1) := by decide +kernel
theorem dX9_write_16 : decode cX9_write 16 = .ok (.sipush 9999, 3) := by decide +kernel
theorem dX9_write_19 : decode cX9_write 19 = .ok (.invokestatic 89, 3) := by decide +kernel
theorem dX9_write_22 : decode cX9_write 22 = .ok (.ifCond .ne 6, 3) := by decide +kernel
theorem dX9_write_25 : decode cX9_write 25 = .ok (.ldc 93, 2) := by decide +kernel
theorem dX9_write_27 : decode cX9_write 27 = .ok (.ireturn, 1) := by decide +kernel
theorem dX9_write_28 : decode cX9_write 28 = .ok (.aload_n 0, 1) := by decide +kernel
theorem dX9_write_29 : decode cX9_write 29 = .ok (.getfield 70, 3) := by decide +kernel
theorem dX9_write_32 : decode cX9_write 32 = .ok (.iload_n 1, 1) := by decide +kernel
theorem dX9_write_33 : decode cX9_write 33 = .ok (.iload_n 2, 1) := by decide +kernel
theorem dX9_write_34 : decode cX9_write 34 = .ok (.invokevirtual 319, 3) := by decide +kernel
theorem dX9_write_37 : decode cX9_write 37 = .ok (.ifCond .eq 13, 3) := by decide +kernel
theorem dX9_write_40 : decode cX9_write 40 = .ok (.aload_n 0, 1) := by decide +kernel
theorem dX9_write_41 : decode cX9_write 41 = .ok (.getfield 70, 3) := by decide +kernel
theorem dX9_write_44 : decode cX9_write 44 = .ok (.getfield 157, 3) := by decide +kernel
theorem dX9_write_47 : decode cX9_write 47 = .ok (.goto 5, 3) := by decide +kernel
theorem dX9_write_50 : decode cX9_write 50 = .ok (.ldc 102, 2) := by decide +kernel
theorem dX9_write_52 : decode cX9_write 52 = .ok (.ireturn, 1) := by decide +kernel
theorem dX9_tear_0 : decode cX9_tear 0 = .ok (.aload_n 0, 1) := by decide +kernel
theorem dX9_tear_1 : decode cX9_tear 1 = .ok (.getfield 63, 3) := by decide +kernel
theorem dX9_tear_4 : decode cX9_tear 4 = .ok (.getfield 154, 3) := by decide +kernel
theorem dX9_tear_7 : decode cX9_tear 7 = .ok (.aload_n 0, 1) := by decide +kernel
theorem dX9_tear_8 : decode cX9_tear 8 = .ok (.getfield 70, 3) := by decide +kernel
theorem dX9_tear_11 : decode cX9_tear 11 = .ok (.getfield 157, 3) := by decide +kernel
theorem dX9_tear_14 : decode cX9_tear 14 = .ok (.iadd, 1) := by decide +kernel
theorem dX9_tear_15 : decode cX9_tear 15 = .ok (.istore_n 1, 1) := by decide +kernel
theorem dX9_tear_16 : decode cX9_tear 16 = .ok (.aload_n 0, 1) := by decide +kernel
theorem dX9_tear_17 : decode cX9_tear 17 = .ok (.getfield 63, 3) := by decide +kernel
theorem dX9_tear_20 : decode cX9_tear 20 = .ok (.invokevirtual 114, 3) := by decide +kernel
theorem dX9_tear_23 : decode cX9_tear 23 = .ok (.aload_n 0, 1) := by decide +kernel
theorem dX9_tear_24 : decode cX9_tear 24 = .ok (.getfield 70, 3) := by decide +kernel
theorem dX9_tear_27 : decode cX9_tear 27 = .ok (.invokevirtual 117, 3) := by decide +kernel
theorem dX9_tear_30 : decode cX9_tear 30 = .ok (.iload_n 1, 1) := by decide +kernel
theorem dX9_tear_31 : decode cX9_tear 31 = .ok (.ireturn, 1) := by decide +kernel
theorem dX9_judge_0 : decode cX9_judge 0 = .ok (.aload_n 0, 1) := by decide +kernel
theorem dX9_judge_1 : decode cX9_judge 1 = .ok (.getfield 70, 3) := by decide +kernel
theorem dX9_judge_4 : decode cX9_judge 4 = .ok (.aload_n 0, 1) := by decide +kernel
theorem dX9_judge_5 : decode cX9_judge 5 = .ok (.getfield 38, 3) := by decide +kernel
theorem dX9_judge_8 : decode cX9_judge 8 = .ok (.invokevirtual 321, 3) := by decide +kernel
theorem dX9_judge_11 : decode cX9_judge 11 = .ok (.ireturn, 1) := by decide +kernel
theorem dX9_seed_0 : decode cX9_seed 0 = .ok (.iload_n 1, 1) := by decide +kernel
theorem dX9_seed_1 : decode cX9_seed 1 = .ok (.ifCond .ge 6, 3) := by decide +kernel
theorem dX9_seed_4 : decode cX9_seed 4 = .ok (.ldc 93, 2) := by decide +kernel
theorem dX9_seed_6 : decode cX9_seed 6 = .ok (.ireturn, 1) := by decide +kernel
theorem dX9_seed_7 : decode cX9_seed 7 = .ok (.aload_n 0, 1) := by decide +kernel
theorem dX9_seed_8 : decode cX9_seed 8 = .ok (.getfield 325, 3) := by decide +kernel
theorem dX9_seed_11 : decode cX9_seed 11 = .ok (.istore_n 2, 1) := by decide +kernel
theorem dX9_seed_12 : decode cX9_seed 12 = .ok (.aload_n 0, 1) := by decide +kernel
theorem dX9_seed_13 : decode cX9_seed 13 = .ok (.iload_n 1, 1) := by decide +kernel
theorem dX9_seed_14 : decode cX9_seed 14 = .ok (.putfield 325, 3) := by decide +kernel
theorem dX9_seed_17 : decode cX9_seed 17 = .ok (.iload_n 2, 1) := by decide +kernel
theorem dX9_seed_18 : decode cX9_seed 18 = .ok (.ireturn, 1) := by decide +kernel
theorem dX9_keep_0 : decode cX9_keep 0 = .ok (.iload_n 1, 1) := by decide +kernel
theorem dX9_keep_1 : decode cX9_keep 1 = .ok (.iconst 0, 1) := by decide +kernel
theorem dX9_keep_2 : decode cX9_keep 2 = .ok (.iconst 1, 1) := by decide +kernel
theorem dX9_keep_3 : decode cX9_keep 3 = .ok (.invokestatic 89, 3) := by decide +kernel
theorem dX9_keep_6 : decode cX9_keep 6 = .ok (.ifCond .ne 6, 3) := by decide +kernel
theorem dX9_keep_9 : decode cX9_keep 9 = .ok (.ldc 165, 2) := by decide +kernel
theorem dX9_keep_11 : decode cX9_keep 11 = .ok (.ireturn, 1) := by decide +kernel
theorem dX9_keep_12 : decode cX9_keep 12 = .ok (.aload_n 0, 1) := by decide +kernel
theorem dX9_keep_13 : decode cX9_keep 13 = .ok (.getfield 76, 3) := by decide +kernel
theorem dX9_keep_16 : decode cX9_keep 16 = .ok (.iload_n 1, 1) := by decide +kernel
theorem dX9_keep_17 : decode cX9_keep 17 = .ok (.aaload, 1) := by decide +kernel
theorem dX9_keep_18 : decode cX9_keep 18 = .ok (.aload_n 0, 1) := by decide +kernel
theorem dX9_keep_19 : decode cX9_keep 19 = .ok (.getfield 38, 3) := by decide +kernel
theorem dX9_keep_22 : decode cX9_keep 22 = .ok (.invokevirtual 328, 3) := by decide +kernel
theorem dX9_keep_25 : decode cX9_keep 25 = .ok (.aload_n 0, 1) := by decide +kernel
theorem dX9_keep_26 : decode cX9_keep 26 = .ok (.getfield 80, 3) := by decide +kernel
theorem dX9_keep_29 : decode cX9_keep 29 = .ok (.iload_n 1, 1) := by decide +kernel
theorem dX9_keep_30 : decode cX9_keep 30 = .ok (.aload_n 0, 1) := by decide +kernel
theorem dX9_keep_31 : decode cX9_keep 31 = .ok (.getfield 325, 3) := by decide +kernel
theorem dX9_keep_34 : decode cX9_keep 34 = .ok (.iastore, 1) := by decide +kernel
theorem dX9_keep_35 : decode cX9_keep 35 = .ok (.aload_n 0, 1) := by decide +kernel
theorem dX9_keep_36 : decode cX9_keep 36 = .ok (.getfield 84, 3) := by decide +kernel
theorem dX9_keep_39 : decode cX9_keep 39 = .ok (.iload_n 1, 1) := by decide +kernel
theorem dX9_keep_40 : decode cX9_keep 40 = .ok (.iconst 1, 1) := by decide +kernel
theorem dX9_keep_41 : decode cX9_keep 41 = .ok (.bastore, 1) := by decide +kernel
theorem dX9_keep_42 : decode cX9_keep 42 = .ok (.aload_n 0, 1) := by decide +kernel
theorem dX9_keep_43 : decode cX9_keep 43 = .ok (.getfield 56, 3) := by decide +kernel
theorem dX9_keep_46 : decode cX9_keep 46 = .ok (.invokevirtual 118, 3) := by decide +kernel
theorem dX9_keep_49 : decode cX9_keep 49 = .ok (.iconst 1, 1) := by decide +kernel
theorem dX9_keep_50 : decode cX9_keep 50 = .ok (.ireturn, 1) := by decide +kernel
theorem dX9_goBack_0 : decode cX9_goBack 0 = .ok (.iload_n 1, 1) := by decide +kernel
theorem dX9_goBack_1 : decode cX9_goBack 1 = .ok (.iconst 0, 1) := by decide +kernel
theorem dX9_goBack_2 : decode cX9_goBack 2 = .ok (.iconst 1, 1) := by decide +kernel
theorem dX9_goBack_3 : decode cX9_goBack 3 = .ok (.invokestatic 89, 3) := by decide +kernel
theorem dX9_goBack_6 : decode cX9_goBack 6 = .ok (.ifCond .ne 6, 3) := by decide +kernel
theorem dX9_goBack_9 : decode cX9_goBack 9 = .ok (.ldc 165, 2) := by decide +kernel
theorem dX9_goBack_11 : decode cX9_goBack 11 = .ok (.ireturn, 1) := by decide +kernel
theorem dX9_goBack_12 : decode cX9_goBack 12 = .ok (.aload_n 0, 1) := by decide +kernel
theorem dX9_goBack_13 : decode cX9_goBack 13 = .ok (.getfield 84, 3) := by decide +kernel
theorem dX9_goBack_16 : decode cX9_goBack 16 = .ok (.iload_n 1, 1) := by decide +kernel
theorem dX9_goBack_17 : decode cX9_goBack 17 = .ok (.baload, 1) := by decide +kernel
theorem dX9_goBack_18 : decode cX9_goBack 18 = .ok (.ifCond .ne 6, 3) := by decide +kernel
theorem dX9_goBack_21 : decode cX9_goBack 21 = .ok (.ldc 223, 2) := by decide +kernel
theorem dX9_goBack_23 : decode cX9_goBack 23 = .ok (.ireturn, 1) := by decide +kernel
theorem dX9_goBack_24 : decode cX9_goBack 24 = .ok (.aload_n 0, 1) := by decide +kernel
theorem dX9_goBack_25 : decode cX9_goBack 25 = .ok (.getfield 38, 3) := by decide +kernel
theorem dX9_goBack_28 : decode cX9_goBack 28 = .ok (.aload_n 0, 1) := by decide +kernel
theorem dX9_goBack_29 : decode cX9_goBack 29 = .ok (.getfield 76, 3) := by decide +kernel
theorem dX9_goBack_32 : decode cX9_goBack 32 = .ok (.iload_n 1, 1) := by decide +kernel
theorem dX9_goBack_33 : decode cX9_goBack 33 = .ok (.aaload, 1) := by decide +kernel
theorem dX9_goBack_34 : decode cX9_goBack 34 = .ok (.invokevirtual 328, 3) := by decide +kernel
theorem dX9_goBack_37 : decode cX9_goBack 37 = .ok (.aload_n 0, 1) := by decide +kernel
theorem dX9_goBack_38 : decode cX9_goBack 38 = .ok (.aload_n 0, 1) := by decide +kernel
theorem dX9_goBack_39 : decode cX9_goBack 39 = .ok (.getfield 80, 3) := by decide +kernel
theorem dX9_goBack_42 : decode cX9_goBack 42 = .ok (.iload_n 1, 1) := by decide +kernel
theorem dX9_goBack_43 : decode cX9_goBack 43 = .ok (.iaload, 1) := by decide +kernel
theorem dX9_goBack_44 : decode cX9_goBack 44 = .ok (.putfield 325, 3) := by decide +kernel
theorem dX9_goBack_47 : decode cX9_goBack 47 = .ok (.aload_n 0, 1) := by decide +kernel
theorem dX9_goBack_48 : decode cX9_goBack 48 = .ok (.getfield 56, 3) := by decide +kernel
theorem dX9_goBack_51 : decode cX9_goBack 51 = .ok (.invokevirtual 118, 3) := by decide +kernel
theorem dX9_goBack_54 : decode cX9_goBack 54 = .ok (.iconst 1, 1) := by decide +kernel
theorem dX9_goBack_55 : decode cX9_goBack 55 = .ok (.ireturn, 1) := by decide +kernel
theorem dX9_within_0 : decode cX9_within 0 = .ok (.iload_n 0, 1) := by decide +kernel
theorem dX9_within_1 : decode cX9_within 1 = .ok (.iload_n 1, 1) := by decide +kernel
theorem dX9_within_2 : decode cX9_within 2 = .ok (.if_icmp .lt 12, 3) := by decide +kernel
theorem dX9_within_5 : decode cX9_within 5 = .ok (.iload_n 0, 1) := by decide +kernel
theorem dX9_within_6 : decode cX9_within 6 = .ok (.iload_n 2, 1) := by decide +kernel
theorem dX9_within_7 : decode cX9_within 7 = .ok (.if_icmp .gt 7, 3) := by decide +kernel
theorem dX9_within_10 : decode cX9_within 10 = .ok (.iconst 1, 1) := by decide +kernel
theorem dX9_within_11 : decode cX9_within 11 = .ok (.goto 4, 3) := by decide +kernel
theorem dX9_within_14 : decode cX9_within 14 = .ok (.iconst 0, 1) := by decide +kernel
theorem dX9_within_15 : decode cX9_within 15 = .ok (.ireturn, 1) := by decide +kernel
theorem dX9_isAugust_0 : decode cX9_isAugust 0 = .ok (.iload_n 0, 1) := by decide +kernel
theorem dX9_isAugust_1 : decode cX9_isAugust 1 = .ok (.bipush 12, 2) := by decide +kernel
theorem dX9_isAugust_3 : decode cX9_isAugust 3 = .ok (.irem, 1) := by decide +kernel
theorem dX9_isAugust_4 : decode cX9_isAugust 4 = .ok (.bipush 7, 2) := by decide +kernel
theorem dX9_isAugust_6 : decode cX9_isAugust 6 = .ok (.if_icmp .ne 7, 3) := by decide +kernel
theorem dX9_isAugust_9 : decode cX9_isAugust 9 = .ok (.iconst 1, 1) := by decide +kernel
theorem dX9_isAugust_10 : decode cX9_isAugust 10 = .ok (.goto 4, 3) := by decide +kernel
theorem dX9_isAugust_13 : decode cX9_isAugust 13 = .ok (.iconst 0, 1) := by decide +kernel
theorem dX9_isAugust_14 : decode cX9_isAugust 14 = .ok (.ireturn, 1) := by decide +kernel
theorem dX9_has_0 : decode cX9_has 0 = .ok (.iload_n 0, 1) := by decide +kernel
theorem dX9_has_1 : decode cX9_has 1 = .ok (.iload_n 1, 1) := by decide +kernel
theorem dX9_has_2 : decode cX9_has 2 = .ok (.ishr, 1) := by decide +kernel
theorem dX9_has_3 : decode cX9_has 3 = .ok (.iconst 1, 1) := by decide +kernel
theorem dX9_has_4 : decode cX9_has 4 = .ok (.iand, 1) := by decide +kernel
theorem dX9_has_5 : decode cX9_has 5 = .ok (.ifCond .eq 7, 3) := by decide +kernel
theorem dX9_has_8 : decode cX9_has 8 = .ok (.iconst 1, 1) := by decide +kernel
theorem dX9_has_9 : decode cX9_has 9 = .ok (.goto 4, 3) := by decide +kernel
theorem dX9_has_12 : decode cX9_has 12 = .ok (.iconst 0, 1) := by decide +kernel
theorem dX9_has_13 : decode cX9_has 13 = .ok (.ireturn, 1) := by decide +kernel
theorem dX9_refusalOfDays_0 : decode cX9_refusalOfDays 0 = .ok (.iload_n 1, 1) := by decide +kernel
theorem dX9_refusalOfDays_1 : decode cX9_refusalOfDays 1 = .ok (.iconst 1, 1) := by decide +kernel
theorem dX9_refusalOfDays_2 : decode cX9_refusalOfDays 2 = .ok (.bipush 60, 2) := by decide +kernel
theorem dX9_refusalOfDays_4 : decode cX9_refusalOfDays 4 = .ok (.invokestatic 89, 3) := by decide +kernel
theorem dX9_refusalOfDays_7 : decode cX9_refusalOfDays 7 = .ok (.ifCond .ne 6, 3) := by decide +kernel
theorem dX9_refusalOfDays_10 : decode cX9_refusalOfDays 10 = .ok (.ldc 93, 2) := by decide +kernel
theorem dX9_refusalOfDays_12 : decode cX9_refusalOfDays 12 = .ok (.ireturn, 1) := by decide +kernel
theorem dX9_refusalOfDays_13 : decode cX9_refusalOfDays 13 = .ok (.aload_n 0, 1) := by decide +kernel
theorem dX9_refusalOfDays_14 : decode cX9_refusalOfDays 14 = .ok (.getfield 33, 3) := by decide +kernel
theorem dX9_refusalOfDays_17 : decode cX9_refusalOfDays 17 = .ok (.getfield 262, 3) := by decide +kernel
theorem dX9_refusalOfDays_20 : decode cX9_refusalOfDays 20 = .ok (.ifCond .ne 6, 3) := by decide +kernel
theorem dX9_refusalOfDays_23 : decode cX9_refusalOfDays 23 = .ok (.ldc 223, 2) := by decide +kernel
theorem dX9_refusalOfDays_25 : decode cX9_refusalOfDays 25 = .ok (.ireturn, 1) := by decide +kernel
theorem dX9_refusalOfDays_26 : decode cX9_refusalOfDays 26 = .ok (.aload_n 0, 1) := by decide +kernel
theorem dX9_refusalOfDays_27 : decode cX9_refusalOfDays 27 = .ok (.getfield 38, 3) := by decide +kernel
theorem dX9_refusalOfDays_30 : decode cX9_refusalOfDays 30 = .ok (.getfield 128, 3) := by decide +kernel
theorem dX9_refusalOfDays_33 : decode cX9_refusalOfDays 33 = .ok (.sipush 9000, 3) := by decide +kernel
theorem dX9_refusalOfDays_36 : decode cX9_refusalOfDays 36 = .ok (.if_icmp .le 8, 3) := by decide +kernel
theorem dX9_refusalOfDays_39 : decode cX9_refusalOfDays 39 = .ok (.ldc 102, 2) := by decide +kernel
theorem dX9_refusalOfDays_41 : decode cX9_refusalOfDays 41 = .ok (.goto 4, 3) := by decide +kernel
theorem dX9_refusalOfDays_44 : decode cX9_refusalOfDays 44 = .ok (.iconst 0, 1) := by decide +kernel
theorem dX9_refusalOfDays_45 : decode cX9_refusalOfDays 45 = .ok (.ireturn, 1) := by decide +kernel
theorem dX9_draw_0 : decode cX9_draw 0 = .ok (.aload_n 0, 1) := by decide +kernel
theorem dX9_draw_1 : decode cX9_draw 1 = .ok (.aload_n 0, 1) := by decide +kernel
theorem dX9_draw_2 : decode cX9_draw 2 = .ok (.getfield 325, 3) := by decide +kernel
theorem dX9_draw_5 : decode cX9_draw 5 = .ok (.i2l, 1) := by decide +kernel
theorem dX9_draw_6 : decode cX9_draw 6 = .ok (.ldc2_w 330, 3) := by decide +kernel
theorem dX9_draw_9 : decode cX9_draw 9 = .ok (.lmul, 1) := by decide +kernel
theorem dX9_draw_10 : decode cX9_draw 10 = .ok (.ldc2_w 332, 3) := by decide +kernel
theorem dX9_draw_13 : decode cX9_draw 13 = .ok (.ladd, 1) := by decide +kernel
theorem dX9_draw_14 : decode cX9_draw 14 = .ok (.ldc2_w 334, 3) := by decide +kernel
theorem dX9_draw_17 : decode cX9_draw 17 = .ok (.land, 1) := by decide +kernel
theorem dX9_draw_18 : decode cX9_draw 18 = .ok (.l2i, 1) := by decide +kernel
theorem dX9_draw_19 : decode cX9_draw 19 = .ok (.putfield 325, 3) := by decide +kernel
theorem dX9_draw_22 : decode cX9_draw 22 = .ok (.iload_n 1, 1) := by decide +kernel
theorem dX9_draw_23 : decode cX9_draw 23 = .ok (.iconst 1, 1) := by decide +kernel
theorem dX9_draw_24 : decode cX9_draw 24 = .ok (.if_icmp .ge 7, 3) := by decide +kernel
theorem dX9_draw_27 : decode cX9_draw 27 = .ok (.iconst 0, 1) := by decide +kernel
theorem dX9_draw_28 : decode cX9_draw 28 = .ok (.goto 13, 3) := by decide +kernel
theorem dX9_draw_31 : decode cX9_draw 31 = .ok (.aload_n 0, 1) := by decide +kernel
theorem dX9_draw_32 : decode cX9_draw 32 = .ok (.getfield 325, 3) := by decide +kernel
theorem dX9_draw_35 : decode cX9_draw 35 = .ok (.ldc_w 336, 3) := by decide +kernel
theorem dX9_draw_38 : decode cX9_draw 38 = .ok (.idiv, 1) := by decide +kernel
theorem dX9_draw_39 : decode cX9_draw 39 = .ok (.iload_n 1, 1) := by decide +kernel
theorem dX9_draw_40 : decode cX9_draw 40 = .ok (.irem, 1) := by decide +kernel
theorem dX9_draw_41 : decode cX9_draw 41 = .ok (.ireturn, 1) := by decide +kernel
theorem dX9_doByDraws_0 : decode cX9_doByDraws 0 = .ok (.aload_n 0, 1) := by decide +kernel
theorem dX9_doByDraws_1 : decode cX9_doByDraws 1 = .ok (.getfield 33, 3) := by decide +kernel
theorem dX9_doByDraws_4 : decode cX9_doByDraws 4 = .ok (.getfield 119, 3) := by decide +kernel
theorem dX9_doByDraws_7 : decode cX9_doByDraws 7 = .ok (.iconst 1, 1) := by decide +kernel
theorem dX9_doByDraws_8 : decode cX9_doByDraws 8 = .ok (.if_icmp .lt 14, 3) := by decide +kernel
theorem dX9_doByDraws_11 : decode cX9_doByDraws 11 = .ok (.aload_n 0, 1) := by decide +kernel
theorem dX9_doByDraws_12 : decode cX9_doByDraws 12 = .ok (.getfield 33, 3) := by decide +kernel
theorem dX9_doByDraws_15 : decode cX9_doByDraws 15 = .ok (.getfield 125, 3) := by decide +kernel
theorem dX9_doByDraws_18 : decode cX9_doByDraws 18 = .ok (.iconst 1, 1) := by decide +kernel
theorem dX9_doByDraws_19 : decode cX9_doByDraws 19 = .ok (.if_icmp .ge 4, 3) := by decide +kernel
theorem dX9_doByDraws_22 : decode cX9_doByDraws 22 = .ok (.return_, 1) := by decide +kernel
theorem dX9_doByDraws_23 : decode cX9_doByDraws 23 = .ok (.aload_n 0, 1) := by decide +kernel
theorem dX9_doByDraws_24 : decode cX9_doByDraws 24 = .ok (.iconst 4, 1) := by decide +kernel
theorem dX9_doByDraws_25 : decode cX9_doByDraws 25 = .ok (.invokevirtual 337, 3) := by decide +kernel
theorem dX9_doByDraws_28 : decode cX9_doByDraws 28 = .ok (.istore_n 1, 1) := by decide +kernel
theorem dX9_doByDraws_29 : decode cX9_doByDraws 29 = .ok (.aload_n 0, 1) := by decide +kernel
theorem dX9_doByDraws_30 : decode cX9_doByDraws 30 = .ok (.aload_n 0, 1) := by decide +kernel
theorem dX9_doByDraws_31 : decode cX9_doByDraws 31 = .ok (.getfield 33, 3) := by decide +kernel
theorem dX9_doByDraws_34 : decode cX9_doByDraws 34 = .ok (.getfield 119, 3) := by decide +kernel
theorem dX9_doByDraws_37 : decode cX9_doByDraws 37 = .ok (.invokevirtual 337, 3) := by decide +kernel
theorem dX9_doByDraws_40 : decode cX9_doByDraws 40 = .ok (.istore_n 2, 1) := by decide +kernel
theorem dX9_doByDraws_41 : decode cX9_doByDraws 41 = .ok (.aload_n 0, 1) := by decide +kernel
theorem dX9_doByDraws_42 : decode cX9_doByDraws 42 = .ok (.aload_n 0, 1) := by decide +kernel
theorem dX9_doByDraws_43 : decode cX9_doByDraws 43 = .ok (.getfield 33, 3) := by decide +kernel
theorem dX9_doByDraws_46 : decode cX9_doByDraws 46 = .ok (.getfield 125, 3) := by decide +kernel
theorem dX9_doByDraws_49 : decode cX9_doByDraws 49 = .ok (.invokevirtual 337, 3) := by decide +kernel
theorem dX9_doByDraws_52 : decode cX9_doByDraws 52 = .ok (.istore_n 3, 1) := by decide +kernel
theorem dX9_doByDraws_53 : decode cX9_doByDraws 53 = .ok (.iload_n 1, 1) := by decide +kernel
theorem dX9_doByDraws_54 : decode cX9_doByDraws 54 = .ok (.ifCond .ne 26, 3) := by decide +kernel
theorem dX9_doByDraws_57 : decode cX9_doByDraws 57 = .ok (.aload_n 0, 1) := by decide +kernel
theorem dX9_doByDraws_58 : decode cX9_doByDraws 58 = .ok (.getfield 38, 3) := by decide +kernel
theorem dX9_doByDraws_61 : decode cX9_doByDraws 61 = .ok (.iload_n 2, 1) := by decide +kernel
theorem dX9_doByDraws_62 : decode cX9_doByDraws 62 = .ok (.invokevirtual 220, 3) := by decide +kernel
theorem dX9_doByDraws_65 : decode cX9_doByDraws 65 = .ok (.ifCond .ne 15, 3) := by decide +kernel
theorem dX9_doByDraws_68 : decode cX9_doByDraws 68 = .ok (.aload_n 0, 1) := by decide +kernel
theorem dX9_doByDraws_69 : decode cX9_doByDraws 69 = .ok (.getfield 38, 3) := by decide +kernel
theorem dX9_doByDraws_72 : decode cX9_doByDraws 72 = .ok (.iload_n 2, 1) := by decide +kernel
theorem dX9_doByDraws_73 : decode cX9_doByDraws 73 = .ok (.iload_n 3, 1) := by decide +kernel
theorem dX9_doByDraws_74 : decode cX9_doByDraws 74 = .ok (.invokevirtual 224, 3) := by decide +kernel
theorem dX9_doByDraws_77 : decode cX9_doByDraws 77 = .ok (.goto 58, 3) := by decide +kernel
theorem dX9_doByDraws_80 : decode cX9_doByDraws 80 = .ok (.iload_n 1, 1) := by decide +kernel
theorem dX9_doByDraws_81 : decode cX9_doByDraws 81 = .ok (.iconst 1, 1) := by decide +kernel
theorem dX9_doByDraws_82 : decode cX9_doByDraws 82 = .ok (.if_icmp .ne 27, 3) := by decide +kernel
theorem dX9_doByDraws_85 : decode cX9_doByDraws 85 = .ok (.aload_n 0, 1) := by decide +kernel
theorem dX9_doByDraws_86 : decode cX9_doByDraws 86 = .ok (.getfield 38, 3) := by decide +kernel
theorem dX9_doByDraws_89 : decode cX9_doByDraws 89 = .ok (.iload_n 2, 1) := by decide +kernel
theorem dX9_doByDraws_90 : decode cX9_doByDraws 90 = .ok (.iload_n 3, 1) := by decide +kernel
theorem dX9_doByDraws_91 : decode cX9_doByDraws 91 = .ok (.invokevirtual 228, 3) := by decide +kernel
theorem dX9_doByDraws_94 : decode cX9_doByDraws 94 = .ok (.ifCond .eq 15, 3) := by decide +kernel
theorem dX9_doByDraws_97 : decode cX9_doByDraws 97 = .ok (.aload_n 0, 1) := by decide +kernel
theorem dX9_doByDraws_98 : decode cX9_doByDraws 98 = .ok (.getfield 38, 3) := by decide +kernel
theorem dX9_doByDraws_101 : decode cX9_doByDraws 101 = .ok (.iload_n 2, 1) := by decide +kernel
theorem dX9_doByDraws_102 : decode cX9_doByDraws 102 = .ok (.iload_n 3, 1) := by decide +kernel
theorem dX9_doByDraws_103 : decode cX9_doByDraws 103 = .ok (.invokevirtual 232, 3) := by decide +kernel
theorem dX9_doByDraws_106 : decode cX9_doByDraws 106 = .ok (.goto 29, 3) := by decide +kernel
theorem dX9_doByDraws_109 : decode cX9_doByDraws 109 = .ok (.iload_n 1, 1) := by decide +kernel
theorem dX9_doByDraws_110 : decode cX9_doByDraws 110 = .ok (.iconst 2, 1) := by decide +kernel
theorem dX9_doByDraws_111 : decode cX9_doByDraws 111 = .ok (.if_icmp .ne 24, 3) := by decide +kernel
theorem dX9_doByDraws_114 : decode cX9_doByDraws 114 = .ok (.aload_n 0, 1) := by decide +kernel
theorem dX9_doByDraws_115 : decode cX9_doByDraws 115 = .ok (.getfield 38, 3) := by decide +kernel
theorem dX9_doByDraws_118 : decode cX9_doByDraws 118 = .ok (.iload_n 2, 1) := by decide +kernel
theorem dX9_doByDraws_119 : decode cX9_doByDraws 119 = .ok (.iload_n 3, 1) := by decide +kernel
theorem dX9_doByDraws_120 : decode cX9_doByDraws 120 = .ok (.invokevirtual 235, 3) := by decide +kernel
theorem dX9_doByDraws_123 : decode cX9_doByDraws 123 = .ok (.ifCond .eq 12, 3) := by decide +kernel
theorem dX9_doByDraws_126 : decode cX9_doByDraws 126 = .ok (.aload_n 0, 1) := by decide +kernel
theorem dX9_doByDraws_127 : decode cX9_doByDraws 127 = .ok (.getfield 38, 3) := by decide +kernel
theorem dX9_doByDraws_130 : decode cX9_doByDraws 130 = .ok (.iload_n 2, 1) := by decide +kernel
theorem dX9_doByDraws_131 : decode cX9_doByDraws 131 = .ok (.iload_n 3, 1) := by decide +kernel
theorem dX9_doByDraws_132 : decode cX9_doByDraws 132 = .ok (.invokevirtual 238, 3) := by decide +kernel
theorem dX9_doByDraws_135 : decode cX9_doByDraws 135 = .ok (.return_, 1) := by decide +kernel
