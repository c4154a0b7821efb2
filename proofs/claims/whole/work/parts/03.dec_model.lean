theorem dX12_init_0 : decode cX12_init 0 = .ok (.aload_n 0, 1) := by decide +kernel
theorem dX12_init_1 : decode cX12_init 1 = .ok (.invokespecial 1, 3) := by decide +kernel
theorem dX12_init_4 : decode cX12_init 4 = .ok (.aload_n 0, 1) := by decide +kernel
theorem dX12_init_5 : decode cX12_init 5 = .ok (.sipush 400, 3) := by decide +kernel
theorem dX12_init_8 : decode cX12_init 8 = .ok (.newarray .byte, 2) := by decide +kernel
theorem dX12_init_10 : decode cX12_init 10 = .ok (.putfield 7, 3) := by decide +kernel
theorem dX12_init_13 : decode cX12_init 13 = .ok (.aload_n 0, 1) := by decide +kernel
theorem dX12_init_14 : decode cX12_init 14 = .ok (.sipush 2400, 3) := by decide +kernel
theorem dX12_init_17 : decode cX12_init 17 = .ok (.newarray .int, 2) := by decide +kernel
theorem dX12_init_19 : decode cX12_init 19 = .ok (.putfield 13, 3) := by decide +kernel
theorem dX12_init_22 : decode cX12_init 22 = .ok (.aload_n 0, 1) := by decide +kernel
theorem dX12_init_23 : decode cX12_init 23 = .ok (.bipush 7, 2) := by decide +kernel
theorem dX12_init_25 : decode cX12_init 25 = .ok (.newarray .int, 2) := by decide +kernel
theorem dX12_init_27 : decode cX12_init 27 = .ok (.putfield 17, 3) := by decide +kernel
theorem dX12_init_30 : decode cX12_init 30 = .ok (.aload_n 0, 1) := by decide +kernel
theorem dX12_init_31 : decode cX12_init 31 = .ok (.sipush 288, 3) := by decide +kernel
theorem dX12_init_34 : decode cX12_init 34 = .ok (.newarray .int, 2) := by decide +kernel
theorem dX12_init_36 : decode cX12_init 36 = .ok (.putfield 20, 3) := by decide +kernel
theorem dX12_init_39 : decode cX12_init 39 = .ok (.aload_n 0, 1) := by decide +kernel
theorem dX12_init_40 : decode cX12_init 40 = .ok (.bipush 6, 2) := by decide +kernel
theorem dX12_init_42 : decode cX12_init 42 = .ok (.newarray .int, 2) := by decide +kernel
theorem dX12_init_44 : decode cX12_init 44 = .ok (.putfield 23, 3) := by decide +kernel
theorem dX12_init_47 : decode cX12_init 47 = .ok (.aload_n 0, 1) := by decide +kernel
theorem dX12_init_48 : decode cX12_init 48 = .ok (.bipush 79, 2) := by decide +kernel
theorem dX12_init_50 : decode cX12_init 50 = .ok (.newarray .int, 2) := by decide +kernel
theorem dX12_init_52 : decode cX12_init 52 = .ok (.putfield 26, 3) := by decide +kernel
theorem dX12_init_55 : decode cX12_init 55 = .ok (.aload_n 0, 1) := by decide +kernel
theorem dX12_init_56 : decode cX12_init 56 = .ok (.sipush 400, 3) := by decide +kernel
theorem dX12_init_59 : decode cX12_init 59 = .ok (.newarray .int, 2) := by decide +kernel
theorem dX12_init_61 : decode cX12_init 61 = .ok (.putfield 29, 3) := by decide +kernel
theorem dX12_init_64 : decode cX12_init 64 = .ok (.aload_n 0, 1) := by decide +kernel
theorem dX12_init_65 : decode cX12_init 65 = .ok (.bipush 64, 2) := by decide +kernel
theorem dX12_init_67 : decode cX12_init 67 = .ok (.newarray .long, 2) := by decide +kernel
theorem dX12_init_69 : decode cX12_init 69 = .ok (.putfield 32, 3) := by decide +kernel
theorem dX12_init_72 : decode cX12_init 72 = .ok (.aload_n 0, 1) := by decide +kernel
theorem dX12_init_73 : decode cX12_init 73 = .ok (.bipush 13, 2) := by decide +kernel
theorem dX12_init_75 : decode cX12_init 75 = .ok (.newarray .long, 2) := by decide +kernel
theorem dX12_init_77 : decode cX12_init 77 = .ok (.putfield 36, 3) := by decide +kernel
theorem dX12_init_80 : decode cX12_init 80 = .ok (.aload_n 0, 1) := by decide +kernel
theorem dX12_init_81 : decode cX12_init 81 = .ok (.bipush 110, 2) := by decide +kernel
theorem dX12_init_83 : decode cX12_init 83 = .ok (.newarray .int, 2) := by decide +kernel
theorem dX12_init_85 : decode cX12_init 85 = .ok (.putfield 39, 3) := by decide +kernel
theorem dX12_init_88 : decode cX12_init 88 = .ok (.aload_n 0, 1) := by decide +kernel
theorem dX12_init_89 : decode cX12_init 89 = .ok (.iconst (-1), 1) := by decide +kernel
theorem dX12_init_90 : decode cX12_init 90 = .ok (.putfield 42, 3) := by decide +kernel
theorem dX12_init_93 : decode cX12_init 93 = .ok (.aload_n 0, 1) := by decide +kernel
theorem dX12_init_94 : decode cX12_init 94 = .ok (.iconst 4, 1) := by decide +kernel
theorem dX12_init_95 : decode cX12_init 95 = .ok (.newarray .int, 2) := by decide +kernel
theorem dX12_init_97 : decode cX12_init 97 = .ok (.putfield 46, 3) := by decide +kernel
theorem dX12_init_100 : decode cX12_init 100 = .ok (.aload_n 0, 1) := by decide +kernel
theorem dX12_init_101 : decode cX12_init 101 = .ok (.iconst 4, 1) := by decide +kernel
theorem dX12_init_102 : decode cX12_init 102 = .ok (.newarray .int, 2) := by decide +kernel
theorem dX12_init_104 : decode cX12_init 104 = .ok (.putfield 49, 3) := by decide +kernel
theorem dX12_init_107 : decode cX12_init 107 = .ok (.aload_n 0, 1) := by decide +kernel
theorem dX12_init_108 : decode cX12_init 108 = .ok (.sipush 1240, 3) := by decide +kernel
theorem dX12_init_111 : decode cX12_init 111 = .ok (.newarray .int, 2) := by decide +kernel
theorem dX12_init_113 : decode cX12_init 113 = .ok (.putfield 52, 3) := by decide +kernel
theorem dX12_init_116 : decode cX12_init 116 = .ok (.aload_n 0, 1) := by decide +kernel
theorem dX12_init_117 : decode cX12_init 117 = .ok (.bipush 62, 2) := by decide +kernel
theorem dX12_init_119 : decode cX12_init 119 = .ok (.newarray .int, 2) := by decide +kernel
theorem dX12_init_121 : decode cX12_init 121 = .ok (.putfield 55, 3) := by decide +kernel
theorem dX12_init_124 : decode cX12_init 124 = .ok (.aload_n 0, 1) := by decide +kernel
theorem dX12_init_125 : decode cX12_init 125 = .ok (.sipush 6561, 3) := by decide +kernel
theorem dX12_init_128 : decode cX12_init 128 = .ok (.newarray .int, 2) := by decide +kernel
theorem dX12_init_130 : decode cX12_init 130 = .ok (.putfield 58, 3) := by decide +kernel
theorem dX12_init_133 : decode cX12_init 133 = .ok (.aload_n 0, 1) := by decide +kernel
theorem dX12_init_134 : decode cX12_init 134 = .ok (.sipush 6561, 3) := by decide +kernel
theorem dX12_init_137 : decode cX12_init 137 = .ok (.newarray .int, 2) := by decide +kernel
theorem dX12_init_139 : decode cX12_init 139 = .ok (.putfield 61, 3) := by decide +kernel
theorem dX12_init_142 : decode cX12_init 142 = .ok (.aload_n 0, 1) := by decide +kernel
theorem dX12_init_143 : decode cX12_init 143 = .ok (.sipush 6561, 3) := by decide +kernel
theorem dX12_init_146 : decode cX12_init 146 = .ok (.newarray .boolean, 2) := by decide +kernel
theorem dX12_init_148 : decode cX12_init 148 = .ok (.putfield 64, 3) := by decide +kernel
theorem dX12_init_151 : decode cX12_init 151 = .ok (.aload_n 0, 1) := by decide +kernel
theorem dX12_init_152 : decode cX12_init 152 = .ok (.bipush 7, 2) := by decide +kernel
theorem dX12_init_154 : decode cX12_init 154 = .ok (.newarray .boolean, 2) := by decide +kernel
theorem dX12_init_156 : decode cX12_init 156 = .ok (.putfield 68, 3) := by decide +kernel
theorem dX12_init_159 : decode cX12_init 159 = .ok (.aload_n 0, 1) := by decide +kernel
theorem dX12_init_160 : decode cX12_init 160 = .ok (.bipush 63, 2) := by decide +kernel
theorem dX12_init_162 : decode cX12_init 162 = .ok (.newarray .int, 2) := by decide +kernel
theorem dX12_init_164 : decode cX12_init 164 = .ok (.putfield 71, 3) := by decide +kernel
theorem dX12_init_167 : decode cX12_init 167 = .ok (.aload_n 0, 1) := by decide +kernel
theorem dX12_init_168 : decode cX12_init 168 = .ok (.sipush 440, 3) := by decide +kernel
theorem dX12_init_171 : decode cX12_init 171 = .ok (.newarray .int, 2) := by decide +kernel
theorem dX12_init_173 : decode cX12_init 173 = .ok (.putfield 74, 3) := by decide +kernel
theorem dX12_init_176 : decode cX12_init 176 = .ok (.aload_n 0, 1) := by decide +kernel
theorem dX12_init_177 : decode cX12_init 177 = .ok (.iconst 4, 1) := by decide +kernel
theorem dX12_init_178 : decode cX12_init 178 = .ok (.newarray .int, 2) := by decide +kernel
theorem dX12_init_180 : decode cX12_init 180 = .ok (.putfield 77, 3) := by decide +kernel
theorem dX12_init_183 : decode cX12_init 183 = .ok (.aload_n 0, 1) := by decide +kernel
theorem dX12_init_184 : decode cX12_init 184 = .ok (.iconst 4, 1) := by decide +kernel
theorem dX12_init_185 : decode cX12_init 185 = .ok (.newarray .int, 2) := by decide +kernel
theorem dX12_init_187 : decode cX12_init 187 = .ok (.putfield 80, 3) := by decide +kernel
theorem dX12_init_190 : decode cX12_init 190 = .ok (.aload_n 0, 1) := by decide +kernel
theorem dX12_init_191 : decode cX12_init 191 = .ok (.iconst 4, 1) := by decide +kernel
theorem dX12_init_192 : decode cX12_init 192 = .ok (.newarray .boolean, 2) := by decide +kernel
theorem dX12_init_194 : decode cX12_init 194 = .ok (.putfield 83, 3) := by decide +kernel
theorem dX12_init_197 : decode cX12_init 197 = .ok (.return_, 1) := by decide +kernel
theorem dX12_in_0 : decode cX12_in 0 = .ok (.lload_n 0, 1) := by decide +kernel
theorem dX12_in_1 : decode cX12_in 1 = .ok (.lload_n 2, 1) := by decide +kernel
theorem dX12_in_2 : decode cX12_in 2 = .ok (.lcmp, 1) := by decide +kernel
theorem dX12_in_3 : decode cX12_in 3 = .ok (.ifCond .lt 14, 3) := by decide +kernel
theorem dX12_in_6 : decode cX12_in 6 = .ok (.lload_n 0, 1) := by decide +kernel
theorem dX12_in_7 : decode cX12_in 7 = .ok (.lload 4, 2) := by decide +kernel
theorem dX12_in_9 : decode cX12_in 9 = .ok (.lcmp, 1) := by decide +kernel
theorem dX12_in_10 : decode cX12_in 10 = .ok (.ifCond .gt 7, 3) := by decide +kernel
theorem dX12_in_13 : decode cX12_in 13 = .ok (.iconst 1, 1) := by decide +kernel
theorem dX12_in_14 : decode cX12_in 14 = .ok (.goto 4, 3) := by decide +kernel
theorem dX12_in_17 : decode cX12_in 17 = .ok (.iconst 0, 1) := by decide +kernel
theorem dX12_in_18 : decode cX12_in 18 = .ok (.ireturn, 1) := by decide +kernel
theorem dX12_isOf_0 : decode cX12_isOf 0 = .ok (.iload_n 0, 1) := by decide +kernel
theorem dX12_isOf_1 : decode cX12_isOf 1 = .ok (.iload_n 1, 1) := by decide +kernel
theorem dX12_isOf_2 : decode cX12_isOf 2 = .ok (.ishr, 1) := by decide +kernel
theorem dX12_isOf_3 : decode cX12_isOf 3 = .ok (.iconst 1, 1) := by decide +kernel
theorem dX12_isOf_4 : decode cX12_isOf 4 = .ok (.iand, 1) := by decide +kernel
theorem dX12_isOf_5 : decode cX12_isOf 5 = .ok (.iconst 1, 1) := by decide +kernel
theorem dX12_isOf_6 : decode cX12_isOf 6 = .ok (.if_icmp .ne 7, 3) := by decide +kernel
theorem dX12_isOf_9 : decode cX12_isOf 9 = .ok (.iconst 1, 1) := by decide +kernel
theorem dX12_isOf_10 : decode cX12_isOf 10 = .ok (.goto 4, 3) := by decide +kernel
theorem dX12_isOf_13 : decode cX12_isOf 13 = .ok (.iconst 0, 1) := by decide +kernel
theorem dX12_isOf_14 : decode cX12_isOf 14 = .ok (.ireturn, 1) := by decide +kernel
theorem dX12_four_0 : decode cX12_four 0 = .ok (.bipush 24, 2) := by decide +kernel
theorem dX12_four_2 : decode cX12_four 2 = .ok (.istore_n 2, 1) := by decide +kernel
theorem dX12_four_3 : decode cX12_four 3 = .ok (.iload_n 2, 1) := by decide +kernel
theorem dX12_four_4 : decode cX12_four 4 = .ok (.ifCond .lt 32, 3) := by decide +kernel
theorem dX12_four_7 : decode cX12_four 7 = .ok (.aload_n 0, 1) := by decide +kernel
theorem dX12_four_8 : decode cX12_four 8 = .ok (.getfield 7, 3) := by decide +kernel
theorem dX12_four_11 : decode cX12_four 11 = .ok (.aload_n 0, 1) := by decide +kernel
theorem dX12_four_12 : decode cX12_four 12 = .ok (.getfield 86, 3) := by decide +kernel
theorem dX12_four_15 : decode cX12_four 15 = .ok (.iload_n 1, 1) := by decide +kernel
theorem dX12_four_16 : decode cX12_four 16 = .ok (.iload_n 2, 1) := by decide +kernel
theorem dX12_four_17 : decode cX12_four 17 = .ok (.ishr, 1) := by decide +kernel
theorem dX12_four_18 : decode cX12_four 18 = .ok (.i2b, 1) := by decide +kernel
theorem dX12_four_19 : decode cX12_four 19 = .ok (.bastore, 1) := by decide +kernel
theorem dX12_four_20 : decode cX12_four 20 = .ok (.aload_n 0, 1) := by decide +kernel
theorem dX12_four_21 : decode cX12_four 21 = .ok (.dup, 1) := by decide +kernel
theorem dX12_four_22 : decode cX12_four 22 = .ok (.getfield 86, 3) := by decide +kernel
theorem dX12_four_25 : decode cX12_four 25 = .ok (.iconst 1, 1) := by decide +kernel
theorem dX12_four_26 : decode cX12_four 26 = .ok (.iadd, 1) := by decide +kernel
theorem dX12_four_27 : decode cX12_four 27 = .ok (.putfield 86, 3) := by decide +kernel
theorem dX12_four_30 : decode cX12_four 30 = .ok (.iinc 2 (-8), 3) := by decide +kernel
theorem dX12_four_33 : decode cX12_four 33 = .ok (.goto (-30), 3) := by decide +kernel
theorem dX12_four_36 : decode cX12_four 36 = .ok (.return_, 1) := by decide +kernel
theorem dX12_feed_0 : decode cX12_feed 0 = .ok (.aload_n 0, 1) := by decide +kernel
theorem dX12_feed_1 : decode cX12_feed 1 = .ok (.getfield 86, 3) := by decide +kernel
theorem dX12_feed_4 : decode cX12_feed 4 = .ok (.bipush 20, 2) := by decide +kernel
theorem dX12_feed_6 : decode cX12_feed 6 = .ok (.iadd, 1) := by decide +kernel
theorem dX12_feed_7 : decode cX12_feed 7 = .ok (.sipush 400, 3) := by decide +kernel
theorem dX12_feed_10 : decode cX12_feed 10 = .ok (.if_icmp .le 5, 3) := by decide +kernel
theorem dX12_feed_13 : decode cX12_feed 13 = .ok (.iconst (-1), 1) := by decide +kernel
theorem dX12_feed_14 : decode cX12_feed 14 = .ok (.ireturn, 1) := by decide +kernel
theorem dX12_feed_15 : decode cX12_feed 15 = .ok (.aload_n 0, 1) := by decide +kernel
theorem dX12_feed_16 : decode cX12_feed 16 = .ok (.iload_n 1, 1) := by decide +kernel
theorem dX12_feed_17 : decode cX12_feed 17 = .ok (.invokevirtual 89, 3) := by decide +kernel
theorem dX12_feed_20 : decode cX12_feed 20 = .ok (.aload_n 0, 1) := by decide +kernel
theorem dX12_feed_21 : decode cX12_feed 21 = .ok (.iload_n 2, 1) := by decide +kernel
theorem dX12_feed_22 : decode cX12_feed 22 = .ok (.invokevirtual 89, 3) := by decide +kernel
theorem dX12_feed_25 : decode cX12_feed 25 = .ok (.aload_n 0, 1) := by decide +kernel
theorem dX12_feed_26 : decode cX12_feed 26 = .ok (.iload_n 3, 1) := by decide +kernel
theorem dX12_feed_27 : decode cX12_feed 27 = .ok (.invokevirtual 89, 3) := by decide +kernel
theorem dX12_feed_30 : decode cX12_feed 30 = .ok (.aload_n 0, 1) := by decide +kernel
theorem dX12_feed_31 : decode cX12_feed 31 = .ok (.iload 4, 2) := by decide +kernel
theorem dX12_feed_33 : decode cX12_feed 33 = .ok (.invokevirtual 89, 3) := by decide +kernel
theorem dX12_feed_36 : decode cX12_feed 36 = .ok (.aload_n 0, 1) := by decide +kernel
theorem dX12_feed_37 : decode cX12_feed 37 = .ok (.iload 5, 2) := by decide +kernel
theorem dX12_feed_39 : decode cX12_feed 39 = .ok (.invokevirtual 89, 3) := by decide +kernel
theorem dX12_feed_42 : decode cX12_feed 42 = .ok (.aload_n 0, 1) := by decide +kernel
theorem dX12_feed_43 : decode cX12_feed 43 = .ok (.getfield 86, 3) := by decide +kernel
theorem dX12_feed_46 : decode cX12_feed 46 = .ok (.ireturn, 1) := by decide +kernel
theorem dX12_end_0 : decode cX12_end 0 = .ok (.iload_n 1, 1) := by decide +kernel
theorem dX12_end_1 : decode cX12_end 1 = .ok (.ifCond .lt 11, 3) := by decide +kernel
theorem dX12_end_4 : decode cX12_end 4 = .ok (.iload_n 1, 1) := by decide +kernel
theorem dX12_end_5 : decode cX12_end 5 = .ok (.aload_n 0, 1) := by decide +kernel
theorem dX12_end_6 : decode cX12_end 6 = .ok (.getfield 86, 3) := by decide +kernel
theorem dX12_end_9 : decode cX12_end 9 = .ok (.if_icmp .le 5, 3) := by decide +kernel
theorem dX12_end_12 : decode cX12_end 12 = .ok (.iconst (-1), 1) := by decide +kernel
theorem dX12_end_13 : decode cX12_end 13 = .ok (.ireturn, 1) := by decide +kernel
theorem dX12_end_14 : decode cX12_end 14 = .ok (.aload_n 0, 1) := by decide +kernel
theorem dX12_end_15 : decode cX12_end 15 = .ok (.iload_n 1, 1) := by decide +kernel
theorem dX12_end_16 : decode cX12_end 16 = .ok (.putfield 86, 3) := by decide +kernel
theorem dX12_end_19 : decode cX12_end 19 = .ok (.iload_n 1, 1) := by decide +kernel
theorem dX12_end_20 : decode cX12_end 20 = .ok (.ireturn, 1) := by decide +kernel
theorem dX12_fails_0 : decode cX12_fails 0 = .ok (.aload_n 0, 1) := by decide +kernel
theorem dX12_fails_1 : decode cX12_fails 1 = .ok (.getfield 93, 3) := by decide +kernel
theorem dX12_fails_4 : decode cX12_fails 4 = .ok (.ifCond .ne 15, 3) := by decide +kernel
theorem dX12_fails_7 : decode cX12_fails 7 = .ok (.aload_n 0, 1) := by decide +kernel
theorem dX12_fails_8 : decode cX12_fails 8 = .ok (.iconst 1, 1) := by decide +kernel
theorem dX12_fails_9 : decode cX12_fails 9 = .ok (.bipush 8, 2) := by decide +kernel
theorem dX12_fails_11 : decode cX12_fails 11 = .ok (.iload_n 2, 1) := by decide +kernel
theorem dX12_fails_12 : decode cX12_fails 12 = .ok (.imul, 1) := by decide +kernel
theorem dX12_fails_13 : decode cX12_fails 13 = .ok (.iadd, 1) := by decide +kernel
theorem dX12_fails_14 : decode cX12_fails 14 = .ok (.iload_n 1, 1) := by decide +kernel
theorem dX12_fails_15 : decode cX12_fails 15 = .ok (.iadd, 1) := by decide +kernel
theorem dX12_fails_16 : decode cX12_fails 16 = .ok (.putfield 93, 3) := by decide +kernel
theorem dX12_fails_19 : decode cX12_fails 19 = .ok (.iconst 0, 1) := by decide +kernel
theorem dX12_fails_20 : decode cX12_fails 20 = .ok (.ireturn, 1) := by decide +kernel
theorem dX12_see_0 : decode cX12_see 0 = .ok (.aload_n 0, 1) := by decide +kernel
theorem dX12_see_1 : decode cX12_see 1 = .ok (.getfield 96, 3) := by decide +kernel
theorem dX12_see_4 : decode cX12_see 4 = .ok (.aload_n 0, 1) := by decide +kernel
theorem dX12_see_5 : decode cX12_see 5 = .ok (.getfield 86, 3) := by decide +kernel
theorem dX12_see_8 : decode cX12_see 8 = .ok (.if_icmp .ge 30, 3) := by decide +kernel
theorem dX12_see_11 : decode cX12_see 11 = .ok (.aload_n 0, 1) := by decide +kernel
theorem dX12_see_12 : decode cX12_see 12 = .ok (.getfield 7, 3) := by decide +kernel
theorem dX12_see_15 : decode cX12_see 15 = .ok (.aload_n 0, 1) := by decide +kernel
theorem dX12_see_16 : decode cX12_see 16 = .ok (.getfield 96, 3) := by decide +kernel
theorem dX12_see_19 : decode cX12_see 19 = .ok (.baload, 1) := by decide +kernel
theorem dX12_see_20 : decode cX12_see 20 = .ok (.bipush 32, 2) := by decide +kernel
theorem dX12_see_22 : decode cX12_see 22 = .ok (.if_icmp .ne 16, 3) := by decide +kernel
theorem dX12_see_25 : decode cX12_see 25 = .ok (.aload_n 0, 1) := by decide +kernel
theorem dX12_see_26 : decode cX12_see 26 = .ok (.dup, 1) := by decide +kernel
theorem dX12_see_27 : decode cX12_see 27 = .ok (.getfield 96, 3) := by decide +kernel
theorem dX12_see_30 : decode cX12_see 30 = .ok (.iconst 1, 1) := by decide +kernel
theorem dX12_see_31 : decode cX12_see 31 = .ok (.iadd, 1) := by decide +kernel
theorem dX12_see_32 : decode cX12_see 32 = .ok (.putfield 96, 3) := by decide +kernel
theorem dX12_see_35 : decode cX12_see 35 = .ok (.goto (-35), 3) := by decide +kernel
theorem dX12_see_38 : decode cX12_see 38 = .ok (.aload_n 0, 1) := by decide +kernel
theorem dX12_see_39 : decode cX12_see 39 = .ok (.getfield 96, 3) := by decide +kernel
theorem dX12_see_42 : decode cX12_see 42 = .ok (.aload_n 0, 1) := by decide +kernel
theorem dX12_see_43 : decode cX12_see 43 = .ok (.getfield 86, 3) := by decide +kernel
theorem dX12_see_46 : decode cX12_see 46 = .ok (.if_icmp .ge 19, 3) := by decide +kernel
theorem dX12_see_49 : decode cX12_see 49 = .ok (.aload_n 0, 1) := by decide +kernel
theorem dX12_see_50 : decode cX12_see 50 = .ok (.getfield 7, 3) := by decide +kernel
theorem dX12_see_53 : decode cX12_see 53 = .ok (.aload_n 0, 1) := by decide +kernel
theorem dX12_see_54 : decode cX12_see 54 = .ok (.getfield 96, 3) := by decide +kernel
theorem dX12_see_57 : decode cX12_see 57 = .ok (.baload, 1) := by decide +kernel
theorem dX12_see_58 : decode cX12_see 58 = .ok (.sipush 255, 3) := by decide +kernel
theorem dX12_see_61 : decode cX12_see 61 = .ok (.iand, 1) := by decide +kernel
theorem dX12_see_62 : decode cX12_see 62 = .ok (.goto 4, 3) := by decide +kernel
theorem dX12_see_65 : decode cX12_see 65 = .ok (.iconst (-1), 1) := by decide +kernel
theorem dX12_see_66 : decode cX12_see 66 = .ok (.ireturn, 1) := by decide +kernel
theorem dX12_isDigit_0 : decode cX12_isDigit 0 = .ok (.iload_n 1, 1) := by decide +kernel
theorem dX12_isDigit_1 : decode cX12_isDigit 1 = .ok (.aload_n 0, 1) := by decide +kernel
theorem dX12_isDigit_2 : decode cX12_isDigit 2 = .ok (.getfield 86, 3) := by decide +kernel
theorem dX12_isDigit_5 : decode cX12_isDigit 5 = .ok (.if_icmp .ge 29, 3) := by decide +kernel
theorem dX12_isDigit_8 : decode cX12_isDigit 8 = .ok (.aload_n 0, 1) := by decide +kernel
theorem dX12_isDigit_9 : decode cX12_isDigit 9 = .ok (.getfield 7, 3) := by decide +kernel
theorem dX12_isDigit_12 : decode cX12_isDigit 12 = .ok (.iload_n 1, 1) := by decide +kernel
theorem dX12_isDigit_13 : decode cX12_isDigit 13 = .ok (.baload, 1) := by decide +kernel
theorem dX12_isDigit_14 : decode cX12_isDigit 14 = .ok (.bipush 48, 2) := by decide +kernel
theorem dX12_isDigit_16 : decode cX12_isDigit 16 = .ok (.if_icmp .lt 18, 3) := by decide +kernel
theorem dX12_isDigit_19 : decode cX12_isDigit 19 = .ok (.aload_n 0, 1) := by decide +kernel
theorem dX12_isDigit_20 : decode cX12_isDigit 20 = .ok (.getfield 7, 3) := by decide +kernel
theorem dX12_isDigit_23 : decode cX12_isDigit 23 = .ok (.iload_n 1, 1) := by decide +kernel
theorem dX12_isDigit_24 : decode cX12_isDigit 24 = .ok (.baload, 1) := by decide +kernel
theorem dX12_isDigit_25 : decode cX12_isDigit 25 = .ok (.bipush 57, 2) := by decide +kernel
theorem dX12_isDigit_27 : decode cX12_isDigit 27 = .ok (.if_icmp .gt 7, 3) := by decide +kernel
theorem dX12_isDigit_30 : decode cX12_isDigit 30 = .ok (.iconst 1, 1) := by decide +kernel
theorem dX12_isDigit_31 : decode cX12_isDigit 31 = .ok (.goto 4, 3) := by decide +kernel
theorem dX12_isDigit_34 : decode cX12_isDigit 34 = .ok (.iconst 0, 1) := by decide +kernel
theorem dX12_isDigit_35 : decode cX12_isDigit 35 = .ok (.ireturn, 1) := by decide +kernel
theorem dX12_isLetter_0 : decode cX12_isLetter 0 = .ok (.iload_n 1, 1) := by decide +kernel
theorem dX12_isLetter_1 : decode cX12_isLetter 1 = .ok (.aload_n 0, 1) := by decide +kernel
theorem dX12_isLetter_2 : decode cX12_isLetter 2 = .ok (.getfield 86, 3) := by decide +kernel
theorem dX12_isLetter_5 : decode cX12_isLetter 5 = .ok (.if_icmp .ge 29, 3) := by decide +kernel
theorem dX12_isLetter_8 : decode cX12_isLetter 8 = .ok (.aload_n 0, 1) := by decide +kernel
theorem dX12_isLetter_9 : decode cX12_isLetter 9 = .ok (.getfield 7, 3) := by decide +kernel
theorem dX12_isLetter_12 : decode cX12_isLetter 12 = .ok (.iload_n 1, 1) := by decide +kernel
theorem dX12_isLetter_13 : decode cX12_isLetter 13 = .ok (.baload, 1) := by decide +kernel
theorem dX12_isLetter_14 : decode cX12_isLetter 14 = .ok (.bipush 97, 2) := by decide +kernel
theorem dX12_isLetter_16 : decode cX12_isLetter 16 = .ok (.if_icmp .lt 18, 3) := by decide +kernel
theorem dX12_isLetter_19 : decode cX12_isLetter 19 = .ok (.aload_n 0, 1) := by decide +kernel
theorem dX12_isLetter_20 : decode cX12_isLetter 20 = .ok (.getfield 7, 3) := by decide +kernel
theorem dX12_isLetter_23 : decode cX12_isLetter 23 = .ok (.iload_n 1, 1) := by decide +kernel
theorem dX12_isLetter_24 : decode cX12_isLetter 24 = .ok (.baload, 1) := by decide +kernel
theorem dX12_isLetter_25 : decode cX12_isLetter 25 = .ok (.bipush 122, 2) := by decide +kernel
theorem dX12_isLetter_27 : decode cX12_isLetter 27 = .ok (.if_icmp .gt 7, 3) := by decide +kernel
theorem dX12_isLetter_30 : decode cX12_isLetter 30 = .ok (.iconst 1, 1) := by decide +kernel
theorem dX12_isLetter_31 : decode cX12_isLetter 31 = .ok (.goto 4, 3) := by decide +kernel
theorem dX12_isLetter_34 : decode cX12_isLetter 34 = .ok (.iconst 0, 1) := by decide +kernel
theorem dX12_isLetter_35 : decode cX12_isLetter 35 = .ok (.ireturn, 1) := by decide +kernel
theorem dX12_isWord_0 : decode cX12_isWord 0 = .ok (.aload_n 0, 1) := by decide +kernel
theorem dX12_isWord_1 : decode cX12_isWord 1 = .ok (.invokevirtual 99, 3) := by decide +kernel
theorem dX12_isWord_4 : decode cX12_isWord 4 = .ok (.pop, 1) := by decide +kernel
theorem dX12_isWord_5 : decode cX12_isWord 5 = .ok (.lconst 0, 1) := by decide +kernel
theorem dX12_isWord_6 : decode cX12_isWord 6 = .ok (.lstore_n 3, 1) := by decide +kernel
theorem dX12_isWord_7 : decode cX12_isWord 7 = .ok (.iconst 0, 1) := by decide +kernel
theorem dX12_isWord_8 : decode cX12_isWord 8 = .ok (.istore 5, 2) := by decide +kernel
theorem dX12_isWord_10 : decode cX12_isWord 10 = .ok (.aload_n 0, 1) := by decide +kernel
theorem dX12_isWord_11 : decode cX12_isWord 11 = .ok (.aload_n 0, 1) := by decide +kernel
theorem dX12_isWord_12 : decode cX12_isWord 12 = .ok (.getfield 96, 3) := by decide +kernel
theorem dX12_isWord_15 : decode cX12_isWord 15 = .ok (.iload 5, 2) := by decide +kernel
theorem dX12_isWord_17 : decode cX12_isWord 17 = .ok (.iadd, 1) := by decide +kernel
theorem dX12_isWord_18 : decode cX12_isWord 18 = .ok (.invokevirtual 103, 3) := by decide +kernel
theorem dX12_isWord_21 : decode cX12_isWord 21 = .ok (.ifCond .eq 35, 3) := by decide +kernel
theorem dX12_isWord_24 : decode cX12_isWord 24 = .ok (.iload 5, 2) := by decide +kernel
theorem dX12_isWord_26 : decode cX12_isWord 26 = .ok (.bipush 8, 2) := by decide +kernel
theorem dX12_isWord_28 : decode cX12_isWord 28 = .ok (.if_icmp .ge 22, 3) := by decide +kernel
theorem dX12_isWord_31 : decode cX12_isWord 31 = .ok (.lload_n 3, 1) := by decide +kernel
theorem dX12_isWord_32 : decode cX12_isWord 32 = .ok (.bipush 8, 2) := by decide +kernel
theorem dX12_isWord_34 : decode cX12_isWord 34 = .ok (.lshl, 1) := by decide +kernel
theorem dX12_isWord_35 : decode cX12_isWord 35 = .ok (.aload_n 0, 1) := by decide +kernel
theorem dX12_isWord_36 : decode cX12_isWord 36 = .ok (.getfield 7, 3) := by decide +kernel
theorem dX12_isWord_39 : decode cX12_isWord 39 = .ok (.aload_n 0, 1) := by decide +kernel
theorem dX12_isWord_40 : decode cX12_isWord 40 = .ok (.getfield 96, 3) := by decide +kernel
theorem dX12_isWord_43 : decode cX12_isWord 43 = .ok (.iload 5, 2) := by decide +kernel
theorem dX12_isWord_45 : decode cX12_isWord 45 = .ok (.iadd, 1) := by decide +kernel
theorem dX12_isWord_46 : decode cX12_isWord 46 = .ok (.baload, 1) := by decide +kernel
theorem dX12_isWord_47 : decode cX12_isWord 47 = .ok (.i2l, 1) := by decide +kernel
theorem dX12_isWord_48 : decode cX12_isWord 48 = .ok (.lor, 1) := by decide +kernel
theorem dX12_isWord_49 : decode cX12_isWord 49 = .ok (.lstore_n 3, 1) := by decide +kernel
theorem dX12_isWord_50 : decode cX12_isWord 50 = .ok (.iinc 5 1, 3) := by decide +kernel
theorem dX12_isWord_53 : decode cX12_isWord 53 = .ok (.goto (-43), 3) := by decide +kernel
theorem dX12_isWord_56 : decode cX12_isWord 56 = .ok (.iload 5, 2) := by decide +kernel
theorem dX12_isWord_58 : decode cX12_isWord 58 = .ok (.ifCond .le 20, 3) := by decide +kernel
theorem dX12_isWord_61 : decode cX12_isWord 61 = .ok (.iload 5, 2) := by decide +kernel
theorem dX12_isWord_63 : decode cX12_isWord 63 = .ok (.bipush 9, 2) := by decide +kernel
theorem dX12_isWord_65 : decode cX12_isWord 65 = .ok (.if_icmp .ge 13, 3) := by decide +kernel
theorem dX12_isWord_68 : decode cX12_isWord 68 = .ok (.lload_n 3, 1) := by decide +kernel
theorem dX12_isWord_69 : decode cX12_isWord 69 = .ok (.lload_n 1, 1) := by decide +kernel
theorem dX12_isWord_70 : decode cX12_isWord 70 = .ok (.lcmp, 1) := by decide +kernel
theorem dX12_isWord_71 : decode cX12_isWord 71 = .ok (.ifCond .ne 7, 3) := by decide +kernel
theorem dX12_isWord_74 : decode cX12_isWord 74 = .ok (.iconst 1, 1) := by decide +kernel
theorem dX12_isWord_75 : decode cX12_isWord 75 = .ok (.goto 4, 3) := by decide +kernel
theorem dX12_isWord_78 : decode cX12_isWord 78 = .ok (.iconst 0, 1) := by decide +kernel
theorem dX12_isWord_79 : decode cX12_isWord 79 = .ok (.ireturn, 1) := by decide +kernel
theorem dX12_passWord_0 : decode cX12_passWord 0 = .ok (.aload_n 0, 1) := by decide +kernel
theorem dX12_passWord_1 : decode cX12_passWord 1 = .ok (.aload_n 0, 1) := by decide +kernel
theorem dX12_passWord_2 : decode cX12_passWord 2 = .ok (.getfield 96, 3) := by decide +kernel
theorem dX12_passWord_5 : decode cX12_passWord 5 = .ok (.invokevirtual 103, 3) := by decide +kernel
theorem dX12_passWord_8 : decode cX12_passWord 8 = .ok (.ifCond .eq 16, 3) := by decide +kernel
theorem dX12_passWord_11 : decode cX12_passWord 11 = .ok (.aload_n 0, 1) := by decide +kernel
theorem dX12_passWord_12 : decode cX12_passWord 12 = .ok (.dup, 1) := by decide +kernel
theorem dX12_passWord_13 : decode cX12_passWord 13 = .ok (.getfield 96, 3) := by decide +kernel
theorem dX12_passWord_16 : decode cX12_passWord 16 = .ok (.iconst 1, 1) := by decide +kernel
theorem dX12_passWord_17 : decode cX12_passWord 17 = .ok (.iadd, 1) := by decide +kernel
theorem dX12_passWord_18 : decode cX12_passWord 18 = .ok (.putfield 96, 3) := by decide +kernel
theorem dX12_passWord_21 : decode cX12_passWord 21 = .ok (.goto (-21), 3) := by decide +kernel
theorem dX12_passWord_24 : decode cX12_passWord 24 = .ok (.return_, 1) := by decide +kernel
theorem dX12_takesWord_0 : decode cX12_takesWord 0 = .ok (.aload_n 0, 1) := by decide +kernel
theorem dX12_takesWord_1 : decode cX12_takesWord 1 = .ok (.lload_n 1, 1) := by decide +kernel
theorem dX12_takesWord_2 : decode cX12_takesWord 2 = .ok (.invokevirtual 107, 3) := by decide +kernel
theorem dX12_takesWord_5 : decode cX12_takesWord 5 = .ok (.ifCond .ne 5, 3) := by decide +kernel
theorem dX12_takesWord_8 : decode cX12_takesWord 8 = .ok (.iconst 0, 1) := by decide +kernel
theorem dX12_takesWord_9 : decode cX12_takesWord 9 = .ok (.ireturn, 1) := by decide +kernel
theorem dX12_takesWord_10 : decode cX12_takesWord 10 = .ok (.aload_n 0, 1) := by decide +kernel
theorem dX12_takesWord_11 : decode cX12_takesWord 11 = .ok (.invokevirtual 111, 3) := by decide +kernel
theorem dX12_takesWord_14 : decode cX12_takesWord 14 = .ok (.iconst 1, 1) := by decide +kernel
theorem dX12_takesWord_15 : decode cX12_takesWord 15 = .ok (.ireturn, 1) := by decide +kernel
theorem dX12_numberHere_0 : decode cX12_numberHere 0 = .ok (.aload_n 0, 1) := by decide +kernel
theorem dX12_numberHere_1 : decode cX12_numberHere 1 = .ok (.invokevirtual 99, 3) := by decide +kernel
theorem dX12_numberHere_4 : decode cX12_numberHere 4 = .ok (.pop, 1) := by decide +kernel
theorem dX12_numberHere_5 : decode cX12_numberHere 5 = .ok (.aload_n 0, 1) := by decide +kernel
theorem dX12_numberHere_6 : decode cX12_numberHere 6 = .ok (.aload_n 0, 1) := by decide +kernel
theorem dX12_numberHere_7 : decode cX12_numberHere 7 = .ok (.getfield 96, 3) := by decide +kernel
theorem dX12_numberHere_10 : decode cX12_numberHere 10 = .ok (.invokevirtual 114, 3) := by decide +kernel
theorem dX12_numberHere_13 : decode cX12_numberHere 13 = .ok (.ifCond .ne 13, 3) := by decide +kernel
theorem dX12_numberHere_16 : decode cX12_numberHere 16 = .ok (.aload_n 0, 1) := by decide +kernel
theorem dX12_numberHere_17 : decode cX12_numberHere 17 = .ok (.iconst 0, 1) := by decide +kernel
theorem dX12_numberHere_18 : decode cX12_numberHere 18 = .ok (.aload_n 0, 1) := by decide +kernel
theorem dX12_numberHere_19 : decode cX12_numberHere 19 = .ok (.getfield 96, 3) := by decide +kernel
theorem dX12_numberHere_22 : decode cX12_numberHere 22 = .ok (.invokevirtual 117, 3) := by decide +kernel
theorem dX12_numberHere_25 : decode cX12_numberHere 25 = .ok (.ireturn, 1) := by decide +kernel
theorem dX12_numberHere_26 : decode cX12_numberHere 26 = .ok (.aload_n 0, 1) := by decide +kernel
theorem dX12_numberHere_27 : decode cX12_numberHere 27 = .ok (.getfield 96, 3) := by decide +kernel
theorem dX12_numberHere_30 : decode cX12_numberHere 30 = .ok (.istore_n 3, 1) := by decide +kernel
theorem dX12_numberHere_31 : decode cX12_numberHere 31 = .ok (.iconst 0, 1) := by decide +kernel
theorem dX12_numberHere_32 : decode cX12_numberHere 32 = .ok (.istore 4, 2) := by decide +kernel
theorem dX12_numberHere_34 : decode cX12_numberHere 34 = .ok (.aload_n 0, 1) := by decide +kernel
theorem dX12_numberHere_35 : decode cX12_numberHere 35 = .ok (.aload_n 0, 1) := by decide +kernel
theorem dX12_numberHere_36 : decode cX12_numberHere 36 = .ok (.getfield 96, 3) := by decide +kernel
theorem dX12_numberHere_39 : decode cX12_numberHere 39 = .ok (.invokevirtual 114, 3) := by decide +kernel
theorem dX12_numberHere_42 : decode cX12_numberHere 42 = .ok (.ifCond .eq 46, 3) := by decide +kernel
theorem dX12_numberHere_45 : decode cX12_numberHere 45 = .ok (.aload_n 0, 1) := by decide +kernel
theorem dX12_numberHere_46 : decode cX12_numberHere 46 = .ok (.getfield 96, 3) := by decide +kernel
theorem dX12_numberHere_49 : decode cX12_numberHere 49 = .ok (.iload_n 3, 1) := by decide +kernel
theorem dX12_numberHere_50 : decode cX12_numberHere 50 = .ok (.isub, 1) := by decide +kernel
theorem dX12_numberHere_51 : decode cX12_numberHere 51 = .ok (.iconst 5, 1) := by decide +kernel
theorem dX12_numberHere_52 : decode cX12_numberHere 52 = .ok (.if_icmp .ge 23, 3) := by decide +kernel
theorem dX12_numberHere_55 : decode cX12_numberHere 55 = .ok (.bipush 10, 2) := by decide +kernel
theorem dX12_numberHere_57 : decode cX12_numberHere 57 = .ok (.iload 4, 2) := by decide +kernel
theorem dX12_numberHere_59 : decode cX12_numberHere 59 = .ok (.imul, 1) := by decide +kernel
theorem dX12_numberHere_60 : decode cX12_numberHere 60 = .ok (.aload_n 0, 1) := by decide +kernel
theorem dX12_numberHere_61 : decode cX12_numberHere 61 = .ok (.getfield 7, 3) := by decide +kernel
theorem dX12_numberHere_64 : decode cX12_numberHere 64 = .ok (.aload_n 0, 1) := by decide +kernel
theorem dX12_numberHere_65 : decode cX12_numberHere 65 = .ok (.getfield 96, 3) := by decide +kernel
theorem dX12_numberHere_68 : decode cX12_numberHere 68 = .ok (.baload, 1) := by decide +kernel
theorem dX12_numberHere_69 : decode cX12_numberHere 69 = .ok (.iadd, 1) := by decide +kernel
theorem dX12_numberHere_70 : decode cX12_numberHere 70 = .ok (.bipush 48, 2) := by decide +kernel
theorem dX12_numberHere_72 : decode cX12_numberHere 72 = .ok (.isub, 1) := by decide +kernel
theorem dX12_numberHere_73 : decode cX12_numberHere 73 = .ok (.istore 4, 2) := by decide +kernel
theorem dX12_numberHere_75 : decode cX12_numberHere 75 = .ok (.aload_n 0, 1) := by decide +kernel
theorem dX12_numberHere_76 : decode cX12_numberHere 76 = .ok (.dup, 1) := by decide +kernel
theorem dX12_numberHere_77 : decode cX12_numberHere 77 = .ok (.getfield 96, 3) := by decide +kernel
theorem dX12_numberHere_80 : decode cX12_numberHere 80 = .ok (.iconst 1, 1) := by decide +kernel
theorem dX12_numberHere_81 : decode cX12_numberHere 81 = .ok (.iadd, 1) := by decide +kernel
theorem dX12_numberHere_82 : decode cX12_numberHere 82 = .ok (.putfield 96, 3) := by decide +kernel
theorem dX12_numberHere_85 : decode cX12_numberHere 85 = .ok (.goto (-51), 3) := by decide +kernel
theorem dX12_numberHere_88 : decode cX12_numberHere 88 = .ok (.aload_n 0, 1) := by decide +kernel
theorem dX12_numberHere_89 : decode cX12_numberHere 89 = .ok (.iload 4, 2) := by decide +kernel
theorem dX12_numberHere_91 : decode cX12_numberHere 91 = .ok (.putfield 121, 3) := by decide +kernel
theorem dX12_numberHere_94 : decode cX12_numberHere 94 = .ok (.aload_n 0, 1) := by decide +kernel
theorem dX12_numberHere_95 : decode cX12_numberHere 95 = .ok (.getfield 96, 3) := by decide +kernel
theorem dX12_numberHere_98 : decode cX12_numberHere 98 = .ok (.iload_n 3, 1) := by decide +kernel
theorem dX12_numberHere_99 : decode cX12_numberHere 99 = .ok (.isub, 1) := by decide +kernel
theorem dX12_numberHere_100 : decode cX12_numberHere 100 = .ok (.iconst 5, 1) := by decide +kernel
theorem dX12_numberHere_101 : decode cX12_numberHere 101 = .ok (.if_icmp .gt 16, 3) := by decide +kernel
theorem dX12_numberHere_104 : decode cX12_numberHere 104 = .ok (.iload 4, 2) := by decide +kernel
theorem dX12_numberHere_106 : decode cX12_numberHere 106 = .ok (.i2l, 1) := by decide +kernel
theorem dX12_numberHere_107 : decode cX12_numberHere 107 = .ok (.iload_n 1, 1) := by decide +kernel
theorem dX12_numberHere_108 : decode cX12_numberHere 108 = .ok (.i2l, 1) := by decide +kernel
theorem dX12_numberHere_109 : decode cX12_numberHere 109 = .ok (.iload_n 2, 1) := by decide +kernel
theorem dX12_numberHere_110 : decode cX12_numberHere 110 = .ok (.i2l, 1) := by decide +kernel
theorem dX12_numberHere_111 : decode cX12_numberHere 111 = .ok (.invokestatic 124, 3) := by decide +kernel
theorem dX12_numberHere_114 : decode cX12_numberHere 114 = .ok (.ifCond .ne 12, 3) := by decide +kernel
theorem dX12_numberHere_117 : decode cX12_numberHere 117 = .ok (.aload_n 0, 1) := by decide +kernel
theorem dX12_numberHere_118 : decode cX12_numberHere 118 = .ok (.iconst 1, 1) := by decide +kernel
theorem dX12_numberHere_119 : decode cX12_numberHere 119 = .ok (.iload_n 3, 1) := by decide +kernel
theorem dX12_numberHere_120 : decode cX12_numberHere 120 = .ok (.invokevirtual 117, 3) := by decide +kernel
theorem dX12_numberHere_123 : decode cX12_numberHere 123 = .ok (.ifCond .eq 7, 3) := by decide +kernel
theorem dX12_numberHere_126 : decode cX12_numberHere 126 = .ok (.iconst 1, 1) := by decide +kernel
theorem dX12_numberHere_127 : decode cX12_numberHere 127 = .ok (.goto 4, 3) := by decide +kernel
theorem dX12_numberHere_130 : decode cX12_numberHere 130 = .ok (.iconst 0, 1) := by decide +kernel
theorem dX12_numberHere_131 : decode cX12_numberHere 131 = .ok (.ireturn, 1) := by decide +kernel
theorem dX12_wordHere_0 : decode cX12_wordHere 0 = .ok (.aload_n 0, 1) := by decide +kernel
theorem dX12_wordHere_1 : decode cX12_wordHere 1 = .ok (.ldc2_w 128, 3) := by decide +kernel
theorem dX12_wordHere_4 : decode cX12_wordHere 4 = .ok (.invokevirtual 107, 3) := by decide +kernel
theorem dX12_wordHere_7 : decode cX12_wordHere 7 = .ok (.ifCond .eq 5, 3) := by decide +kernel
theorem dX12_wordHere_10 : decode cX12_wordHere 10 = .ok (.iconst 0, 1) := by decide +kernel
theorem dX12_wordHere_11 : decode cX12_wordHere 11 = .ok (.ireturn, 1) := by decide +kernel
theorem dX12_wordHere_12 : decode cX12_wordHere 12 = .ok (.aload_n 0, 1) := by decide +kernel
theorem dX12_wordHere_13 : decode cX12_wordHere 13 = .ok (.ldc2_w 130, 3) := by decide +kernel
theorem dX12_wordHere_16 : decode cX12_wordHere 16 = .ok (.invokevirtual 107, 3) := by decide +kernel
theorem dX12_wordHere_19 : decode cX12_wordHere 19 = .ok (.ifCond .eq 5, 3) := by decide +kernel
theorem dX12_wordHere_22 : decode cX12_wordHere 22 = .ok (.iconst 1, 1) := by decide +kernel
theorem dX12_wordHere_23 : decode cX12_wordHere 23 = .ok (.ireturn, 1) := by decide +kernel
theorem dX12_wordHere_24 : decode cX12_wordHere 24 = .ok (.aload_n 0, 1) := by decide +kernel
theorem dX12_wordHere_25 : decode cX12_wordHere 25 = .ok (.ldc2_w 132, 3) := by decide +kernel
theorem dX12_wordHere_28 : decode cX12_wordHere 28 = .ok (.invokevirtual 107, 3) := by decide +kernel
theorem dX12_wordHere_31 : decode cX12_wordHere 31 = .ok (.ifCond .eq 5, 3) := by decide +kernel
theorem dX12_wordHere_34 : decode cX12_wordHere 34 = .ok (.iconst 2, 1) := by decide +kernel
theorem dX12_wordHere_35 : decode cX12_wordHere 35 = .ok (.ireturn, 1) := by decide +kernel
theorem dX12_wordHere_36 : decode cX12_wordHere 36 = .ok (.aload_n 0, 1) := by decide +kernel
theorem dX12_wordHere_37 : decode cX12_wordHere 37 = .ok (.ldc2_w 134, 3) := by decide +kernel
theorem dX12_wordHere_40 : decode cX12_wordHere 40 = .ok (.invokevirtual 107, 3) := by decide +kernel
theorem dX12_wordHere_43 : decode cX12_wordHere 43 = .ok (.ifCond .eq 5, 3) := by decide +kernel
theorem dX12_wordHere_46 : decode cX12_wordHere 46 = .ok (.iconst 3, 1) := by decide +kernel
theorem dX12_wordHere_47 : decode cX12_wordHere 47 = .ok (.ireturn, 1) := by decide +kernel
theorem dX12_wordHere_48 : decode cX12_wordHere 48 = .ok (.aload_n 0, 1) := by decide +kernel
theorem dX12_wordHere_49 : decode cX12_wordHere 49 = .ok (.ldc2_w 136, 3) := by decide +kernel
theorem dX12_wordHere_52 : decode cX12_wordHere 52 = .ok (.invokevirtual 107, 3) := by decide +kernel
theorem dX12_wordHere_55 : decode cX12_wordHere 55 = .ok (.ifCond .eq 5, 3) := by decide +kernel
theorem dX12_wordHere_58 : decode cX12_wordHere 58 = .ok (.iconst 4, 1) := by decide +kernel
theorem dX12_wordHere_59 : decode cX12_wordHere 59 = .ok (.ireturn, 1) := by decide +kernel
theorem dX12_wordHere_60 : decode cX12_wordHere 60 = .ok (.aload_n 0, 1) := by decide +kernel
theorem dX12_wordHere_61 : decode cX12_wordHere 61 = .ok (.ldc2_w 138, 3) := by decide +kernel
theorem dX12_wordHere_64 : decode cX12_wordHere 64 = .ok (.invokevirtual 107, 3) := by decide +kernel
theorem dX12_wordHere_67 : decode cX12_wordHere 67 = .ok (.ifCond .eq 5, 3) := by decide +kernel
theorem dX12_wordHere_70 : decode cX12_wordHere 70 = .ok (.iconst 5, 1) := by decide +kernel
theorem dX12_wordHere_71 : decode cX12_wordHere 71 = .ok (.ireturn, 1) := by decide +kernel
theorem dX12_wordHere_72 : decode cX12_wordHere 72 = .ok (.aload_n 0, 1) := by decide +kernel
theorem dX12_wordHere_73 : decode cX12_wordHere 73 = .ok (.ldc2_w 140, 3) := by decide +kernel
theorem dX12_wordHere_76 : decode cX12_wordHere 76 = .ok (.invokevirtual 107, 3) := by decide +kernel
theorem dX12_wordHere_79 : decode cX12_wordHere 79 = .ok (.ifCond .eq 6, 3) := by decide +kernel
theorem dX12_wordHere_82 : decode cX12_wordHere 82 = .ok (.bipush 6, 2) := by decide +kernel
theorem dX12_wordHere_84 : decode cX12_wordHere 84 = .ok (.ireturn, 1) := by decide +kernel
theorem dX12_wordHere_85 : decode cX12_wordHere 85 = .ok (.aload_n 0, 1) := by decide +kernel
theorem dX12_wordHere_86 : decode cX12_wordHere 86 = .ok (.ldc2_w 142, 3) := by decide +kernel
theorem dX12_wordHere_89 : decode cX12_wordHere 89 = .ok (.invokevirtual 107, 3) := by decide +kernel
theorem dX12_wordHere_92 : decode cX12_wordHere 92 = .ok (.ifCond .eq 6, 3) := by decide +kernel
theorem dX12_wordHere_95 : decode cX12_wordHere 95 = .ok (.bipush 7, 2) := by decide +kernel
theorem dX12_wordHere_97 : decode cX12_wordHere 97 = .ok (.ireturn, 1) := by decide +kernel
theorem dX12_wordHere_98 : decode cX12_wordHere 98 = .ok (.aload_n 0, 1) := by decide +kernel
theorem dX12_wordHere_99 : decode cX12_wordHere 99 = .ok (.ldc2_w 144, 3) := by decide +kernel
theorem dX12_wordHere_102 : decode cX12_wordHere 102 = .ok (.invokevirtual 107, 3) := by decide +kernel
theorem dX12_wordHere_105 : decode cX12_wordHere 105 = .ok (.ifCond .eq 6, 3) := by decide +kernel
theorem dX12_wordHere_108 : decode cX12_wordHere 108 = .ok (.bipush 8, 2) := by decide +kernel
theorem dX12_wordHere_110 : decode cX12_wordHere 110 = .ok (.ireturn, 1) := by decide +kernel
theorem dX12_wordHere_111 : decode cX12_wordHere 111 = .ok (.aload_n 0, 1) := by decide +kernel
theorem dX12_wordHere_112 : decode cX12_wordHere 112 = .ok (.ldc2_w 146, 3) := by decide +kernel
theorem dX12_wordHere_115 : decode cX12_wordHere 115 = .ok (.invokevirtual 107, 3) := by decide +kernel
theorem dX12_wordHere_118 : decode cX12_wordHere 118 = .ok (.ifCond .eq 6, 3) := by decide +kernel
theorem dX12_wordHere_121 : decode cX12_wordHere 121 = .ok (.bipush 9, 2) := by decide +kernel
theorem dX12_wordHere_123 : decode cX12_wordHere 123 = .ok (.ireturn, 1) := by decide +kernel
theorem dX12_wordHere_124 : decode cX12_wordHere 124 = .ok (.aload_n 0, 1) := by decide +kernel
theorem dX12_wordHere_125 : decode cX12_wordHere 125 = .ok (.ldc2_w 148, 3) := by decide +kernel
theorem dX12_wordHere_128 : decode cX12_wordHere 128 = .ok (.invokevirtual 107, 3) := by decide +kernel
theorem dX12_wordHere_131 : decode cX12_wordHere 131 = .ok (.ifCond .eq 6, 3) := by decide +kernel
theorem dX12_wordHere_134 : decode cX12_wordHere 134 = .ok (.bipush 10, 2) := by decide +kernel
theorem dX12_wordHere_136 : decode cX12_wordHere 136 = .ok (.ireturn, 1) := by decide +kernel
theorem dX12_wordHere_137 : decode cX12_wordHere 137 = .ok (.aload_n 0, 1) := by decide +kernel
theorem dX12_wordHere_138 : decode cX12_wordHere 138 = .ok (.ldc2_w 150, 3) := by decide +kernel
theorem dX12_wordHere_141 : decode cX12_wordHere 141 = .ok (.invokevirtual 107, 3) := by decide +kernel
theorem dX12_wordHere_144 : decode cX12_wordHere 144 = .ok (.ifCond .eq 8, 3) := by decide +kernel
theorem dX12_wordHere_147 : decode cX12_wordHere 147 = .ok (.bipush 11, 2) := by decide +kernel
theorem dX12_wordHere_149 : decode cX12_wordHere 149 = .ok (.goto 19, 3) := by decide +kernel
theorem dX12_wordHere_152 : decode cX12_wordHere 152 = .ok (.aload_n 0, 1) := by decide +kernel
theorem dX12_wordHere_153 : decode cX12_wordHere 153 = .ok (.ldc2_w 152, 3) := by decide +kernel
theorem dX12_wordHere_156 : decode cX12_wordHere 156 = .ok (.invokevirtual 107, 3) := by decide +kernel
theorem dX12_wordHere_159 : decode cX12_wordHere 159 = .ok (.ifCond .eq 8, 3) := by decide +kernel
theorem dX12_wordHere_162 : decode cX12_wordHere 162 = .ok (.bipush 12, 2) := by decide +kernel
theorem dX12_wordHere_164 : decode cX12_wordHere 164 = .ok (.goto 4, 3) := by decide +kernel
theorem dX12_wordHere_167 : decode cX12_wordHere 167 = .ok (.iconst (-1), 1) := by decide +kernel
theorem dX12_wordHere_168 : decode cX12_wordHere 168 = .ok (.ireturn, 1) := by decide +kernel
theorem dX12_puts_0 : decode cX12_puts 0 = .ok (.aload_n 0, 1) := by decide +kernel
theorem dX12_puts_1 : decode cX12_puts 1 = .ok (.getfield 13, 3) := by decide +kernel
theorem dX12_puts_4 : decode cX12_puts 4 = .ok (.sipush 400, 3) := by decide +kernel
theorem dX12_puts_7 : decode cX12_puts 7 = .ok (.aload_n 0, 1) := by decide +kernel
theorem dX12_puts_8 : decode cX12_puts 8 = .ok (.getfield 154, 3) := by decide +kernel
theorem dX12_puts_11 : decode cX12_puts 11 = .ok (.imul, 1) := by decide +kernel
theorem dX12_puts_12 : decode cX12_puts 12 = .ok (.aload_n 0, 1) := by decide +kernel
theorem dX12_puts_13 : decode cX12_puts 13 = .ok (.getfield 17, 3) := by decide +kernel
theorem dX12_puts_16 : decode cX12_puts 16 = .ok (.aload_n 0, 1) := by decide +kernel
theorem dX12_puts_17 : decode cX12_puts 17 = .ok (.getfield 154, 3) := by decide +kernel
theorem dX12_puts_20 : decode cX12_puts 20 = .ok (.iaload, 1) := by decide +kernel
theorem dX12_puts_21 : decode cX12_puts 21 = .ok (.iadd, 1) := by decide +kernel
theorem dX12_puts_22 : decode cX12_puts 22 = .ok (.iload_n 1, 1) := by decide +kernel
theorem dX12_puts_23 : decode cX12_puts 23 = .ok (.bipush 16, 2) := by decide +kernel
theorem dX12_puts_25 : decode cX12_puts 25 = .ok (.iload_n 2, 1) := by decide +kernel
theorem dX12_puts_26 : decode cX12_puts 26 = .ok (.imul, 1) := by decide +kernel
theorem dX12_puts_27 : decode cX12_puts 27 = .ok (.iadd, 1) := by decide +kernel
theorem dX12_puts_28 : decode cX12_puts 28 = .ok (.iastore, 1) := by decide +kernel
theorem dX12_puts_29 : decode cX12_puts 29 = .ok (.aload_n 0, 1) := by decide +kernel
theorem dX12_puts_30 : decode cX12_puts 30 = .ok (.getfield 17, 3) := by decide +kernel
theorem dX12_puts_33 : decode cX12_puts 33 = .ok (.aload_n 0, 1) := by decide +kernel
theorem dX12_puts_34 : decode cX12_puts 34 = .ok (.getfield 154, 3) := by decide +kernel
theorem dX12_puts_37 : decode cX12_puts 37 = .ok (.dup2, 1) := by decide +kernel
theorem dX12_puts_38 : decode cX12_puts 38 = .ok (.iaload, 1) := by decide +kernel
theorem dX12_puts_39 : decode cX12_puts 39 = .ok (.iconst 1, 1) := by decide +kernel
theorem dX12_puts_40 : decode cX12_puts 40 = .ok (.iadd, 1) := by decide +kernel
theorem dX12_puts_41 : decode cX12_puts 41 = .ok (.iastore, 1) := by decide +kernel
theorem dX12_puts_42 : decode cX12_puts 42 = .ok (.return_, 1) := by decide +kernel
theorem dX12_makes_0 : decode cX12_makes 0 = .ok (.aload_n 0, 1) := by decide +kernel
theorem dX12_makes_1 : decode cX12_makes 1 = .ok (.getfield 157, 3) := by decide +kernel
theorem dX12_makes_4 : decode cX12_makes 4 = .ok (.bipush 60, 2) := by decide +kernel
theorem dX12_makes_6 : decode cX12_makes 6 = .ok (.if_icmp .ne 10, 3) := by decide +kernel
theorem dX12_makes_9 : decode cX12_makes 9 = .ok (.aload_n 0, 1) := by decide +kernel
theorem dX12_makes_10 : decode cX12_makes 10 = .ok (.iconst 3, 1) := by decide +kernel
theorem dX12_makes_11 : decode cX12_makes 11 = .ok (.iload_n 1, 1) := by decide +kernel
theorem dX12_makes_12 : decode cX12_makes 12 = .ok (.invokevirtual 117, 3) := by decide +kernel
theorem dX12_makes_15 : decode cX12_makes 15 = .ok (.ireturn, 1) := by decide +kernel
theorem dX12_makes_16 : decode cX12_makes 16 = .ok (.aload_n 0, 1) := by decide +kernel
theorem dX12_makes_17 : decode cX12_makes 17 = .ok (.dup, 1) := by decide +kernel
theorem dX12_makes_18 : decode cX12_makes 18 = .ok (.getfield 157, 3) := by decide +kernel
theorem dX12_makes_21 : decode cX12_makes 21 = .ok (.iconst 1, 1) := by decide +kernel
theorem dX12_makes_22 : decode cX12_makes 22 = .ok (.iadd, 1) := by decide +kernel
theorem dX12_makes_23 : decode cX12_makes 23 = .ok (.putfield 157, 3) := by decide +kernel
theorem dX12_makes_26 : decode cX12_makes 26 = .ok (.iconst 1, 1) := by decide +kernel
theorem dX12_makes_27 : decode cX12_makes 27 = .ok (.ireturn, 1) := by decide +kernel
theorem dX12_opens_0 : decode cX12_opens 0 = .ok (.aload_n 0, 1) := by decide +kernel
theorem dX12_opens_1 : decode cX12_opens 1 = .ok (.getfield 160, 3) := by decide +kernel
theorem dX12_opens_4 : decode cX12_opens 4 = .ok (.bipush 10, 2) := by decide +kernel
theorem dX12_opens_6 : decode cX12_opens 6 = .ok (.if_icmp .ne 13, 3) := by decide +kernel
theorem dX12_opens_9 : decode cX12_opens 9 = .ok (.aload_n 0, 1) := by decide +kernel
theorem dX12_opens_10 : decode cX12_opens 10 = .ok (.iconst 2, 1) := by decide +kernel
theorem dX12_opens_11 : decode cX12_opens 11 = .ok (.aload_n 0, 1) := by decide +kernel
theorem dX12_opens_12 : decode cX12_opens 12 = .ok (.getfield 96, 3) := by decide +kernel
theorem dX12_opens_15 : decode cX12_opens 15 = .ok (.invokevirtual 117, 3) := by decide +kernel
theorem dX12_opens_18 : decode cX12_opens 18 = .ok (.ireturn, 1) := by decide +kernel
theorem dX12_opens_19 : decode cX12_opens 19 = .ok (.aload_n 0, 1) := by decide +kernel
theorem dX12_opens_20 : decode cX12_opens 20 = .ok (.dup, 1) := by decide +kernel
theorem dX12_opens_21 : decode cX12_opens 21 = .ok (.getfield 160, 3) := by decide +kernel
theorem dX12_opens_24 : decode cX12_opens 24 = .ok (.iconst 1, 1) := by decide +kernel
theorem dX12_opens_25 : decode cX12_opens 25 = .ok (.iadd, 1) := by decide +kernel
theorem dX12_opens_26 : decode cX12_opens 26 = .ok (.putfield 160, 3) := by decide +kernel
theorem dX12_opens_29 : decode cX12_opens 29 = .ok (.aload_n 0, 1) := by decide +kernel
theorem dX12_opens_30 : decode cX12_opens 30 = .ok (.getfield 29, 3) := by decide +kernel
theorem dX12_opens_33 : decode cX12_opens 33 = .ok (.aload_n 0, 1) := by decide +kernel
theorem dX12_opens_34 : decode cX12_opens 34 = .ok (.getfield 163, 3) := by decide +kernel
theorem dX12_opens_37 : decode cX12_opens 37 = .ok (.iload_n 1, 1) := by decide +kernel
theorem dX12_opens_38 : decode cX12_opens 38 = .ok (.iastore, 1) := by decide +kernel
theorem dX12_opens_39 : decode cX12_opens 39 = .ok (.aload_n 0, 1) := by decide +kernel
theorem dX12_opens_40 : decode cX12_opens 40 = .ok (.dup, 1) := by decide +kernel
theorem dX12_opens_41 : decode cX12_opens 41 = .ok (.getfield 163, 3) := by decide +kernel
theorem dX12_opens_44 : decode cX12_opens 44 = .ok (.iconst 1, 1) := by decide +kernel
theorem dX12_opens_45 : decode cX12_opens 45 = .ok (.iadd, 1) := by decide +kernel
theorem dX12_opens_46 : decode cX12_opens 46 = .ok (.putfield 163, 3) := by decide +kernel
theorem dX12_opens_49 : decode cX12_opens 49 = .ok (.iconst 1, 1) := by decide +kernel
theorem dX12_opens_50 : decode cX12_opens 50 = .ok (.ireturn, 1) := by decide +kernel
theorem dX12_strength_0 : decode cX12_strength 0 = .ok (.iload_n 0, 1) := by decide +kernel
theorem dX12_strength_1 : decode cX12_strength 1 = .ok (.bipush 13, 2) := by decide +kernel
theorem dX12_strength_3 : decode cX12_strength 3 = .ok (.if_icmp .ne 7, 3) := by decide +kernel
theorem dX12_strength_6 : decode cX12_strength 6 = .ok (.iconst 1, 1) := by decide +kernel
theorem dX12_strength_7 : decode cX12_strength 7 = .ok (.goto 24, 3) := by decide +kernel
theorem dX12_strength_10 : decode cX12_strength 10 = .ok (.iload_n 0, 1) := by decide +kernel
theorem dX12_strength_11 : decode cX12_strength 11 = .ok (.bipush 12, 2) := by decide +kernel
theorem dX12_strength_13 : decode cX12_strength 13 = .ok (.if_icmp .ne 7, 3) := by decide +kernel
theorem dX12_strength_16 : decode cX12_strength 16 = .ok (.iconst 2, 1) := by decide +kernel
theorem dX12_strength_17 : decode cX12_strength 17 = .ok (.goto 14, 3) := by decide +kernel
theorem dX12_strength_20 : decode cX12_strength 20 = .ok (.iload_n 0, 1) := by decide +kernel
theorem dX12_strength_21 : decode cX12_strength 21 = .ok (.bipush 11, 2) := by decide +kernel
theorem dX12_strength_23 : decode cX12_strength 23 = .ok (.if_icmp .ne 7, 3) := by decide +kernel
theorem dX12_strength_26 : decode cX12_strength 26 = .ok (.iconst 3, 1) := by decide +kernel
theorem dX12_strength_27 : decode cX12_strength 27 = .ok (.goto 4, 3) := by decide +kernel
theorem dX12_strength_30 : decode cX12_strength 30 = .ok (.iconst 0, 1) := by decide +kernel
theorem dX12_strength_31 : decode cX12_strength 31 = .ok (.ireturn, 1) := by decide +kernel
theorem dX12_settles_0 : decode cX12_settles 0 = .ok (.aload_n 0, 1) := by decide +kernel
theorem dX12_settles_1 : decode cX12_settles 1 = .ok (.getfield 163, 3) := by decide +kernel
theorem dX12_settles_4 : decode cX12_settles 4 = .ok (.ifCond .le 72, 3) := by decide +kernel
theorem dX12_settles_7 : decode cX12_settles 7 = .ok (.aload_n 0, 1) := by decide +kernel
theorem dX12_settles_8 : decode cX12_settles 8 = .ok (.getfield 29, 3) := by decide +kernel
theorem dX12_settles_11 : decode cX12_settles 11 = .ok (.aload_n 0, 1) := by decide +kernel
theorem dX12_settles_12 : decode cX12_settles 12 = .ok (.getfield 163, 3) := by decide +kernel
theorem dX12_settles_15 : decode cX12_settles 15 = .ok (.iconst 1, 1) := by decide +kernel
theorem dX12_settles_16 : decode cX12_settles 16 = .ok (.isub, 1) := by decide +kernel
theorem dX12_settles_17 : decode cX12_settles 17 = .ok (.iaload, 1) := by decide +kernel
theorem dX12_settles_18 : decode cX12_settles 18 = .ok (.invokestatic 166, 3) := by decide +kernel
theorem dX12_settles_21 : decode cX12_settles 21 = .ok (.iload_n 1, 1) := by decide +kernel
theorem dX12_settles_22 : decode cX12_settles 22 = .ok (.if_icmp .lt 54, 3) := by decide +kernel
theorem dX12_settles_25 : decode cX12_settles 25 = .ok (.aload_n 0, 1) := by decide +kernel
theorem dX12_settles_26 : decode cX12_settles 26 = .ok (.dup, 1) := by decide +kernel
theorem dX12_settles_27 : decode cX12_settles 27 = .ok (.getfield 163, 3) := by decide +kernel
theorem dX12_settles_30 : decode cX12_settles 30 = .ok (.iconst 1, 1) := by decide +kernel
theorem dX12_settles_31 : decode cX12_settles 31 = .ok (.isub, 1) := by decide +kernel
theorem dX12_settles_32 : decode cX12_settles 32 = .ok (.putfield 163, 3) := by decide +kernel
theorem dX12_settles_35 : decode cX12_settles 35 = .ok (.aload_n 0, 1) := by decide +kernel
theorem dX12_settles_36 : decode cX12_settles 36 = .ok (.aload_n 0, 1) := by decide +kernel
theorem dX12_settles_37 : decode cX12_settles 37 = .ok (.getfield 29, 3) := by decide +kernel
theorem dX12_settles_40 : decode cX12_settles 40 = .ok (.aload_n 0, 1) := by decide +kernel
theorem dX12_settles_41 : decode cX12_settles 41 = .ok (.getfield 163, 3) := by decide +kernel
theorem dX12_settles_44 : decode cX12_settles 44 = .ok (.iaload, 1) := by decide +kernel
theorem dX12_settles_45 : decode cX12_settles 45 = .ok (.iconst 0, 1) := by decide +kernel
theorem dX12_settles_46 : decode cX12_settles 46 = .ok (.invokevirtual 170, 3) := by decide +kernel
theorem dX12_settles_49 : decode cX12_settles 49 = .ok (.aload_n 0, 1) := by decide +kernel
theorem dX12_settles_50 : decode cX12_settles 50 = .ok (.getfield 29, 3) := by decide +kernel
theorem dX12_settles_53 : decode cX12_settles 53 = .ok (.aload_n 0, 1) := by decide +kernel
theorem dX12_settles_54 : decode cX12_settles 54 = .ok (.getfield 163, 3) := by decide +kernel
theorem dX12_settles_57 : decode cX12_settles 57 = .ok (.iaload, 1) := by decide +kernel
theorem dX12_settles_58 : decode cX12_settles 58 = .ok (.bipush 11, 2) := by decide +kernel
theorem dX12_settles_60 : decode cX12_settles 60 = .ok (.if_icmp .ne (-60), 3) := by decide +kernel
theorem dX12_settles_63 : decode cX12_settles 63 = .ok (.aload_n 0, 1) := by decide +kernel
theorem dX12_settles_64 : decode cX12_settles 64 = .ok (.dup, 1) := by decide +kernel
theorem dX12_settles_65 : decode cX12_settles 65 = .ok (.getfield 160, 3) := by decide +kernel
theorem dX12_settles_68 : decode cX12_settles 68 = .ok (.iconst 1, 1) := by decide +kernel
theorem dX12_settles_69 : decode cX12_settles 69 = .ok (.isub, 1) := by decide +kernel
theorem dX12_settles_70 : decode cX12_settles 70 = .ok (.putfield 160, 3) := by decide +kernel
theorem dX12_settles_73 : decode cX12_settles 73 = .ok (.goto (-73), 3) := by decide +kernel
theorem dX12_settles_76 : decode cX12_settles 76 = .ok (.return_, 1) := by decide +kernel
theorem dX12_value_0 : decode cX12_value 0 = .ok (.aload_n 0, 1) := by decide +kernel
theorem dX12_value_1 : decode cX12_value 1 = .ok (.invokevirtual 99, 3) := by decide +kernel
theorem dX12_value_4 : decode cX12_value 4 = .ok (.pop, 1) := by decide +kernel
theorem dX12_value_5 : decode cX12_value 5 = .ok (.aload_n 0, 1) := by decide +kernel
theorem dX12_value_6 : decode cX12_value 6 = .ok (.getfield 96, 3) := by decide +kernel
theorem dX12_value_9 : decode cX12_value 9 = .ok (.istore_n 1, 1) := by decide +kernel
theorem dX12_value_10 : decode cX12_value 10 = .ok (.aload_n 0, 1) := by decide +kernel
theorem dX12_value_11 : decode cX12_value 11 = .ok (.aload_n 0, 1) := by decide +kernel
theorem dX12_value_12 : decode cX12_value 12 = .ok (.getfield 96, 3) := by decide +kernel
theorem dX12_value_15 : decode cX12_value 15 = .ok (.invokevirtual 114, 3) := by decide +kernel
theorem dX12_value_18 : decode cX12_value 18 = .ok (.ifCond .eq 34, 3) := by decide +kernel
theorem dX12_value_21 : decode cX12_value 21 = .ok (.aload_n 0, 1) := by decide +kernel
theorem dX12_value_22 : decode cX12_value 22 = .ok (.iconst 0, 1) := by decide +kernel
theorem dX12_value_23 : decode cX12_value 23 = .ok (.ldc 174, 2) := by decide +kernel
theorem dX12_value_25 : decode cX12_value 25 = .ok (.invokevirtual 175, 3) := by decide +kernel
theorem dX12_value_28 : decode cX12_value 28 = .ok (.ifCond .eq 11, 3) := by decide +kernel
theorem dX12_value_31 : decode cX12_value 31 = .ok (.aload_n 0, 1) := by decide +kernel
theorem dX12_value_32 : decode cX12_value 32 = .ok (.iload_n 1, 1) := by decide +kernel
theorem dX12_value_33 : decode cX12_value 33 = .ok (.invokevirtual 178, 3) := by decide +kernel
theorem dX12_value_36 : decode cX12_value 36 = .ok (.ifCond .ne 5, 3) := by decide +kernel
theorem dX12_value_39 : decode cX12_value 39 = .ok (.iconst 0, 1) := by decide +kernel
theorem dX12_value_40 : decode cX12_value 40 = .ok (.ireturn, 1) := by decide +kernel
theorem dX12_value_41 : decode cX12_value 41 = .ok (.aload_n 0, 1) := by decide +kernel
theorem dX12_value_42 : decode cX12_value 42 = .ok (.iconst 0, 1) := by decide +kernel
theorem dX12_value_43 : decode cX12_value 43 = .ok (.aload_n 0, 1) := by decide +kernel
theorem dX12_value_44 : decode cX12_value 44 = .ok (.getfield 121, 3) := by decide +kernel
theorem dX12_value_47 : decode cX12_value 47 = .ok (.invokevirtual 170, 3) := by decide +kernel
theorem dX12_value_50 : decode cX12_value 50 = .ok (.iconst 1, 1) := by decide +kernel
theorem dX12_value_51 : decode cX12_value 51 = .ok (.ireturn, 1) := by decide +kernel
theorem dX12_value_52 : decode cX12_value 52 = .ok (.aload_n 0, 1) := by decide +kernel
theorem dX12_value_53 : decode cX12_value 53 = .ok (.invokevirtual 181, 3) := by decide +kernel
theorem dX12_value_56 : decode cX12_value 56 = .ok (.istore_n 2, 1) := by decide +kernel
theorem dX12_value_57 : decode cX12_value 57 = .ok (.iload_n 2, 1) := by decide +kernel
theorem dX12_value_58 : decode cX12_value 58 = .ok (.ifCond .ge 10, 3) := by decide +kernel
theorem dX12_value_61 : decode cX12_value 61 = .ok (.aload_n 0, 1) := by decide +kernel
theorem dX12_value_62 : decode cX12_value 62 = .ok (.iconst 0, 1) := by decide +kernel
theorem dX12_value_63 : decode cX12_value 63 = .ok (.iload_n 1, 1) := by decide +kernel
theorem dX12_value_64 : decode cX12_value 64 = .ok (.invokevirtual 117, 3) := by decide +kernel
theorem dX12_value_67 : decode cX12_value 67 = .ok (.ireturn, 1) := by decide +kernel
theorem dX12_value_68 : decode cX12_value 68 = .ok (.aload_n 0, 1) := by decide +kernel
theorem dX12_value_69 : decode cX12_value 69 = .ok (.iload_n 1, 1) := by decide +kernel
theorem dX12_value_70 : decode cX12_value 70 = .ok (.invokevirtual 178, 3) := by decide +kernel
theorem dX12_value_73 : decode cX12_value 73 = .ok (.ifCond .ne 5, 3) := by decide +kernel
theorem dX12_value_76 : decode cX12_value 76 = .ok (.iconst 0, 1) := by decide +kernel
theorem dX12_value_77 : decode cX12_value 77 = .ok (.ireturn, 1) := by decide +kernel
theorem dX12_value_78 : decode cX12_value 78 = .ok (.aload_n 0, 1) := by decide +kernel
theorem dX12_value_79 : decode cX12_value 79 = .ok (.invokevirtual 111, 3) := by decide +kernel
theorem dX12_value_82 : decode cX12_value 82 = .ok (.aload_n 0, 1) := by decide +kernel
theorem dX12_value_83 : decode cX12_value 83 = .ok (.iconst 1, 1) := by decide +kernel
theorem dX12_value_84 : decode cX12_value 84 = .ok (.iload_n 2, 1) := by decide +kernel
theorem dX12_value_85 : decode cX12_value 85 = .ok (.invokevirtual 170, 3) := by decide +kernel
theorem dX12_value_88 : decode cX12_value 88 = .ok (.iconst 1, 1) := by decide +kernel
theorem dX12_value_89 : decode cX12_value 89 = .ok (.ireturn, 1) := by decide +kernel
theorem dX12_term_0 : decode cX12_term 0 = .ok (.aload_n 0, 1) := by decide +kernel
theorem dX12_term_1 : decode cX12_term 1 = .ok (.invokevirtual 184, 3) := by decide +kernel
theorem dX12_term_4 : decode cX12_term 4 = .ok (.ifCond .ne 5, 3) := by decide +kernel
theorem dX12_term_7 : decode cX12_term 7 = .ok (.iconst 0, 1) := by decide +kernel
theorem dX12_term_8 : decode cX12_term 8 = .ok (.ireturn, 1) := by decide +kernel
theorem dX12_term_9 : decode cX12_term 9 = .ok (.aload_n 0, 1) := by decide +kernel
theorem dX12_term_10 : decode cX12_term 10 = .ok (.invokevirtual 99, 3) := by decide +kernel
theorem dX12_term_13 : decode cX12_term 13 = .ok (.bipush 42, 2) := by decide +kernel
theorem dX12_term_15 : decode cX12_term 15 = .ok (.if_icmp .eq 21, 3) := by decide +kernel
theorem dX12_term_18 : decode cX12_term 18 = .ok (.aload_n 0, 1) := by decide +kernel
theorem dX12_term_19 : decode cX12_term 19 = .ok (.invokevirtual 99, 3) := by decide +kernel
theorem dX12_term_22 : decode cX12_term 22 = .ok (.bipush 47, 2) := by decide +kernel
theorem dX12_term_24 : decode cX12_term 24 = .ok (.if_icmp .eq 12, 3) := by decide +kernel
theorem dX12_term_27 : decode cX12_term 27 = .ok (.aload_n 0, 1) := by decide +kernel
theorem dX12_term_28 : decode cX12_term 28 = .ok (.invokevirtual 99, 3) := by decide +kernel
theorem dX12_term_31 : decode cX12_term 31 = .ok (.bipush 37, 2) := by decide +kernel
theorem dX12_term_33 : decode cX12_term 33 = .ok (.if_icmp .ne 70, 3) := by decide +kernel
theorem dX12_term_36 : decode cX12_term 36 = .ok (.aload_n 0, 1) := by decide +kernel
theorem dX12_term_37 : decode cX12_term 37 = .ok (.getfield 7, 3) := by decide +kernel
theorem dX12_term_40 : decode cX12_term 40 = .ok (.aload_n 0, 1) := by decide +kernel
theorem dX12_term_41 : decode cX12_term 41 = .ok (.getfield 96, 3) := by decide +kernel
theorem dX12_term_44 : decode cX12_term 44 = .ok (.baload, 1) := by decide +kernel
theorem dX12_term_45 : decode cX12_term 45 = .ok (.bipush 42, 2) := by decide +kernel
theorem dX12_term_47 : decode cX12_term 47 = .ok (.if_icmp .ne 7, 3) := by decide +kernel
theorem dX12_term_50 : decode cX12_term 50 = .ok (.iconst 4, 1) := by decide +kernel
theorem dX12_term_51 : decode cX12_term 51 = .ok (.goto 23, 3) := by decide +kernel
theorem dX12_term_54 : decode cX12_term 54 = .ok (.aload_n 0, 1) := by decide +kernel
theorem dX12_term_55 : decode cX12_term 55 = .ok (.getfield 7, 3) := by decide +kernel
theorem dX12_term_58 : decode cX12_term 58 = .ok (.aload_n 0, 1) := by decide +kernel
theorem dX12_term_59 : decode cX12_term 59 = .ok (.getfield 96, 3) := by decide +kernel
theorem dX12_term_62 : decode cX12_term 62 = .ok (.baload, 1) := by decide +kernel
theorem dX12_term_63 : decode cX12_term 63 = .ok (.bipush 47, 2) := by decide +kernel
theorem dX12_term_65 : decode cX12_term 65 = .ok (.if_icmp .ne 7, 3) := by decide +kernel
theorem dX12_term_68 : decode cX12_term 68 = .ok (.iconst 5, 1) := by decide +kernel
theorem dX12_term_69 : decode cX12_term 69 = .ok (.goto 5, 3) := by decide +kernel
theorem dX12_term_72 : decode cX12_term 72 = .ok (.bipush 14, 2) := by decide +kernel
theorem dX12_term_74 : decode cX12_term 74 = .ok (.istore_n 1, 1) := by decide +kernel
theorem dX12_term_75 : decode cX12_term 75 = .ok (.aload_n 0, 1) := by decide +kernel
theorem dX12_term_76 : decode cX12_term 76 = .ok (.dup, 1) := by decide +kernel
theorem dX12_term_77 : decode cX12_term 77 = .ok (.getfield 96, 3) := by decide +kernel
theorem dX12_term_80 : decode cX12_term 80 = .ok (.iconst 1, 1) := by decide +kernel
theorem dX12_term_81 : decode cX12_term 81 = .ok (.iadd, 1) := by decide +kernel
theorem dX12_term_82 : decode cX12_term 82 = .ok (.putfield 96, 3) := by decide +kernel
theorem dX12_term_85 : decode cX12_term 85 = .ok (.aload_n 0, 1) := by decide +kernel
theorem dX12_term_86 : decode cX12_term 86 = .ok (.invokevirtual 184, 3) := by decide +kernel
theorem dX12_term_89 : decode cX12_term 89 = .ok (.ifCond .ne 5, 3) := by decide +kernel
theorem dX12_term_92 : decode cX12_term 92 = .ok (.iconst 0, 1) := by decide +kernel
theorem dX12_term_93 : decode cX12_term 93 = .ok (.ireturn, 1) := by decide +kernel
theorem dX12_term_94 : decode cX12_term 94 = .ok (.aload_n 0, 1) := by decide +kernel
theorem dX12_term_95 : decode cX12_term 95 = .ok (.iload_n 1, 1) := by decide +kernel
theorem dX12_term_96 : decode cX12_term 96 = .ok (.iconst 0, 1) := by decide +kernel
theorem dX12_term_97 : decode cX12_term 97 = .ok (.invokevirtual 170, 3) := by decide +kernel
theorem dX12_term_100 : decode cX12_term 100 = .ok (.goto (-91), 3) := by decide +kernel
theorem dX12_term_103 : decode cX12_term 103 = .ok (.iconst 1, 1) := by decide +kernel
theorem dX12_term_104 : decode cX12_term 104 = .ok (.ireturn, 1) := by decide +kernel
theorem dX12_sum_0 : decode cX12_sum 0 = .ok (.aload_n 0, 1) := by decide +kernel
theorem dX12_sum_1 : decode cX12_sum 1 = .ok (.invokevirtual 188, 3) := by decide +kernel
theorem dX12_sum_4 : decode cX12_sum 4 = .ok (.ifCond .ne 5, 3) := by decide +kernel
theorem dX12_sum_7 : decode cX12_sum 7 = .ok (.iconst 0, 1) := by decide +kernel
theorem dX12_sum_8 : decode cX12_sum 8 = .ok (.ireturn, 1) := by decide +kernel
theorem dX12_sum_9 : decode cX12_sum 9 = .ok (.aload_n 0, 1) := by decide +kernel
theorem dX12_sum_10 : decode cX12_sum 10 = .ok (.invokevirtual 99, 3) := by decide +kernel
theorem dX12_sum_13 : decode cX12_sum 13 = .ok (.bipush 43, 2) := by decide +kernel
theorem dX12_sum_15 : decode cX12_sum 15 = .ok (.if_icmp .eq 12, 3) := by decide +kernel
theorem dX12_sum_18 : decode cX12_sum 18 = .ok (.aload_n 0, 1) := by decide +kernel
theorem dX12_sum_19 : decode cX12_sum 19 = .ok (.invokevirtual 99, 3) := by decide +kernel
theorem dX12_sum_22 : decode cX12_sum 22 = .ok (.bipush 45, 2) := by decide +kernel
theorem dX12_sum_24 : decode cX12_sum 24 = .ok (.if_icmp .ne 51, 3) := by decide +kernel
theorem dX12_sum_27 : decode cX12_sum 27 = .ok (.aload_n 0, 1) := by decide +kernel
theorem dX12_sum_28 : decode cX12_sum 28 = .ok (.getfield 7, 3) := by decide +kernel
theorem dX12_sum_31 : decode cX12_sum 31 = .ok (.aload_n 0, 1) := by decide +kernel
theorem dX12_sum_32 : decode cX12_sum 32 = .ok (.getfield 96, 3) := by decide +kernel
theorem dX12_sum_35 : decode cX12_sum 35 = .ok (.baload, 1) := by decide +kernel
theorem dX12_sum_36 : decode cX12_sum 36 = .ok (.bipush 43, 2) := by decide +kernel
theorem dX12_sum_38 : decode cX12_sum 38 = .ok (.if_icmp .ne 7, 3) := by decide +kernel
theorem dX12_sum_41 : decode cX12_sum 41 = .ok (.iconst 2, 1) := by decide +kernel
theorem dX12_sum_42 : decode cX12_sum 42 = .ok (.goto 4, 3) := by decide +kernel
theorem dX12_sum_45 : decode cX12_sum 45 = .ok (.iconst 3, 1) := by decide +kernel
theorem dX12_sum_46 : decode cX12_sum 46 = .ok (.istore_n 1, 1) := by decide +kernel
theorem dX12_sum_47 : decode cX12_sum 47 = .ok (.aload_n 0, 1) := by decide +kernel
theorem dX12_sum_48 : decode cX12_sum 48 = .ok (.dup, 1) := by decide +kernel
theorem dX12_sum_49 : decode cX12_sum 49 = .ok (.getfield 96, 3) := by decide +kernel
theorem dX12_sum_52 : decode cX12_sum 52 = .ok (.iconst 1, 1) := by decide +kernel
theorem dX12_sum_53 : decode cX12_sum 53 = .ok (.iadd, 1) := by decide +kernel
theorem dX12_sum_54 : decode cX12_sum 54 = .ok (.putfield 96, 3) := by decide +kernel
theorem dX12_sum_57 : decode cX12_sum 57 = .ok (.aload_n 0, 1) := by decide +kernel
theorem dX12_sum_58 : decode cX12_sum 58 = .ok (.invokevirtual 188, 3) := by decide +kernel
theorem dX12_sum_61 : decode cX12_sum 61 = .ok (.ifCond .ne 5, 3) := by decide +kernel
theorem dX12_sum_64 : decode cX12_sum 64 = .ok (.iconst 0, 1) := by decide +kernel
theorem dX12_sum_65 : decode cX12_sum 65 = .ok (.ireturn, 1) := by decide +kernel
theorem dX12_sum_66 : decode cX12_sum 66 = .ok (.aload_n 0, 1) := by decide +kernel
theorem dX12_sum_67 : decode cX12_sum 67 = .ok (.iload_n 1, 1) := by decide +kernel
theorem dX12_sum_68 : decode cX12_sum 68 = .ok (.iconst 0, 1) := by decide +kernel
theorem dX12_sum_69 : decode cX12_sum 69 = .ok (.invokevirtual 170, 3) := by decide +kernel
theorem dX12_sum_72 : decode cX12_sum 72 = .ok (.goto (-63), 3) := by decide +kernel
theorem dX12_sum_75 : decode cX12_sum 75 = .ok (.iconst 1, 1) := by decide +kernel
theorem dX12_sum_76 : decode cX12_sum 76 = .ok (.ireturn, 1) := by decide +kernel
theorem dX12_compare_0 : decode cX12_compare 0 = .ok (.aload_n 0, 1) := by decide +kernel
theorem dX12_compare_1 : decode cX12_compare 1 = .ok (.invokevirtual 191, 3) := by decide +kernel
theorem dX12_compare_4 : decode cX12_compare 4 = .ok (.ifCond .ne 5, 3) := by decide +kernel
theorem dX12_compare_7 : decode cX12_compare 7 = .ok (.iconst 0, 1) := by decide +kernel
theorem dX12_compare_8 : decode cX12_compare 8 = .ok (.ireturn, 1) := by decide +kernel
theorem dX12_compare_9 : decode cX12_compare 9 = .ok (.aload_n 0, 1) := by decide +kernel
theorem dX12_compare_10 : decode cX12_compare 10 = .ok (.invokevirtual 99, 3) := by decide +kernel
theorem dX12_compare_13 : decode cX12_compare 13 = .ok (.istore_n 1, 1) := by decide +kernel
theorem dX12_compare_14 : decode cX12_compare 14 = .ok (.aload_n 0, 1) := by decide +kernel
theorem dX12_compare_15 : decode cX12_compare 15 = .ok (.getfield 96, 3) := by decide +kernel
theorem dX12_compare_18 : decode cX12_compare 18 = .ok (.istore_n 2, 1) := by decide +kernel
theorem dX12_compare_19 : decode cX12_compare 19 = .ok (.iload_n 1, 1) := by decide +kernel
theorem dX12_compare_20 : decode cX12_compare 20 = .ok (.bipush 60, 2) := by decide +kernel
theorem dX12_compare_22 : decode cX12_compare 22 = .ok (.if_icmp .eq 22, 3) := by decide +kernel
theorem dX12_compare_25 : decode cX12_compare 25 = .ok (.iload_n 1, 1) := by decide +kernel
theorem dX12_compare_26 : decode cX12_compare 26 = .ok (.bipush 61, 2) := by decide +kernel
theorem dX12_compare_28 : decode cX12_compare 28 = .ok (.if_icmp .eq 16, 3) := by decide +kernel
theorem dX12_compare_31 : decode cX12_compare 31 = .ok (.iload_n 1, 1) := by decide +kernel
theorem dX12_compare_32 : decode cX12_compare 32 = .ok (.bipush 62, 2) := by decide +kernel
theorem dX12_compare_34 : decode cX12_compare 34 = .ok (.if_icmp .eq 10, 3) := by decide +kernel
theorem dX12_compare_37 : decode cX12_compare 37 = .ok (.aload_n 0, 1) := by decide +kernel
theorem dX12_compare_38 : decode cX12_compare 38 = .ok (.iconst 0, 1) := by decide +kernel
theorem dX12_compare_39 : decode cX12_compare 39 = .ok (.iload_n 2, 1) := by decide +kernel
theorem dX12_compare_40 : decode cX12_compare 40 = .ok (.invokevirtual 117, 3) := by decide +kernel
theorem dX12_compare_43 : decode cX12_compare 43 = .ok (.ireturn, 1) := by decide +kernel
theorem dX12_compare_44 : decode cX12_compare 44 = .ok (.aload_n 0, 1) := by decide +kernel
theorem dX12_compare_45 : decode cX12_compare 45 = .ok (.dup, 1) := by decide +kernel
theorem dX12_compare_46 : decode cX12_compare 46 = .ok (.getfield 96, 3) := by decide +kernel
theorem dX12_compare_49 : decode cX12_compare 49 = .ok (.iconst 1, 1) := by decide +kernel
theorem dX12_compare_50 : decode cX12_compare 50 = .ok (.iadd, 1) := by decide +kernel
theorem dX12_compare_51 : decode cX12_compare 51 = .ok (.putfield 96, 3) := by decide +kernel
theorem dX12_compare_54 : decode cX12_compare 54 = .ok (.iload_n 1, 1) := by decide +kernel
theorem dX12_compare_55 : decode cX12_compare 55 = .ok (.bipush 61, 2) := by decide +kernel
theorem dX12_compare_57 : decode cX12_compare 57 = .ok (.if_icmp .eq 32, 3) := by decide +kernel
theorem dX12_compare_60 : decode cX12_compare 60 = .ok (.aload_n 0, 1) := by decide +kernel
theorem dX12_compare_61 : decode cX12_compare 61 = .ok (.getfield 96, 3) := by decide +kernel
theorem dX12_compare_64 : decode cX12_compare 64 = .ok (.aload_n 0, 1) := by decide +kernel
theorem dX12_compare_65 : decode cX12_compare 65 = .ok (.getfield 86, 3) := by decide +kernel
theorem dX12_compare_68 : decode cX12_compare 68 = .ok (.if_icmp .ge 21, 3) := by decide +kernel
theorem dX12_compare_71 : decode cX12_compare 71 = .ok (.aload_n 0, 1) := by decide +kernel
theorem dX12_compare_72 : decode cX12_compare 72 = .ok (.getfield 7, 3) := by decide +kernel
theorem dX12_compare_75 : decode cX12_compare 75 = .ok (.aload_n 0, 1) := by decide +kernel
theorem dX12_compare_76 : decode cX12_compare 76 = .ok (.getfield 96, 3) := by decide +kernel
theorem dX12_compare_79 : decode cX12_compare 79 = .ok (.baload, 1) := by decide +kernel
theorem dX12_compare_80 : decode cX12_compare 80 = .ok (.bipush 61, 2) := by decide +kernel
theorem dX12_compare_82 : decode cX12_compare 82 = .ok (.if_icmp .ne 7, 3) := by decide +kernel
theorem dX12_compare_85 : decode cX12_compare 85 = .ok (.iconst 1, 1) := by decide +kernel
theorem dX12_compare_86 : decode cX12_compare 86 = .ok (.goto 4, 3) := by decide +kernel
theorem dX12_compare_89 : decode cX12_compare 89 = .ok (.iconst 0, 1) := by decide +kernel
theorem dX12_compare_90 : decode cX12_compare 90 = .ok (.istore_n 3, 1) := by decide +kernel
theorem dX12_compare_91 : decode cX12_compare 91 = .ok (.iload_n 3, 1) := by decide +kernel
theorem dX12_compare_92 : decode cX12_compare 92 = .ok (.ifCond .eq 13, 3) := by decide +kernel
theorem dX12_compare_95 : decode cX12_compare 95 = .ok (.aload_n 0, 1) := by decide +kernel
theorem dX12_compare_96 : decode cX12_compare 96 = .ok (.dup, 1) := by decide +kernel
theorem dX12_compare_97 : decode cX12_compare 97 = .ok (.getfield 96, 3) := by decide +kernel
theorem dX12_compare_100 : decode cX12_compare 100 = .ok (.iconst 1, 1) := by decide +kernel
theorem dX12_compare_101 : decode cX12_compare 101 = .ok (.iadd, 1) := by decide +kernel
theorem dX12_compare_102 : decode cX12_compare 102 = .ok (.putfield 96, 3) := by decide +kernel
theorem dX12_compare_105 : decode cX12_compare 105 = .ok (.aload_n 0, 1) := by decide +kernel
theorem dX12_compare_106 : decode cX12_compare 106 = .ok (.iload_n 2, 1) := by decide +kernel
theorem dX12_compare_107 : decode cX12_compare 107 = .ok (.invokevirtual 178, 3) := by decide +kernel
theorem dX12_compare_110 : decode cX12_compare 110 = .ok (.ifCond .ne 5, 3) := by decide +kernel
theorem dX12_compare_113 : decode cX12_compare 113 = .ok (.iconst 0, 1) := by decide +kernel
theorem dX12_compare_114 : decode cX12_compare 114 = .ok (.ireturn, 1) := by decide +kernel
theorem dX12_compare_115 : decode cX12_compare 115 = .ok (.iload_n 1, 1) := by decide +kernel
theorem dX12_compare_116 : decode cX12_compare 116 = .ok (.bipush 60, 2) := by decide +kernel
theorem dX12_compare_118 : decode cX12_compare 118 = .ok (.if_icmp .ne 15, 3) := by decide +kernel
theorem dX12_compare_121 : decode cX12_compare 121 = .ok (.iload_n 3, 1) := by decide +kernel
theorem dX12_compare_122 : decode cX12_compare 122 = .ok (.ifCond .eq 7, 3) := by decide +kernel
theorem dX12_compare_125 : decode cX12_compare 125 = .ok (.iconst 1, 1) := by decide +kernel
theorem dX12_compare_126 : decode cX12_compare 126 = .ok (.goto 26, 3) := by decide +kernel
theorem dX12_compare_129 : decode cX12_compare 129 = .ok (.iconst 0, 1) := by decide +kernel
theorem dX12_compare_130 : decode cX12_compare 130 = .ok (.goto 22, 3) := by decide +kernel
theorem dX12_compare_133 : decode cX12_compare 133 = .ok (.iload_n 1, 1) := by decide +kernel
theorem dX12_compare_134 : decode cX12_compare 134 = .ok (.bipush 61, 2) := by decide +kernel
theorem dX12_compare_136 : decode cX12_compare 136 = .ok (.if_icmp .ne 7, 3) := by decide +kernel
theorem dX12_compare_139 : decode cX12_compare 139 = .ok (.iconst 2, 1) := by decide +kernel
theorem dX12_compare_140 : decode cX12_compare 140 = .ok (.goto 12, 3) := by decide +kernel
theorem dX12_compare_143 : decode cX12_compare 143 = .ok (.iload_n 3, 1) := by decide +kernel
theorem dX12_compare_144 : decode cX12_compare 144 = .ok (.ifCond .eq 7, 3) := by decide +kernel
theorem dX12_compare_147 : decode cX12_compare 147 = .ok (.iconst 3, 1) := by decide +kernel
theorem dX12_compare_148 : decode cX12_compare 148 = .ok (.goto 4, 3) := by decide +kernel
theorem dX12_compare_151 : decode cX12_compare 151 = .ok (.iconst 4, 1) := by decide +kernel
theorem dX12_compare_152 : decode cX12_compare 152 = .ok (.istore 4, 2) := by decide +kernel
theorem dX12_compare_154 : decode cX12_compare 154 = .ok (.aload_n 0, 1) := by decide +kernel
theorem dX12_compare_155 : decode cX12_compare 155 = .ok (.invokevirtual 191, 3) := by decide +kernel
theorem dX12_compare_158 : decode cX12_compare 158 = .ok (.ifCond .ne 5, 3) := by decide +kernel
theorem dX12_compare_161 : decode cX12_compare 161 = .ok (.iconst 0, 1) := by decide +kernel
theorem dX12_compare_162 : decode cX12_compare 162 = .ok (.ireturn, 1) := by decide +kernel
theorem dX12_compare_163 : decode cX12_compare 163 = .ok (.aload_n 0, 1) := by decide +kernel
theorem dX12_compare_164 : decode cX12_compare 164 = .ok (.bipush 6, 2) := by decide +kernel
theorem dX12_compare_166 : decode cX12_compare 166 = .ok (.iload 4, 2) := by decide +kernel
theorem dX12_compare_168 : decode cX12_compare 168 = .ok (.iadd, 1) := by decide +kernel
theorem dX12_compare_169 : decode cX12_compare 169 = .ok (.iconst 0, 1) := by decide +kernel
theorem dX12_compare_170 : decode cX12_compare 170 = .ok (.invokevirtual 170, 3) := by decide +kernel
theorem dX12_compare_173 : decode cX12_compare 173 = .ok (.iconst 1, 1) := by decide +kernel
theorem dX12_compare_174 : decode cX12_compare 174 = .ok (.ireturn, 1) := by decide +kernel
theorem dX12_fact_0 : decode cX12_fact 0 = .ok (.iconst 1, 1) := by decide +kernel
theorem dX12_fact_1 : decode cX12_fact 1 = .ok (.istore_n 1, 1) := by decide +kernel
theorem dX12_fact_2 : decode cX12_fact 2 = .ok (.iload_n 1, 1) := by decide +kernel
theorem dX12_fact_3 : decode cX12_fact 3 = .ok (.ifCond .eq 72, 3) := by decide +kernel
theorem dX12_fact_6 : decode cX12_fact 6 = .ok (.iconst 0, 1) := by decide +kernel
theorem dX12_fact_7 : decode cX12_fact 7 = .ok (.istore_n 1, 1) := by decide +kernel
theorem dX12_fact_8 : decode cX12_fact 8 = .ok (.aload_n 0, 1) := by decide +kernel
theorem dX12_fact_9 : decode cX12_fact 9 = .ok (.invokevirtual 99, 3) := by decide +kernel
theorem dX12_fact_12 : decode cX12_fact 12 = .ok (.istore_n 2, 1) := by decide +kernel
theorem dX12_fact_13 : decode cX12_fact 13 = .ok (.aload_n 0, 1) := by decide +kernel
theorem dX12_fact_14 : decode cX12_fact 14 = .ok (.ldc2_w 194, 3) := by decide +kernel
theorem dX12_fact_17 : decode cX12_fact 17 = .ok (.invokevirtual 107, 3) := by decide +kernel
theorem dX12_fact_20 : decode cX12_fact 20 = .ok (.ifCond .eq 23, 3) := by decide +kernel
theorem dX12_fact_23 : decode cX12_fact 23 = .ok (.aload_n 0, 1) := by decide +kernel
theorem dX12_fact_24 : decode cX12_fact 24 = .ok (.bipush 11, 2) := by decide +kernel
theorem dX12_fact_26 : decode cX12_fact 26 = .ok (.invokevirtual 196, 3) := by decide +kernel
theorem dX12_fact_29 : decode cX12_fact 29 = .ok (.ifCond .ne 5, 3) := by decide +kernel
theorem dX12_fact_32 : decode cX12_fact 32 = .ok (.iconst 0, 1) := by decide +kernel
theorem dX12_fact_33 : decode cX12_fact 33 = .ok (.ireturn, 1) := by decide +kernel
theorem dX12_fact_34 : decode cX12_fact 34 = .ok (.aload_n 0, 1) := by decide +kernel
theorem dX12_fact_35 : decode cX12_fact 35 = .ok (.invokevirtual 111, 3) := by decide +kernel
theorem dX12_fact_38 : decode cX12_fact 38 = .ok (.iconst 1, 1) := by decide +kernel
theorem dX12_fact_39 : decode cX12_fact 39 = .ok (.istore_n 1, 1) := by decide +kernel
theorem dX12_fact_40 : decode cX12_fact 40 = .ok (.goto 32, 3) := by decide +kernel
theorem dX12_fact_43 : decode cX12_fact 43 = .ok (.iload_n 2, 1) := by decide +kernel
theorem dX12_fact_44 : decode cX12_fact 44 = .ok (.bipush 91, 2) := by decide +kernel
theorem dX12_fact_46 : decode cX12_fact 46 = .ok (.if_icmp .ne 26, 3) := by decide +kernel
theorem dX12_fact_49 : decode cX12_fact 49 = .ok (.aload_n 0, 1) := by decide +kernel
theorem dX12_fact_50 : decode cX12_fact 50 = .ok (.bipush 91, 2) := by decide +kernel
theorem dX12_fact_52 : decode cX12_fact 52 = .ok (.invokevirtual 196, 3) := by decide +kernel
theorem dX12_fact_55 : decode cX12_fact 55 = .ok (.ifCond .ne 5, 3) := by decide +kernel
theorem dX12_fact_58 : decode cX12_fact 58 = .ok (.iconst 0, 1) := by decide +kernel
theorem dX12_fact_59 : decode cX12_fact 59 = .ok (.ireturn, 1) := by decide +kernel
theorem dX12_fact_60 : decode cX12_fact 60 = .ok (.aload_n 0, 1) := by decide +kernel
theorem dX12_fact_61 : decode cX12_fact 61 = .ok (.dup, 1) := by decide +kernel
theorem dX12_fact_62 : decode cX12_fact 62 = .ok (.getfield 96, 3) := by decide +kernel
theorem dX12_fact_65 : decode cX12_fact 65 = .ok (.iconst 1, 1) := by decide +kernel
theorem dX12_fact_66 : decode cX12_fact 66 = .ok (.iadd, 1) := by decide +kernel
theorem dX12_fact_67 : decode cX12_fact 67 = .ok (.putfield 96, 3) := by decide +kernel
theorem dX12_fact_70 : decode cX12_fact 70 = .ok (.iconst 1, 1) := by decide +kernel
theorem dX12_fact_71 : decode cX12_fact 71 = .ok (.istore_n 1, 1) := by decide +kernel
theorem dX12_fact_72 : decode cX12_fact 72 = .ok (.goto (-70), 3) := by decide +kernel
theorem dX12_fact_75 : decode cX12_fact 75 = .ok (.aload_n 0, 1) := by decide +kernel
theorem dX12_fact_76 : decode cX12_fact 76 = .ok (.invokevirtual 199, 3) := by decide +kernel
theorem dX12_fact_79 : decode cX12_fact 79 = .ok (.ireturn, 1) := by decide +kernel
theorem dX12_isInside_0 : decode cX12_isInside 0 = .ok (.iconst 0, 1) := by decide +kernel
theorem dX12_isInside_1 : decode cX12_isInside 1 = .ok (.istore_n 1, 1) := by decide +kernel
theorem dX12_isInside_2 : decode cX12_isInside 2 = .ok (.iload_n 1, 1) := by decide +kernel
theorem dX12_isInside_3 : decode cX12_isInside 3 = .ok (.aload_n 0, 1) := by decide +kernel
theorem dX12_isInside_4 : decode cX12_isInside 4 = .ok (.getfield 163, 3) := by decide +kernel
theorem dX12_isInside_7 : decode cX12_isInside 7 = .ok (.if_icmp .ge 22, 3) := by decide +kernel
theorem dX12_isInside_10 : decode cX12_isInside 10 = .ok (.aload_n 0, 1) := by decide +kernel
theorem dX12_isInside_11 : decode cX12_isInside 11 = .ok (.getfield 29, 3) := by decide +kernel
theorem dX12_isInside_14 : decode cX12_isInside 14 = .ok (.iload_n 1, 1) := by decide +kernel
theorem dX12_isInside_15 : decode cX12_isInside 15 = .ok (.iaload, 1) := by decide +kernel
theorem dX12_isInside_16 : decode cX12_isInside 16 = .ok (.bipush 91, 2) := by decide +kernel
theorem dX12_isInside_18 : decode cX12_isInside 18 = .ok (.if_icmp .ne 5, 3) := by decide +kernel
theorem dX12_isInside_21 : decode cX12_isInside 21 = .ok (.iconst 1, 1) := by decide +kernel
theorem dX12_isInside_22 : decode cX12_isInside 22 = .ok (.ireturn, 1) := by decide +kernel
theorem dX12_isInside_23 : decode cX12_isInside 23 = .ok (.iinc 1 1, 3) := by decide +kernel
theorem dX12_isInside_26 : decode cX12_isInside 26 = .ok (.goto (-24), 3) := by decide +kernel
theorem dX12_isInside_29 : decode cX12_isInside 29 = .ok (.iconst 0, 1) := by decide +kernel
theorem dX12_isInside_30 : decode cX12_isInside 30 = .ok (.ireturn, 1) := by decide +kernel
theorem dX12_closes_0 : decode cX12_closes 0 = .ok (.aload_n 0, 1) := by decide +kernel
theorem dX12_closes_1 : decode cX12_closes 1 = .ok (.iconst 3, 1) := by decide +kernel
theorem dX12_closes_2 : decode cX12_closes 2 = .ok (.invokevirtual 202, 3) := by decide +kernel
theorem dX12_closes_5 : decode cX12_closes 5 = .ok (.aload_n 0, 1) := by decide +kernel
theorem dX12_closes_6 : decode cX12_closes 6 = .ok (.invokevirtual 99, 3) := by decide +kernel
theorem dX12_closes_9 : decode cX12_closes 9 = .ok (.bipush 93, 2) := by decide +kernel
theorem dX12_closes_11 : decode cX12_closes 11 = .ok (.if_icmp .ne 53, 3) := by decide +kernel
theorem dX12_closes_14 : decode cX12_closes 14 = .ok (.aload_n 0, 1) := by decide +kernel
theorem dX12_closes_15 : decode cX12_closes 15 = .ok (.invokevirtual 205, 3) := by decide +kernel
theorem dX12_closes_18 : decode cX12_closes 18 = .ok (.ifCond .eq 46, 3) := by decide +kernel
theorem dX12_closes_21 : decode cX12_closes 21 = .ok (.aload_n 0, 1) := by decide +kernel
theorem dX12_closes_22 : decode cX12_closes 22 = .ok (.iconst 1, 1) := by decide +kernel
theorem dX12_closes_23 : decode cX12_closes 23 = .ok (.invokevirtual 202, 3) := by decide +kernel
theorem dX12_closes_26 : decode cX12_closes 26 = .ok (.aload_n 0, 1) := by decide +kernel
theorem dX12_closes_27 : decode cX12_closes 27 = .ok (.dup, 1) := by decide +kernel
theorem dX12_closes_28 : decode cX12_closes 28 = .ok (.getfield 163, 3) := by decide +kernel
theorem dX12_closes_31 : decode cX12_closes 31 = .ok (.iconst 1, 1) := by decide +kernel
theorem dX12_closes_32 : decode cX12_closes 32 = .ok (.isub, 1) := by decide +kernel
theorem dX12_closes_33 : decode cX12_closes 33 = .ok (.putfield 163, 3) := by decide +kernel
theorem dX12_closes_36 : decode cX12_closes 36 = .ok (.aload_n 0, 1) := by decide +kernel
theorem dX12_closes_37 : decode cX12_closes 37 = .ok (.dup, 1) := by decide +kernel
theorem dX12_closes_38 : decode cX12_closes 38 = .ok (.getfield 160, 3) := by decide +kernel
theorem dX12_closes_41 : decode cX12_closes 41 = .ok (.iconst 1, 1) := by decide +kernel
theorem dX12_closes_42 : decode cX12_closes 42 = .ok (.isub, 1) := by decide +kernel
theorem dX12_closes_43 : decode cX12_closes 43 = .ok (.putfield 160, 3) := by decide +kernel
theorem dX12_closes_46 : decode cX12_closes 46 = .ok (.aload_n 0, 1) := by decide +kernel
theorem dX12_closes_47 : decode cX12_closes 47 = .ok (.dup, 1) := by decide +kernel
theorem dX12_closes_48 : decode cX12_closes 48 = .ok (.getfield 96, 3) := by decide +kernel
theorem dX12_closes_51 : decode cX12_closes 51 = .ok (.iconst 1, 1) := by decide +kernel
theorem dX12_closes_52 : decode cX12_closes 52 = .ok (.iadd, 1) := by decide +kernel
theorem dX12_closes_53 : decode cX12_closes 53 = .ok (.putfield 96, 3) := by decide +kernel
theorem dX12_closes_56 : decode cX12_closes 56 = .ok (.aload_n 0, 1) := by decide +kernel
theorem dX12_closes_57 : decode cX12_closes 57 = .ok (.iconst 3, 1) := by decide +kernel
theorem dX12_closes_58 : decode cX12_closes 58 = .ok (.invokevirtual 202, 3) := by decide +kernel
theorem dX12_closes_61 : decode cX12_closes 61 = .ok (.goto (-56), 3) := by decide +kernel
theorem dX12_closes_64 : decode cX12_closes 64 = .ok (.return_, 1) := by decide +kernel
theorem dX12_tested_0 : decode cX12_tested 0 = .ok (.aload_n 0, 1) := by decide +kernel
theorem dX12_tested_1 : decode cX12_tested 1 = .ok (.iconst 0, 1) := by decide +kernel
theorem dX12_tested_2 : decode cX12_tested 2 = .ok (.putfield 163, 3) := by decide +kernel
theorem dX12_tested_5 : decode cX12_tested 5 = .ok (.aload_n 0, 1) := by decide +kernel
theorem dX12_tested_6 : decode cX12_tested 6 = .ok (.iconst 0, 1) := by decide +kernel
theorem dX12_tested_7 : decode cX12_tested 7 = .ok (.putfield 160, 3) := by decide +kernel
theorem dX12_tested_10 : decode cX12_tested 10 = .ok (.iconst 1, 1) := by decide +kernel
theorem dX12_tested_11 : decode cX12_tested 11 = .ok (.istore_n 1, 1) := by decide +kernel
theorem dX12_tested_12 : decode cX12_tested 12 = .ok (.iload_n 1, 1) := by decide +kernel
theorem dX12_tested_13 : decode cX12_tested 13 = .ok (.ifCond .eq 99, 3) := by decide +kernel
theorem dX12_tested_16 : decode cX12_tested 16 = .ok (.aload_n 0, 1) := by decide +kernel
theorem dX12_tested_17 : decode cX12_tested 17 = .ok (.invokevirtual 208, 3) := by decide +kernel
theorem dX12_tested_20 : decode cX12_tested 20 = .ok (.ifCond .ne 5, 3) := by decide +kernel
theorem dX12_tested_23 : decode cX12_tested 23 = .ok (.iconst 0, 1) := by decide +kernel
theorem dX12_tested_24 : decode cX12_tested 24 = .ok (.ireturn, 1) := by decide +kernel
theorem dX12_tested_25 : decode cX12_tested 25 = .ok (.aload_n 0, 1) := by decide +kernel
theorem dX12_tested_26 : decode cX12_tested 26 = .ok (.invokevirtual 211, 3) := by decide +kernel
theorem dX12_tested_29 : decode cX12_tested 29 = .ok (.aload_n 0, 1) := by decide +kernel
theorem dX12_tested_30 : decode cX12_tested 30 = .ok (.ldc2_w 214, 3) := by decide +kernel
theorem dX12_tested_33 : decode cX12_tested 33 = .ok (.invokevirtual 107, 3) := by decide +kernel
theorem dX12_tested_36 : decode cX12_tested 36 = .ok (.ifCond .ne 13, 3) := by decide +kernel
theorem dX12_tested_39 : decode cX12_tested 39 = .ok (.aload_n 0, 1) := by decide +kernel
theorem dX12_tested_40 : decode cX12_tested 40 = .ok (.ldc2_w 216, 3) := by decide +kernel
theorem dX12_tested_43 : decode cX12_tested 43 = .ok (.invokevirtual 107, 3) := by decide +kernel
theorem dX12_tested_46 : decode cX12_tested 46 = .ok (.ifCond .eq 7, 3) := by decide +kernel
theorem dX12_tested_49 : decode cX12_tested 49 = .ok (.iconst 1, 1) := by decide +kernel
theorem dX12_tested_50 : decode cX12_tested 50 = .ok (.goto 4, 3) := by decide +kernel
theorem dX12_tested_53 : decode cX12_tested 53 = .ok (.iconst 0, 1) := by decide +kernel
theorem dX12_tested_54 : decode cX12_tested 54 = .ok (.istore_n 1, 1) := by decide +kernel
theorem dX12_tested_55 : decode cX12_tested 55 = .ok (.iload_n 1, 1) := by decide +kernel
theorem dX12_tested_56 : decode cX12_tested 56 = .ok (.ifCond .eq (-44), 3) := by decide +kernel
theorem dX12_tested_59 : decode cX12_tested 59 = .ok (.aload_n 0, 1) := by decide +kernel
theorem dX12_tested_60 : decode cX12_tested 60 = .ok (.ldc2_w 214, 3) := by decide +kernel
theorem dX12_tested_63 : decode cX12_tested 63 = .ok (.invokevirtual 107, 3) := by decide +kernel
theorem dX12_tested_66 : decode cX12_tested 66 = .ok (.ifCond .eq 8, 3) := by decide +kernel
theorem dX12_tested_69 : decode cX12_tested 69 = .ok (.bipush 12, 2) := by decide +kernel
theorem dX12_tested_71 : decode cX12_tested 71 = .ok (.goto 5, 3) := by decide +kernel
theorem dX12_tested_74 : decode cX12_tested 74 = .ok (.bipush 13, 2) := by decide +kernel
theorem dX12_tested_76 : decode cX12_tested 76 = .ok (.istore_n 2, 1) := by decide +kernel
theorem dX12_tested_77 : decode cX12_tested 77 = .ok (.aload_n 0, 1) := by decide +kernel
theorem dX12_tested_78 : decode cX12_tested 78 = .ok (.invokevirtual 111, 3) := by decide +kernel
theorem dX12_tested_81 : decode cX12_tested 81 = .ok (.aload_n 0, 1) := by decide +kernel
theorem dX12_tested_82 : decode cX12_tested 82 = .ok (.iload_n 2, 1) := by decide +kernel
theorem dX12_tested_83 : decode cX12_tested 83 = .ok (.invokestatic 166, 3) := by decide +kernel
theorem dX12_tested_86 : decode cX12_tested 86 = .ok (.invokevirtual 202, 3) := by decide +kernel
theorem dX12_tested_89 : decode cX12_tested 89 = .ok (.aload_n 0, 1) := by decide +kernel
theorem dX12_tested_90 : decode cX12_tested 90 = .ok (.getfield 29, 3) := by decide +kernel
theorem dX12_tested_93 : decode cX12_tested 93 = .ok (.aload_n 0, 1) := by decide +kernel
theorem dX12_tested_94 : decode cX12_tested 94 = .ok (.getfield 163, 3) := by decide +kernel
theorem dX12_tested_97 : decode cX12_tested 97 = .ok (.iload_n 2, 1) := by decide +kernel
theorem dX12_tested_98 : decode cX12_tested 98 = .ok (.iastore, 1) := by decide +kernel
theorem dX12_tested_99 : decode cX12_tested 99 = .ok (.aload_n 0, 1) := by decide +kernel
theorem dX12_tested_100 : decode cX12_tested 100 = .ok (.dup, 1) := by decide +kernel
theorem dX12_tested_101 : decode cX12_tested 101 = .ok (.getfield 163, 3) := by decide +kernel
theorem dX12_tested_104 : decode cX12_tested 104 = .ok (.iconst 1, 1) := by decide +kernel
theorem dX12_tested_105 : decode cX12_tested 105 = .ok (.iadd, 1) := by decide +kernel
theorem dX12_tested_106 : decode cX12_tested 106 = .ok (.putfield 163, 3) := by decide +kernel
theorem dX12_tested_109 : decode cX12_tested 109 = .ok (.goto (-97), 3) := by decide +kernel
theorem dX12_tested_112 : decode cX12_tested 112 = .ok (.aload_n 0, 1) := by decide +kernel
theorem dX12_tested_113 : decode cX12_tested 113 = .ok (.invokevirtual 205, 3) := by decide +kernel
theorem dX12_tested_116 : decode cX12_tested 116 = .ok (.ifCond .eq 18, 3) := by decide +kernel
theorem dX12_tested_119 : decode cX12_tested 119 = .ok (.aload_n 0, 1) := by decide +kernel
theorem dX12_tested_120 : decode cX12_tested 120 = .ok (.invokevirtual 99, 3) := by decide +kernel
theorem dX12_tested_123 : decode cX12_tested 123 = .ok (.pop, 1) := by decide +kernel
theorem dX12_tested_124 : decode cX12_tested 124 = .ok (.aload_n 0, 1) := by decide +kernel
theorem dX12_tested_125 : decode cX12_tested 125 = .ok (.iconst 0, 1) := by decide +kernel
theorem dX12_tested_126 : decode cX12_tested 126 = .ok (.aload_n 0, 1) := by decide +kernel
theorem dX12_tested_127 : decode cX12_tested 127 = .ok (.getfield 96, 3) := by decide +kernel
theorem dX12_tested_130 : decode cX12_tested 130 = .ok (.invokevirtual 117, 3) := by decide +kernel
theorem dX12_tested_133 : decode cX12_tested 133 = .ok (.ireturn, 1) := by decide +kernel
theorem dX12_tested_134 : decode cX12_tested 134 = .ok (.aload_n 0, 1) := by decide +kernel
theorem dX12_tested_135 : decode cX12_tested 135 = .ok (.iconst 1, 1) := by decide +kernel
theorem dX12_tested_136 : decode cX12_tested 136 = .ok (.invokevirtual 202, 3) := by decide +kernel
theorem dX12_tested_139 : decode cX12_tested 139 = .ok (.iconst 1, 1) := by decide +kernel
theorem dX12_tested_140 : decode cX12_tested 140 = .ok (.ireturn, 1) := by decide +kernel
theorem dX12_isClimbHere_0 : decode cX12_isClimbHere 0 = .ok (.aload_n 0, 1) := by decide +kernel
theorem dX12_isClimbHere_1 : decode cX12_isClimbHere 1 = .ok (.invokevirtual 111, 3) := by decide +kernel
theorem dX12_isClimbHere_4 : decode cX12_isClimbHere 4 = .ok (.bipush 48, 2) := by decide +kernel
theorem dX12_isClimbHere_6 : decode cX12_isClimbHere 6 = .ok (.aload_n 0, 1) := by decide +kernel
theorem dX12_isClimbHere_7 : decode cX12_isClimbHere 7 = .ok (.getfield 154, 3) := by decide +kernel
theorem dX12_isClimbHere_10 : decode cX12_isClimbHere 10 = .ok (.imul, 1) := by decide +kernel
theorem dX12_isClimbHere_11 : decode cX12_isClimbHere 11 = .ok (.iconst 4, 1) := by decide +kernel
theorem dX12_isClimbHere_12 : decode cX12_isClimbHere 12 = .ok (.aload_n 0, 1) := by decide +kernel
theorem dX12_isClimbHere_13 : decode cX12_isClimbHere 13 = .ok (.getfield 23, 3) := by decide +kernel
theorem dX12_isClimbHere_16 : decode cX12_isClimbHere 16 = .ok (.aload_n 0, 1) := by decide +kernel
theorem dX12_isClimbHere_17 : decode cX12_isClimbHere 17 = .ok (.getfield 154, 3) := by decide +kernel
theorem dX12_isClimbHere_20 : decode cX12_isClimbHere 20 = .ok (.iaload, 1) := by decide +kernel
theorem dX12_isClimbHere_21 : decode cX12_isClimbHere 21 = .ok (.imul, 1) := by decide +kernel
theorem dX12_isClimbHere_22 : decode cX12_isClimbHere 22 = .ok (.iadd, 1) := by decide +kernel
theorem dX12_isClimbHere_23 : decode cX12_isClimbHere 23 = .ok (.istore_n 1, 1) := by decide +kernel
theorem dX12_isClimbHere_24 : decode cX12_isClimbHere 24 = .ok (.aload_n 0, 1) := by decide +kernel
theorem dX12_isClimbHere_25 : decode cX12_isClimbHere 25 = .ok (.getfield 20, 3) := by decide +kernel
theorem dX12_isClimbHere_28 : decode cX12_isClimbHere 28 = .ok (.iload_n 1, 1) := by decide +kernel
theorem dX12_isClimbHere_29 : decode cX12_isClimbHere 29 = .ok (.aload_n 0, 1) := by decide +kernel
theorem dX12_isClimbHere_30 : decode cX12_isClimbHere 30 = .ok (.getfield 17, 3) := by decide +kernel
theorem dX12_isClimbHere_33 : decode cX12_isClimbHere 33 = .ok (.aload_n 0, 1) := by decide +kernel
theorem dX12_isClimbHere_34 : decode cX12_isClimbHere 34 = .ok (.getfield 154, 3) := by decide +kernel
theorem dX12_isClimbHere_37 : decode cX12_isClimbHere 37 = .ok (.iaload, 1) := by decide +kernel
theorem dX12_isClimbHere_38 : decode cX12_isClimbHere 38 = .ok (.iastore, 1) := by decide +kernel
theorem dX12_isClimbHere_39 : decode cX12_isClimbHere 39 = .ok (.aload_n 0, 1) := by decide +kernel
theorem dX12_isClimbHere_40 : decode cX12_isClimbHere 40 = .ok (.invokevirtual 191, 3) := by decide +kernel
theorem dX12_isClimbHere_43 : decode cX12_isClimbHere 43 = .ok (.ifCond .ne 5, 3) := by decide +kernel
theorem dX12_isClimbHere_46 : decode cX12_isClimbHere 46 = .ok (.iconst 0, 1) := by decide +kernel
theorem dX12_isClimbHere_47 : decode cX12_isClimbHere 47 = .ok (.ireturn, 1) := by decide +kernel
theorem dX12_isClimbHere_48 : decode cX12_isClimbHere 48 = .ok (.aload_n 0, 1) := by decide +kernel
theorem dX12_isClimbHere_49 : decode cX12_isClimbHere 49 = .ok (.getfield 20, 3) := by decide +kernel
theorem dX12_isClimbHere_52 : decode cX12_isClimbHere 52 = .ok (.iload_n 1, 1) := by decide +kernel
theorem dX12_isClimbHere_53 : decode cX12_isClimbHere 53 = .ok (.iconst 1, 1) := by decide +kernel
theorem dX12_isClimbHere_54 : decode cX12_isClimbHere 54 = .ok (.iadd, 1) := by decide +kernel
theorem dX12_isClimbHere_55 : decode cX12_isClimbHere 55 = .ok (.aload_n 0, 1) := by decide +kernel
theorem dX12_isClimbHere_56 : decode cX12_isClimbHere 56 = .ok (.getfield 17, 3) := by decide +kernel
theorem dX12_isClimbHere_59 : decode cX12_isClimbHere 59 = .ok (.aload_n 0, 1) := by decide +kernel
theorem dX12_isClimbHere_60 : decode cX12_isClimbHere 60 = .ok (.getfield 154, 3) := by decide +kernel
theorem dX12_isClimbHere_63 : decode cX12_isClimbHere 63 = .ok (.iaload, 1) := by decide +kernel
theorem dX12_isClimbHere_64 : decode cX12_isClimbHere 64 = .ok (.iastore, 1) := by decide +kernel
theorem dX12_isClimbHere_65 : decode cX12_isClimbHere 65 = .ok (.aload_n 0, 1) := by decide +kernel
theorem dX12_isClimbHere_66 : decode cX12_isClimbHere 66 = .ok (.getfield 20, 3) := by decide +kernel
theorem dX12_isClimbHere_69 : decode cX12_isClimbHere 69 = .ok (.iload_n 1, 1) := by decide +kernel
theorem dX12_isClimbHere_70 : decode cX12_isClimbHere 70 = .ok (.iconst 2, 1) := by decide +kernel
theorem dX12_isClimbHere_71 : decode cX12_isClimbHere 71 = .ok (.iadd, 1) := by decide +kernel
theorem dX12_isClimbHere_72 : decode cX12_isClimbHere 72 = .ok (.iconst (-1), 1) := by decide +kernel
theorem dX12_isClimbHere_73 : decode cX12_isClimbHere 73 = .ok (.iastore, 1) := by decide +kernel
theorem dX12_isClimbHere_74 : decode cX12_isClimbHere 74 = .ok (.aload_n 0, 1) := by decide +kernel
theorem dX12_isClimbHere_75 : decode cX12_isClimbHere 75 = .ok (.ldc2_w 218, 3) := by decide +kernel
theorem dX12_isClimbHere_78 : decode cX12_isClimbHere 78 = .ok (.invokevirtual 220, 3) := by decide +kernel
theorem dX12_isClimbHere_81 : decode cX12_isClimbHere 81 = .ok (.ifCond .eq 29, 3) := by decide +kernel
theorem dX12_isClimbHere_84 : decode cX12_isClimbHere 84 = .ok (.aload_n 0, 1) := by decide +kernel
theorem dX12_isClimbHere_85 : decode cX12_isClimbHere 85 = .ok (.getfield 20, 3) := by decide +kernel
theorem dX12_isClimbHere_88 : decode cX12_isClimbHere 88 = .ok (.iload_n 1, 1) := by decide +kernel
theorem dX12_isClimbHere_89 : decode cX12_isClimbHere 89 = .ok (.iconst 2, 1) := by decide +kernel
theorem dX12_isClimbHere_90 : decode cX12_isClimbHere 90 = .ok (.iadd, 1) := by decide +kernel
theorem dX12_isClimbHere_91 : decode cX12_isClimbHere 91 = .ok (.aload_n 0, 1) := by decide +kernel
theorem dX12_isClimbHere_92 : decode cX12_isClimbHere 92 = .ok (.getfield 17, 3) := by decide +kernel
theorem dX12_isClimbHere_95 : decode cX12_isClimbHere 95 = .ok (.aload_n 0, 1) := by decide +kernel
theorem dX12_isClimbHere_96 : decode cX12_isClimbHere 96 = .ok (.getfield 154, 3) := by decide +kernel
theorem dX12_isClimbHere_99 : decode cX12_isClimbHere 99 = .ok (.iaload, 1) := by decide +kernel
theorem dX12_isClimbHere_100 : decode cX12_isClimbHere 100 = .ok (.iastore, 1) := by decide +kernel
theorem dX12_isClimbHere_101 : decode cX12_isClimbHere 101 = .ok (.aload_n 0, 1) := by decide +kernel
theorem dX12_isClimbHere_102 : decode cX12_isClimbHere 102 = .ok (.invokevirtual 223, 3) := by decide +kernel
theorem dX12_isClimbHere_105 : decode cX12_isClimbHere 105 = .ok (.ifCond .ne 5, 3) := by decide +kernel
theorem dX12_isClimbHere_108 : decode cX12_isClimbHere 108 = .ok (.iconst 0, 1) := by decide +kernel
theorem dX12_isClimbHere_109 : decode cX12_isClimbHere 109 = .ok (.ireturn, 1) := by decide +kernel
theorem dX12_isClimbHere_110 : decode cX12_isClimbHere 110 = .ok (.aload_n 0, 1) := by decide +kernel
theorem dX12_isClimbHere_111 : decode cX12_isClimbHere 111 = .ok (.getfield 20, 3) := by decide +kernel
theorem dX12_isClimbHere_114 : decode cX12_isClimbHere 114 = .ok (.iload_n 1, 1) := by decide +kernel
theorem dX12_isClimbHere_115 : decode cX12_isClimbHere 115 = .ok (.iconst 3, 1) := by decide +kernel
theorem dX12_isClimbHere_116 : decode cX12_isClimbHere 116 = .ok (.iadd, 1) := by decide +kernel
theorem dX12_isClimbHere_117 : decode cX12_isClimbHere 117 = .ok (.aload_n 0, 1) := by decide +kernel
theorem dX12_isClimbHere_118 : decode cX12_isClimbHere 118 = .ok (.getfield 17, 3) := by decide +kernel
theorem dX12_isClimbHere_121 : decode cX12_isClimbHere 121 = .ok (.aload_n 0, 1) := by decide +kernel
theorem dX12_isClimbHere_122 : decode cX12_isClimbHere 122 = .ok (.getfield 154, 3) := by decide +kernel
theorem dX12_isClimbHere_125 : decode cX12_isClimbHere 125 = .ok (.iaload, 1) := by decide +kernel
theorem dX12_isClimbHere_126 : decode cX12_isClimbHere 126 = .ok (.iastore, 1) := by decide +kernel
theorem dX12_isClimbHere_127 : decode cX12_isClimbHere 127 = .ok (.aload_n 0, 1) := by decide +kernel
theorem dX12_isClimbHere_128 : decode cX12_isClimbHere 128 = .ok (.getfield 23, 3) := by decide +kernel
theorem dX12_isClimbHere_131 : decode cX12_isClimbHere 131 = .ok (.aload_n 0, 1) := by decide +kernel
theorem dX12_isClimbHere_132 : decode cX12_isClimbHere 132 = .ok (.getfield 154, 3) := by decide +kernel
theorem dX12_isClimbHere_135 : decode cX12_isClimbHere 135 = .ok (.dup2, 1) := by decide +kernel
theorem dX12_isClimbHere_136 : decode cX12_isClimbHere 136 = .ok (.iaload, 1) := by decide +kernel
theorem dX12_isClimbHere_137 : decode cX12_isClimbHere 137 = .ok (.iconst 1, 1) := by decide +kernel
theorem dX12_isClimbHere_138 : decode cX12_isClimbHere 138 = .ok (.iadd, 1) := by decide +kernel
theorem dX12_isClimbHere_139 : decode cX12_isClimbHere 139 = .ok (.iastore, 1) := by decide +kernel
theorem dX12_isClimbHere_140 : decode cX12_isClimbHere 140 = .ok (.iconst 1, 1) := by decide +kernel
theorem dX12_isClimbHere_141 : decode cX12_isClimbHere 141 = .ok (.ireturn, 1) := by decide +kernel
theorem dX12_cellHere_0 : decode cX12_cellHere 0 = .ok (.aload_n 0, 1) := by decide +kernel
theorem dX12_cellHere_1 : decode cX12_cellHere 1 = .ok (.iload_n 2, 1) := by decide +kernel
theorem dX12_cellHere_2 : decode cX12_cellHere 2 = .ok (.iload_n 3, 1) := by decide +kernel
theorem dX12_cellHere_3 : decode cX12_cellHere 3 = .ok (.invokevirtual 175, 3) := by decide +kernel
theorem dX12_cellHere_6 : decode cX12_cellHere 6 = .ok (.ifCond .ne 5, 3) := by decide +kernel
theorem dX12_cellHere_9 : decode cX12_cellHere 9 = .ok (.iconst 0, 1) := by decide +kernel
theorem dX12_cellHere_10 : decode cX12_cellHere 10 = .ok (.ireturn, 1) := by decide +kernel
theorem dX12_cellHere_11 : decode cX12_cellHere 11 = .ok (.aload_n 0, 1) := by decide +kernel
theorem dX12_cellHere_12 : decode cX12_cellHere 12 = .ok (.getfield 26, 3) := by decide +kernel
theorem dX12_cellHere_15 : decode cX12_cellHere 15 = .ok (.iload_n 1, 1) := by decide +kernel
theorem dX12_cellHere_16 : decode cX12_cellHere 16 = .ok (.aload_n 0, 1) := by decide +kernel
theorem dX12_cellHere_17 : decode cX12_cellHere 17 = .ok (.getfield 121, 3) := by decide +kernel
theorem dX12_cellHere_20 : decode cX12_cellHere 20 = .ok (.iastore, 1) := by decide +kernel
theorem dX12_cellHere_21 : decode cX12_cellHere 21 = .ok (.iconst 1, 1) := by decide +kernel
theorem dX12_cellHere_22 : decode cX12_cellHere 22 = .ok (.ireturn, 1) := by decide +kernel
theorem dX12_isLadderHere_0 : decode cX12_isLadderHere 0 = .ok (.aload_n 0, 1) := by decide +kernel
theorem dX12_isLadderHere_1 : decode cX12_isLadderHere 1 = .ok (.getfield 26, 3) := by decide +kernel
theorem dX12_isLadderHere_4 : decode cX12_isLadderHere 4 = .ok (.iconst 0, 1) := by decide +kernel
theorem dX12_isLadderHere_5 : decode cX12_isLadderHere 5 = .ok (.iaload, 1) := by decide +kernel
theorem dX12_isLadderHere_6 : decode cX12_isLadderHere 6 = .ok (.ifCond .le 10, 3) := by decide +kernel
theorem dX12_isLadderHere_9 : decode cX12_isLadderHere 9 = .ok (.aload_n 0, 1) := by decide +kernel
theorem dX12_isLadderHere_10 : decode cX12_isLadderHere 10 = .ok (.iconst 4, 1) := by decide +kernel
theorem dX12_isLadderHere_11 : decode cX12_isLadderHere 11 = .ok (.iload_n 1, 1) := by decide +kernel
theorem dX12_isLadderHere_12 : decode cX12_isLadderHere 12 = .ok (.invokevirtual 117, 3) := by decide +kernel
theorem dX12_isLadderHere_15 : decode cX12_isLadderHere 15 = .ok (.ireturn, 1) := by decide +kernel
theorem dX12_isLadderHere_16 : decode cX12_isLadderHere 16 = .ok (.aload_n 0, 1) := by decide +kernel
theorem dX12_isLadderHere_17 : decode cX12_isLadderHere 17 = .ok (.invokevirtual 111, 3) := by decide +kernel
theorem dX12_isLadderHere_20 : decode cX12_isLadderHere 20 = .ok (.aload_n 0, 1) := by decide +kernel
theorem dX12_isLadderHere_21 : decode cX12_isLadderHere 21 = .ok (.iconst 0, 1) := by decide +kernel
theorem dX12_isLadderHere_22 : decode cX12_isLadderHere 22 = .ok (.iconst 3, 1) := by decide +kernel
theorem dX12_isLadderHere_23 : decode cX12_isLadderHere 23 = .ok (.bipush 9, 2) := by decide +kernel
theorem dX12_isLadderHere_25 : decode cX12_isLadderHere 25 = .ok (.invokevirtual 226, 3) := by decide +kernel
theorem dX12_isLadderHere_28 : decode cX12_isLadderHere 28 = .ok (.ireturn, 1) := by decide +kernel
theorem dX12_standingSoFar_0 : decode cX12_standingSoFar 0 = .ok (.iconst 0, 1) := by decide +kernel
theorem dX12_standingSoFar_1 : decode cX12_standingSoFar 1 = .ok (.istore_n 2, 1) := by decide +kernel
theorem dX12_standingSoFar_2 : decode cX12_standingSoFar 2 = .ok (.iconst 0, 1) := by decide +kernel
theorem dX12_standingSoFar_3 : decode cX12_standingSoFar 3 = .ok (.istore_n 3, 1) := by decide +kernel
theorem dX12_standingSoFar_4 : decode cX12_standingSoFar 4 = .ok (.iload_n 3, 1) := by decide +kernel
theorem dX12_standingSoFar_5 : decode cX12_standingSoFar 5 = .ok (.aload_n 0, 1) := by decide +kernel
theorem dX12_standingSoFar_6 : decode cX12_standingSoFar 6 = .ok (.getfield 26, 3) := by decide +kernel
theorem dX12_standingSoFar_9 : decode cX12_standingSoFar 9 = .ok (.iconst 1, 1) := by decide +kernel
theorem dX12_standingSoFar_10 : decode cX12_standingSoFar 10 = .ok (.iaload, 1) := by decide +kernel
theorem dX12_standingSoFar_11 : decode cX12_standingSoFar 11 = .ok (.if_icmp .ge 32, 3) := by decide +kernel
theorem dX12_standingSoFar_14 : decode cX12_standingSoFar 14 = .ok (.iload_n 2, 1) := by decide +kernel
theorem dX12_standingSoFar_15 : decode cX12_standingSoFar 15 = .ok (.aload_n 0, 1) := by decide +kernel
theorem dX12_standingSoFar_16 : decode cX12_standingSoFar 16 = .ok (.getfield 26, 3) := by decide +kernel
theorem dX12_standingSoFar_19 : decode cX12_standingSoFar 19 = .ok (.bipush 46, 2) := by decide +kernel
theorem dX12_standingSoFar_21 : decode cX12_standingSoFar 21 = .ok (.iconst 4, 1) := by decide +kernel
theorem dX12_standingSoFar_22 : decode cX12_standingSoFar 22 = .ok (.iload_n 3, 1) := by decide +kernel
theorem dX12_standingSoFar_23 : decode cX12_standingSoFar 23 = .ok (.imul, 1) := by decide +kernel
theorem dX12_standingSoFar_24 : decode cX12_standingSoFar 24 = .ok (.iadd, 1) := by decide +kernel
theorem dX12_standingSoFar_25 : decode cX12_standingSoFar 25 = .ok (.iaload, 1) := by decide +kernel
theorem dX12_standingSoFar_26 : decode cX12_standingSoFar 26 = .ok (.iload_n 1, 1) := by decide +kernel
theorem dX12_standingSoFar_27 : decode cX12_standingSoFar 27 = .ok (.if_icmp .ne 7, 3) := by decide +kernel
theorem dX12_standingSoFar_30 : decode cX12_standingSoFar 30 = .ok (.iconst 1, 1) := by decide +kernel
theorem dX12_standingSoFar_31 : decode cX12_standingSoFar 31 = .ok (.goto 4, 3) := by decide +kernel
theorem dX12_standingSoFar_34 : decode cX12_standingSoFar 34 = .ok (.iconst 0, 1) := by decide +kernel
theorem dX12_standingSoFar_35 : decode cX12_standingSoFar 35 = .ok (.iadd, 1) := by decide +kernel
theorem dX12_standingSoFar_36 : decode cX12_standingSoFar 36 = .ok (.istore_n 2, 1) := by decide +kernel
theorem dX12_standingSoFar_37 : decode cX12_standingSoFar 37 = .ok (.iinc 3 1, 3) := by decide +kernel
theorem dX12_standingSoFar_40 : decode cX12_standingSoFar 40 = .ok (.goto (-36), 3) := by decide +kernel
theorem dX12_standingSoFar_43 : decode cX12_standingSoFar 43 = .ok (.iload_n 2, 1) := by decide +kernel
theorem dX12_standingSoFar_44 : decode cX12_standingSoFar 44 = .ok (.ireturn, 1) := by decide +kernel
theorem dX12_isRungHere_0 : decode cX12_isRungHere 0 = .ok (.aload_n 0, 1) := by decide +kernel
theorem dX12_isRungHere_1 : decode cX12_isRungHere 1 = .ok (.invokevirtual 111, 3) := by decide +kernel
theorem dX12_isRungHere_4 : decode cX12_isRungHere 4 = .ok (.aload_n 0, 1) := by decide +kernel
theorem dX12_isRungHere_5 : decode cX12_isRungHere 5 = .ok (.iconst 0, 1) := by decide +kernel
theorem dX12_isRungHere_6 : decode cX12_isRungHere 6 = .ok (.aload_n 0, 1) := by decide +kernel
theorem dX12_isRungHere_7 : decode cX12_isRungHere 7 = .ok (.getfield 26, 3) := by decide +kernel
theorem dX12_isRungHere_10 : decode cX12_isRungHere 10 = .ok (.iconst 0, 1) := by decide +kernel
theorem dX12_isRungHere_11 : decode cX12_isRungHere 11 = .ok (.iaload, 1) := by decide +kernel
theorem dX12_isRungHere_12 : decode cX12_isRungHere 12 = .ok (.iconst 1, 1) := by decide +kernel
theorem dX12_isRungHere_13 : decode cX12_isRungHere 13 = .ok (.isub, 1) := by decide +kernel
theorem dX12_isRungHere_14 : decode cX12_isRungHere 14 = .ok (.invokevirtual 175, 3) := by decide +kernel
theorem dX12_isRungHere_17 : decode cX12_isRungHere 17 = .ok (.ifCond .ne 5, 3) := by decide +kernel
theorem dX12_isRungHere_20 : decode cX12_isRungHere 20 = .ok (.iconst 0, 1) := by decide +kernel
theorem dX12_isRungHere_21 : decode cX12_isRungHere 21 = .ok (.ireturn, 1) := by decide +kernel
theorem dX12_isRungHere_22 : decode cX12_isRungHere 22 = .ok (.bipush 10, 2) := by decide +kernel
theorem dX12_isRungHere_24 : decode cX12_isRungHere 24 = .ok (.iconst 4, 1) := by decide +kernel
theorem dX12_isRungHere_25 : decode cX12_isRungHere 25 = .ok (.aload_n 0, 1) := by decide +kernel
theorem dX12_isRungHere_26 : decode cX12_isRungHere 26 = .ok (.getfield 121, 3) := by decide +kernel
theorem dX12_isRungHere_29 : decode cX12_isRungHere 29 = .ok (.imul, 1) := by decide +kernel
theorem dX12_isRungHere_30 : decode cX12_isRungHere 30 = .ok (.iadd, 1) := by decide +kernel
theorem dX12_isRungHere_31 : decode cX12_isRungHere 31 = .ok (.istore_n 1, 1) := by decide +kernel
theorem dX12_isRungHere_32 : decode cX12_isRungHere 32 = .ok (.aload_n 0, 1) := by decide +kernel
theorem dX12_isRungHere_33 : decode cX12_isRungHere 33 = .ok (.aload_n 0, 1) := by decide +kernel
theorem dX12_isRungHere_34 : decode cX12_isRungHere 34 = .ok (.getfield 121, 3) := by decide +kernel
theorem dX12_isRungHere_37 : decode cX12_isRungHere 37 = .ok (.invokevirtual 230, 3) := by decide +kernel
theorem dX12_isRungHere_40 : decode cX12_isRungHere 40 = .ok (.istore_n 2, 1) := by decide +kernel
theorem dX12_isRungHere_41 : decode cX12_isRungHere 41 = .ok (.aload_n 0, 1) := by decide +kernel
theorem dX12_isRungHere_42 : decode cX12_isRungHere 42 = .ok (.iload_n 1, 1) := by decide +kernel
theorem dX12_isRungHere_43 : decode cX12_isRungHere 43 = .ok (.iload_n 2, 1) := by decide +kernel
theorem dX12_isRungHere_44 : decode cX12_isRungHere 44 = .ok (.iconst 1, 1) := by decide +kernel
theorem dX12_isRungHere_45 : decode cX12_isRungHere 45 = .ok (.if_icmp .le 7, 3) := by decide +kernel
theorem dX12_isRungHere_48 : decode cX12_isRungHere 48 = .ok (.iload_n 2, 1) := by decide +kernel
theorem dX12_isRungHere_49 : decode cX12_isRungHere 49 = .ok (.goto 4, 3) := by decide +kernel
theorem dX12_isRungHere_52 : decode cX12_isRungHere 52 = .ok (.iconst 1, 1) := by decide +kernel
theorem dX12_isRungHere_53 : decode cX12_isRungHere 53 = .ok (.iconst 4, 1) := by decide +kernel
theorem dX12_isRungHere_54 : decode cX12_isRungHere 54 = .ok (.invokevirtual 226, 3) := by decide +kernel
theorem dX12_isRungHere_57 : decode cX12_isRungHere 57 = .ok (.ifCond .eq 21, 3) := by decide +kernel
theorem dX12_isRungHere_60 : decode cX12_isRungHere 60 = .ok (.aload_n 0, 1) := by decide +kernel
theorem dX12_isRungHere_61 : decode cX12_isRungHere 61 = .ok (.iload_n 1, 1) := by decide +kernel
theorem dX12_isRungHere_62 : decode cX12_isRungHere 62 = .ok (.iconst 1, 1) := by decide +kernel
theorem dX12_isRungHere_63 : decode cX12_isRungHere 63 = .ok (.iadd, 1) := by decide +kernel
theorem dX12_isRungHere_64 : decode cX12_isRungHere 64 = .ok (.iconst 1, 1) := by decide +kernel
theorem dX12_isRungHere_65 : decode cX12_isRungHere 65 = .ok (.sipush 999, 3) := by decide +kernel
theorem dX12_isRungHere_68 : decode cX12_isRungHere 68 = .ok (.invokevirtual 226, 3) := by decide +kernel
theorem dX12_isRungHere_71 : decode cX12_isRungHere 71 = .ok (.ifCond .eq 7, 3) := by decide +kernel
theorem dX12_isRungHere_74 : decode cX12_isRungHere 74 = .ok (.iconst 1, 1) := by decide +kernel
theorem dX12_isRungHere_75 : decode cX12_isRungHere 75 = .ok (.goto 4, 3) := by decide +kernel
theorem dX12_isRungHere_78 : decode cX12_isRungHere 78 = .ok (.iconst 0, 1) := by decide +kernel
theorem dX12_isRungHere_79 : decode cX12_isRungHere 79 = .ok (.ireturn, 1) := by decide +kernel
theorem dX12_isBrokenHere_0 : decode cX12_isBrokenHere 0 = .ok (.aload_n 0, 1) := by decide +kernel
theorem dX12_isBrokenHere_1 : decode cX12_isBrokenHere 1 = .ok (.invokevirtual 111, 3) := by decide +kernel
theorem dX12_isBrokenHere_4 : decode cX12_isBrokenHere 4 = .ok (.aload_n 0, 1) := by decide +kernel
theorem dX12_isBrokenHere_5 : decode cX12_isBrokenHere 5 = .ok (.invokevirtual 99, 3) := by decide +kernel
theorem dX12_isBrokenHere_8 : decode cX12_isBrokenHere 8 = .ok (.pop, 1) := by decide +kernel
theorem dX12_isBrokenHere_9 : decode cX12_isBrokenHere 9 = .ok (.aload_n 0, 1) := by decide +kernel
theorem dX12_isBrokenHere_10 : decode cX12_isBrokenHere 10 = .ok (.getfield 96, 3) := by decide +kernel
theorem dX12_isBrokenHere_13 : decode cX12_isBrokenHere 13 = .ok (.istore_n 1, 1) := by decide +kernel
theorem dX12_isBrokenHere_14 : decode cX12_isBrokenHere 14 = .ok (.aload_n 0, 1) := by decide +kernel
theorem dX12_isBrokenHere_15 : decode cX12_isBrokenHere 15 = .ok (.iconst 0, 1) := by decide +kernel
theorem dX12_isBrokenHere_16 : decode cX12_isBrokenHere 16 = .ok (.aload_n 0, 1) := by decide +kernel
theorem dX12_isBrokenHere_17 : decode cX12_isBrokenHere 17 = .ok (.getfield 26, 3) := by decide +kernel
theorem dX12_isBrokenHere_20 : decode cX12_isBrokenHere 20 = .ok (.iconst 0, 1) := by decide +kernel
theorem dX12_isBrokenHere_21 : decode cX12_isBrokenHere 21 = .ok (.iaload, 1) := by decide +kernel
theorem dX12_isBrokenHere_22 : decode cX12_isBrokenHere 22 = .ok (.iconst 1, 1) := by decide +kernel
theorem dX12_isBrokenHere_23 : decode cX12_isBrokenHere 23 = .ok (.isub, 1) := by decide +kernel
theorem dX12_isBrokenHere_24 : decode cX12_isBrokenHere 24 = .ok (.invokevirtual 175, 3) := by decide +kernel
theorem dX12_isBrokenHere_27 : decode cX12_isBrokenHere 27 = .ok (.ifCond .ne 5, 3) := by decide +kernel
theorem dX12_isBrokenHere_30 : decode cX12_isBrokenHere 30 = .ok (.iconst 0, 1) := by decide +kernel
theorem dX12_isBrokenHere_31 : decode cX12_isBrokenHere 31 = .ok (.ireturn, 1) := by decide +kernel
theorem dX12_isBrokenHere_32 : decode cX12_isBrokenHere 32 = .ok (.aload_n 0, 1) := by decide +kernel
theorem dX12_isBrokenHere_33 : decode cX12_isBrokenHere 33 = .ok (.aload_n 0, 1) := by decide +kernel
theorem dX12_isBrokenHere_34 : decode cX12_isBrokenHere 34 = .ok (.getfield 121, 3) := by decide +kernel
theorem dX12_isBrokenHere_37 : decode cX12_isBrokenHere 37 = .ok (.invokevirtual 230, 3) := by decide +kernel
theorem dX12_isBrokenHere_40 : decode cX12_isBrokenHere 40 = .ok (.ifCond .le 10, 3) := by decide +kernel
theorem dX12_isBrokenHere_43 : decode cX12_isBrokenHere 43 = .ok (.aload_n 0, 1) := by decide +kernel
theorem dX12_isBrokenHere_44 : decode cX12_isBrokenHere 44 = .ok (.iconst 1, 1) := by decide +kernel
theorem dX12_isBrokenHere_45 : decode cX12_isBrokenHere 45 = .ok (.iload_n 1, 1) := by decide +kernel
theorem dX12_isBrokenHere_46 : decode cX12_isBrokenHere 46 = .ok (.invokevirtual 117, 3) := by decide +kernel
theorem dX12_isBrokenHere_49 : decode cX12_isBrokenHere 49 = .ok (.ireturn, 1) := by decide +kernel
theorem dX12_isBrokenHere_50 : decode cX12_isBrokenHere 50 = .ok (.aload_n 0, 1) := by decide +kernel
theorem dX12_isBrokenHere_51 : decode cX12_isBrokenHere 51 = .ok (.getfield 26, 3) := by decide +kernel
theorem dX12_isBrokenHere_54 : decode cX12_isBrokenHere 54 = .ok (.bipush 10, 2) := by decide +kernel
theorem dX12_isBrokenHere_56 : decode cX12_isBrokenHere 56 = .ok (.iconst 4, 1) := by decide +kernel
theorem dX12_isBrokenHere_57 : decode cX12_isBrokenHere 57 = .ok (.aload_n 0, 1) := by decide +kernel
theorem dX12_isBrokenHere_58 : decode cX12_isBrokenHere 58 = .ok (.getfield 121, 3) := by decide +kernel
theorem dX12_isBrokenHere_61 : decode cX12_isBrokenHere 61 = .ok (.imul, 1) := by decide +kernel
theorem dX12_isBrokenHere_62 : decode cX12_isBrokenHere 62 = .ok (.iadd, 1) := by decide +kernel
theorem dX12_isBrokenHere_63 : decode cX12_isBrokenHere 63 = .ok (.iconst 3, 1) := by decide +kernel
theorem dX12_isBrokenHere_64 : decode cX12_isBrokenHere 64 = .ok (.iadd, 1) := by decide +kernel
theorem dX12_isBrokenHere_65 : decode cX12_isBrokenHere 65 = .ok (.iconst 1, 1) := by decide +kernel
theorem dX12_isBrokenHere_66 : decode cX12_isBrokenHere 66 = .ok (.iastore, 1) := by decide +kernel
theorem dX12_isBrokenHere_67 : decode cX12_isBrokenHere 67 = .ok (.iconst 1, 1) := by decide +kernel
theorem dX12_isBrokenHere_68 : decode cX12_isBrokenHere 68 = .ok (.ireturn, 1) := by decide +kernel
theorem dX12_isPersonHere_0 : decode cX12_isPersonHere 0 = .ok (.aload_n 0, 1) := by decide +kernel
theorem dX12_isPersonHere_1 : decode cX12_isPersonHere 1 = .ok (.getfield 26, 3) := by decide +kernel
theorem dX12_isPersonHere_4 : decode cX12_isPersonHere 4 = .ok (.iconst 1, 1) := by decide +kernel
theorem dX12_isPersonHere_5 : decode cX12_isPersonHere 5 = .ok (.iaload, 1) := by decide +kernel
theorem dX12_isPersonHere_6 : decode cX12_isPersonHere 6 = .ok (.iconst 4, 1) := by decide +kernel
theorem dX12_isPersonHere_7 : decode cX12_isPersonHere 7 = .ok (.if_icmp .ne 10, 3) := by decide +kernel
theorem dX12_isPersonHere_10 : decode cX12_isPersonHere 10 = .ok (.aload_n 0, 1) := by decide +kernel
theorem dX12_isPersonHere_11 : decode cX12_isPersonHere 11 = .ok (.iconst 4, 1) := by decide +kernel
theorem dX12_isPersonHere_12 : decode cX12_isPersonHere 12 = .ok (.iload_n 1, 1) := by decide +kernel
theorem dX12_isPersonHere_13 : decode cX12_isPersonHere 13 = .ok (.invokevirtual 117, 3) := by decide +kernel
theorem dX12_isPersonHere_16 : decode cX12_isPersonHere 16 = .ok (.ireturn, 1) := by decide +kernel
theorem dX12_isPersonHere_17 : decode cX12_isPersonHere 17 = .ok (.aload_n 0, 1) := by decide +kernel
theorem dX12_isPersonHere_18 : decode cX12_isPersonHere 18 = .ok (.invokevirtual 111, 3) := by decide +kernel
theorem dX12_isPersonHere_21 : decode cX12_isPersonHere 21 = .ok (.aload_n 0, 1) := by decide +kernel
theorem dX12_isPersonHere_22 : decode cX12_isPersonHere 22 = .ok (.invokevirtual 99, 3) := by decide +kernel
theorem dX12_isPersonHere_25 : decode cX12_isPersonHere 25 = .ok (.pop, 1) := by decide +kernel
theorem dX12_isPersonHere_26 : decode cX12_isPersonHere 26 = .ok (.aload_n 0, 1) := by decide +kernel
theorem dX12_isPersonHere_27 : decode cX12_isPersonHere 27 = .ok (.getfield 96, 3) := by decide +kernel
theorem dX12_isPersonHere_30 : decode cX12_isPersonHere 30 = .ok (.istore_n 2, 1) := by decide +kernel
theorem dX12_isPersonHere_31 : decode cX12_isPersonHere 31 = .ok (.aload_n 0, 1) := by decide +kernel
theorem dX12_isPersonHere_32 : decode cX12_isPersonHere 32 = .ok (.getfield 26, 3) := by decide +kernel
theorem dX12_isPersonHere_35 : decode cX12_isPersonHere 35 = .ok (.iconst 1, 1) := by decide +kernel
theorem dX12_isPersonHere_36 : decode cX12_isPersonHere 36 = .ok (.iaload, 1) := by decide +kernel
theorem dX12_isPersonHere_37 : decode cX12_isPersonHere 37 = .ok (.istore_n 3, 1) := by decide +kernel
theorem dX12_isPersonHere_38 : decode cX12_isPersonHere 38 = .ok (.aload_n 0, 1) := by decide +kernel
theorem dX12_isPersonHere_39 : decode cX12_isPersonHere 39 = .ok (.iconst 0, 1) := by decide +kernel
theorem dX12_isPersonHere_40 : decode cX12_isPersonHere 40 = .ok (.aload_n 0, 1) := by decide +kernel
theorem dX12_isPersonHere_41 : decode cX12_isPersonHere 41 = .ok (.getfield 26, 3) := by decide +kernel
theorem dX12_isPersonHere_44 : decode cX12_isPersonHere 44 = .ok (.iconst 0, 1) := by decide +kernel
theorem dX12_isPersonHere_45 : decode cX12_isPersonHere 45 = .ok (.iaload, 1) := by decide +kernel
theorem dX12_isPersonHere_46 : decode cX12_isPersonHere 46 = .ok (.iconst 1, 1) := by decide +kernel
theorem dX12_isPersonHere_47 : decode cX12_isPersonHere 47 = .ok (.isub, 1) := by decide +kernel
theorem dX12_isPersonHere_48 : decode cX12_isPersonHere 48 = .ok (.invokevirtual 175, 3) := by decide +kernel
theorem dX12_isPersonHere_51 : decode cX12_isPersonHere 51 = .ok (.ifCond .ne 5, 3) := by decide +kernel
theorem dX12_isPersonHere_54 : decode cX12_isPersonHere 54 = .ok (.iconst 0, 1) := by decide +kernel
theorem dX12_isPersonHere_55 : decode cX12_isPersonHere 55 = .ok (.ireturn, 1) := by decide +kernel
theorem dX12_isPersonHere_56 : decode cX12_isPersonHere 56 = .ok (.bipush 10, 2) := by decide +kernel
theorem dX12_isPersonHere_58 : decode cX12_isPersonHere 58 = .ok (.iconst 4, 1) := by decide +kernel
theorem dX12_isPersonHere_59 : decode cX12_isPersonHere 59 = .ok (.aload_n 0, 1) := by decide +kernel
theorem dX12_isPersonHere_60 : decode cX12_isPersonHere 60 = .ok (.getfield 121, 3) := by decide +kernel
theorem dX12_isPersonHere_63 : decode cX12_isPersonHere 63 = .ok (.imul, 1) := by decide +kernel
theorem dX12_isPersonHere_64 : decode cX12_isPersonHere 64 = .ok (.iadd, 1) := by decide +kernel
theorem dX12_isPersonHere_65 : decode cX12_isPersonHere 65 = .ok (.istore 4, 2) := by decide +kernel
theorem dX12_isPersonHere_67 : decode cX12_isPersonHere 67 = .ok (.aload_n 0, 1) := by decide +kernel
theorem dX12_isPersonHere_68 : decode cX12_isPersonHere 68 = .ok (.getfield 26, 3) := by decide +kernel
theorem dX12_isPersonHere_71 : decode cX12_isPersonHere 71 = .ok (.iload 4, 2) := by decide +kernel
theorem dX12_isPersonHere_73 : decode cX12_isPersonHere 73 = .ok (.iconst 3, 1) := by decide +kernel
theorem dX12_isPersonHere_74 : decode cX12_isPersonHere 74 = .ok (.iadd, 1) := by decide +kernel
theorem dX12_isPersonHere_75 : decode cX12_isPersonHere 75 = .ok (.iaload, 1) := by decide +kernel
theorem dX12_isPersonHere_76 : decode cX12_isPersonHere 76 = .ok (.iconst 1, 1) := by decide +kernel
theorem dX12_isPersonHere_77 : decode cX12_isPersonHere 77 = .ok (.if_icmp .eq 21, 3) := by decide +kernel
theorem dX12_isPersonHere_80 : decode cX12_isPersonHere 80 = .ok (.aload_n 0, 1) := by decide +kernel
theorem dX12_isPersonHere_81 : decode cX12_isPersonHere 81 = .ok (.aload_n 0, 1) := by decide +kernel
theorem dX12_isPersonHere_82 : decode cX12_isPersonHere 82 = .ok (.getfield 121, 3) := by decide +kernel
theorem dX12_isPersonHere_85 : decode cX12_isPersonHere 85 = .ok (.invokevirtual 230, 3) := by decide +kernel
theorem dX12_isPersonHere_88 : decode cX12_isPersonHere 88 = .ok (.aload_n 0, 1) := by decide +kernel
theorem dX12_isPersonHere_89 : decode cX12_isPersonHere 89 = .ok (.getfield 26, 3) := by decide +kernel
theorem dX12_isPersonHere_92 : decode cX12_isPersonHere 92 = .ok (.iload 4, 2) := by decide +kernel
theorem dX12_isPersonHere_94 : decode cX12_isPersonHere 94 = .ok (.iaload, 1) := by decide +kernel
theorem dX12_isPersonHere_95 : decode cX12_isPersonHere 95 = .ok (.if_icmp .lt 10, 3) := by decide +kernel
theorem dX12_isPersonHere_98 : decode cX12_isPersonHere 98 = .ok (.aload_n 0, 1) := by decide +kernel
theorem dX12_isPersonHere_99 : decode cX12_isPersonHere 99 = .ok (.iconst 1, 1) := by decide +kernel
theorem dX12_isPersonHere_100 : decode cX12_isPersonHere 100 = .ok (.iload_n 2, 1) := by decide +kernel
theorem dX12_isPersonHere_101 : decode cX12_isPersonHere 101 = .ok (.invokevirtual 117, 3) := by decide +kernel
theorem dX12_isPersonHere_104 : decode cX12_isPersonHere 104 = .ok (.ireturn, 1) := by decide +kernel
theorem dX12_isPersonHere_105 : decode cX12_isPersonHere 105 = .ok (.aload_n 0, 1) := by decide +kernel
theorem dX12_isPersonHere_106 : decode cX12_isPersonHere 106 = .ok (.getfield 26, 3) := by decide +kernel
theorem dX12_isPersonHere_109 : decode cX12_isPersonHere 109 = .ok (.bipush 46, 2) := by decide +kernel
theorem dX12_isPersonHere_111 : decode cX12_isPersonHere 111 = .ok (.iconst 4, 1) := by decide +kernel
theorem dX12_isPersonHere_112 : decode cX12_isPersonHere 112 = .ok (.iload_n 3, 1) := by decide +kernel
theorem dX12_isPersonHere_113 : decode cX12_isPersonHere 113 = .ok (.imul, 1) := by decide +kernel
theorem dX12_isPersonHere_114 : decode cX12_isPersonHere 114 = .ok (.iadd, 1) := by decide +kernel
theorem dX12_isPersonHere_115 : decode cX12_isPersonHere 115 = .ok (.aload_n 0, 1) := by decide +kernel
theorem dX12_isPersonHere_116 : decode cX12_isPersonHere 116 = .ok (.getfield 121, 3) := by decide +kernel
theorem dX12_isPersonHere_119 : decode cX12_isPersonHere 119 = .ok (.iastore, 1) := by decide +kernel
theorem dX12_isPersonHere_120 : decode cX12_isPersonHere 120 = .ok (.aload_n 0, 1) := by decide +kernel
theorem dX12_isPersonHere_121 : decode cX12_isPersonHere 121 = .ok (.getfield 26, 3) := by decide +kernel
theorem dX12_isPersonHere_124 : decode cX12_isPersonHere 124 = .ok (.bipush 70, 2) := by decide +kernel
theorem dX12_isPersonHere_126 : decode cX12_isPersonHere 126 = .ok (.iload_n 3, 1) := by decide +kernel
theorem dX12_isPersonHere_127 : decode cX12_isPersonHere 127 = .ok (.iadd, 1) := by decide +kernel
theorem dX12_isPersonHere_128 : decode cX12_isPersonHere 128 = .ok (.aload_n 0, 1) := by decide +kernel
theorem dX12_isPersonHere_129 : decode cX12_isPersonHere 129 = .ok (.getfield 121, 3) := by decide +kernel
theorem dX12_isPersonHere_132 : decode cX12_isPersonHere 132 = .ok (.iastore, 1) := by decide +kernel
theorem dX12_isPersonHere_133 : decode cX12_isPersonHere 133 = .ok (.aload_n 0, 1) := by decide +kernel
theorem dX12_isPersonHere_134 : decode cX12_isPersonHere 134 = .ok (.bipush 62, 2) := by decide +kernel
theorem dX12_isPersonHere_136 : decode cX12_isPersonHere 136 = .ok (.iconst 2, 1) := by decide +kernel
theorem dX12_isPersonHere_137 : decode cX12_isPersonHere 137 = .ok (.iload_n 3, 1) := by decide +kernel
theorem dX12_isPersonHere_138 : decode cX12_isPersonHere 138 = .ok (.imul, 1) := by decide +kernel
theorem dX12_isPersonHere_139 : decode cX12_isPersonHere 139 = .ok (.iadd, 1) := by decide +kernel
theorem dX12_isPersonHere_140 : decode cX12_isPersonHere 140 = .ok (.iconst 1, 1) := by decide +kernel
theorem dX12_isPersonHere_141 : decode cX12_isPersonHere 141 = .ok (.bipush 20, 2) := by decide +kernel
theorem dX12_isPersonHere_143 : decode cX12_isPersonHere 143 = .ok (.invokevirtual 226, 3) := by decide +kernel
theorem dX12_isPersonHere_146 : decode cX12_isPersonHere 146 = .ok (.ifCond .eq 45, 3) := by decide +kernel
theorem dX12_isPersonHere_149 : decode cX12_isPersonHere 149 = .ok (.aload_n 0, 1) := by decide +kernel
theorem dX12_isPersonHere_150 : decode cX12_isPersonHere 150 = .ok (.bipush 62, 2) := by decide +kernel
theorem dX12_isPersonHere_152 : decode cX12_isPersonHere 152 = .ok (.iconst 2, 1) := by decide +kernel
theorem dX12_isPersonHere_153 : decode cX12_isPersonHere 153 = .ok (.iload_n 3, 1) := by decide +kernel
theorem dX12_isPersonHere_154 : decode cX12_isPersonHere 154 = .ok (.imul, 1) := by decide +kernel
theorem dX12_isPersonHere_155 : decode cX12_isPersonHere 155 = .ok (.iadd, 1) := by decide +kernel
theorem dX12_isPersonHere_156 : decode cX12_isPersonHere 156 = .ok (.iconst 1, 1) := by decide +kernel
theorem dX12_isPersonHere_157 : decode cX12_isPersonHere 157 = .ok (.iadd, 1) := by decide +kernel
theorem dX12_isPersonHere_158 : decode cX12_isPersonHere 158 = .ok (.iconst 1, 1) := by decide +kernel
theorem dX12_isPersonHere_159 : decode cX12_isPersonHere 159 = .ok (.bipush 30, 2) := by decide +kernel
theorem dX12_isPersonHere_161 : decode cX12_isPersonHere 161 = .ok (.invokevirtual 226, 3) := by decide +kernel
theorem dX12_isPersonHere_164 : decode cX12_isPersonHere 164 = .ok (.ifCond .eq 27, 3) := by decide +kernel
theorem dX12_isPersonHere_167 : decode cX12_isPersonHere 167 = .ok (.aload_n 0, 1) := by decide +kernel
theorem dX12_isPersonHere_168 : decode cX12_isPersonHere 168 = .ok (.bipush 46, 2) := by decide +kernel
theorem dX12_isPersonHere_170 : decode cX12_isPersonHere 170 = .ok (.iconst 4, 1) := by decide +kernel
theorem dX12_isPersonHere_171 : decode cX12_isPersonHere 171 = .ok (.iload_n 3, 1) := by decide +kernel
theorem dX12_isPersonHere_172 : decode cX12_isPersonHere 172 = .ok (.imul, 1) := by decide +kernel
theorem dX12_isPersonHere_173 : decode cX12_isPersonHere 173 = .ok (.iadd, 1) := by decide +kernel
theorem dX12_isPersonHere_174 : decode cX12_isPersonHere 174 = .ok (.iconst 2, 1) := by decide +kernel
theorem dX12_isPersonHere_175 : decode cX12_isPersonHere 175 = .ok (.iadd, 1) := by decide +kernel
theorem dX12_isPersonHere_176 : decode cX12_isPersonHere 176 = .ok (.iconst 0, 1) := by decide +kernel
theorem dX12_isPersonHere_177 : decode cX12_isPersonHere 177 = .ok (.aload_n 0, 1) := by decide +kernel
theorem dX12_isPersonHere_178 : decode cX12_isPersonHere 178 = .ok (.getfield 26, 3) := by decide +kernel
theorem dX12_isPersonHere_181 : decode cX12_isPersonHere 181 = .ok (.iconst 0, 1) := by decide +kernel
theorem dX12_isPersonHere_182 : decode cX12_isPersonHere 182 = .ok (.iaload, 1) := by decide +kernel
theorem dX12_isPersonHere_183 : decode cX12_isPersonHere 183 = .ok (.iconst 1, 1) := by decide +kernel
theorem dX12_isPersonHere_184 : decode cX12_isPersonHere 184 = .ok (.isub, 1) := by decide +kernel
theorem dX12_isPersonHere_185 : decode cX12_isPersonHere 185 = .ok (.invokevirtual 226, 3) := by decide +kernel
theorem dX12_isPersonHere_188 : decode cX12_isPersonHere 188 = .ok (.ifCond .ne 5, 3) := by decide +kernel
theorem dX12_isPersonHere_191 : decode cX12_isPersonHere 191 = .ok (.iconst 0, 1) := by decide +kernel
theorem dX12_isPersonHere_192 : decode cX12_isPersonHere 192 = .ok (.ireturn, 1) := by decide +kernel
theorem dX12_isPersonHere_193 : decode cX12_isPersonHere 193 = .ok (.aload_n 0, 1) := by decide +kernel
theorem dX12_isPersonHere_194 : decode cX12_isPersonHere 194 = .ok (.getfield 26, 3) := by decide +kernel
theorem dX12_isPersonHere_197 : decode cX12_isPersonHere 197 = .ok (.bipush 46, 2) := by decide +kernel
theorem dX12_isPersonHere_199 : decode cX12_isPersonHere 199 = .ok (.iconst 4, 1) := by decide +kernel
theorem dX12_isPersonHere_200 : decode cX12_isPersonHere 200 = .ok (.iload_n 3, 1) := by decide +kernel
theorem dX12_isPersonHere_201 : decode cX12_isPersonHere 201 = .ok (.imul, 1) := by decide +kernel
theorem dX12_isPersonHere_202 : decode cX12_isPersonHere 202 = .ok (.iadd, 1) := by decide +kernel
theorem dX12_isPersonHere_203 : decode cX12_isPersonHere 203 = .ok (.iconst 1, 1) := by decide +kernel
theorem dX12_isPersonHere_204 : decode cX12_isPersonHere 204 = .ok (.iadd, 1) := by decide +kernel
theorem dX12_isPersonHere_205 : decode cX12_isPersonHere 205 = .ok (.aload_n 0, 1) := by decide +kernel
theorem dX12_isPersonHere_206 : decode cX12_isPersonHere 206 = .ok (.getfield 26, 3) := by decide +kernel
theorem dX12_isPersonHere_209 : decode cX12_isPersonHere 209 = .ok (.bipush 62, 2) := by decide +kernel
theorem dX12_isPersonHere_211 : decode cX12_isPersonHere 211 = .ok (.iconst 2, 1) := by decide +kernel
theorem dX12_isPersonHere_212 : decode cX12_isPersonHere 212 = .ok (.iload_n 3, 1) := by decide +kernel
theorem dX12_isPersonHere_213 : decode cX12_isPersonHere 213 = .ok (.imul, 1) := by decide +kernel
theorem dX12_isPersonHere_214 : decode cX12_isPersonHere 214 = .ok (.iadd, 1) := by decide +kernel
theorem dX12_isPersonHere_215 : decode cX12_isPersonHere 215 = .ok (.iconst 1, 1) := by decide +kernel
theorem dX12_isPersonHere_216 : decode cX12_isPersonHere 216 = .ok (.iadd, 1) := by decide +kernel
theorem dX12_isPersonHere_217 : decode cX12_isPersonHere 217 = .ok (.iaload, 1) := by decide +kernel
theorem dX12_isPersonHere_218 : decode cX12_isPersonHere 218 = .ok (.iastore, 1) := by decide +kernel
theorem dX12_isPersonHere_219 : decode cX12_isPersonHere 219 = .ok (.aload_n 0, 1) := by decide +kernel
theorem dX12_isPersonHere_220 : decode cX12_isPersonHere 220 = .ok (.getfield 26, 3) := by decide +kernel
theorem dX12_isPersonHere_223 : decode cX12_isPersonHere 223 = .ok (.bipush 46, 2) := by decide +kernel
theorem dX12_isPersonHere_225 : decode cX12_isPersonHere 225 = .ok (.iconst 4, 1) := by decide +kernel
theorem dX12_isPersonHere_226 : decode cX12_isPersonHere 226 = .ok (.iload_n 3, 1) := by decide +kernel
theorem dX12_isPersonHere_227 : decode cX12_isPersonHere 227 = .ok (.imul, 1) := by decide +kernel
theorem dX12_isPersonHere_228 : decode cX12_isPersonHere 228 = .ok (.iadd, 1) := by decide +kernel
theorem dX12_isPersonHere_229 : decode cX12_isPersonHere 229 = .ok (.iconst 3, 1) := by decide +kernel
theorem dX12_isPersonHere_230 : decode cX12_isPersonHere 230 = .ok (.iadd, 1) := by decide +kernel
theorem dX12_isPersonHere_231 : decode cX12_isPersonHere 231 = .ok (.iconst 0, 1) := by decide +kernel
theorem dX12_isPersonHere_232 : decode cX12_isPersonHere 232 = .ok (.iastore, 1) := by decide +kernel
theorem dX12_isPersonHere_233 : decode cX12_isPersonHere 233 = .ok (.aload_n 0, 1) := by decide +kernel
theorem dX12_isPersonHere_234 : decode cX12_isPersonHere 234 = .ok (.getfield 26, 3) := by decide +kernel
theorem dX12_isPersonHere_237 : decode cX12_isPersonHere 237 = .ok (.bipush 74, 2) := by decide +kernel
theorem dX12_isPersonHere_239 : decode cX12_isPersonHere 239 = .ok (.iload_n 3, 1) := by decide +kernel
theorem dX12_isPersonHere_240 : decode cX12_isPersonHere 240 = .ok (.iadd, 1) := by decide +kernel
theorem dX12_isPersonHere_241 : decode cX12_isPersonHere 241 = .ok (.aload_n 0, 1) := by decide +kernel
theorem dX12_isPersonHere_242 : decode cX12_isPersonHere 242 = .ok (.getfield 26, 3) := by decide +kernel
theorem dX12_isPersonHere_245 : decode cX12_isPersonHere 245 = .ok (.bipush 46, 2) := by decide +kernel
theorem dX12_isPersonHere_247 : decode cX12_isPersonHere 247 = .ok (.iconst 4, 1) := by decide +kernel
theorem dX12_isPersonHere_248 : decode cX12_isPersonHere 248 = .ok (.iload_n 3, 1) := by decide +kernel
theorem dX12_isPersonHere_249 : decode cX12_isPersonHere 249 = .ok (.imul, 1) := by decide +kernel
theorem dX12_isPersonHere_250 : decode cX12_isPersonHere 250 = .ok (.iadd, 1) := by decide +kernel
theorem dX12_isPersonHere_251 : decode cX12_isPersonHere 251 = .ok (.iconst 2, 1) := by decide +kernel
theorem dX12_isPersonHere_252 : decode cX12_isPersonHere 252 = .ok (.iadd, 1) := by decide +kernel
theorem dX12_isPersonHere_253 : decode cX12_isPersonHere 253 = .ok (.iaload, 1) := by decide +kernel
theorem dX12_isPersonHere_254 : decode cX12_isPersonHere 254 = .ok (.iastore, 1) := by decide +kernel
theorem dX12_isPersonHere_255 : decode cX12_isPersonHere 255 = .ok (.aload_n 0, 1) := by decide +kernel
theorem dX12_isPersonHere_256 : decode cX12_isPersonHere 256 = .ok (.getfield 26, 3) := by decide +kernel
theorem dX12_isPersonHere_259 : decode cX12_isPersonHere 259 = .ok (.iconst 1, 1) := by decide +kernel
theorem dX12_isPersonHere_260 : decode cX12_isPersonHere 260 = .ok (.dup2, 1) := by decide +kernel
theorem dX12_isPersonHere_261 : decode cX12_isPersonHere 261 = .ok (.iaload, 1) := by decide +kernel
theorem dX12_isPersonHere_262 : decode cX12_isPersonHere 262 = .ok (.iconst 1, 1) := by decide +kernel
theorem dX12_isPersonHere_263 : decode cX12_isPersonHere 263 = .ok (.iadd, 1) := by decide +kernel
theorem dX12_isPersonHere_264 : decode cX12_isPersonHere 264 = .ok (.iastore, 1) := by decide +kernel
theorem dX12_isPersonHere_265 : decode cX12_isPersonHere 265 = .ok (.iconst 1, 1) := by decide +kernel
theorem dX12_isPersonHere_266 : decode cX12_isPersonHere 266 = .ok (.ireturn, 1) := by decide +kernel
theorem dX12_ladderLineHere_0 : decode cX12_ladderLineHere 0 = .ok (.aload_n 0, 1) := by decide +kernel
theorem dX12_ladderLineHere_1 : decode cX12_ladderLineHere 1 = .ok (.ldc2_w 233, 3) := by decide +kernel
theorem dX12_ladderLineHere_4 : decode cX12_ladderLineHere 4 = .ok (.invokevirtual 107, 3) := by decide +kernel
theorem dX12_ladderLineHere_7 : decode cX12_ladderLineHere 7 = .ok (.ifCond .eq 9, 3) := by decide +kernel
theorem dX12_ladderLineHere_10 : decode cX12_ladderLineHere 10 = .ok (.aload_n 0, 1) := by decide +kernel
theorem dX12_ladderLineHere_11 : decode cX12_ladderLineHere 11 = .ok (.iload_n 1, 1) := by decide +kernel
theorem dX12_ladderLineHere_12 : decode cX12_ladderLineHere 12 = .ok (.invokevirtual 235, 3) := by decide +kernel
theorem dX12_ladderLineHere_15 : decode cX12_ladderLineHere 15 = .ok (.ireturn, 1) := by decide +kernel
theorem dX12_ladderLineHere_16 : decode cX12_ladderLineHere 16 = .ok (.aload_n 0, 1) := by decide +kernel
theorem dX12_ladderLineHere_17 : decode cX12_ladderLineHere 17 = .ok (.getfield 26, 3) := by decide +kernel
theorem dX12_ladderLineHere_20 : decode cX12_ladderLineHere 20 = .ok (.iconst 0, 1) := by decide +kernel
theorem dX12_ladderLineHere_21 : decode cX12_ladderLineHere 21 = .ok (.iaload, 1) := by decide +kernel
theorem dX12_ladderLineHere_22 : decode cX12_ladderLineHere 22 = .ok (.ifCond .ne 10, 3) := by decide +kernel
theorem dX12_ladderLineHere_25 : decode cX12_ladderLineHere 25 = .ok (.aload_n 0, 1) := by decide +kernel
theorem dX12_ladderLineHere_26 : decode cX12_ladderLineHere 26 = .ok (.iconst 4, 1) := by decide +kernel
theorem dX12_ladderLineHere_27 : decode cX12_ladderLineHere 27 = .ok (.iload_n 1, 1) := by decide +kernel
theorem dX12_ladderLineHere_28 : decode cX12_ladderLineHere 28 = .ok (.invokevirtual 117, 3) := by decide +kernel
theorem dX12_ladderLineHere_31 : decode cX12_ladderLineHere 31 = .ok (.ireturn, 1) := by decide +kernel
theorem dX12_ladderLineHere_32 : decode cX12_ladderLineHere 32 = .ok (.aload_n 0, 1) := by decide +kernel
theorem dX12_ladderLineHere_33 : decode cX12_ladderLineHere 33 = .ok (.ldc2_w 130, 3) := by decide +kernel
theorem dX12_ladderLineHere_36 : decode cX12_ladderLineHere 36 = .ok (.invokevirtual 107, 3) := by decide +kernel
theorem dX12_ladderLineHere_39 : decode cX12_ladderLineHere 39 = .ok (.ifCond .eq 8, 3) := by decide +kernel
theorem dX12_ladderLineHere_42 : decode cX12_ladderLineHere 42 = .ok (.aload_n 0, 1) := by decide +kernel
theorem dX12_ladderLineHere_43 : decode cX12_ladderLineHere 43 = .ok (.invokevirtual 238, 3) := by decide +kernel
theorem dX12_ladderLineHere_46 : decode cX12_ladderLineHere 46 = .ok (.ireturn, 1) := by decide +kernel
theorem dX12_ladderLineHere_47 : decode cX12_ladderLineHere 47 = .ok (.aload_n 0, 1) := by decide +kernel
theorem dX12_ladderLineHere_48 : decode cX12_ladderLineHere 48 = .ok (.ldc2_w 241, 3) := by decide +kernel
theorem dX12_ladderLineHere_51 : decode cX12_ladderLineHere 51 = .ok (.invokevirtual 107, 3) := by decide +kernel
theorem dX12_ladderLineHere_54 : decode cX12_ladderLineHere 54 = .ok (.ifCond .eq 10, 3) := by decide +kernel
theorem dX12_ladderLineHere_57 : decode cX12_ladderLineHere 57 = .ok (.aload_n 0, 1) := by decide +kernel
theorem dX12_ladderLineHere_58 : decode cX12_ladderLineHere 58 = .ok (.invokevirtual 243, 3) := by decide +kernel
theorem dX12_ladderLineHere_61 : decode cX12_ladderLineHere 61 = .ok (.goto 8, 3) := by decide +kernel
theorem dX12_ladderLineHere_64 : decode cX12_ladderLineHere 64 = .ok (.aload_n 0, 1) := by decide +kernel
theorem dX12_ladderLineHere_65 : decode cX12_ladderLineHere 65 = .ok (.iload_n 1, 1) := by decide +kernel
theorem dX12_ladderLineHere_66 : decode cX12_ladderLineHere 66 = .ok (.invokevirtual 246, 3) := by decide +kernel
theorem dX12_ladderLineHere_69 : decode cX12_ladderLineHere 69 = .ok (.ireturn, 1) := by decide +kernel
theorem dX12_isLadderWord_0 : decode cX12_isLadderWord 0 = .ok (.aload_n 0, 1) := by decide +kernel
theorem dX12_isLadderWord_1 : decode cX12_isLadderWord 1 = .ok (.ldc2_w 233, 3) := by decide +kernel
theorem dX12_isLadderWord_4 : decode cX12_isLadderWord 4 = .ok (.invokevirtual 107, 3) := by decide +kernel
theorem dX12_isLadderWord_7 : decode cX12_isLadderWord 7 = .ok (.ifCond .ne 33, 3) := by decide +kernel
theorem dX12_isLadderWord_10 : decode cX12_isLadderWord 10 = .ok (.aload_n 0, 1) := by decide +kernel
theorem dX12_isLadderWord_11 : decode cX12_isLadderWord 11 = .ok (.ldc2_w 130, 3) := by decide +kernel
theorem dX12_isLadderWord_14 : decode cX12_isLadderWord 14 = .ok (.invokevirtual 107, 3) := by decide +kernel
theorem dX12_isLadderWord_17 : decode cX12_isLadderWord 17 = .ok (.ifCond .ne 23, 3) := by decide +kernel
theorem dX12_isLadderWord_20 : decode cX12_isLadderWord 20 = .ok (.aload_n 0, 1) := by decide +kernel
theorem dX12_isLadderWord_21 : decode cX12_isLadderWord 21 = .ok (.ldc2_w 241, 3) := by decide +kernel
theorem dX12_isLadderWord_24 : decode cX12_isLadderWord 24 = .ok (.invokevirtual 107, 3) := by decide +kernel
theorem dX12_isLadderWord_27 : decode cX12_isLadderWord 27 = .ok (.ifCond .ne 13, 3) := by decide +kernel
theorem dX12_isLadderWord_30 : decode cX12_isLadderWord 30 = .ok (.aload_n 0, 1) := by decide +kernel
theorem dX12_isLadderWord_31 : decode cX12_isLadderWord 31 = .ok (.ldc2_w 128, 3) := by decide +kernel
theorem dX12_isLadderWord_34 : decode cX12_isLadderWord 34 = .ok (.invokevirtual 107, 3) := by decide +kernel
theorem dX12_isLadderWord_37 : decode cX12_isLadderWord 37 = .ok (.ifCond .eq 7, 3) := by decide +kernel
theorem dX12_isLadderWord_40 : decode cX12_isLadderWord 40 = .ok (.iconst 1, 1) := by decide +kernel
theorem dX12_isLadderWord_41 : decode cX12_isLadderWord 41 = .ok (.goto 4, 3) := by decide +kernel
theorem dX12_isLadderWord_44 : decode cX12_isLadderWord 44 = .ok (.iconst 0, 1) := by decide +kernel
theorem dX12_isLadderWord_45 : decode cX12_isLadderWord 45 = .ok (.ireturn, 1) := by decide +kernel
theorem dX12_clauseHere_0 : decode cX12_clauseHere 0 = .ok (.aload_n 0, 1) := by decide +kernel
theorem dX12_clauseHere_1 : decode cX12_clauseHere 1 = .ok (.invokevirtual 99, 3) := by decide +kernel
theorem dX12_clauseHere_4 : decode cX12_clauseHere 4 = .ok (.pop, 1) := by decide +kernel
theorem dX12_clauseHere_5 : decode cX12_clauseHere 5 = .ok (.aload_n 0, 1) := by decide +kernel
theorem dX12_clauseHere_6 : decode cX12_clauseHere 6 = .ok (.getfield 96, 3) := by decide +kernel
theorem dX12_clauseHere_9 : decode cX12_clauseHere 9 = .ok (.istore_n 1, 1) := by decide +kernel
theorem dX12_clauseHere_10 : decode cX12_clauseHere 10 = .ok (.aload_n 0, 1) := by decide +kernel
theorem dX12_clauseHere_11 : decode cX12_clauseHere 11 = .ok (.getfield 154, 3) := by decide +kernel
theorem dX12_clauseHere_14 : decode cX12_clauseHere 14 = .ok (.bipush 6, 2) := by decide +kernel
theorem dX12_clauseHere_16 : decode cX12_clauseHere 16 = .ok (.if_icmp .ne 7, 3) := by decide +kernel
theorem dX12_clauseHere_19 : decode cX12_clauseHere 19 = .ok (.iconst 1, 1) := by decide +kernel
theorem dX12_clauseHere_20 : decode cX12_clauseHere 20 = .ok (.goto 4, 3) := by decide +kernel
theorem dX12_clauseHere_23 : decode cX12_clauseHere 23 = .ok (.iconst 0, 1) := by decide +kernel
theorem dX12_clauseHere_24 : decode cX12_clauseHere 24 = .ok (.istore_n 2, 1) := by decide +kernel
theorem dX12_clauseHere_25 : decode cX12_clauseHere 25 = .ok (.iload_n 2, 1) := by decide +kernel
theorem dX12_clauseHere_26 : decode cX12_clauseHere 26 = .ok (.ifCond .eq 13, 3) := by decide +kernel
theorem dX12_clauseHere_29 : decode cX12_clauseHere 29 = .ok (.aload_n 0, 1) := by decide +kernel
theorem dX12_clauseHere_30 : decode cX12_clauseHere 30 = .ok (.invokevirtual 249, 3) := by decide +kernel
theorem dX12_clauseHere_33 : decode cX12_clauseHere 33 = .ok (.ifCond .ne 23, 3) := by decide +kernel
theorem dX12_clauseHere_36 : decode cX12_clauseHere 36 = .ok (.goto 13, 3) := by decide +kernel
theorem dX12_clauseHere_39 : decode cX12_clauseHere 39 = .ok (.aload_n 0, 1) := by decide +kernel
theorem dX12_clauseHere_40 : decode cX12_clauseHere 40 = .ok (.ldc2_w 252, 3) := by decide +kernel
theorem dX12_clauseHere_43 : decode cX12_clauseHere 43 = .ok (.invokevirtual 107, 3) := by decide +kernel
theorem dX12_clauseHere_46 : decode cX12_clauseHere 46 = .ok (.ifCond .ne 10, 3) := by decide +kernel
theorem dX12_clauseHere_49 : decode cX12_clauseHere 49 = .ok (.aload_n 0, 1) := by decide +kernel
theorem dX12_clauseHere_50 : decode cX12_clauseHere 50 = .ok (.iconst 0, 1) := by decide +kernel
theorem dX12_clauseHere_51 : decode cX12_clauseHere 51 = .ok (.iload_n 1, 1) := by decide +kernel
theorem dX12_clauseHere_52 : decode cX12_clauseHere 52 = .ok (.invokevirtual 117, 3) := by decide +kernel
theorem dX12_clauseHere_55 : decode cX12_clauseHere 55 = .ok (.ireturn, 1) := by decide +kernel
theorem dX12_clauseHere_56 : decode cX12_clauseHere 56 = .ok (.aload_n 0, 1) := by decide +kernel
theorem dX12_clauseHere_57 : decode cX12_clauseHere 57 = .ok (.getfield 254, 3) := by decide +kernel
theorem dX12_clauseHere_60 : decode cX12_clauseHere 60 = .ok (.iload_n 2, 1) := by decide +kernel
theorem dX12_clauseHere_61 : decode cX12_clauseHere 61 = .ok (.ifCond .eq 8, 3) := by decide +kernel
theorem dX12_clauseHere_64 : decode cX12_clauseHere 64 = .ok (.bipush 40, 2) := by decide +kernel
theorem dX12_clauseHere_66 : decode cX12_clauseHere 66 = .ok (.goto 5, 3) := by decide +kernel
theorem dX12_clauseHere_69 : decode cX12_clauseHere 69 = .ok (.bipush 12, 2) := by decide +kernel
theorem dX12_clauseHere_71 : decode cX12_clauseHere 71 = .ok (.if_icmp .ne 10, 3) := by decide +kernel
theorem dX12_clauseHere_74 : decode cX12_clauseHere 74 = .ok (.aload_n 0, 1) := by decide +kernel
theorem dX12_clauseHere_75 : decode cX12_clauseHere 75 = .ok (.iconst 4, 1) := by decide +kernel
theorem dX12_clauseHere_76 : decode cX12_clauseHere 76 = .ok (.iload_n 1, 1) := by decide +kernel
theorem dX12_clauseHere_77 : decode cX12_clauseHere 77 = .ok (.invokevirtual 117, 3) := by decide +kernel
theorem dX12_clauseHere_80 : decode cX12_clauseHere 80 = .ok (.ireturn, 1) := by decide +kernel
theorem dX12_clauseHere_81 : decode cX12_clauseHere 81 = .ok (.aload_n 0, 1) := by decide +kernel
theorem dX12_clauseHere_82 : decode cX12_clauseHere 82 = .ok (.dup, 1) := by decide +kernel
theorem dX12_clauseHere_83 : decode cX12_clauseHere 83 = .ok (.getfield 254, 3) := by decide +kernel
theorem dX12_clauseHere_86 : decode cX12_clauseHere 86 = .ok (.iconst 1, 1) := by decide +kernel
theorem dX12_clauseHere_87 : decode cX12_clauseHere 87 = .ok (.iadd, 1) := by decide +kernel
theorem dX12_clauseHere_88 : decode cX12_clauseHere 88 = .ok (.putfield 254, 3) := by decide +kernel
theorem dX12_clauseHere_91 : decode cX12_clauseHere 91 = .ok (.iload_n 2, 1) := by decide +kernel
theorem dX12_clauseHere_92 : decode cX12_clauseHere 92 = .ok (.ifCond .eq 11, 3) := by decide +kernel
theorem dX12_clauseHere_95 : decode cX12_clauseHere 95 = .ok (.aload_n 0, 1) := by decide +kernel
theorem dX12_clauseHere_96 : decode cX12_clauseHere 96 = .ok (.iload_n 1, 1) := by decide +kernel
theorem dX12_clauseHere_97 : decode cX12_clauseHere 97 = .ok (.invokevirtual 257, 3) := by decide +kernel
theorem dX12_clauseHere_100 : decode cX12_clauseHere 100 = .ok (.goto 7, 3) := by decide +kernel
theorem dX12_clauseHere_103 : decode cX12_clauseHere 103 = .ok (.aload_n 0, 1) := by decide +kernel
theorem dX12_clauseHere_104 : decode cX12_clauseHere 104 = .ok (.invokevirtual 260, 3) := by decide +kernel
theorem dX12_clauseHere_107 : decode cX12_clauseHere 107 = .ok (.ireturn, 1) := by decide +kernel
theorem dX12_readsAll_0 : decode cX12_readsAll 0 = .ok (.aload_n 0, 1) := by decide +kernel
theorem dX12_readsAll_1 : decode cX12_readsAll 1 = .ok (.getfield 17, 3) := by decide +kernel
theorem dX12_readsAll_4 : decode cX12_readsAll 4 = .ok (.aload_n 0, 1) := by decide +kernel
theorem dX12_readsAll_5 : decode cX12_readsAll 5 = .ok (.getfield 154, 3) := by decide +kernel
theorem dX12_readsAll_8 : decode cX12_readsAll 8 = .ok (.iconst 0, 1) := by decide +kernel
theorem dX12_readsAll_9 : decode cX12_readsAll 9 = .ok (.iastore, 1) := by decide +kernel
theorem dX12_readsAll_10 : decode cX12_readsAll 10 = .ok (.aload_n 0, 1) := by decide +kernel
theorem dX12_readsAll_11 : decode cX12_readsAll 11 = .ok (.iconst 0, 1) := by decide +kernel
theorem dX12_readsAll_12 : decode cX12_readsAll 12 = .ok (.putfield 254, 3) := by decide +kernel
theorem dX12_readsAll_15 : decode cX12_readsAll 15 = .ok (.aload_n 0, 1) := by decide +kernel
theorem dX12_readsAll_16 : decode cX12_readsAll 16 = .ok (.iconst 0, 1) := by decide +kernel
theorem dX12_readsAll_17 : decode cX12_readsAll 17 = .ok (.putfield 96, 3) := by decide +kernel
theorem dX12_readsAll_20 : decode cX12_readsAll 20 = .ok (.aload_n 0, 1) := by decide +kernel
theorem dX12_readsAll_21 : decode cX12_readsAll 21 = .ok (.iconst 0, 1) := by decide +kernel
theorem dX12_readsAll_22 : decode cX12_readsAll 22 = .ok (.putfield 93, 3) := by decide +kernel
theorem dX12_readsAll_25 : decode cX12_readsAll 25 = .ok (.aload_n 0, 1) := by decide +kernel
theorem dX12_readsAll_26 : decode cX12_readsAll 26 = .ok (.iconst 0, 1) := by decide +kernel
theorem dX12_readsAll_27 : decode cX12_readsAll 27 = .ok (.putfield 157, 3) := by decide +kernel
theorem dX12_readsAll_30 : decode cX12_readsAll 30 = .ok (.aload_n 0, 1) := by decide +kernel
theorem dX12_readsAll_31 : decode cX12_readsAll 31 = .ok (.invokevirtual 263, 3) := by decide +kernel
theorem dX12_readsAll_34 : decode cX12_readsAll 34 = .ok (.istore_n 1, 1) := by decide +kernel
theorem dX12_readsAll_35 : decode cX12_readsAll 35 = .ok (.iload_n 1, 1) := by decide +kernel
theorem dX12_readsAll_36 : decode cX12_readsAll 36 = .ok (.ifCond .eq 30, 3) := by decide +kernel
theorem dX12_readsAll_39 : decode cX12_readsAll 39 = .ok (.aload_n 0, 1) := by decide +kernel
theorem dX12_readsAll_40 : decode cX12_readsAll 40 = .ok (.invokevirtual 99, 3) := by decide +kernel
theorem dX12_readsAll_43 : decode cX12_readsAll 43 = .ok (.bipush 59, 2) := by decide +kernel
theorem dX12_readsAll_45 : decode cX12_readsAll 45 = .ok (.if_icmp .ne 21, 3) := by decide +kernel
theorem dX12_readsAll_48 : decode cX12_readsAll 48 = .ok (.aload_n 0, 1) := by decide +kernel
theorem dX12_readsAll_49 : decode cX12_readsAll 49 = .ok (.dup, 1) := by decide +kernel
theorem dX12_readsAll_50 : decode cX12_readsAll 50 = .ok (.getfield 96, 3) := by decide +kernel
theorem dX12_readsAll_53 : decode cX12_readsAll 53 = .ok (.iconst 1, 1) := by decide +kernel
theorem dX12_readsAll_54 : decode cX12_readsAll 54 = .ok (.iadd, 1) := by decide +kernel
theorem dX12_readsAll_55 : decode cX12_readsAll 55 = .ok (.putfield 96, 3) := by decide +kernel
theorem dX12_readsAll_58 : decode cX12_readsAll 58 = .ok (.aload_n 0, 1) := by decide +kernel
theorem dX12_readsAll_59 : decode cX12_readsAll 59 = .ok (.invokevirtual 263, 3) := by decide +kernel
theorem dX12_readsAll_62 : decode cX12_readsAll 62 = .ok (.istore_n 1, 1) := by decide +kernel
theorem dX12_readsAll_63 : decode cX12_readsAll 63 = .ok (.goto (-28), 3) := by decide +kernel
theorem dX12_readsAll_66 : decode cX12_readsAll 66 = .ok (.iload_n 1, 1) := by decide +kernel
theorem dX12_readsAll_67 : decode cX12_readsAll 67 = .ok (.ifCond .eq 21, 3) := by decide +kernel
theorem dX12_readsAll_70 : decode cX12_readsAll 70 = .ok (.aload_n 0, 1) := by decide +kernel
theorem dX12_readsAll_71 : decode cX12_readsAll 71 = .ok (.invokevirtual 99, 3) := by decide +kernel
theorem dX12_readsAll_74 : decode cX12_readsAll 74 = .ok (.iconst (-1), 1) := by decide +kernel
theorem dX12_readsAll_75 : decode cX12_readsAll 75 = .ok (.if_icmp .eq 13, 3) := by decide +kernel
theorem dX12_readsAll_78 : decode cX12_readsAll 78 = .ok (.aload_n 0, 1) := by decide +kernel
theorem dX12_readsAll_79 : decode cX12_readsAll 79 = .ok (.iconst 0, 1) := by decide +kernel
theorem dX12_readsAll_80 : decode cX12_readsAll 80 = .ok (.aload_n 0, 1) := by decide +kernel
theorem dX12_readsAll_81 : decode cX12_readsAll 81 = .ok (.getfield 96, 3) := by decide +kernel
theorem dX12_readsAll_84 : decode cX12_readsAll 84 = .ok (.invokevirtual 117, 3) := by decide +kernel
theorem dX12_readsAll_87 : decode cX12_readsAll 87 = .ok (.pop, 1) := by decide +kernel
theorem dX12_readsAll_88 : decode cX12_readsAll 88 = .ok (.aload_n 0, 1) := by decide +kernel
theorem dX12_readsAll_89 : decode cX12_readsAll 89 = .ok (.iconst 0, 1) := by decide +kernel
theorem dX12_readsAll_90 : decode cX12_readsAll 90 = .ok (.putfield 86, 3) := by decide +kernel
theorem dX12_readsAll_93 : decode cX12_readsAll 93 = .ok (.aload_n 0, 1) := by decide +kernel
theorem dX12_readsAll_94 : decode cX12_readsAll 94 = .ok (.getfield 93, 3) := by decide +kernel
theorem dX12_readsAll_97 : decode cX12_readsAll 97 = .ok (.ifCond .ne 7, 3) := by decide +kernel
theorem dX12_readsAll_100 : decode cX12_readsAll 100 = .ok (.iconst 1, 1) := by decide +kernel
theorem dX12_readsAll_101 : decode cX12_readsAll 101 = .ok (.goto 4, 3) := by decide +kernel
theorem dX12_readsAll_104 : decode cX12_readsAll 104 = .ok (.iconst 0, 1) := by decide +kernel
theorem dX12_readsAll_105 : decode cX12_readsAll 105 = .ok (.ireturn, 1) := by decide +kernel
theorem dX12_rule_0 : decode cX12_rule 0 = .ok (.aload_n 0, 1) := by decide +kernel
theorem dX12_rule_1 : decode cX12_rule 1 = .ok (.getfield 266, 3) := by decide +kernel
theorem dX12_rule_4 : decode cX12_rule 4 = .ok (.bipush 6, 2) := by decide +kernel
theorem dX12_rule_6 : decode cX12_rule 6 = .ok (.if_icmp .ne 5, 3) := by decide +kernel
theorem dX12_rule_9 : decode cX12_rule 9 = .ok (.iconst (-1), 1) := by decide +kernel
theorem dX12_rule_10 : decode cX12_rule 10 = .ok (.ireturn, 1) := by decide +kernel
theorem dX12_rule_11 : decode cX12_rule 11 = .ok (.aload_n 0, 1) := by decide +kernel
theorem dX12_rule_12 : decode cX12_rule 12 = .ok (.aload_n 0, 1) := by decide +kernel
theorem dX12_rule_13 : decode cX12_rule 13 = .ok (.getfield 266, 3) := by decide +kernel
theorem dX12_rule_16 : decode cX12_rule 16 = .ok (.putfield 154, 3) := by decide +kernel
theorem dX12_rule_19 : decode cX12_rule 19 = .ok (.aload_n 0, 1) := by decide +kernel
theorem dX12_rule_20 : decode cX12_rule 20 = .ok (.getfield 23, 3) := by decide +kernel
theorem dX12_rule_23 : decode cX12_rule 23 = .ok (.aload_n 0, 1) := by decide +kernel
theorem dX12_rule_24 : decode cX12_rule 24 = .ok (.getfield 154, 3) := by decide +kernel
theorem dX12_rule_27 : decode cX12_rule 27 = .ok (.iconst 0, 1) := by decide +kernel
theorem dX12_rule_28 : decode cX12_rule 28 = .ok (.iastore, 1) := by decide +kernel
theorem dX12_rule_29 : decode cX12_rule 29 = .ok (.aload_n 0, 1) := by decide +kernel
theorem dX12_rule_30 : decode cX12_rule 30 = .ok (.invokevirtual 269, 3) := by decide +kernel
theorem dX12_rule_33 : decode cX12_rule 33 = .ok (.ifCond .ne 11, 3) := by decide +kernel
theorem dX12_rule_36 : decode cX12_rule 36 = .ok (.bipush (-2), 2) := by decide +kernel
theorem dX12_rule_38 : decode cX12_rule 38 = .ok (.aload_n 0, 1) := by decide +kernel
theorem dX12_rule_39 : decode cX12_rule 39 = .ok (.getfield 93, 3) := by decide +kernel
theorem dX12_rule_42 : decode cX12_rule 42 = .ok (.isub, 1) := by decide +kernel
theorem dX12_rule_43 : decode cX12_rule 43 = .ok (.ireturn, 1) := by decide +kernel
theorem dX12_rule_44 : decode cX12_rule 44 = .ok (.aload_n 0, 1) := by decide +kernel
theorem dX12_rule_45 : decode cX12_rule 45 = .ok (.dup, 1) := by decide +kernel
theorem dX12_rule_46 : decode cX12_rule 46 = .ok (.getfield 266, 3) := by decide +kernel
theorem dX12_rule_49 : decode cX12_rule 49 = .ok (.iconst 1, 1) := by decide +kernel
theorem dX12_rule_50 : decode cX12_rule 50 = .ok (.iadd, 1) := by decide +kernel
theorem dX12_rule_51 : decode cX12_rule 51 = .ok (.putfield 266, 3) := by decide +kernel
theorem dX12_rule_54 : decode cX12_rule 54 = .ok (.aload_n 0, 1) := by decide +kernel
theorem dX12_rule_55 : decode cX12_rule 55 = .ok (.getfield 266, 3) := by decide +kernel
theorem dX12_rule_58 : decode cX12_rule 58 = .ok (.iconst 1, 1) := by decide +kernel
theorem dX12_rule_59 : decode cX12_rule 59 = .ok (.isub, 1) := by decide +kernel
theorem dX12_rule_60 : decode cX12_rule 60 = .ok (.ireturn, 1) := by decide +kernel
theorem dX12_ladder_0 : decode cX12_ladder 0 = .ok (.aload_n 0, 1) := by decide +kernel
theorem dX12_ladder_1 : decode cX12_ladder 1 = .ok (.bipush 6, 2) := by decide +kernel
theorem dX12_ladder_3 : decode cX12_ladder 3 = .ok (.putfield 154, 3) := by decide +kernel
theorem dX12_ladder_6 : decode cX12_ladder 6 = .ok (.iconst 0, 1) := by decide +kernel
theorem dX12_ladder_7 : decode cX12_ladder 7 = .ok (.istore_n 1, 1) := by decide +kernel
theorem dX12_ladder_8 : decode cX12_ladder 8 = .ok (.iload_n 1, 1) := by decide +kernel
theorem dX12_ladder_9 : decode cX12_ladder 9 = .ok (.bipush 79, 2) := by decide +kernel
theorem dX12_ladder_11 : decode cX12_ladder 11 = .ok (.if_icmp .ge 16, 3) := by decide +kernel
theorem dX12_ladder_14 : decode cX12_ladder 14 = .ok (.aload_n 0, 1) := by decide +kernel
theorem dX12_ladder_15 : decode cX12_ladder 15 = .ok (.getfield 26, 3) := by decide +kernel
theorem dX12_ladder_18 : decode cX12_ladder 18 = .ok (.iload_n 1, 1) := by decide +kernel
theorem dX12_ladder_19 : decode cX12_ladder 19 = .ok (.iconst 0, 1) := by decide +kernel
theorem dX12_ladder_20 : decode cX12_ladder 20 = .ok (.iastore, 1) := by decide +kernel
theorem dX12_ladder_21 : decode cX12_ladder 21 = .ok (.iinc 1 1, 3) := by decide +kernel
theorem dX12_ladder_24 : decode cX12_ladder 24 = .ok (.goto (-16), 3) := by decide +kernel
theorem dX12_ladder_27 : decode cX12_ladder 27 = .ok (.iconst 0, 1) := by decide +kernel
theorem dX12_ladder_28 : decode cX12_ladder 28 = .ok (.istore_n 1, 1) := by decide +kernel
theorem dX12_ladder_29 : decode cX12_ladder 29 = .ok (.iload_n 1, 1) := by decide +kernel
theorem dX12_ladder_30 : decode cX12_ladder 30 = .ok (.bipush 9, 2) := by decide +kernel
theorem dX12_ladder_32 : decode cX12_ladder 32 = .ok (.if_icmp .ge 37, 3) := by decide +kernel
theorem dX12_ladder_35 : decode cX12_ladder 35 = .ok (.aload_n 0, 1) := by decide +kernel
theorem dX12_ladder_36 : decode cX12_ladder 36 = .ok (.getfield 26, 3) := by decide +kernel
theorem dX12_ladder_39 : decode cX12_ladder 39 = .ok (.bipush 10, 2) := by decide +kernel
theorem dX12_ladder_41 : decode cX12_ladder 41 = .ok (.iconst 4, 1) := by decide +kernel
theorem dX12_ladder_42 : decode cX12_ladder 42 = .ok (.iload_n 1, 1) := by decide +kernel
theorem dX12_ladder_43 : decode cX12_ladder 43 = .ok (.imul, 1) := by decide +kernel
theorem dX12_ladder_44 : decode cX12_ladder 44 = .ok (.iadd, 1) := by decide +kernel
theorem dX12_ladder_45 : decode cX12_ladder 45 = .ok (.iconst 2, 1) := by decide +kernel
theorem dX12_ladder_46 : decode cX12_ladder 46 = .ok (.iastore, 1) := by decide +kernel
theorem dX12_ladder_47 : decode cX12_ladder 47 = .ok (.aload_n 0, 1) := by decide +kernel
theorem dX12_ladder_48 : decode cX12_ladder 48 = .ok (.getfield 26, 3) := by decide +kernel
theorem dX12_ladder_51 : decode cX12_ladder 51 = .ok (.bipush 10, 2) := by decide +kernel
theorem dX12_ladder_53 : decode cX12_ladder 53 = .ok (.iconst 4, 1) := by decide +kernel
theorem dX12_ladder_54 : decode cX12_ladder 54 = .ok (.iload_n 1, 1) := by decide +kernel
theorem dX12_ladder_55 : decode cX12_ladder 55 = .ok (.imul, 1) := by decide +kernel
theorem dX12_ladder_56 : decode cX12_ladder 56 = .ok (.iadd, 1) := by decide +kernel
theorem dX12_ladder_57 : decode cX12_ladder 57 = .ok (.iconst 1, 1) := by decide +kernel
theorem dX12_ladder_58 : decode cX12_ladder 58 = .ok (.iadd, 1) := by decide +kernel
theorem dX12_ladder_59 : decode cX12_ladder 59 = .ok (.sipush 200, 3) := by decide +kernel
theorem dX12_ladder_62 : decode cX12_ladder 62 = .ok (.iastore, 1) := by decide +kernel
theorem dX12_ladder_63 : decode cX12_ladder 63 = .ok (.iinc 1 1, 3) := by decide +kernel
theorem dX12_ladder_66 : decode cX12_ladder 66 = .ok (.goto (-37), 3) := by decide +kernel
theorem dX12_ladder_69 : decode cX12_ladder 69 = .ok (.aload_n 0, 1) := by decide +kernel
theorem dX12_ladder_70 : decode cX12_ladder 70 = .ok (.invokevirtual 269, 3) := by decide +kernel
theorem dX12_ladder_73 : decode cX12_ladder 73 = .ok (.ifCond .ne 11, 3) := by decide +kernel
theorem dX12_ladder_76 : decode cX12_ladder 76 = .ok (.bipush (-2), 2) := by decide +kernel
theorem dX12_ladder_78 : decode cX12_ladder 78 = .ok (.aload_n 0, 1) := by decide +kernel
theorem dX12_ladder_79 : decode cX12_ladder 79 = .ok (.getfield 93, 3) := by decide +kernel
theorem dX12_ladder_82 : decode cX12_ladder 82 = .ok (.isub, 1) := by decide +kernel
theorem dX12_ladder_83 : decode cX12_ladder 83 = .ok (.ireturn, 1) := by decide +kernel
theorem dX12_ladder_84 : decode cX12_ladder 84 = .ok (.iconst 0, 1) := by decide +kernel
theorem dX12_ladder_85 : decode cX12_ladder 85 = .ok (.istore_n 1, 1) := by decide +kernel
theorem dX12_ladder_86 : decode cX12_ladder 86 = .ok (.iload_n 1, 1) := by decide +kernel
theorem dX12_ladder_87 : decode cX12_ladder 87 = .ok (.bipush 110, 2) := by decide +kernel
theorem dX12_ladder_89 : decode cX12_ladder 89 = .ok (.if_icmp .ge 31, 3) := by decide +kernel
theorem dX12_ladder_92 : decode cX12_ladder 92 = .ok (.aload_n 0, 1) := by decide +kernel
theorem dX12_ladder_93 : decode cX12_ladder 93 = .ok (.getfield 39, 3) := by decide +kernel
theorem dX12_ladder_96 : decode cX12_ladder 96 = .ok (.iload_n 1, 1) := by decide +kernel
theorem dX12_ladder_97 : decode cX12_ladder 97 = .ok (.iload_n 1, 1) := by decide +kernel
theorem dX12_ladder_98 : decode cX12_ladder 98 = .ok (.bipush 79, 2) := by decide +kernel
theorem dX12_ladder_100 : decode cX12_ladder 100 = .ok (.if_icmp .ge 12, 3) := by decide +kernel
theorem dX12_ladder_103 : decode cX12_ladder 103 = .ok (.aload_n 0, 1) := by decide +kernel
theorem dX12_ladder_104 : decode cX12_ladder 104 = .ok (.getfield 26, 3) := by decide +kernel
theorem dX12_ladder_107 : decode cX12_ladder 107 = .ok (.iload_n 1, 1) := by decide +kernel
theorem dX12_ladder_108 : decode cX12_ladder 108 = .ok (.iaload, 1) := by decide +kernel
theorem dX12_ladder_109 : decode cX12_ladder 109 = .ok (.goto 4, 3) := by decide +kernel
theorem dX12_ladder_112 : decode cX12_ladder 112 = .ok (.iconst 0, 1) := by decide +kernel
theorem dX12_ladder_113 : decode cX12_ladder 113 = .ok (.iastore, 1) := by decide +kernel
theorem dX12_ladder_114 : decode cX12_ladder 114 = .ok (.iinc 1 1, 3) := by decide +kernel
theorem dX12_ladder_117 : decode cX12_ladder 117 = .ok (.goto (-31), 3) := by decide +kernel
theorem dX12_ladder_120 : decode cX12_ladder 120 = .ok (.iconst 0, 1) := by decide +kernel
theorem dX12_ladder_121 : decode cX12_ladder 121 = .ok (.istore_n 1, 1) := by decide +kernel
theorem dX12_ladder_122 : decode cX12_ladder 122 = .ok (.iload_n 1, 1) := by decide +kernel
theorem dX12_ladder_123 : decode cX12_ladder 123 = .ok (.bipush 9, 2) := by decide +kernel
theorem dX12_ladder_125 : decode cX12_ladder 125 = .ok (.if_icmp .ge 39, 3) := by decide +kernel
theorem dX12_ladder_128 : decode cX12_ladder 128 = .ok (.aload_n 0, 1) := by decide +kernel
theorem dX12_ladder_129 : decode cX12_ladder 129 = .ok (.getfield 39, 3) := by decide +kernel
theorem dX12_ladder_132 : decode cX12_ladder 132 = .ok (.bipush 10, 2) := by decide +kernel
theorem dX12_ladder_134 : decode cX12_ladder 134 = .ok (.iconst 4, 1) := by decide +kernel
theorem dX12_ladder_135 : decode cX12_ladder 135 = .ok (.iload_n 1, 1) := by decide +kernel
theorem dX12_ladder_136 : decode cX12_ladder 136 = .ok (.imul, 1) := by decide +kernel
theorem dX12_ladder_137 : decode cX12_ladder 137 = .ok (.iadd, 1) := by decide +kernel
theorem dX12_ladder_138 : decode cX12_ladder 138 = .ok (.iconst 3, 1) := by decide +kernel
theorem dX12_ladder_139 : decode cX12_ladder 139 = .ok (.iadd, 1) := by decide +kernel
theorem dX12_ladder_140 : decode cX12_ladder 140 = .ok (.iaload, 1) := by decide +kernel
theorem dX12_ladder_141 : decode cX12_ladder 141 = .ok (.iconst 1, 1) := by decide +kernel
theorem dX12_ladder_142 : decode cX12_ladder 142 = .ok (.if_icmp .ne 16, 3) := by decide +kernel
theorem dX12_ladder_145 : decode cX12_ladder 145 = .ok (.aload_n 0, 1) := by decide +kernel
theorem dX12_ladder_146 : decode cX12_ladder 146 = .ok (.getfield 39, 3) := by decide +kernel
theorem dX12_ladder_149 : decode cX12_ladder 149 = .ok (.bipush 78, 2) := by decide +kernel
theorem dX12_ladder_151 : decode cX12_ladder 151 = .ok (.dup2, 1) := by decide +kernel
theorem dX12_ladder_152 : decode cX12_ladder 152 = .ok (.iaload, 1) := by decide +kernel
theorem dX12_ladder_153 : decode cX12_ladder 153 = .ok (.iconst 1, 1) := by decide +kernel
theorem dX12_ladder_154 : decode cX12_ladder 154 = .ok (.iload_n 1, 1) := by decide +kernel
theorem dX12_ladder_155 : decode cX12_ladder 155 = .ok (.ishl, 1) := by decide +kernel
theorem dX12_ladder_156 : decode cX12_ladder 156 = .ok (.ior, 1) := by decide +kernel
theorem dX12_ladder_157 : decode cX12_ladder 157 = .ok (.iastore, 1) := by decide +kernel
theorem dX12_ladder_158 : decode cX12_ladder 158 = .ok (.iinc 1 1, 3) := by decide +kernel
theorem dX12_ladder_161 : decode cX12_ladder 161 = .ok (.goto (-39), 3) := by decide +kernel
theorem dX12_ladder_164 : decode cX12_ladder 164 = .ok (.aload_n 0, 1) := by decide +kernel
theorem dX12_ladder_165 : decode cX12_ladder 165 = .ok (.iconst 0, 1) := by decide +kernel
theorem dX12_ladder_166 : decode cX12_ladder 166 = .ok (.putfield 272, 3) := by decide +kernel
theorem dX12_ladder_169 : decode cX12_ladder 169 = .ok (.aload_n 0, 1) := by decide +kernel
theorem dX12_ladder_170 : decode cX12_ladder 170 = .ok (.getfield 39, 3) := by decide +kernel
theorem dX12_ladder_173 : decode cX12_ladder 173 = .ok (.iconst 1, 1) := by decide +kernel
theorem dX12_ladder_174 : decode cX12_ladder 174 = .ok (.iaload, 1) := by decide +kernel
theorem dX12_ladder_175 : decode cX12_ladder 175 = .ok (.ireturn, 1) := by decide +kernel
theorem dX12_isRule_0 : decode cX12_isRule 0 = .ok (.iload_n 1, 1) := by decide +kernel
theorem dX12_isRule_1 : decode cX12_isRule 1 = .ok (.ifCond .lt 15, 3) := by decide +kernel
theorem dX12_isRule_4 : decode cX12_isRule 4 = .ok (.iload_n 1, 1) := by decide +kernel
theorem dX12_isRule_5 : decode cX12_isRule 5 = .ok (.aload_n 0, 1) := by decide +kernel
theorem dX12_isRule_6 : decode cX12_isRule 6 = .ok (.getfield 266, 3) := by decide +kernel
theorem dX12_isRule_9 : decode cX12_isRule 9 = .ok (.if_icmp .ge 7, 3) := by decide +kernel
theorem dX12_isRule_12 : decode cX12_isRule 12 = .ok (.iconst 1, 1) := by decide +kernel
theorem dX12_isRule_13 : decode cX12_isRule 13 = .ok (.goto 4, 3) := by decide +kernel
theorem dX12_isRule_16 : decode cX12_isRule 16 = .ok (.iconst 0, 1) := by decide +kernel
theorem dX12_isRule_17 : decode cX12_isRule 17 = .ok (.ireturn, 1) := by decide +kernel
theorem dX12_push_0 : decode cX12_push 0 = .ok (.aload_n 0, 1) := by decide +kernel
theorem dX12_push_1 : decode cX12_push 1 = .ok (.getfield 32, 3) := by decide +kernel
theorem dX12_push_4 : decode cX12_push 4 = .ok (.aload_n 0, 1) := by decide +kernel
theorem dX12_push_5 : decode cX12_push 5 = .ok (.getfield 275, 3) := by decide +kernel
theorem dX12_push_8 : decode cX12_push 8 = .ok (.lload_n 1, 1) := by decide +kernel
theorem dX12_push_9 : decode cX12_push 9 = .ok (.lastore, 1) := by decide +kernel
theorem dX12_push_10 : decode cX12_push 10 = .ok (.aload_n 0, 1) := by decide +kernel
theorem dX12_push_11 : decode cX12_push 11 = .ok (.dup, 1) := by decide +kernel
theorem dX12_push_12 : decode cX12_push 12 = .ok (.getfield 275, 3) := by decide +kernel
theorem dX12_push_15 : decode cX12_push 15 = .ok (.iconst 1, 1) := by decide +kernel
theorem dX12_push_16 : decode cX12_push 16 = .ok (.iadd, 1) := by decide +kernel
theorem dX12_push_17 : decode cX12_push 17 = .ok (.putfield 275, 3) := by decide +kernel
theorem dX12_push_20 : decode cX12_push 20 = .ok (.return_, 1) := by decide +kernel
theorem dX12_pop_0 : decode cX12_pop 0 = .ok (.aload_n 0, 1) := by decide +kernel
theorem dX12_pop_1 : decode cX12_pop 1 = .ok (.dup, 1) := by decide +kernel
theorem dX12_pop_2 : decode cX12_pop 2 = .ok (.getfield 275, 3) := by decide +kernel
theorem dX12_pop_5 : decode cX12_pop 5 = .ok (.iconst 1, 1) := by decide +kernel
theorem dX12_pop_6 : decode cX12_pop 6 = .ok (.isub, 1) := by decide +kernel
theorem dX12_pop_7 : decode cX12_pop 7 = .ok (.putfield 275, 3) := by decide +kernel
theorem dX12_pop_10 : decode cX12_pop 10 = .ok (.aload_n 0, 1) := by decide +kernel
theorem dX12_pop_11 : decode cX12_pop 11 = .ok (.getfield 32, 3) := by decide +kernel
theorem dX12_pop_14 : decode cX12_pop 14 = .ok (.aload_n 0, 1) := by decide +kernel
theorem dX12_pop_15 : decode cX12_pop 15 = .ok (.getfield 275, 3) := by decide +kernel
theorem dX12_pop_18 : decode cX12_pop 18 = .ok (.laload, 1) := by decide +kernel
theorem dX12_pop_19 : decode cX12_pop 19 = .ok (.lreturn, 1) := by decide +kernel
theorem dX12_one_0 : decode cX12_one 0 = .ok (.iload_n 0, 1) := by decide +kernel
theorem dX12_one_1 : decode cX12_one 1 = .ok (.tableswitch 171 2 14 #[67, 71, 75, 79, 107, 119, 131, 143, 155, 171, 167, 171, 93], 67) := by decide +kernel
theorem dX12_one_68 : decode cX12_one 68 = .ok (.lload_n 1, 1) := by decide +kernel
theorem dX12_one_69 : decode cX12_one 69 = .ok (.lload_n 3, 1) := by decide +kernel
theorem dX12_one_70 : decode cX12_one 70 = .ok (.ladd, 1) := by decide +kernel
theorem dX12_one_71 : decode cX12_one 71 = .ok (.lreturn, 1) := by decide +kernel
theorem dX12_one_72 : decode cX12_one 72 = .ok (.lload_n 1, 1) := by decide +kernel
theorem dX12_one_73 : decode cX12_one 73 = .ok (.lload_n 3, 1) := by decide +kernel
theorem dX12_one_74 : decode cX12_one 74 = .ok (.lsub, 1) := by decide +kernel
theorem dX12_one_75 : decode cX12_one 75 = .ok (.lreturn, 1) := by decide +kernel
theorem dX12_one_76 : decode cX12_one 76 = .ok (.lload_n 1, 1) := by decide +kernel
theorem dX12_one_77 : decode cX12_one 77 = .ok (.lload_n 3, 1) := by decide +kernel
theorem dX12_one_78 : decode cX12_one 78 = .ok (.lmul, 1) := by decide +kernel
theorem dX12_one_79 : decode cX12_one 79 = .ok (.lreturn, 1) := by decide +kernel
theorem dX12_one_80 : decode cX12_one 80 = .ok (.lload_n 3, 1) := by decide +kernel
theorem dX12_one_81 : decode cX12_one 81 = .ok (.lconst 0, 1) := by decide +kernel
theorem dX12_one_82 : decode cX12_one 82 = .ok (.lcmp, 1) := by decide +kernel
theorem dX12_one_83 : decode cX12_one 83 = .ok (.ifCond .ne 7, 3) := by decide +kernel
theorem dX12_one_86 : decode cX12_one 86 = .ok (.lconst 0, 1) := by decide +kernel
theorem dX12_one_87 : decode cX12_one 87 = .ok (.goto 6, 3) := by decide +kernel
theorem dX12_one_90 : decode cX12_one 90 = .ok (.lload_n 1, 1) := by decide +kernel
theorem dX12_one_91 : decode cX12_one 91 = .ok (.lload_n 3, 1) := by decide +kernel
theorem dX12_one_92 : decode cX12_one 92 = .ok (.ldiv, 1) := by decide +kernel
theorem dX12_one_93 : decode cX12_one 93 = .ok (.lreturn, 1) := by decide +kernel
theorem dX12_one_94 : decode cX12_one 94 = .ok (.lload_n 3, 1) := by decide +kernel
theorem dX12_one_95 : decode cX12_one 95 = .ok (.lconst 0, 1) := by decide +kernel
theorem dX12_one_96 : decode cX12_one 96 = .ok (.lcmp, 1) := by decide +kernel
theorem dX12_one_97 : decode cX12_one 97 = .ok (.ifCond .ne 7, 3) := by decide +kernel
theorem dX12_one_100 : decode cX12_one 100 = .ok (.lconst 0, 1) := by decide +kernel
theorem dX12_one_101 : decode cX12_one 101 = .ok (.goto 6, 3) := by decide +kernel
theorem dX12_one_104 : decode cX12_one 104 = .ok (.lload_n 1, 1) := by decide +kernel
theorem dX12_one_105 : decode cX12_one 105 = .ok (.lload_n 3, 1) := by decide +kernel
theorem dX12_one_106 : decode cX12_one 106 = .ok (.lrem, 1) := by decide +kernel
theorem dX12_one_107 : decode cX12_one 107 = .ok (.lreturn, 1) := by decide +kernel
theorem dX12_one_108 : decode cX12_one 108 = .ok (.lload_n 1, 1) := by decide +kernel
theorem dX12_one_109 : decode cX12_one 109 = .ok (.lload_n 3, 1) := by decide +kernel
theorem dX12_one_110 : decode cX12_one 110 = .ok (.lcmp, 1) := by decide +kernel
theorem dX12_one_111 : decode cX12_one 111 = .ok (.ifCond .ge 7, 3) := by decide +kernel
theorem dX12_one_114 : decode cX12_one 114 = .ok (.lconst 1, 1) := by decide +kernel
theorem dX12_one_115 : decode cX12_one 115 = .ok (.goto 4, 3) := by decide +kernel
theorem dX12_one_118 : decode cX12_one 118 = .ok (.lconst 0, 1) := by decide +kernel
theorem dX12_one_119 : decode cX12_one 119 = .ok (.lreturn, 1) := by decide +kernel
theorem dX12_one_120 : decode cX12_one 120 = .ok (.lload_n 1, 1) := by decide +kernel
theorem dX12_one_121 : decode cX12_one 121 = .ok (.lload_n 3, 1) := by decide +kernel
theorem dX12_one_122 : decode cX12_one 122 = .ok (.lcmp, 1) := by decide +kernel
theorem dX12_one_123 : decode cX12_one 123 = .ok (.ifCond .gt 7, 3) := by decide +kernel
theorem dX12_one_126 : decode cX12_one 126 = .ok (.lconst 1, 1) := by decide +kernel
theorem dX12_one_127 : decode cX12_one 127 = .ok (.goto 4, 3) := by decide +kernel
theorem dX12_one_130 : decode cX12_one 130 = .ok (.lconst 0, 1) := by decide +kernel
theorem dX12_one_131 : decode cX12_one 131 = .ok (.lreturn, 1) := by decide +kernel
theorem dX12_one_132 : decode cX12_one 132 = .ok (.lload_n 1, 1) := by decide +kernel
theorem dX12_one_133 : decode cX12_one 133 = .ok (.lload_n 3, 1) := by decide +kernel
theorem dX12_one_134 : decode cX12_one 134 = .ok (.lcmp, 1) := by decide +kernel
theorem dX12_one_135 : decode cX12_one 135 = .ok (.ifCond .ne 7, 3) := by decide +kernel
theorem dX12_one_138 : decode cX12_one 138 = .ok (.lconst 1, 1) := by decide +kernel
theorem dX12_one_139 : decode cX12_one 139 = .ok (.goto 4, 3) := by decide +kernel
theorem dX12_one_142 : decode cX12_one 142 = .ok (.lconst 0, 1) := by decide +kernel
theorem dX12_one_143 : decode cX12_one 143 = .ok (.lreturn, 1) := by decide +kernel
theorem dX12_one_144 : decode cX12_one 144 = .ok (.lload_n 1, 1) := by decide +kernel
theorem dX12_one_145 : decode cX12_one 145 = .ok (.lload_n 3, 1) := by decide +kernel
theorem dX12_one_146 : decode cX12_one 146 = .ok (.lcmp, 1) := by decide +kernel
theorem dX12_one_147 : decode cX12_one 147 = .ok (.ifCond .lt 7, 3) := by decide +kernel
theorem dX12_one_150 : decode cX12_one 150 = .ok (.lconst 1, 1) := by decide +kernel
theorem dX12_one_151 : decode cX12_one 151 = .ok (.goto 4, 3) := by decide +kernel
theorem dX12_one_154 : decode cX12_one 154 = .ok (.lconst 0, 1) := by decide +kernel
theorem dX12_one_155 : decode cX12_one 155 = .ok (.lreturn, 1) := by decide +kernel
theorem dX12_one_156 : decode cX12_one 156 = .ok (.lload_n 1, 1) := by decide +kernel
theorem dX12_one_157 : decode cX12_one 157 = .ok (.lload_n 3, 1) := by decide +kernel
theorem dX12_one_158 : decode cX12_one 158 = .ok (.lcmp, 1) := by decide +kernel
theorem dX12_one_159 : decode cX12_one 159 = .ok (.ifCond .le 7, 3) := by decide +kernel
theorem dX12_one_162 : decode cX12_one 162 = .ok (.lconst 1, 1) := by decide +kernel
theorem dX12_one_163 : decode cX12_one 163 = .ok (.goto 4, 3) := by decide +kernel
theorem dX12_one_166 : decode cX12_one 166 = .ok (.lconst 0, 1) := by decide +kernel
theorem dX12_one_167 : decode cX12_one 167 = .ok (.lreturn, 1) := by decide +kernel
theorem dX12_one_168 : decode cX12_one 168 = .ok (.lload_n 1, 1) := by decide +kernel
theorem dX12_one_169 : decode cX12_one 169 = .ok (.lload_n 3, 1) := by decide +kernel
theorem dX12_one_170 : decode cX12_one 170 = .ok (.land, 1) := by decide +kernel
theorem dX12_one_171 : decode cX12_one 171 = .ok (.lreturn, 1) := by decide +kernel
theorem dX12_one_172 : decode cX12_one 172 = .ok (.lload_n 1, 1) := by decide +kernel
theorem dX12_one_173 : decode cX12_one 173 = .ok (.lload_n 3, 1) := by decide +kernel
theorem dX12_one_174 : decode cX12_one 174 = .ok (.lor, 1) := by decide +kernel
theorem dX12_one_175 : decode cX12_one 175 = .ok (.lreturn, 1) := by decide +kernel
theorem dX12_reckons_0 : decode cX12_reckons 0 = .ok (.aload_n 0, 1) := by decide +kernel
theorem dX12_reckons_1 : decode cX12_reckons 1 = .ok (.iconst 0, 1) := by decide +kernel
theorem dX12_reckons_2 : decode cX12_reckons 2 = .ok (.putfield 275, 3) := by decide +kernel
theorem dX12_reckons_5 : decode cX12_reckons 5 = .ok (.iload_n 2, 1) := by decide +kernel
theorem dX12_reckons_6 : decode cX12_reckons 6 = .ok (.istore 4, 2) := by decide +kernel
theorem dX12_reckons_8 : decode cX12_reckons 8 = .ok (.iload 4, 2) := by decide +kernel
theorem dX12_reckons_10 : decode cX12_reckons 10 = .ok (.iload_n 3, 1) := by decide +kernel
theorem dX12_reckons_11 : decode cX12_reckons 11 = .ok (.if_icmp .ge 124, 3) := by decide +kernel
theorem dX12_reckons_14 : decode cX12_reckons 14 = .ok (.aload_n 0, 1) := by decide +kernel
theorem dX12_reckons_15 : decode cX12_reckons 15 = .ok (.getfield 13, 3) := by decide +kernel
theorem dX12_reckons_18 : decode cX12_reckons 18 = .ok (.sipush 400, 3) := by decide +kernel
theorem dX12_reckons_21 : decode cX12_reckons 21 = .ok (.iload_n 1, 1) := by decide +kernel
theorem dX12_reckons_22 : decode cX12_reckons 22 = .ok (.imul, 1) := by decide +kernel
theorem dX12_reckons_23 : decode cX12_reckons 23 = .ok (.iload 4, 2) := by decide +kernel
theorem dX12_reckons_25 : decode cX12_reckons 25 = .ok (.iadd, 1) := by decide +kernel
theorem dX12_reckons_26 : decode cX12_reckons 26 = .ok (.iaload, 1) := by decide +kernel
theorem dX12_reckons_27 : decode cX12_reckons 27 = .ok (.bipush 15, 2) := by decide +kernel
theorem dX12_reckons_29 : decode cX12_reckons 29 = .ok (.iand, 1) := by decide +kernel
theorem dX12_reckons_30 : decode cX12_reckons 30 = .ok (.istore 5, 2) := by decide +kernel
theorem dX12_reckons_32 : decode cX12_reckons 32 = .ok (.aload_n 0, 1) := by decide +kernel
theorem dX12_reckons_33 : decode cX12_reckons 33 = .ok (.getfield 13, 3) := by decide +kernel
theorem dX12_reckons_36 : decode cX12_reckons 36 = .ok (.sipush 400, 3) := by decide +kernel
theorem dX12_reckons_39 : decode cX12_reckons 39 = .ok (.iload_n 1, 1) := by decide +kernel
theorem dX12_reckons_40 : decode cX12_reckons 40 = .ok (.imul, 1) := by decide +kernel
theorem dX12_reckons_41 : decode cX12_reckons 41 = .ok (.iload 4, 2) := by decide +kernel
theorem dX12_reckons_43 : decode cX12_reckons 43 = .ok (.iadd, 1) := by decide +kernel
theorem dX12_reckons_44 : decode cX12_reckons 44 = .ok (.iaload, 1) := by decide +kernel
theorem dX12_reckons_45 : decode cX12_reckons 45 = .ok (.iconst 4, 1) := by decide +kernel
theorem dX12_reckons_46 : decode cX12_reckons 46 = .ok (.ishr, 1) := by decide +kernel
theorem dX12_reckons_47 : decode cX12_reckons 47 = .ok (.istore 6, 2) := by decide +kernel
theorem dX12_reckons_49 : decode cX12_reckons 49 = .ok (.iload 5, 2) := by decide +kernel
theorem dX12_reckons_51 : decode cX12_reckons 51 = .ok (.ifCond .ne 13, 3) := by decide +kernel
theorem dX12_reckons_54 : decode cX12_reckons 54 = .ok (.aload_n 0, 1) := by decide +kernel
theorem dX12_reckons_55 : decode cX12_reckons 55 = .ok (.iload 6, 2) := by decide +kernel
theorem dX12_reckons_57 : decode cX12_reckons 57 = .ok (.i2l, 1) := by decide +kernel
theorem dX12_reckons_58 : decode cX12_reckons 58 = .ok (.invokevirtual 278, 3) := by decide +kernel
theorem dX12_reckons_61 : decode cX12_reckons 61 = .ok (.goto 68, 3) := by decide +kernel
theorem dX12_reckons_64 : decode cX12_reckons 64 = .ok (.iload 5, 2) := by decide +kernel
theorem dX12_reckons_66 : decode cX12_reckons 66 = .ok (.iconst 1, 1) := by decide +kernel
theorem dX12_reckons_67 : decode cX12_reckons 67 = .ok (.if_icmp .ne 17, 3) := by decide +kernel
theorem dX12_reckons_70 : decode cX12_reckons 70 = .ok (.aload_n 0, 1) := by decide +kernel
theorem dX12_reckons_71 : decode cX12_reckons 71 = .ok (.aload_n 0, 1) := by decide +kernel
theorem dX12_reckons_72 : decode cX12_reckons 72 = .ok (.getfield 36, 3) := by decide +kernel
theorem dX12_reckons_75 : decode cX12_reckons 75 = .ok (.iload 6, 2) := by decide +kernel
theorem dX12_reckons_77 : decode cX12_reckons 77 = .ok (.laload, 1) := by decide +kernel
theorem dX12_reckons_78 : decode cX12_reckons 78 = .ok (.invokevirtual 278, 3) := by decide +kernel
theorem dX12_reckons_81 : decode cX12_reckons 81 = .ok (.goto 48, 3) := by decide +kernel
theorem dX12_reckons_84 : decode cX12_reckons 84 = .ok (.iload 5, 2) := by decide +kernel
theorem dX12_reckons_86 : decode cX12_reckons 86 = .ok (.bipush 11, 2) := by decide +kernel
theorem dX12_reckons_88 : decode cX12_reckons 88 = .ok (.if_icmp .ne 16, 3) := by decide +kernel
theorem dX12_reckons_91 : decode cX12_reckons 91 = .ok (.aload_n 0, 1) := by decide +kernel
theorem dX12_reckons_92 : decode cX12_reckons 92 = .ok (.lconst 1, 1) := by decide +kernel
theorem dX12_reckons_93 : decode cX12_reckons 93 = .ok (.aload_n 0, 1) := by decide +kernel
theorem dX12_reckons_94 : decode cX12_reckons 94 = .ok (.invokevirtual 282, 3) := by decide +kernel
theorem dX12_reckons_97 : decode cX12_reckons 97 = .ok (.lsub, 1) := by decide +kernel
theorem dX12_reckons_98 : decode cX12_reckons 98 = .ok (.invokevirtual 278, 3) := by decide +kernel
theorem dX12_reckons_101 : decode cX12_reckons 101 = .ok (.goto 28, 3) := by decide +kernel
theorem dX12_reckons_104 : decode cX12_reckons 104 = .ok (.aload_n 0, 1) := by decide +kernel
theorem dX12_reckons_105 : decode cX12_reckons 105 = .ok (.invokevirtual 282, 3) := by decide +kernel
theorem dX12_reckons_108 : decode cX12_reckons 108 = .ok (.lstore 7, 2) := by decide +kernel
theorem dX12_reckons_110 : decode cX12_reckons 110 = .ok (.aload_n 0, 1) := by decide +kernel
theorem dX12_reckons_111 : decode cX12_reckons 111 = .ok (.invokevirtual 282, 3) := by decide +kernel
theorem dX12_reckons_114 : decode cX12_reckons 114 = .ok (.lstore 9, 2) := by decide +kernel
theorem dX12_reckons_116 : decode cX12_reckons 116 = .ok (.aload_n 0, 1) := by decide +kernel
theorem dX12_reckons_117 : decode cX12_reckons 117 = .ok (.iload 5, 2) := by decide +kernel
theorem dX12_reckons_119 : decode cX12_reckons 119 = .ok (.lload 9, 2) := by decide +kernel
theorem dX12_reckons_121 : decode cX12_reckons 121 = .ok (.lload 7, 2) := by decide +kernel
theorem dX12_reckons_123 : decode cX12_reckons 123 = .ok (.invokestatic 286, 3) := by decide +kernel
theorem dX12_reckons_126 : decode cX12_reckons 126 = .ok (.invokevirtual 278, 3) := by decide +kernel
theorem dX12_reckons_129 : decode cX12_reckons 129 = .ok (.iinc 4 1, 3) := by decide +kernel
theorem dX12_reckons_132 : decode cX12_reckons 132 = .ok (.goto (-124), 3) := by decide +kernel
theorem dX12_reckons_135 : decode cX12_reckons 135 = .ok (.aload_n 0, 1) := by decide +kernel
theorem dX12_reckons_136 : decode cX12_reckons 136 = .ok (.invokevirtual 282, 3) := by decide +kernel
theorem dX12_reckons_139 : decode cX12_reckons 139 = .ok (.lreturn, 1) := by decide +kernel
theorem dX12_isLadder_0 : decode cX12_isLadder 0 = .ok (.aload_n 0, 1) := by decide +kernel
theorem dX12_isLadder_1 : decode cX12_isLadder 1 = .ok (.getfield 39, 3) := by decide +kernel
theorem dX12_isLadder_4 : decode cX12_isLadder 4 = .ok (.iconst 0, 1) := by decide +kernel
theorem dX12_isLadder_5 : decode cX12_isLadder 5 = .ok (.iaload, 1) := by decide +kernel
theorem dX12_isLadder_6 : decode cX12_isLadder 6 = .ok (.ifCond .le 7, 3) := by decide +kernel
theorem dX12_isLadder_9 : decode cX12_isLadder 9 = .ok (.iconst 1, 1) := by decide +kernel
theorem dX12_isLadder_10 : decode cX12_isLadder 10 = .ok (.goto 4, 3) := by decide +kernel
theorem dX12_isLadder_13 : decode cX12_isLadder 13 = .ok (.iconst 0, 1) := by decide +kernel
theorem dX12_isLadder_14 : decode cX12_isLadder 14 = .ok (.ireturn, 1) := by decide +kernel
theorem dX12_isRung_0 : decode cX12_isRung 0 = .ok (.iload_n 1, 1) := by decide +kernel
theorem dX12_isRung_1 : decode cX12_isRung 1 = .ok (.ifCond .lt 17, 3) := by decide +kernel
theorem dX12_isRung_4 : decode cX12_isRung 4 = .ok (.iload_n 1, 1) := by decide +kernel
theorem dX12_isRung_5 : decode cX12_isRung 5 = .ok (.aload_n 0, 1) := by decide +kernel
theorem dX12_isRung_6 : decode cX12_isRung 6 = .ok (.getfield 39, 3) := by decide +kernel
theorem dX12_isRung_9 : decode cX12_isRung 9 = .ok (.iconst 0, 1) := by decide +kernel
theorem dX12_isRung_10 : decode cX12_isRung 10 = .ok (.iaload, 1) := by decide +kernel
theorem dX12_isRung_11 : decode cX12_isRung 11 = .ok (.if_icmp .ge 7, 3) := by decide +kernel
theorem dX12_isRung_14 : decode cX12_isRung 14 = .ok (.iconst 1, 1) := by decide +kernel
theorem dX12_isRung_15 : decode cX12_isRung 15 = .ok (.goto 4, 3) := by decide +kernel
theorem dX12_isRung_18 : decode cX12_isRung 18 = .ok (.iconst 0, 1) := by decide +kernel
theorem dX12_isRung_19 : decode cX12_isRung 19 = .ok (.ireturn, 1) := by decide +kernel
theorem dX12_isPerson_0 : decode cX12_isPerson 0 = .ok (.iload_n 1, 1) := by decide +kernel
theorem dX12_isPerson_1 : decode cX12_isPerson 1 = .ok (.ifCond .lt 17, 3) := by decide +kernel
theorem dX12_isPerson_4 : decode cX12_isPerson 4 = .ok (.iload_n 1, 1) := by decide +kernel
theorem dX12_isPerson_5 : decode cX12_isPerson 5 = .ok (.aload_n 0, 1) := by decide +kernel
theorem dX12_isPerson_6 : decode cX12_isPerson 6 = .ok (.getfield 39, 3) := by decide +kernel
theorem dX12_isPerson_9 : decode cX12_isPerson 9 = .ok (.iconst 1, 1) := by decide +kernel
theorem dX12_isPerson_10 : decode cX12_isPerson 10 = .ok (.iaload, 1) := by decide +kernel
theorem dX12_isPerson_11 : decode cX12_isPerson 11 = .ok (.if_icmp .ge 7, 3) := by decide +kernel
theorem dX12_isPerson_14 : decode cX12_isPerson 14 = .ok (.iconst 1, 1) := by decide +kernel
theorem dX12_isPerson_15 : decode cX12_isPerson 15 = .ok (.goto 4, 3) := by decide +kernel
theorem dX12_isPerson_18 : decode cX12_isPerson 18 = .ok (.iconst 0, 1) := by decide +kernel
theorem dX12_isPerson_19 : decode cX12_isPerson 19 = .ok (.ireturn, 1) := by decide +kernel
theorem dX12_rungOf_0 : decode cX12_rungOf 0 = .ok (.aload_n 0, 1) := by decide +kernel
theorem dX12_rungOf_1 : decode cX12_rungOf 1 = .ok (.getfield 39, 3) := by decide +kernel
theorem dX12_rungOf_4 : decode cX12_rungOf 4 = .ok (.bipush 10, 2) := by decide +kernel
theorem dX12_rungOf_6 : decode cX12_rungOf 6 = .ok (.iconst 4, 1) := by decide +kernel
theorem dX12_rungOf_7 : decode cX12_rungOf 7 = .ok (.iload_n 1, 1) := by decide +kernel
theorem dX12_rungOf_8 : decode cX12_rungOf 8 = .ok (.imul, 1) := by decide +kernel
theorem dX12_rungOf_9 : decode cX12_rungOf 9 = .ok (.iadd, 1) := by decide +kernel
theorem dX12_rungOf_10 : decode cX12_rungOf 10 = .ok (.iload_n 2, 1) := by decide +kernel
theorem dX12_rungOf_11 : decode cX12_rungOf 11 = .ok (.iadd, 1) := by decide +kernel
theorem dX12_rungOf_12 : decode cX12_rungOf 12 = .ok (.iaload, 1) := by decide +kernel
theorem dX12_rungOf_13 : decode cX12_rungOf 13 = .ok (.ireturn, 1) := by decide +kernel
theorem dX12_personOf_0 : decode cX12_personOf 0 = .ok (.aload_n 0, 1) := by decide +kernel
theorem dX12_personOf_1 : decode cX12_personOf 1 = .ok (.getfield 39, 3) := by decide +kernel
theorem dX12_personOf_4 : decode cX12_personOf 4 = .ok (.bipush 46, 2) := by decide +kernel
theorem dX12_personOf_6 : decode cX12_personOf 6 = .ok (.iconst 4, 1) := by decide +kernel
theorem dX12_personOf_7 : decode cX12_personOf 7 = .ok (.iload_n 1, 1) := by decide +kernel
theorem dX12_personOf_8 : decode cX12_personOf 8 = .ok (.imul, 1) := by decide +kernel
theorem dX12_personOf_9 : decode cX12_personOf 9 = .ok (.iadd, 1) := by decide +kernel
theorem dX12_personOf_10 : decode cX12_personOf 10 = .ok (.iload_n 2, 1) := by decide +kernel
theorem dX12_personOf_11 : decode cX12_personOf 11 = .ok (.iadd, 1) := by decide +kernel
theorem dX12_personOf_12 : decode cX12_personOf 12 = .ok (.iaload, 1) := by decide +kernel
theorem dX12_personOf_13 : decode cX12_personOf 13 = .ok (.ireturn, 1) := by decide +kernel
theorem dX12_weightOf_0 : decode cX12_weightOf 0 = .ok (.aload_n 0, 1) := by decide +kernel
theorem dX12_weightOf_1 : decode cX12_weightOf 1 = .ok (.getfield 39, 3) := by decide +kernel
theorem dX12_weightOf_4 : decode cX12_weightOf 4 = .ok (.bipush 62, 2) := by decide +kernel
theorem dX12_weightOf_6 : decode cX12_weightOf 6 = .ok (.iconst 2, 1) := by decide +kernel
theorem dX12_weightOf_7 : decode cX12_weightOf 7 = .ok (.iload_n 1, 1) := by decide +kernel
theorem dX12_weightOf_8 : decode cX12_weightOf 8 = .ok (.imul, 1) := by decide +kernel
theorem dX12_weightOf_9 : decode cX12_weightOf 9 = .ok (.iadd, 1) := by decide +kernel
theorem dX12_weightOf_10 : decode cX12_weightOf 10 = .ok (.iaload, 1) := by decide +kernel
theorem dX12_weightOf_11 : decode cX12_weightOf 11 = .ok (.ireturn, 1) := by decide +kernel
theorem dX12_gripTold_0 : decode cX12_gripTold 0 = .ok (.aload_n 0, 1) := by decide +kernel
theorem dX12_gripTold_1 : decode cX12_gripTold 1 = .ok (.getfield 39, 3) := by decide +kernel
theorem dX12_gripTold_4 : decode cX12_gripTold 4 = .ok (.bipush 62, 2) := by decide +kernel
theorem dX12_gripTold_6 : decode cX12_gripTold 6 = .ok (.iconst 2, 1) := by decide +kernel
theorem dX12_gripTold_7 : decode cX12_gripTold 7 = .ok (.iload_n 1, 1) := by decide +kernel
theorem dX12_gripTold_8 : decode cX12_gripTold 8 = .ok (.imul, 1) := by decide +kernel
theorem dX12_gripTold_9 : decode cX12_gripTold 9 = .ok (.iadd, 1) := by decide +kernel
theorem dX12_gripTold_10 : decode cX12_gripTold 10 = .ok (.iconst 1, 1) := by decide +kernel
theorem dX12_gripTold_11 : decode cX12_gripTold 11 = .ok (.iadd, 1) := by decide +kernel
theorem dX12_gripTold_12 : decode cX12_gripTold 12 = .ok (.iaload, 1) := by decide +kernel
theorem dX12_gripTold_13 : decode cX12_gripTold 13 = .ok (.ireturn, 1) := by decide +kernel
theorem dX12_isUp_0 : decode cX12_isUp 0 = .ok (.aload_n 0, 1) := by decide +kernel
theorem dX12_isUp_1 : decode cX12_isUp 1 = .ok (.iload_n 1, 1) := by decide +kernel
theorem dX12_isUp_2 : decode cX12_isUp 2 = .ok (.iconst 0, 1) := by decide +kernel
theorem dX12_isUp_3 : decode cX12_isUp 3 = .ok (.invokevirtual 290, 3) := by decide +kernel
theorem dX12_isUp_6 : decode cX12_isUp 6 = .ok (.ifCond .lt 7, 3) := by decide +kernel
theorem dX12_isUp_9 : decode cX12_isUp 9 = .ok (.iconst 1, 1) := by decide +kernel
theorem dX12_isUp_10 : decode cX12_isUp 10 = .ok (.goto 4, 3) := by decide +kernel
theorem dX12_isUp_13 : decode cX12_isUp 13 = .ok (.iconst 0, 1) := by decide +kernel
theorem dX12_isUp_14 : decode cX12_isUp 14 = .ok (.ireturn, 1) := by decide +kernel
theorem dX12_isWhole_0 : decode cX12_isWhole 0 = .ok (.aload_n 0, 1) := by decide +kernel
theorem dX12_isWhole_1 : decode cX12_isWhole 1 = .ok (.iload_n 1, 1) := by decide +kernel
theorem dX12_isWhole_2 : decode cX12_isWhole 2 = .ok (.invokevirtual 294, 3) := by decide +kernel
theorem dX12_isWhole_5 : decode cX12_isWhole 5 = .ok (.ifCond .eq 16, 3) := by decide +kernel
theorem dX12_isWhole_8 : decode cX12_isWhole 8 = .ok (.aload_n 0, 1) := by decide +kernel
theorem dX12_isWhole_9 : decode cX12_isWhole 9 = .ok (.iload_n 1, 1) := by decide +kernel
theorem dX12_isWhole_10 : decode cX12_isWhole 10 = .ok (.iconst 3, 1) := by decide +kernel
theorem dX12_isWhole_11 : decode cX12_isWhole 11 = .ok (.invokevirtual 297, 3) := by decide +kernel
theorem dX12_isWhole_14 : decode cX12_isWhole 14 = .ok (.ifCond .ne 7, 3) := by decide +kernel
theorem dX12_isWhole_17 : decode cX12_isWhole 17 = .ok (.iconst 1, 1) := by decide +kernel
theorem dX12_isWhole_18 : decode cX12_isWhole 18 = .ok (.goto 4, 3) := by decide +kernel
theorem dX12_isWhole_21 : decode cX12_isWhole 21 = .ok (.iconst 0, 1) := by decide +kernel
theorem dX12_isWhole_22 : decode cX12_isWhole 22 = .ok (.ireturn, 1) := by decide +kernel
theorem dX12_beside_0 : decode cX12_beside 0 = .ok (.iload_n 1, 1) := by decide +kernel
theorem dX12_beside_1 : decode cX12_beside 1 = .ok (.ifCond .ge 5, 3) := by decide +kernel
theorem dX12_beside_4 : decode cX12_beside 4 = .ok (.iconst (-1), 1) := by decide +kernel
theorem dX12_beside_5 : decode cX12_beside 5 = .ok (.ireturn, 1) := by decide +kernel
theorem dX12_beside_6 : decode cX12_beside 6 = .ok (.aload_n 0, 1) := by decide +kernel
theorem dX12_beside_7 : decode cX12_beside 7 = .ok (.iload_n 1, 1) := by decide +kernel
theorem dX12_beside_8 : decode cX12_beside 8 = .ok (.iload_n 2, 1) := by decide +kernel
theorem dX12_beside_9 : decode cX12_beside 9 = .ok (.iadd, 1) := by decide +kernel
theorem dX12_beside_10 : decode cX12_beside 10 = .ok (.invokevirtual 300, 3) := by decide +kernel
theorem dX12_beside_13 : decode cX12_beside 13 = .ok (.ifCond .eq 9, 3) := by decide +kernel
theorem dX12_beside_16 : decode cX12_beside 16 = .ok (.iload_n 1, 1) := by decide +kernel
theorem dX12_beside_17 : decode cX12_beside 17 = .ok (.iload_n 2, 1) := by decide +kernel
theorem dX12_beside_18 : decode cX12_beside 18 = .ok (.iadd, 1) := by decide +kernel
theorem dX12_beside_19 : decode cX12_beside 19 = .ok (.goto 34, 3) := by decide +kernel
theorem dX12_beside_22 : decode cX12_beside 22 = .ok (.aload_n 0, 1) := by decide +kernel
theorem dX12_beside_23 : decode cX12_beside 23 = .ok (.iload_n 1, 1) := by decide +kernel
theorem dX12_beside_24 : decode cX12_beside 24 = .ok (.iload_n 2, 1) := by decide +kernel
theorem dX12_beside_25 : decode cX12_beside 25 = .ok (.iadd, 1) := by decide +kernel
theorem dX12_beside_26 : decode cX12_beside 26 = .ok (.invokevirtual 294, 3) := by decide +kernel
theorem dX12_beside_29 : decode cX12_beside 29 = .ok (.ifCond .eq 23, 3) := by decide +kernel
theorem dX12_beside_32 : decode cX12_beside 32 = .ok (.aload_n 0, 1) := by decide +kernel
theorem dX12_beside_33 : decode cX12_beside 33 = .ok (.iload_n 1, 1) := by decide +kernel
theorem dX12_beside_34 : decode cX12_beside 34 = .ok (.iconst 2, 1) := by decide +kernel
theorem dX12_beside_35 : decode cX12_beside 35 = .ok (.iload_n 2, 1) := by decide +kernel
theorem dX12_beside_36 : decode cX12_beside 36 = .ok (.imul, 1) := by decide +kernel
theorem dX12_beside_37 : decode cX12_beside 37 = .ok (.iadd, 1) := by decide +kernel
theorem dX12_beside_38 : decode cX12_beside 38 = .ok (.invokevirtual 300, 3) := by decide +kernel
theorem dX12_beside_41 : decode cX12_beside 41 = .ok (.ifCond .eq 11, 3) := by decide +kernel
theorem dX12_beside_44 : decode cX12_beside 44 = .ok (.iload_n 1, 1) := by decide +kernel
theorem dX12_beside_45 : decode cX12_beside 45 = .ok (.iconst 2, 1) := by decide +kernel
theorem dX12_beside_46 : decode cX12_beside 46 = .ok (.iload_n 2, 1) := by decide +kernel
theorem dX12_beside_47 : decode cX12_beside 47 = .ok (.imul, 1) := by decide +kernel
theorem dX12_beside_48 : decode cX12_beside 48 = .ok (.iadd, 1) := by decide +kernel
theorem dX12_beside_49 : decode cX12_beside 49 = .ok (.goto 4, 3) := by decide +kernel
theorem dX12_beside_52 : decode cX12_beside 52 = .ok (.iconst (-1), 1) := by decide +kernel
theorem dX12_beside_53 : decode cX12_beside 53 = .ok (.ireturn, 1) := by decide +kernel
theorem dX12_standing_0 : decode cX12_standing 0 = .ok (.iconst 0, 1) := by decide +kernel
theorem dX12_standing_1 : decode cX12_standing 1 = .ok (.istore_n 2, 1) := by decide +kernel
theorem dX12_standing_2 : decode cX12_standing 2 = .ok (.iconst 0, 1) := by decide +kernel
theorem dX12_standing_3 : decode cX12_standing 3 = .ok (.istore_n 3, 1) := by decide +kernel
theorem dX12_standing_4 : decode cX12_standing 4 = .ok (.iload_n 3, 1) := by decide +kernel
theorem dX12_standing_5 : decode cX12_standing 5 = .ok (.aload_n 0, 1) := by decide +kernel
theorem dX12_standing_6 : decode cX12_standing 6 = .ok (.getfield 39, 3) := by decide +kernel
theorem dX12_standing_9 : decode cX12_standing 9 = .ok (.iconst 1, 1) := by decide +kernel
theorem dX12_standing_10 : decode cX12_standing 10 = .ok (.iaload, 1) := by decide +kernel
theorem dX12_standing_11 : decode cX12_standing 11 = .ok (.if_icmp .ge 27, 3) := by decide +kernel
theorem dX12_standing_14 : decode cX12_standing 14 = .ok (.iload_n 2, 1) := by decide +kernel
theorem dX12_standing_15 : decode cX12_standing 15 = .ok (.aload_n 0, 1) := by decide +kernel
theorem dX12_standing_16 : decode cX12_standing 16 = .ok (.iload_n 3, 1) := by decide +kernel
theorem dX12_standing_17 : decode cX12_standing 17 = .ok (.iconst 0, 1) := by decide +kernel
theorem dX12_standing_18 : decode cX12_standing 18 = .ok (.invokevirtual 290, 3) := by decide +kernel
theorem dX12_standing_21 : decode cX12_standing 21 = .ok (.iload_n 1, 1) := by decide +kernel
theorem dX12_standing_22 : decode cX12_standing 22 = .ok (.if_icmp .ne 7, 3) := by decide +kernel
theorem dX12_standing_25 : decode cX12_standing 25 = .ok (.iconst 1, 1) := by decide +kernel
theorem dX12_standing_26 : decode cX12_standing 26 = .ok (.goto 4, 3) := by decide +kernel
theorem dX12_standing_29 : decode cX12_standing 29 = .ok (.iconst 0, 1) := by decide +kernel
theorem dX12_standing_30 : decode cX12_standing 30 = .ok (.iadd, 1) := by decide +kernel
theorem dX12_standing_31 : decode cX12_standing 31 = .ok (.istore_n 2, 1) := by decide +kernel
theorem dX12_standing_32 : decode cX12_standing 32 = .ok (.iinc 3 1, 3) := by decide +kernel
theorem dX12_standing_35 : decode cX12_standing 35 = .ok (.goto (-31), 3) := by decide +kernel
theorem dX12_standing_38 : decode cX12_standing 38 = .ok (.iload_n 2, 1) := by decide +kernel
theorem dX12_standing_39 : decode cX12_standing 39 = .ok (.ireturn, 1) := by decide +kernel
theorem dX12_whoStands_0 : decode cX12_whoStands 0 = .ok (.iconst 0, 1) := by decide +kernel
theorem dX12_whoStands_1 : decode cX12_whoStands 1 = .ok (.istore_n 2, 1) := by decide +kernel
theorem dX12_whoStands_2 : decode cX12_whoStands 2 = .ok (.iconst 0, 1) := by decide +kernel
theorem dX12_whoStands_3 : decode cX12_whoStands 3 = .ok (.istore_n 3, 1) := by decide +kernel
theorem dX12_whoStands_4 : decode cX12_whoStands 4 = .ok (.iload_n 3, 1) := by decide +kernel
theorem dX12_whoStands_5 : decode cX12_whoStands 5 = .ok (.aload_n 0, 1) := by decide +kernel
theorem dX12_whoStands_6 : decode cX12_whoStands 6 = .ok (.getfield 39, 3) := by decide +kernel
theorem dX12_whoStands_9 : decode cX12_whoStands 9 = .ok (.iconst 1, 1) := by decide +kernel
theorem dX12_whoStands_10 : decode cX12_whoStands 10 = .ok (.iaload, 1) := by decide +kernel
theorem dX12_whoStands_11 : decode cX12_whoStands 11 = .ok (.if_icmp .ge 29, 3) := by decide +kernel
theorem dX12_whoStands_14 : decode cX12_whoStands 14 = .ok (.iload_n 2, 1) := by decide +kernel
theorem dX12_whoStands_15 : decode cX12_whoStands 15 = .ok (.aload_n 0, 1) := by decide +kernel
theorem dX12_whoStands_16 : decode cX12_whoStands 16 = .ok (.iload_n 3, 1) := by decide +kernel
theorem dX12_whoStands_17 : decode cX12_whoStands 17 = .ok (.iconst 0, 1) := by decide +kernel
theorem dX12_whoStands_18 : decode cX12_whoStands 18 = .ok (.invokevirtual 290, 3) := by decide +kernel
theorem dX12_whoStands_21 : decode cX12_whoStands 21 = .ok (.iload_n 1, 1) := by decide +kernel
theorem dX12_whoStands_22 : decode cX12_whoStands 22 = .ok (.if_icmp .ne 9, 3) := by decide +kernel
theorem dX12_whoStands_25 : decode cX12_whoStands 25 = .ok (.iconst 1, 1) := by decide +kernel
theorem dX12_whoStands_26 : decode cX12_whoStands 26 = .ok (.iload_n 3, 1) := by decide +kernel
theorem dX12_whoStands_27 : decode cX12_whoStands 27 = .ok (.ishl, 1) := by decide +kernel
theorem dX12_whoStands_28 : decode cX12_whoStands 28 = .ok (.goto 4, 3) := by decide +kernel
theorem dX12_whoStands_31 : decode cX12_whoStands 31 = .ok (.iconst 0, 1) := by decide +kernel
theorem dX12_whoStands_32 : decode cX12_whoStands 32 = .ok (.ior, 1) := by decide +kernel
theorem dX12_whoStands_33 : decode cX12_whoStands 33 = .ok (.istore_n 2, 1) := by decide +kernel
theorem dX12_whoStands_34 : decode cX12_whoStands 34 = .ok (.iinc 3 1, 3) := by decide +kernel
theorem dX12_whoStands_37 : decode cX12_whoStands 37 = .ok (.goto (-33), 3) := by decide +kernel
theorem dX12_whoStands_40 : decode cX12_whoStands 40 = .ok (.iload_n 2, 1) := by decide +kernel
theorem dX12_whoStands_41 : decode cX12_whoStands 41 = .ok (.ireturn, 1) := by decide +kernel
theorem dX12_weightOn_0 : decode cX12_weightOn 0 = .ok (.iconst 0, 1) := by decide +kernel
theorem dX12_weightOn_1 : decode cX12_weightOn 1 = .ok (.istore_n 2, 1) := by decide +kernel
theorem dX12_weightOn_2 : decode cX12_weightOn 2 = .ok (.iconst 0, 1) := by decide +kernel
theorem dX12_weightOn_3 : decode cX12_weightOn 3 = .ok (.istore_n 3, 1) := by decide +kernel
theorem dX12_weightOn_4 : decode cX12_weightOn 4 = .ok (.iload_n 3, 1) := by decide +kernel
theorem dX12_weightOn_5 : decode cX12_weightOn 5 = .ok (.aload_n 0, 1) := by decide +kernel
theorem dX12_weightOn_6 : decode cX12_weightOn 6 = .ok (.getfield 39, 3) := by decide +kernel
theorem dX12_weightOn_9 : decode cX12_weightOn 9 = .ok (.iconst 1, 1) := by decide +kernel
theorem dX12_weightOn_10 : decode cX12_weightOn 10 = .ok (.iaload, 1) := by decide +kernel
theorem dX12_weightOn_11 : decode cX12_weightOn 11 = .ok (.if_icmp .ge 31, 3) := by decide +kernel
theorem dX12_weightOn_14 : decode cX12_weightOn 14 = .ok (.iload_n 2, 1) := by decide +kernel
theorem dX12_weightOn_15 : decode cX12_weightOn 15 = .ok (.aload_n 0, 1) := by decide +kernel
theorem dX12_weightOn_16 : decode cX12_weightOn 16 = .ok (.iload_n 3, 1) := by decide +kernel
theorem dX12_weightOn_17 : decode cX12_weightOn 17 = .ok (.iconst 0, 1) := by decide +kernel
theorem dX12_weightOn_18 : decode cX12_weightOn 18 = .ok (.invokevirtual 290, 3) := by decide +kernel
theorem dX12_weightOn_21 : decode cX12_weightOn 21 = .ok (.iload_n 1, 1) := by decide +kernel
theorem dX12_weightOn_22 : decode cX12_weightOn 22 = .ok (.if_icmp .ne 11, 3) := by decide +kernel
theorem dX12_weightOn_25 : decode cX12_weightOn 25 = .ok (.aload_n 0, 1) := by decide +kernel
theorem dX12_weightOn_26 : decode cX12_weightOn 26 = .ok (.iload_n 3, 1) := by decide +kernel
theorem dX12_weightOn_27 : decode cX12_weightOn 27 = .ok (.invokevirtual 303, 3) := by decide +kernel
theorem dX12_weightOn_30 : decode cX12_weightOn 30 = .ok (.goto 4, 3) := by decide +kernel
theorem dX12_weightOn_33 : decode cX12_weightOn 33 = .ok (.iconst 0, 1) := by decide +kernel
theorem dX12_weightOn_34 : decode cX12_weightOn 34 = .ok (.iadd, 1) := by decide +kernel
theorem dX12_weightOn_35 : decode cX12_weightOn 35 = .ok (.istore_n 2, 1) := by decide +kernel
theorem dX12_weightOn_36 : decode cX12_weightOn 36 = .ok (.iinc 3 1, 3) := by decide +kernel
theorem dX12_weightOn_39 : decode cX12_weightOn 39 = .ok (.goto (-35), 3) := by decide +kernel
theorem dX12_weightOn_42 : decode cX12_weightOn 42 = .ok (.iload_n 2, 1) := by decide +kernel
theorem dX12_weightOn_43 : decode cX12_weightOn 43 = .ok (.ireturn, 1) := by decide +kernel
theorem dX12_force_0 : decode cX12_force 0 = .ok (.iload_n 1, 1) := by decide +kernel
theorem dX12_force_1 : decode cX12_force 1 = .ok (.iconst (-1), 1) := by decide +kernel
theorem dX12_force_2 : decode cX12_force 2 = .ok (.if_icmp .eq 14, 3) := by decide +kernel
theorem dX12_force_5 : decode cX12_force 5 = .ok (.aload_n 0, 1) := by decide +kernel
theorem dX12_force_6 : decode cX12_force 6 = .ok (.iload_n 1, 1) := by decide +kernel
theorem dX12_force_7 : decode cX12_force 7 = .ok (.invokevirtual 306, 3) := by decide +kernel
theorem dX12_force_10 : decode cX12_force 10 = .ok (.ifCond .ne 6, 3) := by decide +kernel
theorem dX12_force_13 : decode cX12_force 13 = .ok (.bipush (-2), 2) := by decide +kernel
theorem dX12_force_15 : decode cX12_force 15 = .ok (.ireturn, 1) := by decide +kernel
theorem dX12_force_16 : decode cX12_force 16 = .ok (.aload_n 0, 1) := by decide +kernel
theorem dX12_force_17 : decode cX12_force 17 = .ok (.getfield 42, 3) := by decide +kernel
theorem dX12_force_20 : decode cX12_force 20 = .ok (.istore_n 2, 1) := by decide +kernel
theorem dX12_force_21 : decode cX12_force 21 = .ok (.aload_n 0, 1) := by decide +kernel
theorem dX12_force_22 : decode cX12_force 22 = .ok (.iload_n 1, 1) := by decide +kernel
theorem dX12_force_23 : decode cX12_force 23 = .ok (.putfield 42, 3) := by decide +kernel
theorem dX12_force_26 : decode cX12_force 26 = .ok (.iload_n 2, 1) := by decide +kernel
theorem dX12_force_27 : decode cX12_force 27 = .ok (.ireturn, 1) := by decide +kernel
theorem dX12_person_0 : decode cX12_person 0 = .ok (.aload_n 0, 1) := by decide +kernel
theorem dX12_person_1 : decode cX12_person 1 = .ok (.iload_n 1, 1) := by decide +kernel
theorem dX12_person_2 : decode cX12_person 2 = .ok (.invokevirtual 309, 3) := by decide +kernel
theorem dX12_person_5 : decode cX12_person 5 = .ok (.ifCond .ne 6, 3) := by decide +kernel
theorem dX12_person_8 : decode cX12_person 8 = .ok (.bipush (-2), 2) := by decide +kernel
theorem dX12_person_10 : decode cX12_person 10 = .ok (.ireturn, 1) := by decide +kernel
theorem dX12_person_11 : decode cX12_person 11 = .ok (.iload_n 2, 1) := by decide +kernel
theorem dX12_person_12 : decode cX12_person 12 = .ok (.tableswitch 102 0 6 #[44, 51, 57, 64, 71, 78, 90], 44) := by decide +kernel
theorem dX12_person_56 : decode cX12_person 56 = .ok (.aload_n 0, 1) := by decide +kernel
theorem dX12_person_57 : decode cX12_person 57 = .ok (.iload_n 1, 1) := by decide +kernel
theorem dX12_person_58 : decode cX12_person 58 = .ok (.iconst 0, 1) := by decide +kernel
theorem dX12_person_59 : decode cX12_person 59 = .ok (.invokevirtual 290, 3) := by decide +kernel
theorem dX12_person_62 : decode cX12_person 62 = .ok (.ireturn, 1) := by decide +kernel
theorem dX12_person_63 : decode cX12_person 63 = .ok (.aload_n 0, 1) := by decide +kernel
theorem dX12_person_64 : decode cX12_person 64 = .ok (.iload_n 1, 1) := by decide +kernel
theorem dX12_person_65 : decode cX12_person 65 = .ok (.invokevirtual 303, 3) := by decide +kernel
theorem dX12_person_68 : decode cX12_person 68 = .ok (.ireturn, 1) := by decide +kernel
theorem dX12_person_69 : decode cX12_person 69 = .ok (.aload_n 0, 1) := by decide +kernel
theorem dX12_person_70 : decode cX12_person 70 = .ok (.iload_n 1, 1) := by decide +kernel
theorem dX12_person_71 : decode cX12_person 71 = .ok (.iconst 1, 1) := by decide +kernel
theorem dX12_person_72 : decode cX12_person 72 = .ok (.invokevirtual 290, 3) := by decide +kernel
theorem dX12_person_75 : decode cX12_person 75 = .ok (.ireturn, 1) := by decide +kernel
theorem dX12_person_76 : decode cX12_person 76 = .ok (.aload_n 0, 1) := by decide +kernel
theorem dX12_person_77 : decode cX12_person 77 = .ok (.iload_n 1, 1) := by decide +kernel
theorem dX12_person_78 : decode cX12_person 78 = .ok (.iconst 2, 1) := by decide +kernel
theorem dX12_person_79 : decode cX12_person 79 = .ok (.invokevirtual 290, 3) := by decide +kernel
theorem dX12_person_82 : decode cX12_person 82 = .ok (.ireturn, 1) := by decide +kernel
theorem dX12_person_83 : decode cX12_person 83 = .ok (.aload_n 0, 1) := by decide +kernel
theorem dX12_person_84 : decode cX12_person 84 = .ok (.iload_n 1, 1) := by decide +kernel
theorem dX12_person_85 : decode cX12_person 85 = .ok (.iconst 3, 1) := by decide +kernel
theorem dX12_person_86 : decode cX12_person 86 = .ok (.invokevirtual 290, 3) := by decide +kernel
theorem dX12_person_89 : decode cX12_person 89 = .ok (.ireturn, 1) := by decide +kernel
theorem dX12_person_90 : decode cX12_person 90 = .ok (.aload_n 0, 1) := by decide +kernel
theorem dX12_person_91 : decode cX12_person 91 = .ok (.aload_n 0, 1) := by decide +kernel
theorem dX12_person_92 : decode cX12_person 92 = .ok (.iload_n 1, 1) := by decide +kernel
theorem dX12_person_93 : decode cX12_person 93 = .ok (.iconst 0, 1) := by decide +kernel
theorem dX12_person_94 : decode cX12_person 94 = .ok (.invokevirtual 290, 3) := by decide +kernel
theorem dX12_person_97 : decode cX12_person 97 = .ok (.iconst 1, 1) := by decide +kernel
theorem dX12_person_98 : decode cX12_person 98 = .ok (.invokevirtual 312, 3) := by decide +kernel
theorem dX12_person_101 : decode cX12_person 101 = .ok (.ireturn, 1) := by decide +kernel
theorem dX12_person_102 : decode cX12_person 102 = .ok (.aload_n 0, 1) := by decide +kernel
theorem dX12_person_103 : decode cX12_person 103 = .ok (.aload_n 0, 1) := by decide +kernel
theorem dX12_person_104 : decode cX12_person 104 = .ok (.iload_n 1, 1) := by decide +kernel
theorem dX12_person_105 : decode cX12_person 105 = .ok (.iconst 0, 1) := by decide +kernel
theorem dX12_person_106 : decode cX12_person 106 = .ok (.invokevirtual 290, 3) := by decide +kernel
theorem dX12_person_109 : decode cX12_person 109 = .ok (.iconst (-1), 1) := by decide +kernel
theorem dX12_person_110 : decode cX12_person 110 = .ok (.invokevirtual 312, 3) := by decide +kernel
theorem dX12_person_113 : decode cX12_person 113 = .ok (.ireturn, 1) := by decide +kernel
theorem dX12_person_114 : decode cX12_person 114 = .ok (.bipush (-2), 2) := by decide +kernel
theorem dX12_person_116 : decode cX12_person 116 = .ok (.ireturn, 1) := by decide +kernel
theorem dX12_rung_0 : decode cX12_rung 0 = .ok (.aload_n 0, 1) := by decide +kernel
theorem dX12_rung_1 : decode cX12_rung 1 = .ok (.iload_n 1, 1) := by decide +kernel
theorem dX12_rung_2 : decode cX12_rung 2 = .ok (.invokevirtual 294, 3) := by decide +kernel
theorem dX12_rung_5 : decode cX12_rung 5 = .ok (.ifCond .eq 15, 3) := by decide +kernel
theorem dX12_rung_8 : decode cX12_rung 8 = .ok (.iload_n 2, 1) := by decide +kernel
theorem dX12_rung_9 : decode cX12_rung 9 = .ok (.i2l, 1) := by decide +kernel
theorem dX12_rung_10 : decode cX12_rung 10 = .ok (.lconst 0, 1) := by decide +kernel
theorem dX12_rung_11 : decode cX12_rung 11 = .ok (.ldc2_w 315, 3) := by decide +kernel
theorem dX12_rung_14 : decode cX12_rung 14 = .ok (.invokestatic 124, 3) := by decide +kernel
theorem dX12_rung_17 : decode cX12_rung 17 = .ok (.ifCond .ne 5, 3) := by decide +kernel
theorem dX12_rung_20 : decode cX12_rung 20 = .ok (.iconst (-1), 1) := by decide +kernel
theorem dX12_rung_21 : decode cX12_rung 21 = .ok (.ireturn, 1) := by decide +kernel
theorem dX12_rung_22 : decode cX12_rung 22 = .ok (.iload_n 2, 1) := by decide +kernel
theorem dX12_rung_23 : decode cX12_rung 23 = .ok (.iconst 4, 1) := by decide +kernel
theorem dX12_rung_24 : decode cX12_rung 24 = .ok (.if_icmp .ge 12, 3) := by decide +kernel
theorem dX12_rung_27 : decode cX12_rung 27 = .ok (.aload_n 0, 1) := by decide +kernel
theorem dX12_rung_28 : decode cX12_rung 28 = .ok (.iload_n 1, 1) := by decide +kernel
theorem dX12_rung_29 : decode cX12_rung 29 = .ok (.iload_n 2, 1) := by decide +kernel
theorem dX12_rung_30 : decode cX12_rung 30 = .ok (.invokevirtual 297, 3) := by decide +kernel
theorem dX12_rung_33 : decode cX12_rung 33 = .ok (.goto 21, 3) := by decide +kernel
theorem dX12_rung_36 : decode cX12_rung 36 = .ok (.iload_n 2, 1) := by decide +kernel
theorem dX12_rung_37 : decode cX12_rung 37 = .ok (.iconst 4, 1) := by decide +kernel
theorem dX12_rung_38 : decode cX12_rung 38 = .ok (.if_icmp .ne 11, 3) := by decide +kernel
theorem dX12_rung_41 : decode cX12_rung 41 = .ok (.aload_n 0, 1) := by decide +kernel
theorem dX12_rung_42 : decode cX12_rung 42 = .ok (.iload_n 1, 1) := by decide +kernel
theorem dX12_rung_43 : decode cX12_rung 43 = .ok (.invokevirtual 317, 3) := by decide +kernel
theorem dX12_rung_46 : decode cX12_rung 46 = .ok (.goto 8, 3) := by decide +kernel
theorem dX12_rung_49 : decode cX12_rung 49 = .ok (.aload_n 0, 1) := by decide +kernel
theorem dX12_rung_50 : decode cX12_rung 50 = .ok (.iload_n 1, 1) := by decide +kernel
theorem dX12_rung_51 : decode cX12_rung 51 = .ok (.invokevirtual 320, 3) := by decide +kernel
theorem dX12_rung_54 : decode cX12_rung 54 = .ok (.ireturn, 1) := by decide +kernel
theorem dX12_summedBy_0 : decode cX12_summedBy 0 = .ok (.iconst 0, 1) := by decide +kernel
theorem dX12_summedBy_1 : decode cX12_summedBy 1 = .ok (.istore_n 2, 1) := by decide +kernel
theorem dX12_summedBy_2 : decode cX12_summedBy 2 = .ok (.iload_n 2, 1) := by decide +kernel
theorem dX12_summedBy_3 : decode cX12_summedBy 3 = .ok (.aload_n 0, 1) := by decide +kernel
theorem dX12_summedBy_4 : decode cX12_summedBy 4 = .ok (.getfield 23, 3) := by decide +kernel
theorem dX12_summedBy_7 : decode cX12_summedBy 7 = .ok (.iload_n 1, 1) := by decide +kernel
theorem dX12_summedBy_8 : decode cX12_summedBy 8 = .ok (.iaload, 1) := by decide +kernel
theorem dX12_summedBy_9 : decode cX12_summedBy 9 = .ok (.if_icmp .ge 75, 3) := by decide +kernel
theorem dX12_summedBy_12 : decode cX12_summedBy 12 = .ok (.bipush 48, 2) := by decide +kernel
theorem dX12_summedBy_14 : decode cX12_summedBy 14 = .ok (.iload_n 1, 1) := by decide +kernel
theorem dX12_summedBy_15 : decode cX12_summedBy 15 = .ok (.imul, 1) := by decide +kernel
theorem dX12_summedBy_16 : decode cX12_summedBy 16 = .ok (.iconst 4, 1) := by decide +kernel
theorem dX12_summedBy_17 : decode cX12_summedBy 17 = .ok (.iload_n 2, 1) := by decide +kernel
theorem dX12_summedBy_18 : decode cX12_summedBy 18 = .ok (.imul, 1) := by decide +kernel
theorem dX12_summedBy_19 : decode cX12_summedBy 19 = .ok (.iadd, 1) := by decide +kernel
theorem dX12_summedBy_20 : decode cX12_summedBy 20 = .ok (.istore_n 3, 1) := by decide +kernel
theorem dX12_summedBy_21 : decode cX12_summedBy 21 = .ok (.aload_n 0, 1) := by decide +kernel
theorem dX12_summedBy_22 : decode cX12_summedBy 22 = .ok (.getfield 20, 3) := by decide +kernel
theorem dX12_summedBy_25 : decode cX12_summedBy 25 = .ok (.iload_n 3, 1) := by decide +kernel
theorem dX12_summedBy_26 : decode cX12_summedBy 26 = .ok (.iconst 2, 1) := by decide +kernel
theorem dX12_summedBy_27 : decode cX12_summedBy 27 = .ok (.iadd, 1) := by decide +kernel
theorem dX12_summedBy_28 : decode cX12_summedBy 28 = .ok (.iaload, 1) := by decide +kernel
theorem dX12_summedBy_29 : decode cX12_summedBy 29 = .ok (.ifCond .lt 29, 3) := by decide +kernel
theorem dX12_summedBy_32 : decode cX12_summedBy 32 = .ok (.aload_n 0, 1) := by decide +kernel
theorem dX12_summedBy_33 : decode cX12_summedBy 33 = .ok (.iload_n 1, 1) := by decide +kernel
theorem dX12_summedBy_34 : decode cX12_summedBy 34 = .ok (.aload_n 0, 1) := by decide +kernel
theorem dX12_summedBy_35 : decode cX12_summedBy 35 = .ok (.getfield 20, 3) := by decide +kernel
theorem dX12_summedBy_38 : decode cX12_summedBy 38 = .ok (.iload_n 3, 1) := by decide +kernel
theorem dX12_summedBy_39 : decode cX12_summedBy 39 = .ok (.iconst 2, 1) := by decide +kernel
theorem dX12_summedBy_40 : decode cX12_summedBy 40 = .ok (.iadd, 1) := by decide +kernel
theorem dX12_summedBy_41 : decode cX12_summedBy 41 = .ok (.iaload, 1) := by decide +kernel
theorem dX12_summedBy_42 : decode cX12_summedBy 42 = .ok (.aload_n 0, 1) := by decide +kernel
theorem dX12_summedBy_43 : decode cX12_summedBy 43 = .ok (.getfield 20, 3) := by decide +kernel
theorem dX12_summedBy_46 : decode cX12_summedBy 46 = .ok (.iload_n 3, 1) := by decide +kernel
theorem dX12_summedBy_47 : decode cX12_summedBy 47 = .ok (.iconst 3, 1) := by decide +kernel
theorem dX12_summedBy_48 : decode cX12_summedBy 48 = .ok (.iadd, 1) := by decide +kernel
theorem dX12_summedBy_49 : decode cX12_summedBy 49 = .ok (.iaload, 1) := by decide +kernel
theorem dX12_summedBy_50 : decode cX12_summedBy 50 = .ok (.invokevirtual 323, 3) := by decide +kernel
theorem dX12_summedBy_53 : decode cX12_summedBy 53 = .ok (.lconst 1, 1) := by decide +kernel
theorem dX12_summedBy_54 : decode cX12_summedBy 54 = .ok (.lcmp, 1) := by decide +kernel
theorem dX12_summedBy_55 : decode cX12_summedBy 55 = .ok (.ifCond .ne 23, 3) := by decide +kernel
theorem dX12_summedBy_58 : decode cX12_summedBy 58 = .ok (.aload_n 0, 1) := by decide +kernel
theorem dX12_summedBy_59 : decode cX12_summedBy 59 = .ok (.iload_n 1, 1) := by decide +kernel
theorem dX12_summedBy_60 : decode cX12_summedBy 60 = .ok (.aload_n 0, 1) := by decide +kernel
theorem dX12_summedBy_61 : decode cX12_summedBy 61 = .ok (.getfield 20, 3) := by decide +kernel
theorem dX12_summedBy_64 : decode cX12_summedBy 64 = .ok (.iload_n 3, 1) := by decide +kernel
theorem dX12_summedBy_65 : decode cX12_summedBy 65 = .ok (.iaload, 1) := by decide +kernel
theorem dX12_summedBy_66 : decode cX12_summedBy 66 = .ok (.aload_n 0, 1) := by decide +kernel
theorem dX12_summedBy_67 : decode cX12_summedBy 67 = .ok (.getfield 20, 3) := by decide +kernel
theorem dX12_summedBy_70 : decode cX12_summedBy 70 = .ok (.iload_n 3, 1) := by decide +kernel
theorem dX12_summedBy_71 : decode cX12_summedBy 71 = .ok (.iconst 1, 1) := by decide +kernel
theorem dX12_summedBy_72 : decode cX12_summedBy 72 = .ok (.iadd, 1) := by decide +kernel
theorem dX12_summedBy_73 : decode cX12_summedBy 73 = .ok (.iaload, 1) := by decide +kernel
theorem dX12_summedBy_74 : decode cX12_summedBy 74 = .ok (.invokevirtual 323, 3) := by decide +kernel
theorem dX12_summedBy_77 : decode cX12_summedBy 77 = .ok (.lreturn, 1) := by decide +kernel
theorem dX12_summedBy_78 : decode cX12_summedBy 78 = .ok (.iinc 2 1, 3) := by decide +kernel
theorem dX12_summedBy_81 : decode cX12_summedBy 81 = .ok (.goto (-79), 3) := by decide +kernel
theorem dX12_summedBy_84 : decode cX12_summedBy 84 = .ok (.lconst 0, 1) := by decide +kernel
theorem dX12_summedBy_85 : decode cX12_summedBy 85 = .ok (.lreturn, 1) := by decide +kernel
theorem dX12_words_0 : decode cX12_words 0 = .ok (.aload_n 0, 1) := by decide +kernel
theorem dX12_words_1 : decode cX12_words 1 = .ok (.iload_n 1, 1) := by decide +kernel
theorem dX12_words_2 : decode cX12_words 2 = .ok (.iconst 0, 1) := by decide +kernel
theorem dX12_words_3 : decode cX12_words 3 = .ok (.invokevirtual 290, 3) := by decide +kernel
theorem dX12_words_6 : decode cX12_words 6 = .ok (.istore_n 2, 1) := by decide +kernel
theorem dX12_words_7 : decode cX12_words 7 = .ok (.aload_n 0, 1) := by decide +kernel
theorem dX12_words_8 : decode cX12_words 8 = .ok (.iload_n 2, 1) := by decide +kernel
theorem dX12_words_9 : decode cX12_words 9 = .ok (.iconst 1, 1) := by decide +kernel
theorem dX12_words_10 : decode cX12_words 10 = .ok (.invokevirtual 312, 3) := by decide +kernel
theorem dX12_words_13 : decode cX12_words 13 = .ok (.istore_n 3, 1) := by decide +kernel
theorem dX12_words_14 : decode cX12_words 14 = .ok (.aload_n 0, 1) := by decide +kernel
theorem dX12_words_15 : decode cX12_words 15 = .ok (.iload_n 2, 1) := by decide +kernel
theorem dX12_words_16 : decode cX12_words 16 = .ok (.iconst (-1), 1) := by decide +kernel
theorem dX12_words_17 : decode cX12_words 17 = .ok (.invokevirtual 312, 3) := by decide +kernel
theorem dX12_words_20 : decode cX12_words 20 = .ok (.istore 4, 2) := by decide +kernel
theorem dX12_words_22 : decode cX12_words 22 = .ok (.aload_n 0, 1) := by decide +kernel
theorem dX12_words_23 : decode cX12_words 23 = .ok (.getfield 36, 3) := by decide +kernel
theorem dX12_words_26 : decode cX12_words 26 = .ok (.iconst 0, 1) := by decide +kernel
theorem dX12_words_27 : decode cX12_words 27 = .ok (.iload_n 1, 1) := by decide +kernel
theorem dX12_words_28 : decode cX12_words 28 = .ok (.i2l, 1) := by decide +kernel
theorem dX12_words_29 : decode cX12_words 29 = .ok (.lastore, 1) := by decide +kernel
theorem dX12_words_30 : decode cX12_words 30 = .ok (.aload_n 0, 1) := by decide +kernel
theorem dX12_words_31 : decode cX12_words 31 = .ok (.getfield 36, 3) := by decide +kernel
theorem dX12_words_34 : decode cX12_words 34 = .ok (.iconst 1, 1) := by decide +kernel
theorem dX12_words_35 : decode cX12_words 35 = .ok (.iload_n 2, 1) := by decide +kernel
theorem dX12_words_36 : decode cX12_words 36 = .ok (.i2l, 1) := by decide +kernel
theorem dX12_words_37 : decode cX12_words 37 = .ok (.lastore, 1) := by decide +kernel
theorem dX12_words_38 : decode cX12_words 38 = .ok (.aload_n 0, 1) := by decide +kernel
theorem dX12_words_39 : decode cX12_words 39 = .ok (.getfield 36, 3) := by decide +kernel
theorem dX12_words_42 : decode cX12_words 42 = .ok (.iconst 2, 1) := by decide +kernel
theorem dX12_words_43 : decode cX12_words 43 = .ok (.aload_n 0, 1) := by decide +kernel
theorem dX12_words_44 : decode cX12_words 44 = .ok (.iload_n 1, 1) := by decide +kernel
theorem dX12_words_45 : decode cX12_words 45 = .ok (.iconst 2, 1) := by decide +kernel
theorem dX12_words_46 : decode cX12_words 46 = .ok (.invokevirtual 290, 3) := by decide +kernel
theorem dX12_words_49 : decode cX12_words 49 = .ok (.i2l, 1) := by decide +kernel
theorem dX12_words_50 : decode cX12_words 50 = .ok (.lastore, 1) := by decide +kernel
theorem dX12_words_51 : decode cX12_words 51 = .ok (.aload_n 0, 1) := by decide +kernel
theorem dX12_words_52 : decode cX12_words 52 = .ok (.getfield 36, 3) := by decide +kernel
theorem dX12_words_55 : decode cX12_words 55 = .ok (.iconst 3, 1) := by decide +kernel
theorem dX12_words_56 : decode cX12_words 56 = .ok (.aload_n 0, 1) := by decide +kernel
theorem dX12_words_57 : decode cX12_words 57 = .ok (.iload_n 1, 1) := by decide +kernel
theorem dX12_words_58 : decode cX12_words 58 = .ok (.invokevirtual 303, 3) := by decide +kernel
theorem dX12_words_61 : decode cX12_words 61 = .ok (.i2l, 1) := by decide +kernel
theorem dX12_words_62 : decode cX12_words 62 = .ok (.lastore, 1) := by decide +kernel
theorem dX12_words_63 : decode cX12_words 63 = .ok (.aload_n 0, 1) := by decide +kernel
theorem dX12_words_64 : decode cX12_words 64 = .ok (.getfield 36, 3) := by decide +kernel
theorem dX12_words_67 : decode cX12_words 67 = .ok (.iconst 4, 1) := by decide +kernel
theorem dX12_words_68 : decode cX12_words 68 = .ok (.aload_n 0, 1) := by decide +kernel
theorem dX12_words_69 : decode cX12_words 69 = .ok (.iload_n 1, 1) := by decide +kernel
theorem dX12_words_70 : decode cX12_words 70 = .ok (.iconst 1, 1) := by decide +kernel
theorem dX12_words_71 : decode cX12_words 71 = .ok (.invokevirtual 290, 3) := by decide +kernel
theorem dX12_words_74 : decode cX12_words 74 = .ok (.i2l, 1) := by decide +kernel
theorem dX12_words_75 : decode cX12_words 75 = .ok (.lastore, 1) := by decide +kernel
theorem dX12_words_76 : decode cX12_words 76 = .ok (.aload_n 0, 1) := by decide +kernel
theorem dX12_words_77 : decode cX12_words 77 = .ok (.getfield 36, 3) := by decide +kernel
theorem dX12_words_80 : decode cX12_words 80 = .ok (.iconst 5, 1) := by decide +kernel
theorem dX12_words_81 : decode cX12_words 81 = .ok (.aload_n 0, 1) := by decide +kernel
theorem dX12_words_82 : decode cX12_words 82 = .ok (.iload_n 1, 1) := by decide +kernel
theorem dX12_words_83 : decode cX12_words 83 = .ok (.invokevirtual 327, 3) := by decide +kernel
theorem dX12_words_86 : decode cX12_words 86 = .ok (.i2l, 1) := by decide +kernel
theorem dX12_words_87 : decode cX12_words 87 = .ok (.lastore, 1) := by decide +kernel
theorem dX12_words_88 : decode cX12_words 88 = .ok (.aload_n 0, 1) := by decide +kernel
theorem dX12_words_89 : decode cX12_words 89 = .ok (.getfield 36, 3) := by decide +kernel
theorem dX12_words_92 : decode cX12_words 92 = .ok (.bipush 6, 2) := by decide +kernel
theorem dX12_words_94 : decode cX12_words 94 = .ok (.aload_n 0, 1) := by decide +kernel
theorem dX12_words_95 : decode cX12_words 95 = .ok (.getfield 39, 3) := by decide +kernel
theorem dX12_words_98 : decode cX12_words 98 = .ok (.iconst 2, 1) := by decide +kernel
theorem dX12_words_99 : decode cX12_words 99 = .ok (.iaload, 1) := by decide +kernel
theorem dX12_words_100 : decode cX12_words 100 = .ok (.i2l, 1) := by decide +kernel
theorem dX12_words_101 : decode cX12_words 101 = .ok (.lastore, 1) := by decide +kernel
theorem dX12_words_102 : decode cX12_words 102 = .ok (.aload_n 0, 1) := by decide +kernel
theorem dX12_words_103 : decode cX12_words 103 = .ok (.getfield 36, 3) := by decide +kernel
theorem dX12_words_106 : decode cX12_words 106 = .ok (.bipush 7, 2) := by decide +kernel
theorem dX12_words_108 : decode cX12_words 108 = .ok (.aload_n 0, 1) := by decide +kernel
theorem dX12_words_109 : decode cX12_words 109 = .ok (.iload_n 2, 1) := by decide +kernel
theorem dX12_words_110 : decode cX12_words 110 = .ok (.invokevirtual 330, 3) := by decide +kernel
theorem dX12_words_113 : decode cX12_words 113 = .ok (.iconst 1, 1) := by decide +kernel
theorem dX12_words_114 : decode cX12_words 114 = .ok (.isub, 1) := by decide +kernel
theorem dX12_words_115 : decode cX12_words 115 = .ok (.i2l, 1) := by decide +kernel
theorem dX12_words_116 : decode cX12_words 116 = .ok (.lastore, 1) := by decide +kernel
theorem dX12_words_117 : decode cX12_words 117 = .ok (.aload_n 0, 1) := by decide +kernel
theorem dX12_words_118 : decode cX12_words 118 = .ok (.getfield 36, 3) := by decide +kernel
theorem dX12_words_121 : decode cX12_words 121 = .ok (.bipush 8, 2) := by decide +kernel
theorem dX12_words_123 : decode cX12_words 123 = .ok (.iload_n 3, 1) := by decide +kernel
theorem dX12_words_124 : decode cX12_words 124 = .ok (.ifCond .ge 9, 3) := by decide +kernel
theorem dX12_words_127 : decode cX12_words 127 = .ok (.ldc2_w 333, 3) := by decide +kernel
theorem dX12_words_130 : decode cX12_words 130 = .ok (.goto 9, 3) := by decide +kernel
theorem dX12_words_133 : decode cX12_words 133 = .ok (.aload_n 0, 1) := by decide +kernel
theorem dX12_words_134 : decode cX12_words 134 = .ok (.iload_n 3, 1) := by decide +kernel
theorem dX12_words_135 : decode cX12_words 135 = .ok (.invokevirtual 330, 3) := by decide +kernel
theorem dX12_words_138 : decode cX12_words 138 = .ok (.i2l, 1) := by decide +kernel
theorem dX12_words_139 : decode cX12_words 139 = .ok (.lastore, 1) := by decide +kernel
theorem dX12_words_140 : decode cX12_words 140 = .ok (.aload_n 0, 1) := by decide +kernel
theorem dX12_words_141 : decode cX12_words 141 = .ok (.getfield 36, 3) := by decide +kernel
theorem dX12_words_144 : decode cX12_words 144 = .ok (.bipush 9, 2) := by decide +kernel
theorem dX12_words_146 : decode cX12_words 146 = .ok (.iload 4, 2) := by decide +kernel
theorem dX12_words_148 : decode cX12_words 148 = .ok (.ifCond .ge 9, 3) := by decide +kernel
theorem dX12_words_151 : decode cX12_words 151 = .ok (.ldc2_w 333, 3) := by decide +kernel
theorem dX12_words_154 : decode cX12_words 154 = .ok (.goto 10, 3) := by decide +kernel
theorem dX12_words_157 : decode cX12_words 157 = .ok (.aload_n 0, 1) := by decide +kernel
theorem dX12_words_158 : decode cX12_words 158 = .ok (.iload 4, 2) := by decide +kernel
theorem dX12_words_160 : decode cX12_words 160 = .ok (.invokevirtual 330, 3) := by decide +kernel
theorem dX12_words_163 : decode cX12_words 163 = .ok (.i2l, 1) := by decide +kernel
theorem dX12_words_164 : decode cX12_words 164 = .ok (.lastore, 1) := by decide +kernel
theorem dX12_words_165 : decode cX12_words 165 = .ok (.aload_n 0, 1) := by decide +kernel
theorem dX12_words_166 : decode cX12_words 166 = .ok (.getfield 36, 3) := by decide +kernel
theorem dX12_words_169 : decode cX12_words 169 = .ok (.bipush 10, 2) := by decide +kernel
theorem dX12_words_171 : decode cX12_words 171 = .ok (.aload_n 0, 1) := by decide +kernel
theorem dX12_words_172 : decode cX12_words 172 = .ok (.iload_n 2, 1) := by decide +kernel
theorem dX12_words_173 : decode cX12_words 173 = .ok (.iconst 2, 1) := by decide +kernel
theorem dX12_words_174 : decode cX12_words 174 = .ok (.invokevirtual 297, 3) := by decide +kernel
theorem dX12_words_177 : decode cX12_words 177 = .ok (.i2l, 1) := by decide +kernel
theorem dX12_words_178 : decode cX12_words 178 = .ok (.lastore, 1) := by decide +kernel
theorem dX12_words_179 : decode cX12_words 179 = .ok (.aload_n 0, 1) := by decide +kernel
theorem dX12_words_180 : decode cX12_words 180 = .ok (.getfield 36, 3) := by decide +kernel
theorem dX12_words_183 : decode cX12_words 183 = .ok (.bipush 11, 2) := by decide +kernel
theorem dX12_words_185 : decode cX12_words 185 = .ok (.aload_n 0, 1) := by decide +kernel
theorem dX12_words_186 : decode cX12_words 186 = .ok (.iload_n 2, 1) := by decide +kernel
theorem dX12_words_187 : decode cX12_words 187 = .ok (.iconst 1, 1) := by decide +kernel
theorem dX12_words_188 : decode cX12_words 188 = .ok (.invokevirtual 297, 3) := by decide +kernel
theorem dX12_words_191 : decode cX12_words 191 = .ok (.i2l, 1) := by decide +kernel
theorem dX12_words_192 : decode cX12_words 192 = .ok (.lastore, 1) := by decide +kernel
theorem dX12_words_193 : decode cX12_words 193 = .ok (.aload_n 0, 1) := by decide +kernel
theorem dX12_words_194 : decode cX12_words 194 = .ok (.getfield 36, 3) := by decide +kernel
theorem dX12_words_197 : decode cX12_words 197 = .ok (.bipush 12, 2) := by decide +kernel
theorem dX12_words_199 : decode cX12_words 199 = .ok (.aload_n 0, 1) := by decide +kernel
theorem dX12_words_200 : decode cX12_words 200 = .ok (.iload_n 1, 1) := by decide +kernel
theorem dX12_words_201 : decode cX12_words 201 = .ok (.iconst 3, 1) := by decide +kernel
theorem dX12_words_202 : decode cX12_words 202 = .ok (.invokevirtual 290, 3) := by decide +kernel
theorem dX12_words_205 : decode cX12_words 205 = .ok (.i2l, 1) := by decide +kernel
theorem dX12_words_206 : decode cX12_words 206 = .ok (.lastore, 1) := by decide +kernel
theorem dX12_words_207 : decode cX12_words 207 = .ok (.return_, 1) := by decide +kernel
theorem dX12_willOf_0 : decode cX12_willOf 0 = .ok (.aload_n 0, 1) := by decide +kernel
theorem dX12_willOf_1 : decode cX12_willOf 1 = .ok (.iload_n 1, 1) := by decide +kernel
theorem dX12_willOf_2 : decode cX12_willOf 2 = .ok (.invokevirtual 335, 3) := by decide +kernel
theorem dX12_willOf_5 : decode cX12_willOf 5 = .ok (.ifCond .ne 5, 3) := by decide +kernel
theorem dX12_willOf_8 : decode cX12_willOf 8 = .ok (.iconst 0, 1) := by decide +kernel
theorem dX12_willOf_9 : decode cX12_willOf 9 = .ok (.ireturn, 1) := by decide +kernel
theorem dX12_willOf_10 : decode cX12_willOf 10 = .ok (.aload_n 0, 1) := by decide +kernel
theorem dX12_willOf_11 : decode cX12_willOf 11 = .ok (.iload_n 1, 1) := by decide +kernel
theorem dX12_willOf_12 : decode cX12_willOf 12 = .ok (.iconst 2, 1) := by decide +kernel
theorem dX12_willOf_13 : decode cX12_willOf 13 = .ok (.invokevirtual 290, 3) := by decide +kernel
theorem dX12_willOf_16 : decode cX12_willOf 16 = .ok (.aload_n 0, 1) := by decide +kernel
theorem dX12_willOf_17 : decode cX12_willOf 17 = .ok (.iload_n 1, 1) := by decide +kernel
theorem dX12_willOf_18 : decode cX12_willOf 18 = .ok (.iconst 0, 1) := by decide +kernel
theorem dX12_willOf_19 : decode cX12_willOf 19 = .ok (.invokevirtual 290, 3) := by decide +kernel
theorem dX12_willOf_22 : decode cX12_willOf 22 = .ok (.isub, 1) := by decide +kernel
theorem dX12_willOf_23 : decode cX12_willOf 23 = .ok (.i2l, 1) := by decide +kernel
theorem dX12_willOf_24 : decode cX12_willOf 24 = .ok (.lstore_n 2, 1) := by decide +kernel
theorem dX12_willOf_25 : decode cX12_willOf 25 = .ok (.aload_n 0, 1) := by decide +kernel
theorem dX12_willOf_26 : decode cX12_willOf 26 = .ok (.getfield 42, 3) := by decide +kernel
theorem dX12_willOf_29 : decode cX12_willOf 29 = .ok (.ifCond .lt 17, 3) := by decide +kernel
theorem dX12_willOf_32 : decode cX12_willOf 32 = .ok (.aload_n 0, 1) := by decide +kernel
theorem dX12_willOf_33 : decode cX12_willOf 33 = .ok (.iload_n 1, 1) := by decide +kernel
theorem dX12_willOf_34 : decode cX12_willOf 34 = .ok (.invokevirtual 338, 3) := by decide +kernel
theorem dX12_willOf_37 : decode cX12_willOf 37 = .ok (.aload_n 0, 1) := by decide +kernel
theorem dX12_willOf_38 : decode cX12_willOf 38 = .ok (.aload_n 0, 1) := by decide +kernel
theorem dX12_willOf_39 : decode cX12_willOf 39 = .ok (.getfield 42, 3) := by decide +kernel
theorem dX12_willOf_42 : decode cX12_willOf 42 = .ok (.invokevirtual 341, 3) := by decide +kernel
theorem dX12_willOf_45 : decode cX12_willOf 45 = .ok (.lstore_n 2, 1) := by decide +kernel
theorem dX12_willOf_46 : decode cX12_willOf 46 = .ok (.lload_n 2, 1) := by decide +kernel
theorem dX12_willOf_47 : decode cX12_willOf 47 = .ok (.lconst 0, 1) := by decide +kernel
theorem dX12_willOf_48 : decode cX12_willOf 48 = .ok (.lcmp, 1) := by decide +kernel
theorem dX12_willOf_49 : decode cX12_willOf 49 = .ok (.ifCond .le 7, 3) := by decide +kernel
theorem dX12_willOf_52 : decode cX12_willOf 52 = .ok (.iconst 1, 1) := by decide +kernel
theorem dX12_willOf_53 : decode cX12_willOf 53 = .ok (.goto 14, 3) := by decide +kernel
theorem dX12_willOf_56 : decode cX12_willOf 56 = .ok (.lload_n 2, 1) := by decide +kernel
theorem dX12_willOf_57 : decode cX12_willOf 57 = .ok (.lconst 0, 1) := by decide +kernel
theorem dX12_willOf_58 : decode cX12_willOf 58 = .ok (.lcmp, 1) := by decide +kernel
theorem dX12_willOf_59 : decode cX12_willOf 59 = .ok (.ifCond .ge 7, 3) := by decide +kernel
theorem dX12_willOf_62 : decode cX12_willOf 62 = .ok (.iconst (-1), 1) := by decide +kernel
theorem dX12_willOf_63 : decode cX12_willOf 63 = .ok (.goto 4, 3) := by decide +kernel
theorem dX12_willOf_66 : decode cX12_willOf 66 = .ok (.iconst 0, 1) := by decide +kernel
theorem dX12_willOf_67 : decode cX12_willOf 67 = .ok (.ireturn, 1) := by decide +kernel
theorem dX12_passer_0 : decode cX12_passer 0 = .ok (.iconst 0, 1) := by decide +kernel
theorem dX12_passer_1 : decode cX12_passer 1 = .ok (.istore_n 3, 1) := by decide +kernel
theorem dX12_passer_2 : decode cX12_passer 2 = .ok (.iload_n 3, 1) := by decide +kernel
theorem dX12_passer_3 : decode cX12_passer 3 = .ok (.aload_n 0, 1) := by decide +kernel
theorem dX12_passer_4 : decode cX12_passer 4 = .ok (.getfield 39, 3) := by decide +kernel
theorem dX12_passer_7 : decode cX12_passer 7 = .ok (.iconst 1, 1) := by decide +kernel
theorem dX12_passer_8 : decode cX12_passer 8 = .ok (.iaload, 1) := by decide +kernel
theorem dX12_passer_9 : decode cX12_passer 9 = .ok (.if_icmp .ge 54, 3) := by decide +kernel
theorem dX12_passer_12 : decode cX12_passer 12 = .ok (.aload_n 0, 1) := by decide +kernel
theorem dX12_passer_13 : decode cX12_passer 13 = .ok (.iload_n 3, 1) := by decide +kernel
theorem dX12_passer_14 : decode cX12_passer 14 = .ok (.iconst 0, 1) := by decide +kernel
theorem dX12_passer_15 : decode cX12_passer 15 = .ok (.invokevirtual 290, 3) := by decide +kernel
theorem dX12_passer_18 : decode cX12_passer 18 = .ok (.iload_n 1, 1) := by decide +kernel
theorem dX12_passer_19 : decode cX12_passer 19 = .ok (.if_icmp .ne 38, 3) := by decide +kernel
theorem dX12_passer_22 : decode cX12_passer 22 = .ok (.aload_n 0, 1) := by decide +kernel
theorem dX12_passer_23 : decode cX12_passer 23 = .ok (.getfield 49, 3) := by decide +kernel
theorem dX12_passer_26 : decode cX12_passer 26 = .ok (.iload_n 3, 1) := by decide +kernel
theorem dX12_passer_27 : decode cX12_passer 27 = .ok (.iaload, 1) := by decide +kernel
theorem dX12_passer_28 : decode cX12_passer 28 = .ok (.ifCond .ne 29, 3) := by decide +kernel
theorem dX12_passer_31 : decode cX12_passer 31 = .ok (.aload_n 0, 1) := by decide +kernel
theorem dX12_passer_32 : decode cX12_passer 32 = .ok (.getfield 46, 3) := by decide +kernel
theorem dX12_passer_35 : decode cX12_passer 35 = .ok (.iload_n 3, 1) := by decide +kernel
theorem dX12_passer_36 : decode cX12_passer 36 = .ok (.iaload, 1) := by decide +kernel
theorem dX12_passer_37 : decode cX12_passer 37 = .ok (.ifCond .eq 20, 3) := by decide +kernel
theorem dX12_passer_40 : decode cX12_passer 40 = .ok (.aload_n 0, 1) := by decide +kernel
theorem dX12_passer_41 : decode cX12_passer 41 = .ok (.iload_n 1, 1) := by decide +kernel
theorem dX12_passer_42 : decode cX12_passer 42 = .ok (.aload_n 0, 1) := by decide +kernel
theorem dX12_passer_43 : decode cX12_passer 43 = .ok (.getfield 46, 3) := by decide +kernel
theorem dX12_passer_46 : decode cX12_passer 46 = .ok (.iload_n 3, 1) := by decide +kernel
theorem dX12_passer_47 : decode cX12_passer 47 = .ok (.iaload, 1) := by decide +kernel
theorem dX12_passer_48 : decode cX12_passer 48 = .ok (.invokevirtual 312, 3) := by decide +kernel
theorem dX12_passer_51 : decode cX12_passer 51 = .ok (.iload_n 2, 1) := by decide +kernel
theorem dX12_passer_52 : decode cX12_passer 52 = .ok (.if_icmp .ne 5, 3) := by decide +kernel
theorem dX12_passer_55 : decode cX12_passer 55 = .ok (.iload_n 3, 1) := by decide +kernel
theorem dX12_passer_56 : decode cX12_passer 56 = .ok (.ireturn, 1) := by decide +kernel
theorem dX12_passer_57 : decode cX12_passer 57 = .ok (.iinc 3 1, 3) := by decide +kernel
theorem dX12_passer_60 : decode cX12_passer 60 = .ok (.goto (-58), 3) := by decide +kernel
theorem dX12_passer_63 : decode cX12_passer 63 = .ok (.iconst (-1), 1) := by decide +kernel
theorem dX12_passer_64 : decode cX12_passer 64 = .ok (.ireturn, 1) := by decide +kernel
theorem dX12_goesBy_0 : decode cX12_goesBy 0 = .ok (.aload_n 0, 1) := by decide +kernel
theorem dX12_goesBy_1 : decode cX12_goesBy 1 = .ok (.iload_n 1, 1) := by decide +kernel
theorem dX12_goesBy_2 : decode cX12_goesBy 2 = .ok (.iconst 0, 1) := by decide +kernel
theorem dX12_goesBy_3 : decode cX12_goesBy 3 = .ok (.invokevirtual 290, 3) := by decide +kernel
theorem dX12_goesBy_6 : decode cX12_goesBy 6 = .ok (.istore_n 2, 1) := by decide +kernel
theorem dX12_goesBy_7 : decode cX12_goesBy 7 = .ok (.iload_n 2, 1) := by decide +kernel
theorem dX12_goesBy_8 : decode cX12_goesBy 8 = .ok (.ifCond .lt 21, 3) := by decide +kernel
theorem dX12_goesBy_11 : decode cX12_goesBy 11 = .ok (.aload_n 0, 1) := by decide +kernel
theorem dX12_goesBy_12 : decode cX12_goesBy 12 = .ok (.getfield 46, 3) := by decide +kernel
theorem dX12_goesBy_15 : decode cX12_goesBy 15 = .ok (.iload_n 1, 1) := by decide +kernel
theorem dX12_goesBy_16 : decode cX12_goesBy 16 = .ok (.iaload, 1) := by decide +kernel
theorem dX12_goesBy_17 : decode cX12_goesBy 17 = .ok (.ifCond .eq 12, 3) := by decide +kernel
theorem dX12_goesBy_20 : decode cX12_goesBy 20 = .ok (.aload_n 0, 1) := by decide +kernel
theorem dX12_goesBy_21 : decode cX12_goesBy 21 = .ok (.getfield 49, 3) := by decide +kernel
theorem dX12_goesBy_24 : decode cX12_goesBy 24 = .ok (.iload_n 1, 1) := by decide +kernel
theorem dX12_goesBy_25 : decode cX12_goesBy 25 = .ok (.iaload, 1) := by decide +kernel
theorem dX12_goesBy_26 : decode cX12_goesBy 26 = .ok (.ifCond .eq 4, 3) := by decide +kernel
theorem dX12_goesBy_29 : decode cX12_goesBy 29 = .ok (.return_, 1) := by decide +kernel
theorem dX12_goesBy_30 : decode cX12_goesBy 30 = .ok (.aload_n 0, 1) := by decide +kernel
theorem dX12_goesBy_31 : decode cX12_goesBy 31 = .ok (.iload_n 2, 1) := by decide +kernel
theorem dX12_goesBy_32 : decode cX12_goesBy 32 = .ok (.aload_n 0, 1) := by decide +kernel
theorem dX12_goesBy_33 : decode cX12_goesBy 33 = .ok (.getfield 46, 3) := by decide +kernel
theorem dX12_goesBy_36 : decode cX12_goesBy 36 = .ok (.iload_n 1, 1) := by decide +kernel
theorem dX12_goesBy_37 : decode cX12_goesBy 37 = .ok (.iaload, 1) := by decide +kernel
theorem dX12_goesBy_38 : decode cX12_goesBy 38 = .ok (.invokevirtual 312, 3) := by decide +kernel
theorem dX12_goesBy_41 : decode cX12_goesBy 41 = .ok (.istore_n 3, 1) := by decide +kernel
theorem dX12_goesBy_42 : decode cX12_goesBy 42 = .ok (.iload_n 3, 1) := by decide +kernel
theorem dX12_goesBy_43 : decode cX12_goesBy 43 = .ok (.ifCond .ge 4, 3) := by decide +kernel
theorem dX12_goesBy_46 : decode cX12_goesBy 46 = .ok (.return_, 1) := by decide +kernel
theorem dX12_goesBy_47 : decode cX12_goesBy 47 = .ok (.aload_n 0, 1) := by decide +kernel
theorem dX12_goesBy_48 : decode cX12_goesBy 48 = .ok (.iload_n 3, 1) := by decide +kernel
theorem dX12_goesBy_49 : decode cX12_goesBy 49 = .ok (.invokevirtual 330, 3) := by decide +kernel
theorem dX12_goesBy_52 : decode cX12_goesBy 52 = .ok (.aload_n 0, 1) := by decide +kernel
theorem dX12_goesBy_53 : decode cX12_goesBy 53 = .ok (.iload_n 3, 1) := by decide +kernel
theorem dX12_goesBy_54 : decode cX12_goesBy 54 = .ok (.iconst 0, 1) := by decide +kernel
theorem dX12_goesBy_55 : decode cX12_goesBy 55 = .ok (.invokevirtual 297, 3) := by decide +kernel
theorem dX12_goesBy_58 : decode cX12_goesBy 58 = .ok (.if_icmp .ge 23, 3) := by decide +kernel
theorem dX12_goesBy_61 : decode cX12_goesBy 61 = .ok (.aload_n 0, 1) := by decide +kernel
theorem dX12_goesBy_62 : decode cX12_goesBy 62 = .ok (.getfield 39, 3) := by decide +kernel
theorem dX12_goesBy_65 : decode cX12_goesBy 65 = .ok (.bipush 46, 2) := by decide +kernel
theorem dX12_goesBy_67 : decode cX12_goesBy 67 = .ok (.iconst 4, 1) := by decide +kernel
theorem dX12_goesBy_68 : decode cX12_goesBy 68 = .ok (.iload_n 1, 1) := by decide +kernel
theorem dX12_goesBy_69 : decode cX12_goesBy 69 = .ok (.imul, 1) := by decide +kernel
theorem dX12_goesBy_70 : decode cX12_goesBy 70 = .ok (.iadd, 1) := by decide +kernel
theorem dX12_goesBy_71 : decode cX12_goesBy 71 = .ok (.iload_n 3, 1) := by decide +kernel
theorem dX12_goesBy_72 : decode cX12_goesBy 72 = .ok (.iastore, 1) := by decide +kernel
theorem dX12_goesBy_73 : decode cX12_goesBy 73 = .ok (.aload_n 0, 1) := by decide +kernel
theorem dX12_goesBy_74 : decode cX12_goesBy 74 = .ok (.getfield 49, 3) := by decide +kernel
theorem dX12_goesBy_77 : decode cX12_goesBy 77 = .ok (.iload_n 1, 1) := by decide +kernel
theorem dX12_goesBy_78 : decode cX12_goesBy 78 = .ok (.iconst 1, 1) := by decide +kernel
theorem dX12_goesBy_79 : decode cX12_goesBy 79 = .ok (.iastore, 1) := by decide +kernel
theorem dX12_goesBy_80 : decode cX12_goesBy 80 = .ok (.return_, 1) := by decide +kernel
theorem dX12_goesBy_81 : decode cX12_goesBy 81 = .ok (.aload_n 0, 1) := by decide +kernel
theorem dX12_goesBy_82 : decode cX12_goesBy 82 = .ok (.iload_n 3, 1) := by decide +kernel
theorem dX12_goesBy_83 : decode cX12_goesBy 83 = .ok (.iload_n 2, 1) := by decide +kernel
theorem dX12_goesBy_84 : decode cX12_goesBy 84 = .ok (.invokevirtual 345, 3) := by decide +kernel
theorem dX12_goesBy_87 : decode cX12_goesBy 87 = .ok (.istore 4, 2) := by decide +kernel
theorem dX12_goesBy_89 : decode cX12_goesBy 89 = .ok (.iload 4, 2) := by decide +kernel
theorem dX12_goesBy_91 : decode cX12_goesBy 91 = .ok (.ifCond .ge 4, 3) := by decide +kernel
theorem dX12_goesBy_94 : decode cX12_goesBy 94 = .ok (.return_, 1) := by decide +kernel
theorem dX12_goesBy_95 : decode cX12_goesBy 95 = .ok (.aload_n 0, 1) := by decide +kernel
theorem dX12_goesBy_96 : decode cX12_goesBy 96 = .ok (.getfield 39, 3) := by decide +kernel
theorem dX12_goesBy_99 : decode cX12_goesBy 99 = .ok (.bipush 46, 2) := by decide +kernel
theorem dX12_goesBy_101 : decode cX12_goesBy 101 = .ok (.iconst 4, 1) := by decide +kernel
theorem dX12_goesBy_102 : decode cX12_goesBy 102 = .ok (.iload_n 1, 1) := by decide +kernel
theorem dX12_goesBy_103 : decode cX12_goesBy 103 = .ok (.imul, 1) := by decide +kernel
theorem dX12_goesBy_104 : decode cX12_goesBy 104 = .ok (.iadd, 1) := by decide +kernel
theorem dX12_goesBy_105 : decode cX12_goesBy 105 = .ok (.iload_n 3, 1) := by decide +kernel
theorem dX12_goesBy_106 : decode cX12_goesBy 106 = .ok (.iastore, 1) := by decide +kernel
theorem dX12_goesBy_107 : decode cX12_goesBy 107 = .ok (.aload_n 0, 1) := by decide +kernel
theorem dX12_goesBy_108 : decode cX12_goesBy 108 = .ok (.getfield 39, 3) := by decide +kernel
theorem dX12_goesBy_111 : decode cX12_goesBy 111 = .ok (.bipush 46, 2) := by decide +kernel
theorem dX12_goesBy_113 : decode cX12_goesBy 113 = .ok (.iconst 4, 1) := by decide +kernel
theorem dX12_goesBy_114 : decode cX12_goesBy 114 = .ok (.iload 4, 2) := by decide +kernel
theorem dX12_goesBy_116 : decode cX12_goesBy 116 = .ok (.imul, 1) := by decide +kernel
theorem dX12_goesBy_117 : decode cX12_goesBy 117 = .ok (.iadd, 1) := by decide +kernel
theorem dX12_goesBy_118 : decode cX12_goesBy 118 = .ok (.iload_n 2, 1) := by decide +kernel
theorem dX12_goesBy_119 : decode cX12_goesBy 119 = .ok (.iastore, 1) := by decide +kernel
theorem dX12_goesBy_120 : decode cX12_goesBy 120 = .ok (.aload_n 0, 1) := by decide +kernel
theorem dX12_goesBy_121 : decode cX12_goesBy 121 = .ok (.getfield 49, 3) := by decide +kernel
theorem dX12_goesBy_124 : decode cX12_goesBy 124 = .ok (.iload_n 1, 1) := by decide +kernel
theorem dX12_goesBy_125 : decode cX12_goesBy 125 = .ok (.iconst 2, 1) := by decide +kernel
theorem dX12_goesBy_126 : decode cX12_goesBy 126 = .ok (.iastore, 1) := by decide +kernel
theorem dX12_goesBy_127 : decode cX12_goesBy 127 = .ok (.aload_n 0, 1) := by decide +kernel
theorem dX12_goesBy_128 : decode cX12_goesBy 128 = .ok (.getfield 49, 3) := by decide +kernel
theorem dX12_goesBy_131 : decode cX12_goesBy 131 = .ok (.iload 4, 2) := by decide +kernel
theorem dX12_goesBy_133 : decode cX12_goesBy 133 = .ok (.iconst 2, 1) := by decide +kernel
theorem dX12_goesBy_134 : decode cX12_goesBy 134 = .ok (.iastore, 1) := by decide +kernel
theorem dX12_goesBy_135 : decode cX12_goesBy 135 = .ok (.return_, 1) := by decide +kernel
theorem dX12_slides_0 : decode cX12_slides 0 = .ok (.aload_n 0, 1) := by decide +kernel
theorem dX12_slides_1 : decode cX12_slides 1 = .ok (.iload_n 1, 1) := by decide +kernel
theorem dX12_slides_2 : decode cX12_slides 2 = .ok (.iconst 0, 1) := by decide +kernel
theorem dX12_slides_3 : decode cX12_slides 3 = .ok (.invokevirtual 290, 3) := by decide +kernel
theorem dX12_slides_6 : decode cX12_slides 6 = .ok (.iconst 1, 1) := by decide +kernel
theorem dX12_slides_7 : decode cX12_slides 7 = .ok (.isub, 1) := by decide +kernel
theorem dX12_slides_8 : decode cX12_slides 8 = .ok (.istore_n 2, 1) := by decide +kernel
theorem dX12_slides_9 : decode cX12_slides 9 = .ok (.iload_n 2, 1) := by decide +kernel
theorem dX12_slides_10 : decode cX12_slides 10 = .ok (.ifCond .lt 19, 3) := by decide +kernel
theorem dX12_slides_13 : decode cX12_slides 13 = .ok (.aload_n 0, 1) := by decide +kernel
theorem dX12_slides_14 : decode cX12_slides 14 = .ok (.iload_n 2, 1) := by decide +kernel
theorem dX12_slides_15 : decode cX12_slides 15 = .ok (.iconst 3, 1) := by decide +kernel
theorem dX12_slides_16 : decode cX12_slides 16 = .ok (.invokevirtual 297, 3) := by decide +kernel
theorem dX12_slides_19 : decode cX12_slides 19 = .ok (.iconst 1, 1) := by decide +kernel
theorem dX12_slides_20 : decode cX12_slides 20 = .ok (.if_icmp .ne 9, 3) := by decide +kernel
theorem dX12_slides_23 : decode cX12_slides 23 = .ok (.iinc 2 (-1), 3) := by decide +kernel
theorem dX12_slides_26 : decode cX12_slides 26 = .ok (.goto (-17), 3) := by decide +kernel
theorem dX12_slides_29 : decode cX12_slides 29 = .ok (.aload_n 0, 1) := by decide +kernel
theorem dX12_slides_30 : decode cX12_slides 30 = .ok (.getfield 39, 3) := by decide +kernel
theorem dX12_slides_33 : decode cX12_slides 33 = .ok (.bipush 46, 2) := by decide +kernel
theorem dX12_slides_35 : decode cX12_slides 35 = .ok (.iconst 4, 1) := by decide +kernel
theorem dX12_slides_36 : decode cX12_slides 36 = .ok (.iload_n 1, 1) := by decide +kernel
theorem dX12_slides_37 : decode cX12_slides 37 = .ok (.imul, 1) := by decide +kernel
theorem dX12_slides_38 : decode cX12_slides 38 = .ok (.iadd, 1) := by decide +kernel
theorem dX12_slides_39 : decode cX12_slides 39 = .ok (.iload_n 2, 1) := by decide +kernel
theorem dX12_slides_40 : decode cX12_slides 40 = .ok (.iastore, 1) := by decide +kernel
theorem dX12_slides_41 : decode cX12_slides 41 = .ok (.aload_n 0, 1) := by decide +kernel
theorem dX12_slides_42 : decode cX12_slides 42 = .ok (.getfield 39, 3) := by decide +kernel
theorem dX12_slides_45 : decode cX12_slides 45 = .ok (.bipush 46, 2) := by decide +kernel
theorem dX12_slides_47 : decode cX12_slides 47 = .ok (.iconst 4, 1) := by decide +kernel
theorem dX12_slides_48 : decode cX12_slides 48 = .ok (.iload_n 1, 1) := by decide +kernel
theorem dX12_slides_49 : decode cX12_slides 49 = .ok (.imul, 1) := by decide +kernel
theorem dX12_slides_50 : decode cX12_slides 50 = .ok (.iadd, 1) := by decide +kernel
theorem dX12_slides_51 : decode cX12_slides 51 = .ok (.iconst 3, 1) := by decide +kernel
theorem dX12_slides_52 : decode cX12_slides 52 = .ok (.iadd, 1) := by decide +kernel
theorem dX12_slides_53 : decode cX12_slides 53 = .ok (.dup2, 1) := by decide +kernel
theorem dX12_slides_54 : decode cX12_slides 54 = .ok (.iaload, 1) := by decide +kernel
theorem dX12_slides_55 : decode cX12_slides 55 = .ok (.iconst 1, 1) := by decide +kernel
theorem dX12_slides_56 : decode cX12_slides 56 = .ok (.iadd, 1) := by decide +kernel
theorem dX12_slides_57 : decode cX12_slides 57 = .ok (.iastore, 1) := by decide +kernel
theorem dX12_slides_58 : decode cX12_slides 58 = .ok (.return_, 1) := by decide +kernel
theorem dX12_breaksNow_0 : decode cX12_breaksNow 0 = .ok (.iconst 0, 1) := by decide +kernel
theorem dX12_breaksNow_1 : decode cX12_breaksNow 1 = .ok (.istore_n 2, 1) := by decide +kernel
theorem dX12_breaksNow_2 : decode cX12_breaksNow 2 = .ok (.aload_n 0, 1) := by decide +kernel
theorem dX12_breaksNow_3 : decode cX12_breaksNow 3 = .ok (.getfield 39, 3) := by decide +kernel
theorem dX12_breaksNow_6 : decode cX12_breaksNow 6 = .ok (.bipush 10, 2) := by decide +kernel
theorem dX12_breaksNow_8 : decode cX12_breaksNow 8 = .ok (.iconst 4, 1) := by decide +kernel
theorem dX12_breaksNow_9 : decode cX12_breaksNow 9 = .ok (.iload_n 1, 1) := by decide +kernel
theorem dX12_breaksNow_10 : decode cX12_breaksNow 10 = .ok (.imul, 1) := by decide +kernel
theorem dX12_breaksNow_11 : decode cX12_breaksNow 11 = .ok (.iadd, 1) := by decide +kernel
theorem dX12_breaksNow_12 : decode cX12_breaksNow 12 = .ok (.iconst 3, 1) := by decide +kernel
theorem dX12_breaksNow_13 : decode cX12_breaksNow 13 = .ok (.iadd, 1) := by decide +kernel
theorem dX12_breaksNow_14 : decode cX12_breaksNow 14 = .ok (.iconst 1, 1) := by decide +kernel
theorem dX12_breaksNow_15 : decode cX12_breaksNow 15 = .ok (.iastore, 1) := by decide +kernel
theorem dX12_breaksNow_16 : decode cX12_breaksNow 16 = .ok (.iconst 0, 1) := by decide +kernel
theorem dX12_breaksNow_17 : decode cX12_breaksNow 17 = .ok (.istore_n 3, 1) := by decide +kernel
theorem dX12_breaksNow_18 : decode cX12_breaksNow 18 = .ok (.iload_n 3, 1) := by decide +kernel
theorem dX12_breaksNow_19 : decode cX12_breaksNow 19 = .ok (.aload_n 0, 1) := by decide +kernel
theorem dX12_breaksNow_20 : decode cX12_breaksNow 20 = .ok (.getfield 39, 3) := by decide +kernel
theorem dX12_breaksNow_23 : decode cX12_breaksNow 23 = .ok (.iconst 1, 1) := by decide +kernel
theorem dX12_breaksNow_24 : decode cX12_breaksNow 24 = .ok (.iaload, 1) := by decide +kernel
theorem dX12_breaksNow_25 : decode cX12_breaksNow 25 = .ok (.if_icmp .ge 30, 3) := by decide +kernel
theorem dX12_breaksNow_28 : decode cX12_breaksNow 28 = .ok (.aload_n 0, 1) := by decide +kernel
theorem dX12_breaksNow_29 : decode cX12_breaksNow 29 = .ok (.iload_n 3, 1) := by decide +kernel
theorem dX12_breaksNow_30 : decode cX12_breaksNow 30 = .ok (.iconst 0, 1) := by decide +kernel
theorem dX12_breaksNow_31 : decode cX12_breaksNow 31 = .ok (.invokevirtual 290, 3) := by decide +kernel
theorem dX12_breaksNow_34 : decode cX12_breaksNow 34 = .ok (.iload_n 1, 1) := by decide +kernel
theorem dX12_breaksNow_35 : decode cX12_breaksNow 35 = .ok (.if_icmp .eq 6, 3) := by decide +kernel
theorem dX12_breaksNow_38 : decode cX12_breaksNow 38 = .ok (.goto 11, 3) := by decide +kernel
theorem dX12_breaksNow_41 : decode cX12_breaksNow 41 = .ok (.aload_n 0, 1) := by decide +kernel
theorem dX12_breaksNow_42 : decode cX12_breaksNow 42 = .ok (.iload_n 3, 1) := by decide +kernel
theorem dX12_breaksNow_43 : decode cX12_breaksNow 43 = .ok (.invokevirtual 348, 3) := by decide +kernel
theorem dX12_breaksNow_46 : decode cX12_breaksNow 46 = .ok (.iinc 2 1, 3) := by decide +kernel
theorem dX12_breaksNow_49 : decode cX12_breaksNow 49 = .ok (.iinc 3 1, 3) := by decide +kernel
theorem dX12_breaksNow_52 : decode cX12_breaksNow 52 = .ok (.goto (-34), 3) := by decide +kernel
theorem dX12_breaksNow_55 : decode cX12_breaksNow 55 = .ok (.iload_n 2, 1) := by decide +kernel
theorem dX12_breaksNow_56 : decode cX12_breaksNow 56 = .ok (.ireturn, 1) := by decide +kernel
theorem dX12_wears_0 : decode cX12_wears 0 = .ok (.iconst 0, 1) := by decide +kernel
theorem dX12_wears_1 : decode cX12_wears 1 = .ok (.istore_n 1, 1) := by decide +kernel
theorem dX12_wears_2 : decode cX12_wears 2 = .ok (.aload_n 0, 1) := by decide +kernel
theorem dX12_wears_3 : decode cX12_wears 3 = .ok (.iconst (-1), 1) := by decide +kernel
theorem dX12_wears_4 : decode cX12_wears 4 = .ok (.putfield 351, 3) := by decide +kernel
theorem dX12_wears_7 : decode cX12_wears 7 = .ok (.iconst 0, 1) := by decide +kernel
theorem dX12_wears_8 : decode cX12_wears 8 = .ok (.istore_n 2, 1) := by decide +kernel
theorem dX12_wears_9 : decode cX12_wears 9 = .ok (.iload_n 2, 1) := by decide +kernel
theorem dX12_wears_10 : decode cX12_wears 10 = .ok (.aload_n 0, 1) := by decide +kernel
theorem dX12_wears_11 : decode cX12_wears 11 = .ok (.getfield 39, 3) := by decide +kernel
theorem dX12_wears_14 : decode cX12_wears 14 = .ok (.iconst 0, 1) := by decide +kernel
theorem dX12_wears_15 : decode cX12_wears 15 = .ok (.iaload, 1) := by decide +kernel
theorem dX12_wears_16 : decode cX12_wears 16 = .ok (.if_icmp .ge 30, 3) := by decide +kernel
theorem dX12_wears_19 : decode cX12_wears 19 = .ok (.aload_n 0, 1) := by decide +kernel
theorem dX12_wears_20 : decode cX12_wears 20 = .ok (.getfield 39, 3) := by decide +kernel
theorem dX12_wears_23 : decode cX12_wears 23 = .ok (.bipush 10, 2) := by decide +kernel
theorem dX12_wears_25 : decode cX12_wears 25 = .ok (.iconst 4, 1) := by decide +kernel
theorem dX12_wears_26 : decode cX12_wears 26 = .ok (.iload_n 2, 1) := by decide +kernel
theorem dX12_wears_27 : decode cX12_wears 27 = .ok (.imul, 1) := by decide +kernel
theorem dX12_wears_28 : decode cX12_wears 28 = .ok (.iadd, 1) := by decide +kernel
theorem dX12_wears_29 : decode cX12_wears 29 = .ok (.iconst 2, 1) := by decide +kernel
theorem dX12_wears_30 : decode cX12_wears 30 = .ok (.iadd, 1) := by decide +kernel
theorem dX12_wears_31 : decode cX12_wears 31 = .ok (.dup2, 1) := by decide +kernel
theorem dX12_wears_32 : decode cX12_wears 32 = .ok (.iaload, 1) := by decide +kernel
theorem dX12_wears_33 : decode cX12_wears 33 = .ok (.aload_n 0, 1) := by decide +kernel
theorem dX12_wears_34 : decode cX12_wears 34 = .ok (.iload_n 2, 1) := by decide +kernel
theorem dX12_wears_35 : decode cX12_wears 35 = .ok (.invokevirtual 320, 3) := by decide +kernel
theorem dX12_wears_38 : decode cX12_wears 38 = .ok (.iadd, 1) := by decide +kernel
theorem dX12_wears_39 : decode cX12_wears 39 = .ok (.iastore, 1) := by decide +kernel
theorem dX12_wears_40 : decode cX12_wears 40 = .ok (.iinc 2 1, 3) := by decide +kernel
theorem dX12_wears_43 : decode cX12_wears 43 = .ok (.goto (-34), 3) := by decide +kernel
theorem dX12_wears_46 : decode cX12_wears 46 = .ok (.aload_n 0, 1) := by decide +kernel
theorem dX12_wears_47 : decode cX12_wears 47 = .ok (.getfield 39, 3) := by decide +kernel
theorem dX12_wears_50 : decode cX12_wears 50 = .ok (.iconst 0, 1) := by decide +kernel
theorem dX12_wears_51 : decode cX12_wears 51 = .ok (.iaload, 1) := by decide +kernel
theorem dX12_wears_52 : decode cX12_wears 52 = .ok (.iconst 1, 1) := by decide +kernel
theorem dX12_wears_53 : decode cX12_wears 53 = .ok (.isub, 1) := by decide +kernel
theorem dX12_wears_54 : decode cX12_wears 54 = .ok (.istore_n 2, 1) := by decide +kernel
theorem dX12_wears_55 : decode cX12_wears 55 = .ok (.iload_n 2, 1) := by decide +kernel
theorem dX12_wears_56 : decode cX12_wears 56 = .ok (.ifCond .lt 64, 3) := by decide +kernel
theorem dX12_wears_59 : decode cX12_wears 59 = .ok (.aload_n 0, 1) := by decide +kernel
theorem dX12_wears_60 : decode cX12_wears 60 = .ok (.iload_n 2, 1) := by decide +kernel
theorem dX12_wears_61 : decode cX12_wears 61 = .ok (.iconst 3, 1) := by decide +kernel
theorem dX12_wears_62 : decode cX12_wears 62 = .ok (.invokevirtual 297, 3) := by decide +kernel
theorem dX12_wears_65 : decode cX12_wears 65 = .ok (.iconst 1, 1) := by decide +kernel
theorem dX12_wears_66 : decode cX12_wears 66 = .ok (.if_icmp .eq 48, 3) := by decide +kernel
theorem dX12_wears_69 : decode cX12_wears 69 = .ok (.aload_n 0, 1) := by decide +kernel
theorem dX12_wears_70 : decode cX12_wears 70 = .ok (.iload_n 2, 1) := by decide +kernel
theorem dX12_wears_71 : decode cX12_wears 71 = .ok (.iconst 2, 1) := by decide +kernel
theorem dX12_wears_72 : decode cX12_wears 72 = .ok (.invokevirtual 297, 3) := by decide +kernel
theorem dX12_wears_75 : decode cX12_wears 75 = .ok (.aload_n 0, 1) := by decide +kernel
theorem dX12_wears_76 : decode cX12_wears 76 = .ok (.iload_n 2, 1) := by decide +kernel
theorem dX12_wears_77 : decode cX12_wears 77 = .ok (.iconst 1, 1) := by decide +kernel
theorem dX12_wears_78 : decode cX12_wears 78 = .ok (.invokevirtual 297, 3) := by decide +kernel
theorem dX12_wears_81 : decode cX12_wears 81 = .ok (.if_icmp .ge 6, 3) := by decide +kernel
theorem dX12_wears_84 : decode cX12_wears 84 = .ok (.goto 30, 3) := by decide +kernel
theorem dX12_wears_87 : decode cX12_wears 87 = .ok (.aload_n 0, 1) := by decide +kernel
theorem dX12_wears_88 : decode cX12_wears 88 = .ok (.aload_n 0, 1) := by decide +kernel
theorem dX12_wears_89 : decode cX12_wears 89 = .ok (.getfield 351, 3) := by decide +kernel
theorem dX12_wears_92 : decode cX12_wears 92 = .ok (.ifCond .ge 7, 3) := by decide +kernel
theorem dX12_wears_95 : decode cX12_wears 95 = .ok (.iload_n 2, 1) := by decide +kernel
theorem dX12_wears_96 : decode cX12_wears 96 = .ok (.goto 7, 3) := by decide +kernel
theorem dX12_wears_99 : decode cX12_wears 99 = .ok (.aload_n 0, 1) := by decide +kernel
theorem dX12_wears_100 : decode cX12_wears 100 = .ok (.getfield 351, 3) := by decide +kernel
theorem dX12_wears_103 : decode cX12_wears 103 = .ok (.putfield 351, 3) := by decide +kernel
theorem dX12_wears_106 : decode cX12_wears 106 = .ok (.iload_n 1, 1) := by decide +kernel
theorem dX12_wears_107 : decode cX12_wears 107 = .ok (.aload_n 0, 1) := by decide +kernel
theorem dX12_wears_108 : decode cX12_wears 108 = .ok (.iload_n 2, 1) := by decide +kernel
theorem dX12_wears_109 : decode cX12_wears 109 = .ok (.invokevirtual 354, 3) := by decide +kernel
theorem dX12_wears_112 : decode cX12_wears 112 = .ok (.iadd, 1) := by decide +kernel
theorem dX12_wears_113 : decode cX12_wears 113 = .ok (.istore_n 1, 1) := by decide +kernel
theorem dX12_wears_114 : decode cX12_wears 114 = .ok (.iinc 2 (-1), 3) := by decide +kernel
theorem dX12_wears_117 : decode cX12_wears 117 = .ok (.goto (-62), 3) := by decide +kernel
theorem dX12_wears_120 : decode cX12_wears 120 = .ok (.iload_n 1, 1) := by decide +kernel
theorem dX12_wears_121 : decode cX12_wears 121 = .ok (.ireturn, 1) := by decide +kernel
theorem dX12_tires_0 : decode cX12_tires 0 = .ok (.bipush 46, 2) := by decide +kernel
theorem dX12_tires_2 : decode cX12_tires 2 = .ok (.iconst 4, 1) := by decide +kernel
theorem dX12_tires_3 : decode cX12_tires 3 = .ok (.iload_n 1, 1) := by decide +kernel
theorem dX12_tires_4 : decode cX12_tires 4 = .ok (.imul, 1) := by decide +kernel
theorem dX12_tires_5 : decode cX12_tires 5 = .ok (.iadd, 1) := by decide +kernel
theorem dX12_tires_6 : decode cX12_tires 6 = .ok (.iconst 1, 1) := by decide +kernel
theorem dX12_tires_7 : decode cX12_tires 7 = .ok (.iadd, 1) := by decide +kernel
theorem dX12_tires_8 : decode cX12_tires 8 = .ok (.istore_n 2, 1) := by decide +kernel
theorem dX12_tires_9 : decode cX12_tires 9 = .ok (.aload_n 0, 1) := by decide +kernel
theorem dX12_tires_10 : decode cX12_tires 10 = .ok (.getfield 39, 3) := by decide +kernel
theorem dX12_tires_13 : decode cX12_tires 13 = .ok (.iload_n 2, 1) := by decide +kernel
theorem dX12_tires_14 : decode cX12_tires 14 = .ok (.dup2, 1) := by decide +kernel
theorem dX12_tires_15 : decode cX12_tires 15 = .ok (.iaload, 1) := by decide +kernel
theorem dX12_tires_16 : decode cX12_tires 16 = .ok (.aload_n 0, 1) := by decide +kernel
theorem dX12_tires_17 : decode cX12_tires 17 = .ok (.getfield 49, 3) := by decide +kernel
theorem dX12_tires_20 : decode cX12_tires 20 = .ok (.iload_n 1, 1) := by decide +kernel
theorem dX12_tires_21 : decode cX12_tires 21 = .ok (.iaload, 1) := by decide +kernel
theorem dX12_tires_22 : decode cX12_tires 22 = .ok (.ifCond .ne 7, 3) := by decide +kernel
theorem dX12_tires_25 : decode cX12_tires 25 = .ok (.iconst 1, 1) := by decide +kernel
theorem dX12_tires_26 : decode cX12_tires 26 = .ok (.goto 19, 3) := by decide +kernel
theorem dX12_tires_29 : decode cX12_tires 29 = .ok (.aload_n 0, 1) := by decide +kernel
theorem dX12_tires_30 : decode cX12_tires 30 = .ok (.getfield 49, 3) := by decide +kernel
theorem dX12_tires_33 : decode cX12_tires 33 = .ok (.iload_n 1, 1) := by decide +kernel
theorem dX12_tires_34 : decode cX12_tires 34 = .ok (.iaload, 1) := by decide +kernel
theorem dX12_tires_35 : decode cX12_tires 35 = .ok (.iconst 1, 1) := by decide +kernel
theorem dX12_tires_36 : decode cX12_tires 36 = .ok (.if_icmp .ne 7, 3) := by decide +kernel
theorem dX12_tires_39 : decode cX12_tires 39 = .ok (.iconst (-1), 1) := by decide +kernel
theorem dX12_tires_40 : decode cX12_tires 40 = .ok (.goto 5, 3) := by decide +kernel
theorem dX12_tires_43 : decode cX12_tires 43 = .ok (.bipush (-3), 2) := by decide +kernel
theorem dX12_tires_45 : decode cX12_tires 45 = .ok (.iadd, 1) := by decide +kernel
theorem dX12_tires_46 : decode cX12_tires 46 = .ok (.iastore, 1) := by decide +kernel
theorem dX12_tires_47 : decode cX12_tires 47 = .ok (.aload_n 0, 1) := by decide +kernel
theorem dX12_tires_48 : decode cX12_tires 48 = .ok (.getfield 39, 3) := by decide +kernel
theorem dX12_tires_51 : decode cX12_tires 51 = .ok (.iload_n 2, 1) := by decide +kernel
theorem dX12_tires_52 : decode cX12_tires 52 = .ok (.iaload, 1) := by decide +kernel
theorem dX12_tires_53 : decode cX12_tires 53 = .ok (.aload_n 0, 1) := by decide +kernel
theorem dX12_tires_54 : decode cX12_tires 54 = .ok (.iload_n 1, 1) := by decide +kernel
theorem dX12_tires_55 : decode cX12_tires 55 = .ok (.invokevirtual 327, 3) := by decide +kernel
theorem dX12_tires_58 : decode cX12_tires 58 = .ok (.if_icmp .le 14, 3) := by decide +kernel
theorem dX12_tires_61 : decode cX12_tires 61 = .ok (.aload_n 0, 1) := by decide +kernel
theorem dX12_tires_62 : decode cX12_tires 62 = .ok (.getfield 39, 3) := by decide +kernel
theorem dX12_tires_65 : decode cX12_tires 65 = .ok (.iload_n 2, 1) := by decide +kernel
theorem dX12_tires_66 : decode cX12_tires 66 = .ok (.aload_n 0, 1) := by decide +kernel
theorem dX12_tires_67 : decode cX12_tires 67 = .ok (.iload_n 1, 1) := by decide +kernel
theorem dX12_tires_68 : decode cX12_tires 68 = .ok (.invokevirtual 327, 3) := by decide +kernel
theorem dX12_tires_71 : decode cX12_tires 71 = .ok (.iastore, 1) := by decide +kernel
theorem dX12_tires_72 : decode cX12_tires 72 = .ok (.aload_n 0, 1) := by decide +kernel
theorem dX12_tires_73 : decode cX12_tires 73 = .ok (.getfield 39, 3) := by decide +kernel
theorem dX12_tires_76 : decode cX12_tires 76 = .ok (.iload_n 2, 1) := by decide +kernel
theorem dX12_tires_77 : decode cX12_tires 77 = .ok (.iaload, 1) := by decide +kernel
theorem dX12_tires_78 : decode cX12_tires 78 = .ok (.ifCond .le 5, 3) := by decide +kernel
theorem dX12_tires_81 : decode cX12_tires 81 = .ok (.iconst 0, 1) := by decide +kernel
theorem dX12_tires_82 : decode cX12_tires 82 = .ok (.ireturn, 1) := by decide +kernel
theorem dX12_tires_83 : decode cX12_tires 83 = .ok (.aload_n 0, 1) := by decide +kernel
theorem dX12_tires_84 : decode cX12_tires 84 = .ok (.iload_n 1, 1) := by decide +kernel
theorem dX12_tires_85 : decode cX12_tires 85 = .ok (.invokevirtual 348, 3) := by decide +kernel
theorem dX12_tires_88 : decode cX12_tires 88 = .ok (.aload_n 0, 1) := by decide +kernel
theorem dX12_tires_89 : decode cX12_tires 89 = .ok (.getfield 39, 3) := by decide +kernel
theorem dX12_tires_92 : decode cX12_tires 92 = .ok (.iload_n 2, 1) := by decide +kernel
theorem dX12_tires_93 : decode cX12_tires 93 = .ok (.aload_n 0, 1) := by decide +kernel
theorem dX12_tires_94 : decode cX12_tires 94 = .ok (.iload_n 1, 1) := by decide +kernel
theorem dX12_tires_95 : decode cX12_tires 95 = .ok (.invokevirtual 327, 3) := by decide +kernel
theorem dX12_tires_98 : decode cX12_tires 98 = .ok (.iconst 2, 1) := by decide +kernel
theorem dX12_tires_99 : decode cX12_tires 99 = .ok (.idiv, 1) := by decide +kernel
theorem dX12_tires_100 : decode cX12_tires 100 = .ok (.iconst 1, 1) := by decide +kernel
theorem dX12_tires_101 : decode cX12_tires 101 = .ok (.if_icmp .ge 7, 3) := by decide +kernel
theorem dX12_tires_104 : decode cX12_tires 104 = .ok (.iconst 1, 1) := by decide +kernel
theorem dX12_tires_105 : decode cX12_tires 105 = .ok (.goto 10, 3) := by decide +kernel
theorem dX12_tires_108 : decode cX12_tires 108 = .ok (.aload_n 0, 1) := by decide +kernel
theorem dX12_tires_109 : decode cX12_tires 109 = .ok (.iload_n 1, 1) := by decide +kernel
theorem dX12_tires_110 : decode cX12_tires 110 = .ok (.invokevirtual 327, 3) := by decide +kernel
theorem dX12_tires_113 : decode cX12_tires 113 = .ok (.iconst 2, 1) := by decide +kernel
theorem dX12_tires_114 : decode cX12_tires 114 = .ok (.idiv, 1) := by decide +kernel
theorem dX12_tires_115 : decode cX12_tires 115 = .ok (.iastore, 1) := by decide +kernel
theorem dX12_tires_116 : decode cX12_tires 116 = .ok (.iconst 1, 1) := by decide +kernel
theorem dX12_tires_117 : decode cX12_tires 117 = .ok (.ireturn, 1) := by decide +kernel
theorem dX12_passes_0 : decode cX12_passes 0 = .ok (.iconst 0, 1) := by decide +kernel
theorem dX12_passes_1 : decode cX12_passes 1 = .ok (.istore_n 1, 1) := by decide +kernel
theorem dX12_passes_2 : decode cX12_passes 2 = .ok (.iload_n 1, 1) := by decide +kernel
theorem dX12_passes_3 : decode cX12_passes 3 = .ok (.aload_n 0, 1) := by decide +kernel
theorem dX12_passes_4 : decode cX12_passes 4 = .ok (.getfield 39, 3) := by decide +kernel
theorem dX12_passes_7 : decode cX12_passes 7 = .ok (.iconst 1, 1) := by decide +kernel
theorem dX12_passes_8 : decode cX12_passes 8 = .ok (.iaload, 1) := by decide +kernel
theorem dX12_passes_9 : decode cX12_passes 9 = .ok (.if_icmp .ge 27, 3) := by decide +kernel
theorem dX12_passes_12 : decode cX12_passes 12 = .ok (.aload_n 0, 1) := by decide +kernel
theorem dX12_passes_13 : decode cX12_passes 13 = .ok (.getfield 46, 3) := by decide +kernel
theorem dX12_passes_16 : decode cX12_passes 16 = .ok (.iload_n 1, 1) := by decide +kernel
theorem dX12_passes_17 : decode cX12_passes 17 = .ok (.aload_n 0, 1) := by decide +kernel
theorem dX12_passes_18 : decode cX12_passes 18 = .ok (.iload_n 1, 1) := by decide +kernel
theorem dX12_passes_19 : decode cX12_passes 19 = .ok (.invokevirtual 357, 3) := by decide +kernel
theorem dX12_passes_22 : decode cX12_passes 22 = .ok (.iastore, 1) := by decide +kernel
theorem dX12_passes_23 : decode cX12_passes 23 = .ok (.aload_n 0, 1) := by decide +kernel
theorem dX12_passes_24 : decode cX12_passes 24 = .ok (.getfield 49, 3) := by decide +kernel
theorem dX12_passes_27 : decode cX12_passes 27 = .ok (.iload_n 1, 1) := by decide +kernel
theorem dX12_passes_28 : decode cX12_passes 28 = .ok (.iconst 0, 1) := by decide +kernel
theorem dX12_passes_29 : decode cX12_passes 29 = .ok (.iastore, 1) := by decide +kernel
theorem dX12_passes_30 : decode cX12_passes 30 = .ok (.iinc 1 1, 3) := by decide +kernel
theorem dX12_passes_33 : decode cX12_passes 33 = .ok (.goto (-31), 3) := by decide +kernel
theorem dX12_passes_36 : decode cX12_passes 36 = .ok (.iconst 0, 1) := by decide +kernel
theorem dX12_passes_37 : decode cX12_passes 37 = .ok (.istore_n 1, 1) := by decide +kernel
theorem dX12_passes_38 : decode cX12_passes 38 = .ok (.iload_n 1, 1) := by decide +kernel
theorem dX12_passes_39 : decode cX12_passes 39 = .ok (.aload_n 0, 1) := by decide +kernel
theorem dX12_passes_40 : decode cX12_passes 40 = .ok (.getfield 39, 3) := by decide +kernel
theorem dX12_passes_43 : decode cX12_passes 43 = .ok (.iconst 1, 1) := by decide +kernel
theorem dX12_passes_44 : decode cX12_passes 44 = .ok (.iaload, 1) := by decide +kernel
theorem dX12_passes_45 : decode cX12_passes 45 = .ok (.if_icmp .ge 14, 3) := by decide +kernel
theorem dX12_passes_48 : decode cX12_passes 48 = .ok (.aload_n 0, 1) := by decide +kernel
theorem dX12_passes_49 : decode cX12_passes 49 = .ok (.iload_n 1, 1) := by decide +kernel
theorem dX12_passes_50 : decode cX12_passes 50 = .ok (.invokevirtual 360, 3) := by decide +kernel
theorem dX12_passes_53 : decode cX12_passes 53 = .ok (.iinc 1 1, 3) := by decide +kernel
theorem dX12_passes_56 : decode cX12_passes 56 = .ok (.goto (-18), 3) := by decide +kernel
theorem dX12_passes_59 : decode cX12_passes 59 = .ok (.aload_n 0, 1) := by decide +kernel
theorem dX12_passes_60 : decode cX12_passes 60 = .ok (.invokevirtual 363, 3) := by decide +kernel
theorem dX12_passes_63 : decode cX12_passes 63 = .ok (.istore_n 1, 1) := by decide +kernel
theorem dX12_passes_64 : decode cX12_passes 64 = .ok (.iconst 0, 1) := by decide +kernel
theorem dX12_passes_65 : decode cX12_passes 65 = .ok (.istore_n 2, 1) := by decide +kernel
theorem dX12_passes_66 : decode cX12_passes 66 = .ok (.iload_n 2, 1) := by decide +kernel
theorem dX12_passes_67 : decode cX12_passes 67 = .ok (.aload_n 0, 1) := by decide +kernel
theorem dX12_passes_68 : decode cX12_passes 68 = .ok (.getfield 39, 3) := by decide +kernel
theorem dX12_passes_71 : decode cX12_passes 71 = .ok (.iconst 1, 1) := by decide +kernel
theorem dX12_passes_72 : decode cX12_passes 72 = .ok (.iaload, 1) := by decide +kernel
theorem dX12_passes_73 : decode cX12_passes 73 = .ok (.if_icmp .ge 28, 3) := by decide +kernel
theorem dX12_passes_76 : decode cX12_passes 76 = .ok (.aload_n 0, 1) := by decide +kernel
theorem dX12_passes_77 : decode cX12_passes 77 = .ok (.iload_n 2, 1) := by decide +kernel
theorem dX12_passes_78 : decode cX12_passes 78 = .ok (.invokevirtual 335, 3) := by decide +kernel
theorem dX12_passes_81 : decode cX12_passes 81 = .ok (.ifCond .eq 14, 3) := by decide +kernel
theorem dX12_passes_84 : decode cX12_passes 84 = .ok (.aload_n 0, 1) := by decide +kernel
theorem dX12_passes_85 : decode cX12_passes 85 = .ok (.iload_n 2, 1) := by decide +kernel
theorem dX12_passes_86 : decode cX12_passes 86 = .ok (.invokevirtual 366, 3) := by decide +kernel
theorem dX12_passes_89 : decode cX12_passes 89 = .ok (.ifCond .eq 6, 3) := by decide +kernel
theorem dX12_passes_92 : decode cX12_passes 92 = .ok (.iinc 1 1, 3) := by decide +kernel
theorem dX12_passes_95 : decode cX12_passes 95 = .ok (.iinc 2 1, 3) := by decide +kernel
theorem dX12_passes_98 : decode cX12_passes 98 = .ok (.goto (-32), 3) := by decide +kernel
theorem dX12_passes_101 : decode cX12_passes 101 = .ok (.aload_n 0, 1) := by decide +kernel
theorem dX12_passes_102 : decode cX12_passes 102 = .ok (.getfield 39, 3) := by decide +kernel
theorem dX12_passes_105 : decode cX12_passes 105 = .ok (.iconst 2, 1) := by decide +kernel
theorem dX12_passes_106 : decode cX12_passes 106 = .ok (.dup2, 1) := by decide +kernel
theorem dX12_passes_107 : decode cX12_passes 107 = .ok (.iaload, 1) := by decide +kernel
theorem dX12_passes_108 : decode cX12_passes 108 = .ok (.iconst 1, 1) := by decide +kernel
theorem dX12_passes_109 : decode cX12_passes 109 = .ok (.iadd, 1) := by decide +kernel
theorem dX12_passes_110 : decode cX12_passes 110 = .ok (.iastore, 1) := by decide +kernel
theorem dX12_passes_111 : decode cX12_passes 111 = .ok (.iload_n 1, 1) := by decide +kernel
theorem dX12_passes_112 : decode cX12_passes 112 = .ok (.ireturn, 1) := by decide +kernel
theorem dX12_keepsAct_0 : decode cX12_keepsAct 0 = .ok (.aload_n 0, 1) := by decide +kernel
theorem dX12_keepsAct_1 : decode cX12_keepsAct 1 = .ok (.getfield 272, 3) := by decide +kernel
theorem dX12_keepsAct_4 : decode cX12_keepsAct 4 = .ok (.bipush 20, 2) := by decide +kernel
theorem dX12_keepsAct_6 : decode cX12_keepsAct 6 = .ok (.if_icmp .ne 44, 3) := by decide +kernel
theorem dX12_keepsAct_9 : decode cX12_keepsAct 9 = .ok (.bipush 62, 2) := by decide +kernel
theorem dX12_keepsAct_11 : decode cX12_keepsAct 11 = .ok (.istore_n 1, 1) := by decide +kernel
theorem dX12_keepsAct_12 : decode cX12_keepsAct 12 = .ok (.iload_n 1, 1) := by decide +kernel
theorem dX12_keepsAct_13 : decode cX12_keepsAct 13 = .ok (.sipush 1240, 3) := by decide +kernel
theorem dX12_keepsAct_16 : decode cX12_keepsAct 16 = .ok (.if_icmp .ge 24, 3) := by decide +kernel
theorem dX12_keepsAct_19 : decode cX12_keepsAct 19 = .ok (.aload_n 0, 1) := by decide +kernel
theorem dX12_keepsAct_20 : decode cX12_keepsAct 20 = .ok (.getfield 52, 3) := by decide +kernel
theorem dX12_keepsAct_23 : decode cX12_keepsAct 23 = .ok (.iload_n 1, 1) := by decide +kernel
theorem dX12_keepsAct_24 : decode cX12_keepsAct 24 = .ok (.bipush 62, 2) := by decide +kernel
theorem dX12_keepsAct_26 : decode cX12_keepsAct 26 = .ok (.isub, 1) := by decide +kernel
theorem dX12_keepsAct_27 : decode cX12_keepsAct 27 = .ok (.aload_n 0, 1) := by decide +kernel
theorem dX12_keepsAct_28 : decode cX12_keepsAct 28 = .ok (.getfield 52, 3) := by decide +kernel
theorem dX12_keepsAct_31 : decode cX12_keepsAct 31 = .ok (.iload_n 1, 1) := by decide +kernel
theorem dX12_keepsAct_32 : decode cX12_keepsAct 32 = .ok (.iaload, 1) := by decide +kernel
theorem dX12_keepsAct_33 : decode cX12_keepsAct 33 = .ok (.iastore, 1) := by decide +kernel
theorem dX12_keepsAct_34 : decode cX12_keepsAct 34 = .ok (.iinc 1 1, 3) := by decide +kernel
theorem dX12_keepsAct_37 : decode cX12_keepsAct 37 = .ok (.goto (-25), 3) := by decide +kernel
theorem dX12_keepsAct_40 : decode cX12_keepsAct 40 = .ok (.aload_n 0, 1) := by decide +kernel
theorem dX12_keepsAct_41 : decode cX12_keepsAct 41 = .ok (.dup, 1) := by decide +kernel
theorem dX12_keepsAct_42 : decode cX12_keepsAct 42 = .ok (.getfield 272, 3) := by decide +kernel
theorem dX12_keepsAct_45 : decode cX12_keepsAct 45 = .ok (.iconst 1, 1) := by decide +kernel
theorem dX12_keepsAct_46 : decode cX12_keepsAct 46 = .ok (.isub, 1) := by decide +kernel
theorem dX12_keepsAct_47 : decode cX12_keepsAct 47 = .ok (.putfield 272, 3) := by decide +kernel
theorem dX12_keepsAct_50 : decode cX12_keepsAct 50 = .ok (.iconst 0, 1) := by decide +kernel
theorem dX12_keepsAct_51 : decode cX12_keepsAct 51 = .ok (.istore_n 1, 1) := by decide +kernel
theorem dX12_keepsAct_52 : decode cX12_keepsAct 52 = .ok (.iload_n 1, 1) := by decide +kernel
theorem dX12_keepsAct_53 : decode cX12_keepsAct 53 = .ok (.bipush 62, 2) := by decide +kernel
theorem dX12_keepsAct_55 : decode cX12_keepsAct 55 = .ok (.if_icmp .ge 29, 3) := by decide +kernel
theorem dX12_keepsAct_58 : decode cX12_keepsAct 58 = .ok (.aload_n 0, 1) := by decide +kernel
theorem dX12_keepsAct_59 : decode cX12_keepsAct 59 = .ok (.getfield 52, 3) := by decide +kernel
theorem dX12_keepsAct_62 : decode cX12_keepsAct 62 = .ok (.bipush 62, 2) := by decide +kernel
theorem dX12_keepsAct_64 : decode cX12_keepsAct 64 = .ok (.aload_n 0, 1) := by decide +kernel
theorem dX12_keepsAct_65 : decode cX12_keepsAct 65 = .ok (.getfield 272, 3) := by decide +kernel
theorem dX12_keepsAct_68 : decode cX12_keepsAct 68 = .ok (.imul, 1) := by decide +kernel
theorem dX12_keepsAct_69 : decode cX12_keepsAct 69 = .ok (.iload_n 1, 1) := by decide +kernel
theorem dX12_keepsAct_70 : decode cX12_keepsAct 70 = .ok (.iadd, 1) := by decide +kernel
theorem dX12_keepsAct_71 : decode cX12_keepsAct 71 = .ok (.aload_n 0, 1) := by decide +kernel
theorem dX12_keepsAct_72 : decode cX12_keepsAct 72 = .ok (.getfield 39, 3) := by decide +kernel
theorem dX12_keepsAct_75 : decode cX12_keepsAct 75 = .ok (.iload_n 1, 1) := by decide +kernel
theorem dX12_keepsAct_76 : decode cX12_keepsAct 76 = .ok (.iaload, 1) := by decide +kernel
theorem dX12_keepsAct_77 : decode cX12_keepsAct 77 = .ok (.iastore, 1) := by decide +kernel
theorem dX12_keepsAct_78 : decode cX12_keepsAct 78 = .ok (.iinc 1 1, 3) := by decide +kernel
theorem dX12_keepsAct_81 : decode cX12_keepsAct 81 = .ok (.goto (-29), 3) := by decide +kernel
theorem dX12_keepsAct_84 : decode cX12_keepsAct 84 = .ok (.aload_n 0, 1) := by decide +kernel
theorem dX12_keepsAct_85 : decode cX12_keepsAct 85 = .ok (.dup, 1) := by decide +kernel
theorem dX12_keepsAct_86 : decode cX12_keepsAct 86 = .ok (.getfield 272, 3) := by decide +kernel
theorem dX12_keepsAct_89 : decode cX12_keepsAct 89 = .ok (.iconst 1, 1) := by decide +kernel
theorem dX12_keepsAct_90 : decode cX12_keepsAct 90 = .ok (.iadd, 1) := by decide +kernel
theorem dX12_keepsAct_91 : decode cX12_keepsAct 91 = .ok (.putfield 272, 3) := by decide +kernel
theorem dX12_keepsAct_94 : decode cX12_keepsAct 94 = .ok (.return_, 1) := by decide +kernel
theorem dX12_undo_0 : decode cX12_undo 0 = .ok (.aload_n 0, 1) := by decide +kernel
theorem dX12_undo_1 : decode cX12_undo 1 = .ok (.getfield 272, 3) := by decide +kernel
theorem dX12_undo_4 : decode cX12_undo 4 = .ok (.ifCond .ne 5, 3) := by decide +kernel
theorem dX12_undo_7 : decode cX12_undo 7 = .ok (.iconst (-1), 1) := by decide +kernel
theorem dX12_undo_8 : decode cX12_undo 8 = .ok (.ireturn, 1) := by decide +kernel
theorem dX12_undo_9 : decode cX12_undo 9 = .ok (.aload_n 0, 1) := by decide +kernel
theorem dX12_undo_10 : decode cX12_undo 10 = .ok (.dup, 1) := by decide +kernel
theorem dX12_undo_11 : decode cX12_undo 11 = .ok (.getfield 272, 3) := by decide +kernel
theorem dX12_undo_14 : decode cX12_undo 14 = .ok (.iconst 1, 1) := by decide +kernel
theorem dX12_undo_15 : decode cX12_undo 15 = .ok (.isub, 1) := by decide +kernel
theorem dX12_undo_16 : decode cX12_undo 16 = .ok (.putfield 272, 3) := by decide +kernel
theorem dX12_undo_19 : decode cX12_undo 19 = .ok (.iconst 0, 1) := by decide +kernel
theorem dX12_undo_20 : decode cX12_undo 20 = .ok (.istore_n 1, 1) := by decide +kernel
theorem dX12_undo_21 : decode cX12_undo 21 = .ok (.iload_n 1, 1) := by decide +kernel
theorem dX12_undo_22 : decode cX12_undo 22 = .ok (.bipush 62, 2) := by decide +kernel
theorem dX12_undo_24 : decode cX12_undo 24 = .ok (.if_icmp .ge 29, 3) := by decide +kernel
theorem dX12_undo_27 : decode cX12_undo 27 = .ok (.aload_n 0, 1) := by decide +kernel
theorem dX12_undo_28 : decode cX12_undo 28 = .ok (.getfield 39, 3) := by decide +kernel
theorem dX12_undo_31 : decode cX12_undo 31 = .ok (.iload_n 1, 1) := by decide +kernel
theorem dX12_undo_32 : decode cX12_undo 32 = .ok (.aload_n 0, 1) := by decide +kernel
theorem dX12_undo_33 : decode cX12_undo 33 = .ok (.getfield 52, 3) := by decide +kernel
theorem dX12_undo_36 : decode cX12_undo 36 = .ok (.bipush 62, 2) := by decide +kernel
theorem dX12_undo_38 : decode cX12_undo 38 = .ok (.aload_n 0, 1) := by decide +kernel
theorem dX12_undo_39 : decode cX12_undo 39 = .ok (.getfield 272, 3) := by decide +kernel
theorem dX12_undo_42 : decode cX12_undo 42 = .ok (.imul, 1) := by decide +kernel
theorem dX12_undo_43 : decode cX12_undo 43 = .ok (.iload_n 1, 1) := by decide +kernel
theorem dX12_undo_44 : decode cX12_undo 44 = .ok (.iadd, 1) := by decide +kernel
theorem dX12_undo_45 : decode cX12_undo 45 = .ok (.iaload, 1) := by decide +kernel
theorem dX12_undo_46 : decode cX12_undo 46 = .ok (.iastore, 1) := by decide +kernel
theorem dX12_undo_47 : decode cX12_undo 47 = .ok (.iinc 1 1, 3) := by decide +kernel
theorem dX12_undo_50 : decode cX12_undo 50 = .ok (.goto (-29), 3) := by decide +kernel
theorem dX12_undo_53 : decode cX12_undo 53 = .ok (.aload_n 0, 1) := by decide +kernel
theorem dX12_undo_54 : decode cX12_undo 54 = .ok (.getfield 272, 3) := by decide +kernel
theorem dX12_undo_57 : decode cX12_undo 57 = .ok (.ireturn, 1) := by decide +kernel
theorem dX12_hour_0 : decode cX12_hour 0 = .ok (.aload_n 0, 1) := by decide +kernel
theorem dX12_hour_1 : decode cX12_hour 1 = .ok (.invokevirtual 369, 3) := by decide +kernel
theorem dX12_hour_4 : decode cX12_hour 4 = .ok (.ifCond .eq 15, 3) := by decide +kernel
theorem dX12_hour_7 : decode cX12_hour 7 = .ok (.aload_n 0, 1) := by decide +kernel
theorem dX12_hour_8 : decode cX12_hour 8 = .ok (.getfield 39, 3) := by decide +kernel
theorem dX12_hour_11 : decode cX12_hour 11 = .ok (.iconst 2, 1) := by decide +kernel
theorem dX12_hour_12 : decode cX12_hour 12 = .ok (.iaload, 1) := by decide +kernel
theorem dX12_hour_13 : decode cX12_hour 13 = .ok (.sipush 999, 3) := by decide +kernel
theorem dX12_hour_16 : decode cX12_hour 16 = .ok (.if_icmp .ne 5, 3) := by decide +kernel
theorem dX12_hour_19 : decode cX12_hour 19 = .ok (.iconst (-1), 1) := by decide +kernel
theorem dX12_hour_20 : decode cX12_hour 20 = .ok (.ireturn, 1) := by decide +kernel
theorem dX12_hour_21 : decode cX12_hour 21 = .ok (.aload_n 0, 1) := by decide +kernel
theorem dX12_hour_22 : decode cX12_hour 22 = .ok (.invokevirtual 372, 3) := by decide +kernel
theorem dX12_hour_25 : decode cX12_hour 25 = .ok (.aload_n 0, 1) := by decide +kernel
theorem dX12_hour_26 : decode cX12_hour 26 = .ok (.invokevirtual 375, 3) := by decide +kernel
theorem dX12_hour_29 : decode cX12_hour 29 = .ok (.ireturn, 1) := by decide +kernel
theorem dX12_stepTo_0 : decode cX12_stepTo 0 = .ok (.aload_n 0, 1) := by decide +kernel
theorem dX12_stepTo_1 : decode cX12_stepTo 1 = .ok (.aload_n 0, 1) := by decide +kernel
theorem dX12_stepTo_2 : decode cX12_stepTo 2 = .ok (.iload_n 1, 1) := by decide +kernel
theorem dX12_stepTo_3 : decode cX12_stepTo 3 = .ok (.iconst 0, 1) := by decide +kernel
theorem dX12_stepTo_4 : decode cX12_stepTo 4 = .ok (.invokevirtual 290, 3) := by decide +kernel
theorem dX12_stepTo_7 : decode cX12_stepTo 7 = .ok (.iload_n 2, 1) := by decide +kernel
theorem dX12_stepTo_8 : decode cX12_stepTo 8 = .ok (.invokevirtual 312, 3) := by decide +kernel
theorem dX12_stepTo_11 : decode cX12_stepTo 11 = .ok (.istore_n 3, 1) := by decide +kernel
theorem dX12_stepTo_12 : decode cX12_stepTo 12 = .ok (.iload_n 3, 1) := by decide +kernel
theorem dX12_stepTo_13 : decode cX12_stepTo 13 = .ok (.ifCond .lt 21, 3) := by decide +kernel
theorem dX12_stepTo_16 : decode cX12_stepTo 16 = .ok (.aload_n 0, 1) := by decide +kernel
theorem dX12_stepTo_17 : decode cX12_stepTo 17 = .ok (.iload_n 3, 1) := by decide +kernel
theorem dX12_stepTo_18 : decode cX12_stepTo 18 = .ok (.invokevirtual 330, 3) := by decide +kernel
theorem dX12_stepTo_21 : decode cX12_stepTo 21 = .ok (.aload_n 0, 1) := by decide +kernel
theorem dX12_stepTo_22 : decode cX12_stepTo 22 = .ok (.iload_n 3, 1) := by decide +kernel
theorem dX12_stepTo_23 : decode cX12_stepTo 23 = .ok (.iconst 0, 1) := by decide +kernel
theorem dX12_stepTo_24 : decode cX12_stepTo 24 = .ok (.invokevirtual 297, 3) := by decide +kernel
theorem dX12_stepTo_27 : decode cX12_stepTo 27 = .ok (.if_icmp .ge 7, 3) := by decide +kernel
theorem dX12_stepTo_30 : decode cX12_stepTo 30 = .ok (.iload_n 3, 1) := by decide +kernel
theorem dX12_stepTo_31 : decode cX12_stepTo 31 = .ok (.goto 4, 3) := by decide +kernel
theorem dX12_stepTo_34 : decode cX12_stepTo 34 = .ok (.iconst (-1), 1) := by decide +kernel
theorem dX12_stepTo_35 : decode cX12_stepTo 35 = .ok (.ireturn, 1) := by decide +kernel
theorem dX12_step_0 : decode cX12_step 0 = .ok (.aload_n 0, 1) := by decide +kernel
theorem dX12_step_1 : decode cX12_step 1 = .ok (.iload_n 1, 1) := by decide +kernel
theorem dX12_step_2 : decode cX12_step 2 = .ok (.invokevirtual 309, 3) := by decide +kernel
theorem dX12_step_5 : decode cX12_step 5 = .ok (.ifCond .ne 5, 3) := by decide +kernel
theorem dX12_step_8 : decode cX12_step 8 = .ok (.iconst (-1), 1) := by decide +kernel
theorem dX12_step_9 : decode cX12_step 9 = .ok (.ireturn, 1) := by decide +kernel
theorem dX12_step_10 : decode cX12_step 10 = .ok (.aload_n 0, 1) := by decide +kernel
theorem dX12_step_11 : decode cX12_step 11 = .ok (.iload_n 1, 1) := by decide +kernel
theorem dX12_step_12 : decode cX12_step 12 = .ok (.iload_n 2, 1) := by decide +kernel
theorem dX12_step_13 : decode cX12_step 13 = .ok (.ifCond .eq 7, 3) := by decide +kernel
theorem dX12_step_16 : decode cX12_step 16 = .ok (.iconst 1, 1) := by decide +kernel
theorem dX12_step_17 : decode cX12_step 17 = .ok (.goto 4, 3) := by decide +kernel
theorem dX12_step_20 : decode cX12_step 20 = .ok (.iconst (-1), 1) := by decide +kernel
theorem dX12_step_21 : decode cX12_step 21 = .ok (.invokevirtual 378, 3) := by decide +kernel
theorem dX12_step_24 : decode cX12_step 24 = .ok (.istore_n 3, 1) := by decide +kernel
theorem dX12_step_25 : decode cX12_step 25 = .ok (.iload_n 3, 1) := by decide +kernel
theorem dX12_step_26 : decode cX12_step 26 = .ok (.ifCond .ge 5, 3) := by decide +kernel
theorem dX12_step_29 : decode cX12_step 29 = .ok (.iconst (-1), 1) := by decide +kernel
theorem dX12_step_30 : decode cX12_step 30 = .ok (.ireturn, 1) := by decide +kernel
theorem dX12_step_31 : decode cX12_step 31 = .ok (.aload_n 0, 1) := by decide +kernel
theorem dX12_step_32 : decode cX12_step 32 = .ok (.invokevirtual 372, 3) := by decide +kernel
theorem dX12_step_35 : decode cX12_step 35 = .ok (.aload_n 0, 1) := by decide +kernel
theorem dX12_step_36 : decode cX12_step 36 = .ok (.getfield 39, 3) := by decide +kernel
theorem dX12_step_39 : decode cX12_step 39 = .ok (.bipush 46, 2) := by decide +kernel
theorem dX12_step_41 : decode cX12_step 41 = .ok (.iconst 4, 1) := by decide +kernel
theorem dX12_step_42 : decode cX12_step 42 = .ok (.iload_n 1, 1) := by decide +kernel
theorem dX12_step_43 : decode cX12_step 43 = .ok (.imul, 1) := by decide +kernel
theorem dX12_step_44 : decode cX12_step 44 = .ok (.iadd, 1) := by decide +kernel
theorem dX12_step_45 : decode cX12_step 45 = .ok (.iload_n 3, 1) := by decide +kernel
theorem dX12_step_46 : decode cX12_step 46 = .ok (.iastore, 1) := by decide +kernel
theorem dX12_step_47 : decode cX12_step 47 = .ok (.iload_n 3, 1) := by decide +kernel
theorem dX12_step_48 : decode cX12_step 48 = .ok (.ireturn, 1) := by decide +kernel
theorem dX12_canPass_0 : decode cX12_canPass 0 = .ok (.iload_n 1, 1) := by decide +kernel
theorem dX12_canPass_1 : decode cX12_canPass 1 = .ok (.iload_n 2, 1) := by decide +kernel
theorem dX12_canPass_2 : decode cX12_canPass 2 = .ok (.if_icmp .eq 63, 3) := by decide +kernel
theorem dX12_canPass_5 : decode cX12_canPass 5 = .ok (.aload_n 0, 1) := by decide +kernel
theorem dX12_canPass_6 : decode cX12_canPass 6 = .ok (.iload_n 1, 1) := by decide +kernel
theorem dX12_canPass_7 : decode cX12_canPass 7 = .ok (.invokevirtual 335, 3) := by decide +kernel
theorem dX12_canPass_10 : decode cX12_canPass 10 = .ok (.ifCond .eq 55, 3) := by decide +kernel
theorem dX12_canPass_13 : decode cX12_canPass 13 = .ok (.aload_n 0, 1) := by decide +kernel
theorem dX12_canPass_14 : decode cX12_canPass 14 = .ok (.iload_n 2, 1) := by decide +kernel
theorem dX12_canPass_15 : decode cX12_canPass 15 = .ok (.invokevirtual 335, 3) := by decide +kernel
theorem dX12_canPass_18 : decode cX12_canPass 18 = .ok (.ifCond .eq 47, 3) := by decide +kernel
theorem dX12_canPass_21 : decode cX12_canPass 21 = .ok (.aload_n 0, 1) := by decide +kernel
theorem dX12_canPass_22 : decode cX12_canPass 22 = .ok (.aload_n 0, 1) := by decide +kernel
theorem dX12_canPass_23 : decode cX12_canPass 23 = .ok (.iload_n 1, 1) := by decide +kernel
theorem dX12_canPass_24 : decode cX12_canPass 24 = .ok (.iconst 0, 1) := by decide +kernel
theorem dX12_canPass_25 : decode cX12_canPass 25 = .ok (.invokevirtual 290, 3) := by decide +kernel
theorem dX12_canPass_28 : decode cX12_canPass 28 = .ok (.iconst 1, 1) := by decide +kernel
theorem dX12_canPass_29 : decode cX12_canPass 29 = .ok (.invokevirtual 312, 3) := by decide +kernel
theorem dX12_canPass_32 : decode cX12_canPass 32 = .ok (.aload_n 0, 1) := by decide +kernel
theorem dX12_canPass_33 : decode cX12_canPass 33 = .ok (.iload_n 2, 1) := by decide +kernel
theorem dX12_canPass_34 : decode cX12_canPass 34 = .ok (.iconst 0, 1) := by decide +kernel
theorem dX12_canPass_35 : decode cX12_canPass 35 = .ok (.invokevirtual 290, 3) := by decide +kernel
theorem dX12_canPass_38 : decode cX12_canPass 38 = .ok (.if_icmp .eq 23, 3) := by decide +kernel
theorem dX12_canPass_41 : decode cX12_canPass 41 = .ok (.aload_n 0, 1) := by decide +kernel
theorem dX12_canPass_42 : decode cX12_canPass 42 = .ok (.aload_n 0, 1) := by decide +kernel
theorem dX12_canPass_43 : decode cX12_canPass 43 = .ok (.iload_n 2, 1) := by decide +kernel
theorem dX12_canPass_44 : decode cX12_canPass 44 = .ok (.iconst 0, 1) := by decide +kernel
theorem dX12_canPass_45 : decode cX12_canPass 45 = .ok (.invokevirtual 290, 3) := by decide +kernel
theorem dX12_canPass_48 : decode cX12_canPass 48 = .ok (.iconst 1, 1) := by decide +kernel
theorem dX12_canPass_49 : decode cX12_canPass 49 = .ok (.invokevirtual 312, 3) := by decide +kernel
theorem dX12_canPass_52 : decode cX12_canPass 52 = .ok (.aload_n 0, 1) := by decide +kernel
theorem dX12_canPass_53 : decode cX12_canPass 53 = .ok (.iload_n 1, 1) := by decide +kernel
theorem dX12_canPass_54 : decode cX12_canPass 54 = .ok (.iconst 0, 1) := by decide +kernel
theorem dX12_canPass_55 : decode cX12_canPass 55 = .ok (.invokevirtual 290, 3) := by decide +kernel
theorem dX12_canPass_58 : decode cX12_canPass 58 = .ok (.if_icmp .ne 7, 3) := by decide +kernel
theorem dX12_canPass_61 : decode cX12_canPass 61 = .ok (.iconst 1, 1) := by decide +kernel
theorem dX12_canPass_62 : decode cX12_canPass 62 = .ok (.goto 4, 3) := by decide +kernel
theorem dX12_canPass_65 : decode cX12_canPass 65 = .ok (.iconst 0, 1) := by decide +kernel
theorem dX12_canPass_66 : decode cX12_canPass 66 = .ok (.ireturn, 1) := by decide +kernel
theorem dX12_swaps_0 : decode cX12_swaps 0 = .ok (.aload_n 0, 1) := by decide +kernel
theorem dX12_swaps_1 : decode cX12_swaps 1 = .ok (.iload_n 1, 1) := by decide +kernel
theorem dX12_swaps_2 : decode cX12_swaps 2 = .ok (.iconst 0, 1) := by decide +kernel
theorem dX12_swaps_3 : decode cX12_swaps 3 = .ok (.invokevirtual 290, 3) := by decide +kernel
theorem dX12_swaps_6 : decode cX12_swaps 6 = .ok (.istore_n 3, 1) := by decide +kernel
theorem dX12_swaps_7 : decode cX12_swaps 7 = .ok (.aload_n 0, 1) := by decide +kernel
theorem dX12_swaps_8 : decode cX12_swaps 8 = .ok (.getfield 39, 3) := by decide +kernel
theorem dX12_swaps_11 : decode cX12_swaps 11 = .ok (.bipush 46, 2) := by decide +kernel
theorem dX12_swaps_13 : decode cX12_swaps 13 = .ok (.iconst 4, 1) := by decide +kernel
theorem dX12_swaps_14 : decode cX12_swaps 14 = .ok (.iload_n 1, 1) := by decide +kernel
theorem dX12_swaps_15 : decode cX12_swaps 15 = .ok (.imul, 1) := by decide +kernel
theorem dX12_swaps_16 : decode cX12_swaps 16 = .ok (.iadd, 1) := by decide +kernel
theorem dX12_swaps_17 : decode cX12_swaps 17 = .ok (.aload_n 0, 1) := by decide +kernel
theorem dX12_swaps_18 : decode cX12_swaps 18 = .ok (.iload_n 2, 1) := by decide +kernel
theorem dX12_swaps_19 : decode cX12_swaps 19 = .ok (.iconst 0, 1) := by decide +kernel
theorem dX12_swaps_20 : decode cX12_swaps 20 = .ok (.invokevirtual 290, 3) := by decide +kernel
theorem dX12_swaps_23 : decode cX12_swaps 23 = .ok (.iastore, 1) := by decide +kernel
theorem dX12_swaps_24 : decode cX12_swaps 24 = .ok (.aload_n 0, 1) := by decide +kernel
theorem dX12_swaps_25 : decode cX12_swaps 25 = .ok (.getfield 39, 3) := by decide +kernel
theorem dX12_swaps_28 : decode cX12_swaps 28 = .ok (.bipush 46, 2) := by decide +kernel
theorem dX12_swaps_30 : decode cX12_swaps 30 = .ok (.iconst 4, 1) := by decide +kernel
theorem dX12_swaps_31 : decode cX12_swaps 31 = .ok (.iload_n 2, 1) := by decide +kernel
theorem dX12_swaps_32 : decode cX12_swaps 32 = .ok (.imul, 1) := by decide +kernel
theorem dX12_swaps_33 : decode cX12_swaps 33 = .ok (.iadd, 1) := by decide +kernel
theorem dX12_swaps_34 : decode cX12_swaps 34 = .ok (.iload_n 3, 1) := by decide +kernel
theorem dX12_swaps_35 : decode cX12_swaps 35 = .ok (.iastore, 1) := by decide +kernel
theorem dX12_swaps_36 : decode cX12_swaps 36 = .ok (.return_, 1) := by decide +kernel
theorem dX12_pass_0 : decode cX12_pass 0 = .ok (.aload_n 0, 1) := by decide +kernel
theorem dX12_pass_1 : decode cX12_pass 1 = .ok (.iload_n 1, 1) := by decide +kernel
theorem dX12_pass_2 : decode cX12_pass 2 = .ok (.invokevirtual 309, 3) := by decide +kernel
theorem dX12_pass_5 : decode cX12_pass 5 = .ok (.ifCond .eq 20, 3) := by decide +kernel
theorem dX12_pass_8 : decode cX12_pass 8 = .ok (.aload_n 0, 1) := by decide +kernel
theorem dX12_pass_9 : decode cX12_pass 9 = .ok (.iload_n 2, 1) := by decide +kernel
theorem dX12_pass_10 : decode cX12_pass 10 = .ok (.invokevirtual 309, 3) := by decide +kernel
theorem dX12_pass_13 : decode cX12_pass 13 = .ok (.ifCond .eq 12, 3) := by decide +kernel
theorem dX12_pass_16 : decode cX12_pass 16 = .ok (.aload_n 0, 1) := by decide +kernel
theorem dX12_pass_17 : decode cX12_pass 17 = .ok (.iload_n 1, 1) := by decide +kernel
theorem dX12_pass_18 : decode cX12_pass 18 = .ok (.iload_n 2, 1) := by decide +kernel
theorem dX12_pass_19 : decode cX12_pass 19 = .ok (.invokevirtual 381, 3) := by decide +kernel
theorem dX12_pass_22 : decode cX12_pass 22 = .ok (.ifCond .ne 5, 3) := by decide +kernel
theorem dX12_pass_25 : decode cX12_pass 25 = .ok (.iconst 0, 1) := by decide +kernel
theorem dX12_pass_26 : decode cX12_pass 26 = .ok (.ireturn, 1) := by decide +kernel
theorem dX12_pass_27 : decode cX12_pass 27 = .ok (.aload_n 0, 1) := by decide +kernel
theorem dX12_pass_28 : decode cX12_pass 28 = .ok (.invokevirtual 372, 3) := by decide +kernel
theorem dX12_pass_31 : decode cX12_pass 31 = .ok (.aload_n 0, 1) := by decide +kernel
theorem dX12_pass_32 : decode cX12_pass 32 = .ok (.iload_n 1, 1) := by decide +kernel
theorem dX12_pass_33 : decode cX12_pass 33 = .ok (.iload_n 2, 1) := by decide +kernel
theorem dX12_pass_34 : decode cX12_pass 34 = .ok (.invokevirtual 384, 3) := by decide +kernel
theorem dX12_pass_37 : decode cX12_pass 37 = .ok (.iconst 1, 1) := by decide +kernel
theorem dX12_pass_38 : decode cX12_pass 38 = .ok (.ireturn, 1) := by decide +kernel
theorem dX12_mends_0 : decode cX12_mends 0 = .ok (.aload_n 0, 1) := by decide +kernel
theorem dX12_mends_1 : decode cX12_mends 1 = .ok (.getfield 39, 3) := by decide +kernel
theorem dX12_mends_4 : decode cX12_mends 4 = .ok (.bipush 10, 2) := by decide +kernel
theorem dX12_mends_6 : decode cX12_mends 6 = .ok (.iconst 4, 1) := by decide +kernel
theorem dX12_mends_7 : decode cX12_mends 7 = .ok (.iload_n 1, 1) := by decide +kernel
theorem dX12_mends_8 : decode cX12_mends 8 = .ok (.imul, 1) := by decide +kernel
theorem dX12_mends_9 : decode cX12_mends 9 = .ok (.iadd, 1) := by decide +kernel
theorem dX12_mends_10 : decode cX12_mends 10 = .ok (.iconst 2, 1) := by decide +kernel
theorem dX12_mends_11 : decode cX12_mends 11 = .ok (.iadd, 1) := by decide +kernel
theorem dX12_mends_12 : decode cX12_mends 12 = .ok (.dup2, 1) := by decide +kernel
theorem dX12_mends_13 : decode cX12_mends 13 = .ok (.iaload, 1) := by decide +kernel
theorem dX12_mends_14 : decode cX12_mends 14 = .ok (.iconst 2, 1) := by decide +kernel
theorem dX12_mends_15 : decode cX12_mends 15 = .ok (.idiv, 1) := by decide +kernel
theorem dX12_mends_16 : decode cX12_mends 16 = .ok (.iastore, 1) := by decide +kernel
theorem dX12_mends_17 : decode cX12_mends 17 = .ok (.aload_n 0, 1) := by decide +kernel
theorem dX12_mends_18 : decode cX12_mends 18 = .ok (.getfield 39, 3) := by decide +kernel
theorem dX12_mends_21 : decode cX12_mends 21 = .ok (.bipush 10, 2) := by decide +kernel
theorem dX12_mends_23 : decode cX12_mends 23 = .ok (.iconst 4, 1) := by decide +kernel
theorem dX12_mends_24 : decode cX12_mends 24 = .ok (.iload_n 1, 1) := by decide +kernel
theorem dX12_mends_25 : decode cX12_mends 25 = .ok (.imul, 1) := by decide +kernel
theorem dX12_mends_26 : decode cX12_mends 26 = .ok (.iadd, 1) := by decide +kernel
theorem dX12_mends_27 : decode cX12_mends 27 = .ok (.iconst 3, 1) := by decide +kernel
theorem dX12_mends_28 : decode cX12_mends 28 = .ok (.iadd, 1) := by decide +kernel
theorem dX12_mends_29 : decode cX12_mends 29 = .ok (.iconst 0, 1) := by decide +kernel
theorem dX12_mends_30 : decode cX12_mends 30 = .ok (.iastore, 1) := by decide +kernel
theorem dX12_mends_31 : decode cX12_mends 31 = .ok (.return_, 1) := by decide +kernel
theorem dX12_canMend_0 : decode cX12_canMend 0 = .ok (.aload_n 0, 1) := by decide +kernel
theorem dX12_canMend_1 : decode cX12_canMend 1 = .ok (.iload_n 1, 1) := by decide +kernel
theorem dX12_canMend_2 : decode cX12_canMend 2 = .ok (.iconst 2, 1) := by decide +kernel
theorem dX12_canMend_3 : decode cX12_canMend 3 = .ok (.invokevirtual 297, 3) := by decide +kernel
theorem dX12_canMend_6 : decode cX12_canMend 6 = .ok (.ifCond .gt 13, 3) := by decide +kernel
theorem dX12_canMend_9 : decode cX12_canMend 9 = .ok (.aload_n 0, 1) := by decide +kernel
theorem dX12_canMend_10 : decode cX12_canMend 10 = .ok (.iload_n 1, 1) := by decide +kernel
theorem dX12_canMend_11 : decode cX12_canMend 11 = .ok (.iconst 3, 1) := by decide +kernel
theorem dX12_canMend_12 : decode cX12_canMend 12 = .ok (.invokevirtual 297, 3) := by decide +kernel
theorem dX12_canMend_15 : decode cX12_canMend 15 = .ok (.iconst 1, 1) := by decide +kernel
theorem dX12_canMend_16 : decode cX12_canMend 16 = .ok (.if_icmp .ne 7, 3) := by decide +kernel
theorem dX12_canMend_19 : decode cX12_canMend 19 = .ok (.iconst 1, 1) := by decide +kernel
theorem dX12_canMend_20 : decode cX12_canMend 20 = .ok (.goto 4, 3) := by decide +kernel
theorem dX12_canMend_23 : decode cX12_canMend 23 = .ok (.iconst 0, 1) := by decide +kernel
theorem dX12_canMend_24 : decode cX12_canMend 24 = .ok (.ireturn, 1) := by decide +kernel
theorem dX12_mend_0 : decode cX12_mend 0 = .ok (.aload_n 0, 1) := by decide +kernel
theorem dX12_mend_1 : decode cX12_mend 1 = .ok (.iload_n 1, 1) := by decide +kernel
theorem dX12_mend_2 : decode cX12_mend 2 = .ok (.invokevirtual 294, 3) := by decide +kernel
theorem dX12_mend_5 : decode cX12_mend 5 = .ok (.ifCond .eq 11, 3) := by decide +kernel
theorem dX12_mend_8 : decode cX12_mend 8 = .ok (.aload_n 0, 1) := by decide +kernel
theorem dX12_mend_9 : decode cX12_mend 9 = .ok (.iload_n 1, 1) := by decide +kernel
theorem dX12_mend_10 : decode cX12_mend 10 = .ok (.invokevirtual 387, 3) := by decide +kernel
theorem dX12_mend_13 : decode cX12_mend 13 = .ok (.ifCond .ne 5, 3) := by decide +kernel
theorem dX12_mend_16 : decode cX12_mend 16 = .ok (.iconst (-1), 1) := by decide +kernel
theorem dX12_mend_17 : decode cX12_mend 17 = .ok (.ireturn, 1) := by decide +kernel
theorem dX12_mend_18 : decode cX12_mend 18 = .ok (.aload_n 0, 1) := by decide +kernel
theorem dX12_mend_19 : decode cX12_mend 19 = .ok (.invokevirtual 372, 3) := by decide +kernel
theorem dX12_mend_22 : decode cX12_mend 22 = .ok (.aload_n 0, 1) := by decide +kernel
theorem dX12_mend_23 : decode cX12_mend 23 = .ok (.iload_n 1, 1) := by decide +kernel
theorem dX12_mend_24 : decode cX12_mend 24 = .ok (.invokevirtual 390, 3) := by decide +kernel
theorem dX12_mend_27 : decode cX12_mend 27 = .ok (.aload_n 0, 1) := by decide +kernel
theorem dX12_mend_28 : decode cX12_mend 28 = .ok (.iload_n 1, 1) := by decide +kernel
theorem dX12_mend_29 : decode cX12_mend 29 = .ok (.iconst 2, 1) := by decide +kernel
theorem dX12_mend_30 : decode cX12_mend 30 = .ok (.invokevirtual 297, 3) := by decide +kernel
theorem dX12_mend_33 : decode cX12_mend 33 = .ok (.ireturn, 1) := by decide +kernel
theorem dX12_cut_0 : decode cX12_cut 0 = .ok (.aload_n 0, 1) := by decide +kernel
theorem dX12_cut_1 : decode cX12_cut 1 = .ok (.iload_n 1, 1) := by decide +kernel
theorem dX12_cut_2 : decode cX12_cut 2 = .ok (.invokevirtual 300, 3) := by decide +kernel
theorem dX12_cut_5 : decode cX12_cut 5 = .ok (.ifCond .ne 5, 3) := by decide +kernel
theorem dX12_cut_8 : decode cX12_cut 8 = .ok (.iconst (-1), 1) := by decide +kernel
theorem dX12_cut_9 : decode cX12_cut 9 = .ok (.ireturn, 1) := by decide +kernel
theorem dX12_cut_10 : decode cX12_cut 10 = .ok (.aload_n 0, 1) := by decide +kernel
theorem dX12_cut_11 : decode cX12_cut 11 = .ok (.invokevirtual 372, 3) := by decide +kernel
theorem dX12_cut_14 : decode cX12_cut 14 = .ok (.aload_n 0, 1) := by decide +kernel
theorem dX12_cut_15 : decode cX12_cut 15 = .ok (.iload_n 1, 1) := by decide +kernel
theorem dX12_cut_16 : decode cX12_cut 16 = .ok (.invokevirtual 354, 3) := by decide +kernel
theorem dX12_cut_19 : decode cX12_cut 19 = .ok (.ireturn, 1) := by decide +kernel
theorem dX12_aim_0 : decode cX12_aim 0 = .ok (.aload_n 0, 1) := by decide +kernel
theorem dX12_aim_1 : decode cX12_aim 1 = .ok (.iload_n 1, 1) := by decide +kernel
theorem dX12_aim_2 : decode cX12_aim 2 = .ok (.invokevirtual 309, 3) := by decide +kernel
theorem dX12_aim_5 : decode cX12_aim 5 = .ok (.ifCond .eq 29, 3) := by decide +kernel
theorem dX12_aim_8 : decode cX12_aim 8 = .ok (.aload_n 0, 1) := by decide +kernel
theorem dX12_aim_9 : decode cX12_aim 9 = .ok (.iload_n 1, 1) := by decide +kernel
theorem dX12_aim_10 : decode cX12_aim 10 = .ok (.invokevirtual 335, 3) := by decide +kernel
theorem dX12_aim_13 : decode cX12_aim 13 = .ok (.ifCond .eq 21, 3) := by decide +kernel
theorem dX12_aim_16 : decode cX12_aim 16 = .ok (.aload_n 0, 1) := by decide +kernel
theorem dX12_aim_17 : decode cX12_aim 17 = .ok (.iload_n 2, 1) := by decide +kernel
theorem dX12_aim_18 : decode cX12_aim 18 = .ok (.invokevirtual 294, 3) := by decide +kernel
theorem dX12_aim_21 : decode cX12_aim 21 = .ok (.ifCond .eq 13, 3) := by decide +kernel
theorem dX12_aim_24 : decode cX12_aim 24 = .ok (.aload_n 0, 1) := by decide +kernel
theorem dX12_aim_25 : decode cX12_aim 25 = .ok (.iload_n 1, 1) := by decide +kernel
theorem dX12_aim_26 : decode cX12_aim 26 = .ok (.iconst 2, 1) := by decide +kernel
theorem dX12_aim_27 : decode cX12_aim 27 = .ok (.invokevirtual 290, 3) := by decide +kernel
theorem dX12_aim_30 : decode cX12_aim 30 = .ok (.iload_n 2, 1) := by decide +kernel
theorem dX12_aim_31 : decode cX12_aim 31 = .ok (.if_icmp .ne 5, 3) := by decide +kernel
theorem dX12_aim_34 : decode cX12_aim 34 = .ok (.iconst (-1), 1) := by decide +kernel
theorem dX12_aim_35 : decode cX12_aim 35 = .ok (.ireturn, 1) := by decide +kernel
theorem dX12_aim_36 : decode cX12_aim 36 = .ok (.aload_n 0, 1) := by decide +kernel
theorem dX12_aim_37 : decode cX12_aim 37 = .ok (.invokevirtual 372, 3) := by decide +kernel
theorem dX12_aim_40 : decode cX12_aim 40 = .ok (.aload_n 0, 1) := by decide +kernel
theorem dX12_aim_41 : decode cX12_aim 41 = .ok (.iload_n 1, 1) := by decide +kernel
theorem dX12_aim_42 : decode cX12_aim 42 = .ok (.iconst 2, 1) := by decide +kernel
theorem dX12_aim_43 : decode cX12_aim 43 = .ok (.invokevirtual 290, 3) := by decide +kernel
theorem dX12_aim_46 : decode cX12_aim 46 = .ok (.istore_n 3, 1) := by decide +kernel
theorem dX12_aim_47 : decode cX12_aim 47 = .ok (.aload_n 0, 1) := by decide +kernel
theorem dX12_aim_48 : decode cX12_aim 48 = .ok (.getfield 39, 3) := by decide +kernel
theorem dX12_aim_51 : decode cX12_aim 51 = .ok (.bipush 46, 2) := by decide +kernel
theorem dX12_aim_53 : decode cX12_aim 53 = .ok (.iconst 4, 1) := by decide +kernel
theorem dX12_aim_54 : decode cX12_aim 54 = .ok (.iload_n 1, 1) := by decide +kernel
theorem dX12_aim_55 : decode cX12_aim 55 = .ok (.imul, 1) := by decide +kernel
theorem dX12_aim_56 : decode cX12_aim 56 = .ok (.iadd, 1) := by decide +kernel
theorem dX12_aim_57 : decode cX12_aim 57 = .ok (.iconst 2, 1) := by decide +kernel
theorem dX12_aim_58 : decode cX12_aim 58 = .ok (.iadd, 1) := by decide +kernel
theorem dX12_aim_59 : decode cX12_aim 59 = .ok (.iload_n 2, 1) := by decide +kernel
theorem dX12_aim_60 : decode cX12_aim 60 = .ok (.iastore, 1) := by decide +kernel
theorem dX12_aim_61 : decode cX12_aim 61 = .ok (.iload_n 3, 1) := by decide +kernel
theorem dX12_aim_62 : decode cX12_aim 62 = .ok (.ireturn, 1) := by decide +kernel
theorem dX12_keeps_0 : decode cX12_keeps 0 = .ok (.iconst 0, 1) := by decide +kernel
theorem dX12_keeps_1 : decode cX12_keeps 1 = .ok (.istore_n 1, 1) := by decide +kernel
theorem dX12_keeps_2 : decode cX12_keeps 2 = .ok (.iload_n 1, 1) := by decide +kernel
theorem dX12_keeps_3 : decode cX12_keeps 3 = .ok (.bipush 62, 2) := by decide +kernel
theorem dX12_keeps_5 : decode cX12_keeps 5 = .ok (.if_icmp .ge 21, 3) := by decide +kernel
theorem dX12_keeps_8 : decode cX12_keeps 8 = .ok (.aload_n 0, 1) := by decide +kernel
theorem dX12_keeps_9 : decode cX12_keeps 9 = .ok (.getfield 55, 3) := by decide +kernel
theorem dX12_keeps_12 : decode cX12_keeps 12 = .ok (.iload_n 1, 1) := by decide +kernel
theorem dX12_keeps_13 : decode cX12_keeps 13 = .ok (.aload_n 0, 1) := by decide +kernel
theorem dX12_keeps_14 : decode cX12_keeps 14 = .ok (.getfield 39, 3) := by decide +kernel
theorem dX12_keeps_17 : decode cX12_keeps 17 = .ok (.iload_n 1, 1) := by decide +kernel
theorem dX12_keeps_18 : decode cX12_keeps 18 = .ok (.iaload, 1) := by decide +kernel
theorem dX12_keeps_19 : decode cX12_keeps 19 = .ok (.iastore, 1) := by decide +kernel
theorem dX12_keeps_20 : decode cX12_keeps 20 = .ok (.iinc 1 1, 3) := by decide +kernel
theorem dX12_keeps_23 : decode cX12_keeps 23 = .ok (.goto (-21), 3) := by decide +kernel
theorem dX12_keeps_26 : decode cX12_keeps 26 = .ok (.return_, 1) := by decide +kernel
theorem dX12_laysBack_0 : decode cX12_laysBack 0 = .ok (.iconst 0, 1) := by decide +kernel
theorem dX12_laysBack_1 : decode cX12_laysBack 1 = .ok (.istore_n 1, 1) := by decide +kernel
theorem dX12_laysBack_2 : decode cX12_laysBack 2 = .ok (.iload_n 1, 1) := by decide +kernel
theorem dX12_laysBack_3 : decode cX12_laysBack 3 = .ok (.bipush 62, 2) := by decide +kernel
theorem dX12_laysBack_5 : decode cX12_laysBack 5 = .ok (.if_icmp .ge 21, 3) := by decide +kernel
theorem dX12_laysBack_8 : decode cX12_laysBack 8 = .ok (.aload_n 0, 1) := by decide +kernel
theorem dX12_laysBack_9 : decode cX12_laysBack 9 = .ok (.getfield 39, 3) := by decide +kernel
theorem dX12_laysBack_12 : decode cX12_laysBack 12 = .ok (.iload_n 1, 1) := by decide +kernel
theorem dX12_laysBack_13 : decode cX12_laysBack 13 = .ok (.aload_n 0, 1) := by decide +kernel
theorem dX12_laysBack_14 : decode cX12_laysBack 14 = .ok (.getfield 55, 3) := by decide +kernel
theorem dX12_laysBack_17 : decode cX12_laysBack 17 = .ok (.iload_n 1, 1) := by decide +kernel
theorem dX12_laysBack_18 : decode cX12_laysBack 18 = .ok (.iaload, 1) := by decide +kernel
theorem dX12_laysBack_19 : decode cX12_laysBack 19 = .ok (.iastore, 1) := by decide +kernel
theorem dX12_laysBack_20 : decode cX12_laysBack 20 = .ok (.iinc 1 1, 3) := by decide +kernel
theorem dX12_laysBack_23 : decode cX12_laysBack 23 = .ok (.goto (-21), 3) := by decide +kernel
theorem dX12_laysBack_26 : decode cX12_laysBack 26 = .ok (.return_, 1) := by decide +kernel
theorem dX12_ahead_0 : decode cX12_ahead 0 = .ok (.aload_n 0, 1) := by decide +kernel
theorem dX12_ahead_1 : decode cX12_ahead 1 = .ok (.iload_n 1, 1) := by decide +kernel
theorem dX12_ahead_2 : decode cX12_ahead 2 = .ok (.invokevirtual 309, 3) := by decide +kernel
theorem dX12_ahead_5 : decode cX12_ahead 5 = .ok (.ifCond .eq 27, 3) := by decide +kernel
theorem dX12_ahead_8 : decode cX12_ahead 8 = .ok (.iload_n 2, 1) := by decide +kernel
theorem dX12_ahead_9 : decode cX12_ahead 9 = .ok (.i2l, 1) := by decide +kernel
theorem dX12_ahead_10 : decode cX12_ahead 10 = .ok (.lconst 0, 1) := by decide +kernel
theorem dX12_ahead_11 : decode cX12_ahead 11 = .ok (.ldc2_w 393, 3) := by decide +kernel
theorem dX12_ahead_14 : decode cX12_ahead 14 = .ok (.invokestatic 124, 3) := by decide +kernel
theorem dX12_ahead_17 : decode cX12_ahead 17 = .ok (.ifCond .eq 15, 3) := by decide +kernel
theorem dX12_ahead_20 : decode cX12_ahead 20 = .ok (.iload_n 3, 1) := by decide +kernel
theorem dX12_ahead_21 : decode cX12_ahead 21 = .ok (.i2l, 1) := by decide +kernel
theorem dX12_ahead_22 : decode cX12_ahead 22 = .ok (.lconst 0, 1) := by decide +kernel
theorem dX12_ahead_23 : decode cX12_ahead 23 = .ok (.ldc2_w 395, 3) := by decide +kernel
theorem dX12_ahead_26 : decode cX12_ahead 26 = .ok (.invokestatic 124, 3) := by decide +kernel
theorem dX12_ahead_29 : decode cX12_ahead 29 = .ok (.ifCond .ne 6, 3) := by decide +kernel
theorem dX12_ahead_32 : decode cX12_ahead 32 = .ok (.bipush (-2), 2) := by decide +kernel
theorem dX12_ahead_34 : decode cX12_ahead 34 = .ok (.ireturn, 1) := by decide +kernel
theorem dX12_ahead_35 : decode cX12_ahead 35 = .ok (.aload_n 0, 1) := by decide +kernel
theorem dX12_ahead_36 : decode cX12_ahead 36 = .ok (.invokevirtual 397, 3) := by decide +kernel
theorem dX12_ahead_39 : decode cX12_ahead 39 = .ok (.iconst 0, 1) := by decide +kernel
theorem dX12_ahead_40 : decode cX12_ahead 40 = .ok (.istore 4, 2) := by decide +kernel
theorem dX12_ahead_42 : decode cX12_ahead 42 = .ok (.iload 4, 2) := by decide +kernel
theorem dX12_ahead_44 : decode cX12_ahead 44 = .ok (.iload_n 2, 1) := by decide +kernel
theorem dX12_ahead_45 : decode cX12_ahead 45 = .ok (.if_icmp .ge 14, 3) := by decide +kernel
theorem dX12_ahead_48 : decode cX12_ahead 48 = .ok (.aload_n 0, 1) := by decide +kernel
theorem dX12_ahead_49 : decode cX12_ahead 49 = .ok (.invokevirtual 375, 3) := by decide +kernel
theorem dX12_ahead_52 : decode cX12_ahead 52 = .ok (.pop, 1) := by decide +kernel
theorem dX12_ahead_53 : decode cX12_ahead 53 = .ok (.iinc 4 1, 3) := by decide +kernel
theorem dX12_ahead_56 : decode cX12_ahead 56 = .ok (.goto (-14), 3) := by decide +kernel
theorem dX12_ahead_59 : decode cX12_ahead 59 = .ok (.aload_n 0, 1) := by decide +kernel
theorem dX12_ahead_60 : decode cX12_ahead 60 = .ok (.iload_n 1, 1) := by decide +kernel
theorem dX12_ahead_61 : decode cX12_ahead 61 = .ok (.iload_n 3, 1) := by decide +kernel
theorem dX12_ahead_62 : decode cX12_ahead 62 = .ok (.ifCond .ne 7, 3) := by decide +kernel
theorem dX12_ahead_65 : decode cX12_ahead 65 = .ok (.iconst 0, 1) := by decide +kernel
theorem dX12_ahead_66 : decode cX12_ahead 66 = .ok (.goto 13, 3) := by decide +kernel
theorem dX12_ahead_69 : decode cX12_ahead 69 = .ok (.iload_n 3, 1) := by decide +kernel
theorem dX12_ahead_70 : decode cX12_ahead 70 = .ok (.iconst 1, 1) := by decide +kernel
theorem dX12_ahead_71 : decode cX12_ahead 71 = .ok (.if_icmp .ne 7, 3) := by decide +kernel
theorem dX12_ahead_74 : decode cX12_ahead 74 = .ok (.iconst 1, 1) := by decide +kernel
theorem dX12_ahead_75 : decode cX12_ahead 75 = .ok (.goto 4, 3) := by decide +kernel
theorem dX12_ahead_78 : decode cX12_ahead 78 = .ok (.iconst 3, 1) := by decide +kernel
theorem dX12_ahead_79 : decode cX12_ahead 79 = .ok (.invokevirtual 290, 3) := by decide +kernel
theorem dX12_ahead_82 : decode cX12_ahead 82 = .ok (.istore 4, 2) := by decide +kernel
theorem dX12_ahead_84 : decode cX12_ahead 84 = .ok (.aload_n 0, 1) := by decide +kernel
theorem dX12_ahead_85 : decode cX12_ahead 85 = .ok (.invokevirtual 400, 3) := by decide +kernel
theorem dX12_ahead_88 : decode cX12_ahead 88 = .ok (.iload 4, 2) := by decide +kernel
theorem dX12_ahead_90 : decode cX12_ahead 90 = .ok (.ireturn, 1) := by decide +kernel
theorem dX12_firstBreak_0 : decode cX12_firstBreak 0 = .ok (.iconst 0, 1) := by decide +kernel
theorem dX12_firstBreak_1 : decode cX12_firstBreak 1 = .ok (.istore_n 1, 1) := by decide +kernel
theorem dX12_firstBreak_2 : decode cX12_firstBreak 2 = .ok (.iload_n 1, 1) := by decide +kernel
theorem dX12_firstBreak_3 : decode cX12_firstBreak 3 = .ok (.sipush 200, 3) := by decide +kernel
theorem dX12_firstBreak_6 : decode cX12_firstBreak 6 = .ok (.if_icmp .ge 41, 3) := by decide +kernel
theorem dX12_firstBreak_9 : decode cX12_firstBreak 9 = .ok (.aload_n 0, 1) := by decide +kernel
theorem dX12_firstBreak_10 : decode cX12_firstBreak 10 = .ok (.invokevirtual 375, 3) := by decide +kernel
theorem dX12_firstBreak_13 : decode cX12_firstBreak 13 = .ok (.pop, 1) := by decide +kernel
theorem dX12_firstBreak_14 : decode cX12_firstBreak 14 = .ok (.aload_n 0, 1) := by decide +kernel
theorem dX12_firstBreak_15 : decode cX12_firstBreak 15 = .ok (.getfield 351, 3) := by decide +kernel
theorem dX12_firstBreak_18 : decode cX12_firstBreak 18 = .ok (.ifCond .ge 6, 3) := by decide +kernel
theorem dX12_firstBreak_21 : decode cX12_firstBreak 21 = .ok (.goto 20, 3) := by decide +kernel
theorem dX12_firstBreak_24 : decode cX12_firstBreak 24 = .ok (.aload_n 0, 1) := by decide +kernel
theorem dX12_firstBreak_25 : decode cX12_firstBreak 25 = .ok (.aload_n 0, 1) := by decide +kernel
theorem dX12_firstBreak_26 : decode cX12_firstBreak 26 = .ok (.getfield 39, 3) := by decide +kernel
theorem dX12_firstBreak_29 : decode cX12_firstBreak 29 = .ok (.iconst 2, 1) := by decide +kernel
theorem dX12_firstBreak_30 : decode cX12_firstBreak 30 = .ok (.iaload, 1) := by decide +kernel
theorem dX12_firstBreak_31 : decode cX12_firstBreak 31 = .ok (.iconst 1, 1) := by decide +kernel
theorem dX12_firstBreak_32 : decode cX12_firstBreak 32 = .ok (.isub, 1) := by decide +kernel
theorem dX12_firstBreak_33 : decode cX12_firstBreak 33 = .ok (.putfield 403, 3) := by decide +kernel
theorem dX12_firstBreak_36 : decode cX12_firstBreak 36 = .ok (.aload_n 0, 1) := by decide +kernel
theorem dX12_firstBreak_37 : decode cX12_firstBreak 37 = .ok (.getfield 351, 3) := by decide +kernel
theorem dX12_firstBreak_40 : decode cX12_firstBreak 40 = .ok (.ireturn, 1) := by decide +kernel
theorem dX12_firstBreak_41 : decode cX12_firstBreak 41 = .ok (.iinc 1 1, 3) := by decide +kernel
theorem dX12_firstBreak_44 : decode cX12_firstBreak 44 = .ok (.goto (-42), 3) := by decide +kernel
theorem dX12_firstBreak_47 : decode cX12_firstBreak 47 = .ok (.iconst (-1), 1) := by decide +kernel
theorem dX12_firstBreak_48 : decode cX12_firstBreak 48 = .ok (.ireturn, 1) := by decide +kernel
theorem dX12_breaks_0 : decode cX12_breaks 0 = .ok (.aload_n 0, 1) := by decide +kernel
theorem dX12_breaks_1 : decode cX12_breaks 1 = .ok (.invokevirtual 369, 3) := by decide +kernel
theorem dX12_breaks_4 : decode cX12_breaks 4 = .ok (.ifCond .eq 13, 3) := by decide +kernel
theorem dX12_breaks_7 : decode cX12_breaks 7 = .ok (.iload_n 1, 1) := by decide +kernel
theorem dX12_breaks_8 : decode cX12_breaks 8 = .ok (.i2l, 1) := by decide +kernel
theorem dX12_breaks_9 : decode cX12_breaks 9 = .ok (.lconst 0, 1) := by decide +kernel
theorem dX12_breaks_10 : decode cX12_breaks 10 = .ok (.lconst 1, 1) := by decide +kernel
theorem dX12_breaks_11 : decode cX12_breaks 11 = .ok (.invokestatic 124, 3) := by decide +kernel
theorem dX12_breaks_14 : decode cX12_breaks 14 = .ok (.ifCond .ne 5, 3) := by decide +kernel
theorem dX12_breaks_17 : decode cX12_breaks 17 = .ok (.iconst (-1), 1) := by decide +kernel
theorem dX12_breaks_18 : decode cX12_breaks 18 = .ok (.ireturn, 1) := by decide +kernel
theorem dX12_breaks_19 : decode cX12_breaks 19 = .ok (.aload_n 0, 1) := by decide +kernel
theorem dX12_breaks_20 : decode cX12_breaks 20 = .ok (.invokevirtual 397, 3) := by decide +kernel
theorem dX12_breaks_23 : decode cX12_breaks 23 = .ok (.aload_n 0, 1) := by decide +kernel
theorem dX12_breaks_24 : decode cX12_breaks 24 = .ok (.invokevirtual 406, 3) := by decide +kernel
theorem dX12_breaks_27 : decode cX12_breaks 27 = .ok (.istore_n 2, 1) := by decide +kernel
theorem dX12_breaks_28 : decode cX12_breaks 28 = .ok (.aload_n 0, 1) := by decide +kernel
theorem dX12_breaks_29 : decode cX12_breaks 29 = .ok (.invokevirtual 400, 3) := by decide +kernel
theorem dX12_breaks_32 : decode cX12_breaks 32 = .ok (.iload_n 2, 1) := by decide +kernel
theorem dX12_breaks_33 : decode cX12_breaks 33 = .ok (.ifCond .ge 8, 3) := by decide +kernel
theorem dX12_breaks_36 : decode cX12_breaks 36 = .ok (.bipush (-2), 2) := by decide +kernel
theorem dX12_breaks_38 : decode cX12_breaks 38 = .ok (.goto 15, 3) := by decide +kernel
theorem dX12_breaks_41 : decode cX12_breaks 41 = .ok (.iload_n 1, 1) := by decide +kernel
theorem dX12_breaks_42 : decode cX12_breaks 42 = .ok (.ifCond .ne 7, 3) := by decide +kernel
theorem dX12_breaks_45 : decode cX12_breaks 45 = .ok (.iload_n 2, 1) := by decide +kernel
theorem dX12_breaks_46 : decode cX12_breaks 46 = .ok (.goto 7, 3) := by decide +kernel
theorem dX12_breaks_49 : decode cX12_breaks 49 = .ok (.aload_n 0, 1) := by decide +kernel
theorem dX12_breaks_50 : decode cX12_breaks 50 = .ok (.getfield 403, 3) := by decide +kernel
theorem dX12_breaks_53 : decode cX12_breaks 53 = .ok (.ireturn, 1) := by decide +kernel
theorem dX12_mending_0 : decode cX12_mending 0 = .ok (.aload_n 0, 1) := by decide +kernel
theorem dX12_mending_1 : decode cX12_mending 1 = .ok (.invokevirtual 369, 3) := by decide +kernel
theorem dX12_mending_4 : decode cX12_mending 4 = .ok (.ifCond .eq 13, 3) := by decide +kernel
theorem dX12_mending_7 : decode cX12_mending 7 = .ok (.iload_n 1, 1) := by decide +kernel
theorem dX12_mending_8 : decode cX12_mending 8 = .ok (.i2l, 1) := by decide +kernel
theorem dX12_mending_9 : decode cX12_mending 9 = .ok (.lconst 0, 1) := by decide +kernel
theorem dX12_mending_10 : decode cX12_mending 10 = .ok (.lconst 1, 1) := by decide +kernel
theorem dX12_mending_11 : decode cX12_mending 11 = .ok (.invokestatic 124, 3) := by decide +kernel
theorem dX12_mending_14 : decode cX12_mending 14 = .ok (.ifCond .ne 6, 3) := by decide +kernel
theorem dX12_mending_17 : decode cX12_mending 17 = .ok (.bipush (-3), 2) := by decide +kernel
theorem dX12_mending_19 : decode cX12_mending 19 = .ok (.ireturn, 1) := by decide +kernel
theorem dX12_mending_20 : decode cX12_mending 20 = .ok (.bipush (-2), 2) := by decide +kernel
theorem dX12_mending_22 : decode cX12_mending 22 = .ok (.istore_n 2, 1) := by decide +kernel
theorem dX12_mending_23 : decode cX12_mending 23 = .ok (.iconst 0, 1) := by decide +kernel
theorem dX12_mending_24 : decode cX12_mending 24 = .ok (.istore_n 3, 1) := by decide +kernel
theorem dX12_mending_25 : decode cX12_mending 25 = .ok (.iconst 0, 1) := by decide +kernel
theorem dX12_mending_26 : decode cX12_mending 26 = .ok (.istore 4, 2) := by decide +kernel
theorem dX12_mending_28 : decode cX12_mending 28 = .ok (.iload 4, 2) := by decide +kernel
theorem dX12_mending_30 : decode cX12_mending 30 = .ok (.aload_n 0, 1) := by decide +kernel
theorem dX12_mending_31 : decode cX12_mending 31 = .ok (.getfield 39, 3) := by decide +kernel
theorem dX12_mending_34 : decode cX12_mending 34 = .ok (.iconst 0, 1) := by decide +kernel
theorem dX12_mending_35 : decode cX12_mending 35 = .ok (.iaload, 1) := by decide +kernel
theorem dX12_mending_36 : decode cX12_mending 36 = .ok (.if_icmp .ge 73, 3) := by decide +kernel
theorem dX12_mending_39 : decode cX12_mending 39 = .ok (.aload_n 0, 1) := by decide +kernel
theorem dX12_mending_40 : decode cX12_mending 40 = .ok (.iload 4, 2) := by decide +kernel
theorem dX12_mending_42 : decode cX12_mending 42 = .ok (.invokevirtual 387, 3) := by decide +kernel
theorem dX12_mending_45 : decode cX12_mending 45 = .ok (.ifCond .ne 6, 3) := by decide +kernel
theorem dX12_mending_48 : decode cX12_mending 48 = .ok (.goto 55, 3) := by decide +kernel
theorem dX12_mending_51 : decode cX12_mending 51 = .ok (.aload_n 0, 1) := by decide +kernel
theorem dX12_mending_52 : decode cX12_mending 52 = .ok (.invokevirtual 397, 3) := by decide +kernel
theorem dX12_mending_55 : decode cX12_mending 55 = .ok (.aload_n 0, 1) := by decide +kernel
theorem dX12_mending_56 : decode cX12_mending 56 = .ok (.iload 4, 2) := by decide +kernel
theorem dX12_mending_58 : decode cX12_mending 58 = .ok (.invokevirtual 390, 3) := by decide +kernel
theorem dX12_mending_61 : decode cX12_mending 61 = .ok (.aload_n 0, 1) := by decide +kernel
theorem dX12_mending_62 : decode cX12_mending 62 = .ok (.invokevirtual 406, 3) := by decide +kernel
theorem dX12_mending_65 : decode cX12_mending 65 = .ok (.ifCond .ge 9, 3) := by decide +kernel
theorem dX12_mending_68 : decode cX12_mending 68 = .ok (.sipush 9999, 3) := by decide +kernel
theorem dX12_mending_71 : decode cX12_mending 71 = .ok (.goto 7, 3) := by decide +kernel
theorem dX12_mending_74 : decode cX12_mending 74 = .ok (.aload_n 0, 1) := by decide +kernel
theorem dX12_mending_75 : decode cX12_mending 75 = .ok (.getfield 403, 3) := by decide +kernel
theorem dX12_mending_78 : decode cX12_mending 78 = .ok (.istore 5, 2) := by decide +kernel
theorem dX12_mending_80 : decode cX12_mending 80 = .ok (.aload_n 0, 1) := by decide +kernel
theorem dX12_mending_81 : decode cX12_mending 81 = .ok (.invokevirtual 400, 3) := by decide +kernel
theorem dX12_mending_84 : decode cX12_mending 84 = .ok (.iload_n 2, 1) := by decide +kernel
theorem dX12_mending_85 : decode cX12_mending 85 = .ok (.ifCond .lt 12, 3) := by decide +kernel
theorem dX12_mending_88 : decode cX12_mending 88 = .ok (.iload 5, 2) := by decide +kernel
theorem dX12_mending_90 : decode cX12_mending 90 = .ok (.iload_n 3, 1) := by decide +kernel
theorem dX12_mending_91 : decode cX12_mending 91 = .ok (.if_icmp .gt 6, 3) := by decide +kernel
theorem dX12_mending_94 : decode cX12_mending 94 = .ok (.goto 9, 3) := by decide +kernel
theorem dX12_mending_97 : decode cX12_mending 97 = .ok (.iload 4, 2) := by decide +kernel
theorem dX12_mending_99 : decode cX12_mending 99 = .ok (.istore_n 2, 1) := by decide +kernel
theorem dX12_mending_100 : decode cX12_mending 100 = .ok (.iload 5, 2) := by decide +kernel
theorem dX12_mending_102 : decode cX12_mending 102 = .ok (.istore_n 3, 1) := by decide +kernel
theorem dX12_mending_103 : decode cX12_mending 103 = .ok (.iinc 4 1, 3) := by decide +kernel
theorem dX12_mending_106 : decode cX12_mending 106 = .ok (.goto (-78), 3) := by decide +kernel
theorem dX12_mending_109 : decode cX12_mending 109 = .ok (.iload_n 1, 1) := by decide +kernel
theorem dX12_mending_110 : decode cX12_mending 110 = .ok (.ifCond .eq 7, 3) := by decide +kernel
theorem dX12_mending_113 : decode cX12_mending 113 = .ok (.iload_n 2, 1) := by decide +kernel
theorem dX12_mending_114 : decode cX12_mending 114 = .ok (.ifCond .ge 7, 3) := by decide +kernel
theorem dX12_mending_117 : decode cX12_mending 117 = .ok (.iload_n 2, 1) := by decide +kernel
theorem dX12_mending_118 : decode cX12_mending 118 = .ok (.goto 15, 3) := by decide +kernel
theorem dX12_mending_121 : decode cX12_mending 121 = .ok (.iload_n 3, 1) := by decide +kernel
theorem dX12_mending_122 : decode cX12_mending 122 = .ok (.sipush 9999, 3) := by decide +kernel
theorem dX12_mending_125 : decode cX12_mending 125 = .ok (.if_icmp .ne 7, 3) := by decide +kernel
theorem dX12_mending_128 : decode cX12_mending 128 = .ok (.iconst (-1), 1) := by decide +kernel
theorem dX12_mending_129 : decode cX12_mending 129 = .ok (.goto 4, 3) := by decide +kernel
theorem dX12_mending_132 : decode cX12_mending 132 = .ok (.iload_n 3, 1) := by decide +kernel
theorem dX12_mending_133 : decode cX12_mending 133 = .ok (.ireturn, 1) := by decide +kernel
theorem dX12_code_0 : decode cX12_code 0 = .ok (.iconst 0, 1) := by decide +kernel
theorem dX12_code_1 : decode cX12_code 1 = .ok (.istore_n 1, 1) := by decide +kernel
theorem dX12_code_2 : decode cX12_code 2 = .ok (.aload_n 0, 1) := by decide +kernel
theorem dX12_code_3 : decode cX12_code 3 = .ok (.getfield 39, 3) := by decide +kernel
theorem dX12_code_6 : decode cX12_code 6 = .ok (.iconst 1, 1) := by decide +kernel
theorem dX12_code_7 : decode cX12_code 7 = .ok (.iaload, 1) := by decide +kernel
theorem dX12_code_8 : decode cX12_code 8 = .ok (.iconst 1, 1) := by decide +kernel
theorem dX12_code_9 : decode cX12_code 9 = .ok (.isub, 1) := by decide +kernel
theorem dX12_code_10 : decode cX12_code 10 = .ok (.istore_n 2, 1) := by decide +kernel
theorem dX12_code_11 : decode cX12_code 11 = .ok (.iload_n 2, 1) := by decide +kernel
theorem dX12_code_12 : decode cX12_code 12 = .ok (.ifCond .lt 33, 3) := by decide +kernel
theorem dX12_code_15 : decode cX12_code 15 = .ok (.bipush 9, 2) := by decide +kernel
theorem dX12_code_17 : decode cX12_code 17 = .ok (.iload_n 1, 1) := by decide +kernel
theorem dX12_code_18 : decode cX12_code 18 = .ok (.imul, 1) := by decide +kernel
theorem dX12_code_19 : decode cX12_code 19 = .ok (.aload_n 0, 1) := by decide +kernel
theorem dX12_code_20 : decode cX12_code 20 = .ok (.iload_n 2, 1) := by decide +kernel
theorem dX12_code_21 : decode cX12_code 21 = .ok (.invokevirtual 335, 3) := by decide +kernel
theorem dX12_code_24 : decode cX12_code 24 = .ok (.ifCond .eq 12, 3) := by decide +kernel
theorem dX12_code_27 : decode cX12_code 27 = .ok (.aload_n 0, 1) := by decide +kernel
theorem dX12_code_28 : decode cX12_code 28 = .ok (.iload_n 2, 1) := by decide +kernel
theorem dX12_code_29 : decode cX12_code 29 = .ok (.iconst 0, 1) := by decide +kernel
theorem dX12_code_30 : decode cX12_code 30 = .ok (.invokevirtual 290, 3) := by decide +kernel
theorem dX12_code_33 : decode cX12_code 33 = .ok (.goto 4, 3) := by decide +kernel
theorem dX12_code_36 : decode cX12_code 36 = .ok (.iconst 0, 1) := by decide +kernel
theorem dX12_code_37 : decode cX12_code 37 = .ok (.iadd, 1) := by decide +kernel
theorem dX12_code_38 : decode cX12_code 38 = .ok (.istore_n 1, 1) := by decide +kernel
theorem dX12_code_39 : decode cX12_code 39 = .ok (.iinc 2 (-1), 3) := by decide +kernel
theorem dX12_code_42 : decode cX12_code 42 = .ok (.goto (-31), 3) := by decide +kernel
theorem dX12_code_45 : decode cX12_code 45 = .ok (.iload_n 1, 1) := by decide +kernel
theorem dX12_code_46 : decode cX12_code 46 = .ok (.ireturn, 1) := by decide +kernel
theorem dX12_standsAs_0 : decode cX12_standsAs 0 = .ok (.iload_n 1, 1) := by decide +kernel
theorem dX12_standsAs_1 : decode cX12_standsAs 1 = .ok (.istore_n 2, 1) := by decide +kernel
theorem dX12_standsAs_2 : decode cX12_standsAs 2 = .ok (.iconst 0, 1) := by decide +kernel
theorem dX12_standsAs_3 : decode cX12_standsAs 3 = .ok (.istore_n 3, 1) := by decide +kernel
theorem dX12_standsAs_4 : decode cX12_standsAs 4 = .ok (.iload_n 3, 1) := by decide +kernel
theorem dX12_standsAs_5 : decode cX12_standsAs 5 = .ok (.aload_n 0, 1) := by decide +kernel
theorem dX12_standsAs_6 : decode cX12_standsAs 6 = .ok (.getfield 39, 3) := by decide +kernel
theorem dX12_standsAs_9 : decode cX12_standsAs 9 = .ok (.iconst 1, 1) := by decide +kernel
theorem dX12_standsAs_10 : decode cX12_standsAs 10 = .ok (.iaload, 1) := by decide +kernel
theorem dX12_standsAs_11 : decode cX12_standsAs 11 = .ok (.if_icmp .ge 37, 3) := by decide +kernel
theorem dX12_standsAs_14 : decode cX12_standsAs 14 = .ok (.aload_n 0, 1) := by decide +kernel
theorem dX12_standsAs_15 : decode cX12_standsAs 15 = .ok (.iload_n 3, 1) := by decide +kernel
theorem dX12_standsAs_16 : decode cX12_standsAs 16 = .ok (.invokevirtual 335, 3) := by decide +kernel
theorem dX12_standsAs_19 : decode cX12_standsAs 19 = .ok (.ifCond .eq 18, 3) := by decide +kernel
theorem dX12_standsAs_22 : decode cX12_standsAs 22 = .ok (.aload_n 0, 1) := by decide +kernel
theorem dX12_standsAs_23 : decode cX12_standsAs 23 = .ok (.getfield 39, 3) := by decide +kernel
theorem dX12_standsAs_26 : decode cX12_standsAs 26 = .ok (.bipush 46, 2) := by decide +kernel
theorem dX12_standsAs_28 : decode cX12_standsAs 28 = .ok (.iconst 4, 1) := by decide +kernel
theorem dX12_standsAs_29 : decode cX12_standsAs 29 = .ok (.iload_n 3, 1) := by decide +kernel
theorem dX12_standsAs_30 : decode cX12_standsAs 30 = .ok (.imul, 1) := by decide +kernel
theorem dX12_standsAs_31 : decode cX12_standsAs 31 = .ok (.iadd, 1) := by decide +kernel
theorem dX12_standsAs_32 : decode cX12_standsAs 32 = .ok (.iload_n 2, 1) := by decide +kernel
theorem dX12_standsAs_33 : decode cX12_standsAs 33 = .ok (.bipush 9, 2) := by decide +kernel
theorem dX12_standsAs_35 : decode cX12_standsAs 35 = .ok (.irem, 1) := by decide +kernel
theorem dX12_standsAs_36 : decode cX12_standsAs 36 = .ok (.iastore, 1) := by decide +kernel
theorem dX12_standsAs_37 : decode cX12_standsAs 37 = .ok (.iload_n 2, 1) := by decide +kernel
theorem dX12_standsAs_38 : decode cX12_standsAs 38 = .ok (.bipush 9, 2) := by decide +kernel
theorem dX12_standsAs_40 : decode cX12_standsAs 40 = .ok (.idiv, 1) := by decide +kernel
theorem dX12_standsAs_41 : decode cX12_standsAs 41 = .ok (.istore_n 2, 1) := by decide +kernel
theorem dX12_standsAs_42 : decode cX12_standsAs 42 = .ok (.iinc 3 1, 3) := by decide +kernel
theorem dX12_standsAs_45 : decode cX12_standsAs 45 = .ok (.goto (-41), 3) := by decide +kernel
theorem dX12_standsAs_48 : decode cX12_standsAs 48 = .ok (.return_, 1) := by decide +kernel
theorem dX12_states_0 : decode cX12_states 0 = .ok (.iconst 1, 1) := by decide +kernel
theorem dX12_states_1 : decode cX12_states 1 = .ok (.istore_n 1, 1) := by decide +kernel
theorem dX12_states_2 : decode cX12_states 2 = .ok (.iconst 0, 1) := by decide +kernel
theorem dX12_states_3 : decode cX12_states 3 = .ok (.istore_n 2, 1) := by decide +kernel
theorem dX12_states_4 : decode cX12_states 4 = .ok (.iload_n 2, 1) := by decide +kernel
theorem dX12_states_5 : decode cX12_states 5 = .ok (.aload_n 0, 1) := by decide +kernel
theorem dX12_states_6 : decode cX12_states 6 = .ok (.getfield 39, 3) := by decide +kernel
theorem dX12_states_9 : decode cX12_states 9 = .ok (.iconst 1, 1) := by decide +kernel
theorem dX12_states_10 : decode cX12_states 10 = .ok (.iaload, 1) := by decide +kernel
theorem dX12_states_11 : decode cX12_states 11 = .ok (.if_icmp .ge 14, 3) := by decide +kernel
theorem dX12_states_14 : decode cX12_states 14 = .ok (.iload_n 1, 1) := by decide +kernel
theorem dX12_states_15 : decode cX12_states 15 = .ok (.bipush 9, 2) := by decide +kernel
theorem dX12_states_17 : decode cX12_states 17 = .ok (.imul, 1) := by decide +kernel
theorem dX12_states_18 : decode cX12_states 18 = .ok (.istore_n 1, 1) := by decide +kernel
theorem dX12_states_19 : decode cX12_states 19 = .ok (.iinc 2 1, 3) := by decide +kernel
theorem dX12_states_22 : decode cX12_states 22 = .ok (.goto (-18), 3) := by decide +kernel
theorem dX12_states_25 : decode cX12_states 25 = .ok (.iload_n 1, 1) := by decide +kernel
theorem dX12_states_26 : decode cX12_states 26 = .ok (.ireturn, 1) := by decide +kernel
theorem dX12_isGoal_0 : decode cX12_isGoal 0 = .ok (.iconst 0, 1) := by decide +kernel
theorem dX12_isGoal_1 : decode cX12_isGoal 1 = .ok (.istore_n 2, 1) := by decide +kernel
theorem dX12_isGoal_2 : decode cX12_isGoal 2 = .ok (.iload_n 2, 1) := by decide +kernel
theorem dX12_isGoal_3 : decode cX12_isGoal 3 = .ok (.aload_n 0, 1) := by decide +kernel
theorem dX12_isGoal_4 : decode cX12_isGoal 4 = .ok (.getfield 39, 3) := by decide +kernel
theorem dX12_isGoal_7 : decode cX12_isGoal 7 = .ok (.iconst 1, 1) := by decide +kernel
theorem dX12_isGoal_8 : decode cX12_isGoal 8 = .ok (.iaload, 1) := by decide +kernel
theorem dX12_isGoal_9 : decode cX12_isGoal 9 = .ok (.if_icmp .ge 42, 3) := by decide +kernel
theorem dX12_isGoal_12 : decode cX12_isGoal 12 = .ok (.iload_n 1, 1) := by decide +kernel
theorem dX12_isGoal_13 : decode cX12_isGoal 13 = .ok (.iload_n 2, 1) := by decide +kernel
theorem dX12_isGoal_14 : decode cX12_isGoal 14 = .ok (.invokestatic 409, 3) := by decide +kernel
theorem dX12_isGoal_17 : decode cX12_isGoal 17 = .ok (.ifCond .eq 28, 3) := by decide +kernel
theorem dX12_isGoal_20 : decode cX12_isGoal 20 = .ok (.aload_n 0, 1) := by decide +kernel
theorem dX12_isGoal_21 : decode cX12_isGoal 21 = .ok (.iload_n 2, 1) := by decide +kernel
theorem dX12_isGoal_22 : decode cX12_isGoal 22 = .ok (.invokevirtual 335, 3) := by decide +kernel
theorem dX12_isGoal_25 : decode cX12_isGoal 25 = .ok (.ifCond .eq 18, 3) := by decide +kernel
theorem dX12_isGoal_28 : decode cX12_isGoal 28 = .ok (.aload_n 0, 1) := by decide +kernel
theorem dX12_isGoal_29 : decode cX12_isGoal 29 = .ok (.iload_n 2, 1) := by decide +kernel
theorem dX12_isGoal_30 : decode cX12_isGoal 30 = .ok (.iconst 0, 1) := by decide +kernel
theorem dX12_isGoal_31 : decode cX12_isGoal 31 = .ok (.invokevirtual 290, 3) := by decide +kernel
theorem dX12_isGoal_34 : decode cX12_isGoal 34 = .ok (.aload_n 0, 1) := by decide +kernel
theorem dX12_isGoal_35 : decode cX12_isGoal 35 = .ok (.iload_n 2, 1) := by decide +kernel
theorem dX12_isGoal_36 : decode cX12_isGoal 36 = .ok (.iconst 2, 1) := by decide +kernel
theorem dX12_isGoal_37 : decode cX12_isGoal 37 = .ok (.invokevirtual 290, 3) := by decide +kernel
theorem dX12_isGoal_40 : decode cX12_isGoal 40 = .ok (.if_icmp .eq 5, 3) := by decide +kernel
theorem dX12_isGoal_43 : decode cX12_isGoal 43 = .ok (.iconst 0, 1) := by decide +kernel
theorem dX12_isGoal_44 : decode cX12_isGoal 44 = .ok (.ireturn, 1) := by decide +kernel
theorem dX12_isGoal_45 : decode cX12_isGoal 45 = .ok (.iinc 2 1, 3) := by decide +kernel
theorem dX12_isGoal_48 : decode cX12_isGoal 48 = .ok (.goto (-46), 3) := by decide +kernel
theorem dX12_isGoal_51 : decode cX12_isGoal 51 = .ok (.iconst 1, 1) := by decide +kernel
theorem dX12_isGoal_52 : decode cX12_isGoal 52 = .ok (.ireturn, 1) := by decide +kernel
theorem dX12_kinds_0 : decode cX12_kinds 0 = .ok (.iconst 2, 1) := by decide +kernel
theorem dX12_kinds_1 : decode cX12_kinds 1 = .ok (.aload_n 0, 1) := by decide +kernel
theorem dX12_kinds_2 : decode cX12_kinds 2 = .ok (.getfield 39, 3) := by decide +kernel
theorem dX12_kinds_5 : decode cX12_kinds 5 = .ok (.iconst 1, 1) := by decide +kernel
theorem dX12_kinds_6 : decode cX12_kinds 6 = .ok (.iaload, 1) := by decide +kernel
theorem dX12_kinds_7 : decode cX12_kinds 7 = .ok (.iadd, 1) := by decide +kernel
theorem dX12_kinds_8 : decode cX12_kinds 8 = .ok (.iconst 1, 1) := by decide +kernel
theorem dX12_kinds_9 : decode cX12_kinds 9 = .ok (.isub, 1) := by decide +kernel
theorem dX12_kinds_10 : decode cX12_kinds 10 = .ok (.iload_n 1, 1) := by decide +kernel
theorem dX12_kinds_11 : decode cX12_kinds 11 = .ok (.isub, 1) := by decide +kernel
theorem dX12_kinds_12 : decode cX12_kinds 12 = .ok (.ireturn, 1) := by decide +kernel
theorem dX12_codeBehind_0 : decode cX12_codeBehind 0 = .ok (.aload_n 0, 1) := by decide +kernel
theorem dX12_codeBehind_1 : decode cX12_codeBehind 1 = .ok (.iload_n 1, 1) := by decide +kernel
theorem dX12_codeBehind_2 : decode cX12_codeBehind 2 = .ok (.invokevirtual 335, 3) := by decide +kernel
theorem dX12_codeBehind_5 : decode cX12_codeBehind 5 = .ok (.ifCond .ne 5, 3) := by decide +kernel
theorem dX12_codeBehind_8 : decode cX12_codeBehind 8 = .ok (.iconst (-1), 1) := by decide +kernel
theorem dX12_codeBehind_9 : decode cX12_codeBehind 9 = .ok (.ireturn, 1) := by decide +kernel
theorem dX12_codeBehind_10 : decode cX12_codeBehind 10 = .ok (.aload_n 0, 1) := by decide +kernel
theorem dX12_codeBehind_11 : decode cX12_codeBehind 11 = .ok (.iload_n 1, 1) := by decide +kernel
theorem dX12_codeBehind_12 : decode cX12_codeBehind 12 = .ok (.iconst 0, 1) := by decide +kernel
theorem dX12_codeBehind_13 : decode cX12_codeBehind 13 = .ok (.invokevirtual 290, 3) := by decide +kernel
theorem dX12_codeBehind_16 : decode cX12_codeBehind 16 = .ok (.istore_n 3, 1) := by decide +kernel
theorem dX12_codeBehind_17 : decode cX12_codeBehind 17 = .ok (.iconst (-1), 1) := by decide +kernel
theorem dX12_codeBehind_18 : decode cX12_codeBehind 18 = .ok (.istore 4, 2) := by decide +kernel
theorem dX12_codeBehind_20 : decode cX12_codeBehind 20 = .ok (.iload_n 2, 1) := by decide +kernel
theorem dX12_codeBehind_21 : decode cX12_codeBehind 21 = .ok (.iconst 2, 1) := by decide +kernel
theorem dX12_codeBehind_22 : decode cX12_codeBehind 22 = .ok (.if_icmp .ge 60, 3) := by decide +kernel
theorem dX12_codeBehind_25 : decode cX12_codeBehind 25 = .ok (.aload_n 0, 1) := by decide +kernel
theorem dX12_codeBehind_26 : decode cX12_codeBehind 26 = .ok (.iload_n 1, 1) := by decide +kernel
theorem dX12_codeBehind_27 : decode cX12_codeBehind 27 = .ok (.iload_n 2, 1) := by decide +kernel
theorem dX12_codeBehind_28 : decode cX12_codeBehind 28 = .ok (.ifCond .ne 7, 3) := by decide +kernel
theorem dX12_codeBehind_31 : decode cX12_codeBehind 31 = .ok (.iconst 1, 1) := by decide +kernel
theorem dX12_codeBehind_32 : decode cX12_codeBehind 32 = .ok (.goto 4, 3) := by decide +kernel
theorem dX12_codeBehind_35 : decode cX12_codeBehind 35 = .ok (.iconst (-1), 1) := by decide +kernel
theorem dX12_codeBehind_36 : decode cX12_codeBehind 36 = .ok (.invokevirtual 378, 3) := by decide +kernel
theorem dX12_codeBehind_39 : decode cX12_codeBehind 39 = .ok (.istore 5, 2) := by decide +kernel
theorem dX12_codeBehind_41 : decode cX12_codeBehind 41 = .ok (.iload 5, 2) := by decide +kernel
theorem dX12_codeBehind_43 : decode cX12_codeBehind 43 = .ok (.ifCond .ge 5, 3) := by decide +kernel
theorem dX12_codeBehind_46 : decode cX12_codeBehind 46 = .ok (.iconst (-1), 1) := by decide +kernel
theorem dX12_codeBehind_47 : decode cX12_codeBehind 47 = .ok (.ireturn, 1) := by decide +kernel
theorem dX12_codeBehind_48 : decode cX12_codeBehind 48 = .ok (.aload_n 0, 1) := by decide +kernel
theorem dX12_codeBehind_49 : decode cX12_codeBehind 49 = .ok (.getfield 39, 3) := by decide +kernel
theorem dX12_codeBehind_52 : decode cX12_codeBehind 52 = .ok (.bipush 46, 2) := by decide +kernel
theorem dX12_codeBehind_54 : decode cX12_codeBehind 54 = .ok (.iconst 4, 1) := by decide +kernel
theorem dX12_codeBehind_55 : decode cX12_codeBehind 55 = .ok (.iload_n 1, 1) := by decide +kernel
theorem dX12_codeBehind_56 : decode cX12_codeBehind 56 = .ok (.imul, 1) := by decide +kernel
theorem dX12_codeBehind_57 : decode cX12_codeBehind 57 = .ok (.iadd, 1) := by decide +kernel
theorem dX12_codeBehind_58 : decode cX12_codeBehind 58 = .ok (.iload 5, 2) := by decide +kernel
theorem dX12_codeBehind_60 : decode cX12_codeBehind 60 = .ok (.iastore, 1) := by decide +kernel
theorem dX12_codeBehind_61 : decode cX12_codeBehind 61 = .ok (.aload_n 0, 1) := by decide +kernel
theorem dX12_codeBehind_62 : decode cX12_codeBehind 62 = .ok (.invokevirtual 412, 3) := by decide +kernel
theorem dX12_codeBehind_65 : decode cX12_codeBehind 65 = .ok (.istore 4, 2) := by decide +kernel
theorem dX12_codeBehind_67 : decode cX12_codeBehind 67 = .ok (.aload_n 0, 1) := by decide +kernel
theorem dX12_codeBehind_68 : decode cX12_codeBehind 68 = .ok (.getfield 39, 3) := by decide +kernel
theorem dX12_codeBehind_71 : decode cX12_codeBehind 71 = .ok (.bipush 46, 2) := by decide +kernel
theorem dX12_codeBehind_73 : decode cX12_codeBehind 73 = .ok (.iconst 4, 1) := by decide +kernel
theorem dX12_codeBehind_74 : decode cX12_codeBehind 74 = .ok (.iload_n 1, 1) := by decide +kernel
theorem dX12_codeBehind_75 : decode cX12_codeBehind 75 = .ok (.imul, 1) := by decide +kernel
theorem dX12_codeBehind_76 : decode cX12_codeBehind 76 = .ok (.iadd, 1) := by decide +kernel
theorem dX12_codeBehind_77 : decode cX12_codeBehind 77 = .ok (.iload_n 3, 1) := by decide +kernel
theorem dX12_codeBehind_78 : decode cX12_codeBehind 78 = .ok (.iastore, 1) := by decide +kernel
theorem dX12_codeBehind_79 : decode cX12_codeBehind 79 = .ok (.iload 4, 2) := by decide +kernel
theorem dX12_codeBehind_81 : decode cX12_codeBehind 81 = .ok (.ireturn, 1) := by decide +kernel
theorem dX12_codeBehind_82 : decode cX12_codeBehind 82 = .ok (.iload_n 1, 1) := by decide +kernel
theorem dX12_codeBehind_83 : decode cX12_codeBehind 83 = .ok (.iload_n 2, 1) := by decide +kernel
theorem dX12_codeBehind_84 : decode cX12_codeBehind 84 = .ok (.iadd, 1) := by decide +kernel
theorem dX12_codeBehind_85 : decode cX12_codeBehind 85 = .ok (.iconst 1, 1) := by decide +kernel
theorem dX12_codeBehind_86 : decode cX12_codeBehind 86 = .ok (.isub, 1) := by decide +kernel
theorem dX12_codeBehind_87 : decode cX12_codeBehind 87 = .ok (.istore 5, 2) := by decide +kernel
theorem dX12_codeBehind_89 : decode cX12_codeBehind 89 = .ok (.aload_n 0, 1) := by decide +kernel
theorem dX12_codeBehind_90 : decode cX12_codeBehind 90 = .ok (.iload_n 1, 1) := by decide +kernel
theorem dX12_codeBehind_91 : decode cX12_codeBehind 91 = .ok (.iload 5, 2) := by decide +kernel
theorem dX12_codeBehind_93 : decode cX12_codeBehind 93 = .ok (.invokevirtual 381, 3) := by decide +kernel
theorem dX12_codeBehind_96 : decode cX12_codeBehind 96 = .ok (.ifCond .ne 5, 3) := by decide +kernel
theorem dX12_codeBehind_99 : decode cX12_codeBehind 99 = .ok (.iconst (-1), 1) := by decide +kernel
theorem dX12_codeBehind_100 : decode cX12_codeBehind 100 = .ok (.ireturn, 1) := by decide +kernel
theorem dX12_codeBehind_101 : decode cX12_codeBehind 101 = .ok (.aload_n 0, 1) := by decide +kernel
theorem dX12_codeBehind_102 : decode cX12_codeBehind 102 = .ok (.iload_n 1, 1) := by decide +kernel
theorem dX12_codeBehind_103 : decode cX12_codeBehind 103 = .ok (.iload 5, 2) := by decide +kernel
theorem dX12_codeBehind_105 : decode cX12_codeBehind 105 = .ok (.invokevirtual 384, 3) := by decide +kernel
theorem dX12_codeBehind_108 : decode cX12_codeBehind 108 = .ok (.aload_n 0, 1) := by decide +kernel
theorem dX12_codeBehind_109 : decode cX12_codeBehind 109 = .ok (.invokevirtual 412, 3) := by decide +kernel
theorem dX12_codeBehind_112 : decode cX12_codeBehind 112 = .ok (.istore 4, 2) := by decide +kernel
theorem dX12_codeBehind_114 : decode cX12_codeBehind 114 = .ok (.aload_n 0, 1) := by decide +kernel
theorem dX12_codeBehind_115 : decode cX12_codeBehind 115 = .ok (.iload_n 1, 1) := by decide +kernel
theorem dX12_codeBehind_116 : decode cX12_codeBehind 116 = .ok (.iload 5, 2) := by decide +kernel
theorem dX12_codeBehind_118 : decode cX12_codeBehind 118 = .ok (.invokevirtual 384, 3) := by decide +kernel
theorem dX12_codeBehind_121 : decode cX12_codeBehind 121 = .ok (.iload 4, 2) := by decide +kernel
theorem dX12_codeBehind_123 : decode cX12_codeBehind 123 = .ok (.ireturn, 1) := by decide +kernel
theorem dX12_goesOnFrom_0 : decode cX12_goesOnFrom 0 = .ok (.aload_n 0, 1) := by decide +kernel
theorem dX12_goesOnFrom_1 : decode cX12_goesOnFrom 1 = .ok (.iload_n 1, 1) := by decide +kernel
theorem dX12_goesOnFrom_2 : decode cX12_goesOnFrom 2 = .ok (.invokevirtual 415, 3) := by decide +kernel
theorem dX12_goesOnFrom_5 : decode cX12_goesOnFrom 5 = .ok (.iconst 0, 1) := by decide +kernel
theorem dX12_goesOnFrom_6 : decode cX12_goesOnFrom 6 = .ok (.istore 5, 2) := by decide +kernel
theorem dX12_goesOnFrom_8 : decode cX12_goesOnFrom 8 = .ok (.iload 5, 2) := by decide +kernel
theorem dX12_goesOnFrom_10 : decode cX12_goesOnFrom 10 = .ok (.aload_n 0, 1) := by decide +kernel
theorem dX12_goesOnFrom_11 : decode cX12_goesOnFrom 11 = .ok (.getfield 39, 3) := by decide +kernel
theorem dX12_goesOnFrom_14 : decode cX12_goesOnFrom 14 = .ok (.iconst 1, 1) := by decide +kernel
theorem dX12_goesOnFrom_15 : decode cX12_goesOnFrom 15 = .ok (.iaload, 1) := by decide +kernel
theorem dX12_goesOnFrom_16 : decode cX12_goesOnFrom 16 = .ok (.if_icmp .ge 93, 3) := by decide +kernel
theorem dX12_goesOnFrom_19 : decode cX12_goesOnFrom 19 = .ok (.iload_n 2, 1) := by decide +kernel
theorem dX12_goesOnFrom_20 : decode cX12_goesOnFrom 20 = .ok (.istore 6, 2) := by decide +kernel
theorem dX12_goesOnFrom_22 : decode cX12_goesOnFrom 22 = .ok (.iload 6, 2) := by decide +kernel
theorem dX12_goesOnFrom_24 : decode cX12_goesOnFrom 24 = .ok (.iload_n 3, 1) := by decide +kernel
theorem dX12_goesOnFrom_25 : decode cX12_goesOnFrom 25 = .ok (.if_icmp .gt 78, 3) := by decide +kernel
theorem dX12_goesOnFrom_28 : decode cX12_goesOnFrom 28 = .ok (.iload 6, 2) := by decide +kernel
theorem dX12_goesOnFrom_30 : decode cX12_goesOnFrom 30 = .ok (.aload_n 0, 1) := by decide +kernel
theorem dX12_goesOnFrom_31 : decode cX12_goesOnFrom 31 = .ok (.iload 5, 2) := by decide +kernel
theorem dX12_goesOnFrom_33 : decode cX12_goesOnFrom 33 = .ok (.invokevirtual 418, 3) := by decide +kernel
theorem dX12_goesOnFrom_36 : decode cX12_goesOnFrom 36 = .ok (.if_icmp .ge 67, 3) := by decide +kernel
theorem dX12_goesOnFrom_39 : decode cX12_goesOnFrom 39 = .ok (.aload_n 0, 1) := by decide +kernel
theorem dX12_goesOnFrom_40 : decode cX12_goesOnFrom 40 = .ok (.iload 5, 2) := by decide +kernel
theorem dX12_goesOnFrom_42 : decode cX12_goesOnFrom 42 = .ok (.iload 6, 2) := by decide +kernel
theorem dX12_goesOnFrom_44 : decode cX12_goesOnFrom 44 = .ok (.invokevirtual 421, 3) := by decide +kernel
theorem dX12_goesOnFrom_47 : decode cX12_goesOnFrom 47 = .ok (.istore 7, 2) := by decide +kernel
theorem dX12_goesOnFrom_49 : decode cX12_goesOnFrom 49 = .ok (.iload 7, 2) := by decide +kernel
theorem dX12_goesOnFrom_51 : decode cX12_goesOnFrom 51 = .ok (.ifCond .lt 46, 3) := by decide +kernel
theorem dX12_goesOnFrom_54 : decode cX12_goesOnFrom 54 = .ok (.aload_n 0, 1) := by decide +kernel
theorem dX12_goesOnFrom_55 : decode cX12_goesOnFrom 55 = .ok (.getfield 58, 3) := by decide +kernel
theorem dX12_goesOnFrom_58 : decode cX12_goesOnFrom 58 = .ok (.iload 7, 2) := by decide +kernel
theorem dX12_goesOnFrom_60 : decode cX12_goesOnFrom 60 = .ok (.iaload, 1) := by decide +kernel
theorem dX12_goesOnFrom_61 : decode cX12_goesOnFrom 61 = .ok (.ifCond .lt 6, 3) := by decide +kernel
theorem dX12_goesOnFrom_64 : decode cX12_goesOnFrom 64 = .ok (.goto 33, 3) := by decide +kernel
theorem dX12_goesOnFrom_67 : decode cX12_goesOnFrom 67 = .ok (.aload_n 0, 1) := by decide +kernel
theorem dX12_goesOnFrom_68 : decode cX12_goesOnFrom 68 = .ok (.getfield 58, 3) := by decide +kernel
theorem dX12_goesOnFrom_71 : decode cX12_goesOnFrom 71 = .ok (.iload 7, 2) := by decide +kernel
theorem dX12_goesOnFrom_73 : decode cX12_goesOnFrom 73 = .ok (.iload 4, 2) := by decide +kernel
theorem dX12_goesOnFrom_75 : decode cX12_goesOnFrom 75 = .ok (.iastore, 1) := by decide +kernel
theorem dX12_goesOnFrom_76 : decode cX12_goesOnFrom 76 = .ok (.aload_n 0, 1) := by decide +kernel
theorem dX12_goesOnFrom_77 : decode cX12_goesOnFrom 77 = .ok (.getfield 61, 3) := by decide +kernel
theorem dX12_goesOnFrom_80 : decode cX12_goesOnFrom 80 = .ok (.aload_n 0, 1) := by decide +kernel
theorem dX12_goesOnFrom_81 : decode cX12_goesOnFrom 81 = .ok (.getfield 424, 3) := by decide +kernel
theorem dX12_goesOnFrom_84 : decode cX12_goesOnFrom 84 = .ok (.iload 7, 2) := by decide +kernel
theorem dX12_goesOnFrom_86 : decode cX12_goesOnFrom 86 = .ok (.iastore, 1) := by decide +kernel
theorem dX12_goesOnFrom_87 : decode cX12_goesOnFrom 87 = .ok (.aload_n 0, 1) := by decide +kernel
theorem dX12_goesOnFrom_88 : decode cX12_goesOnFrom 88 = .ok (.dup, 1) := by decide +kernel
theorem dX12_goesOnFrom_89 : decode cX12_goesOnFrom 89 = .ok (.getfield 424, 3) := by decide +kernel
theorem dX12_goesOnFrom_92 : decode cX12_goesOnFrom 92 = .ok (.iconst 1, 1) := by decide +kernel
theorem dX12_goesOnFrom_93 : decode cX12_goesOnFrom 93 = .ok (.iadd, 1) := by decide +kernel
theorem dX12_goesOnFrom_94 : decode cX12_goesOnFrom 94 = .ok (.putfield 424, 3) := by decide +kernel
theorem dX12_goesOnFrom_97 : decode cX12_goesOnFrom 97 = .ok (.iinc 6 1, 3) := by decide +kernel
theorem dX12_goesOnFrom_100 : decode cX12_goesOnFrom 100 = .ok (.goto (-78), 3) := by decide +kernel
theorem dX12_goesOnFrom_103 : decode cX12_goesOnFrom 103 = .ok (.iinc 5 1, 3) := by decide +kernel
theorem dX12_goesOnFrom_106 : decode cX12_goesOnFrom 106 = .ok (.goto (-98), 3) := by decide +kernel
theorem dX12_goesOnFrom_109 : decode cX12_goesOnFrom 109 = .ok (.return_, 1) := by decide +kernel
theorem dX12_startsFar_0 : decode cX12_startsFar 0 = .ok (.iconst 0, 1) := by decide +kernel
theorem dX12_startsFar_1 : decode cX12_startsFar 1 = .ok (.istore_n 1, 1) := by decide +kernel
theorem dX12_startsFar_2 : decode cX12_startsFar 2 = .ok (.iload_n 1, 1) := by decide +kernel
theorem dX12_startsFar_3 : decode cX12_startsFar 3 = .ok (.aload_n 0, 1) := by decide +kernel
theorem dX12_startsFar_4 : decode cX12_startsFar 4 = .ok (.invokevirtual 427, 3) := by decide +kernel
theorem dX12_startsFar_7 : decode cX12_startsFar 7 = .ok (.if_icmp .ge 16, 3) := by decide +kernel
theorem dX12_startsFar_10 : decode cX12_startsFar 10 = .ok (.aload_n 0, 1) := by decide +kernel
theorem dX12_startsFar_11 : decode cX12_startsFar 11 = .ok (.getfield 58, 3) := by decide +kernel
theorem dX12_startsFar_14 : decode cX12_startsFar 14 = .ok (.iload_n 1, 1) := by decide +kernel
theorem dX12_startsFar_15 : decode cX12_startsFar 15 = .ok (.iconst (-1), 1) := by decide +kernel
theorem dX12_startsFar_16 : decode cX12_startsFar 16 = .ok (.iastore, 1) := by decide +kernel
theorem dX12_startsFar_17 : decode cX12_startsFar 17 = .ok (.iinc 1 1, 3) := by decide +kernel
theorem dX12_startsFar_20 : decode cX12_startsFar 20 = .ok (.goto (-18), 3) := by decide +kernel
theorem dX12_startsFar_23 : decode cX12_startsFar 23 = .ok (.aload_n 0, 1) := by decide +kernel
theorem dX12_startsFar_24 : decode cX12_startsFar 24 = .ok (.getfield 61, 3) := by decide +kernel
theorem dX12_startsFar_27 : decode cX12_startsFar 27 = .ok (.iconst 0, 1) := by decide +kernel
theorem dX12_startsFar_28 : decode cX12_startsFar 28 = .ok (.aload_n 0, 1) := by decide +kernel
theorem dX12_startsFar_29 : decode cX12_startsFar 29 = .ok (.invokevirtual 412, 3) := by decide +kernel
theorem dX12_startsFar_32 : decode cX12_startsFar 32 = .ok (.iastore, 1) := by decide +kernel
theorem dX12_startsFar_33 : decode cX12_startsFar 33 = .ok (.aload_n 0, 1) := by decide +kernel
theorem dX12_startsFar_34 : decode cX12_startsFar 34 = .ok (.getfield 58, 3) := by decide +kernel
theorem dX12_startsFar_37 : decode cX12_startsFar 37 = .ok (.aload_n 0, 1) := by decide +kernel
theorem dX12_startsFar_38 : decode cX12_startsFar 38 = .ok (.getfield 61, 3) := by decide +kernel
theorem dX12_startsFar_41 : decode cX12_startsFar 41 = .ok (.iconst 0, 1) := by decide +kernel
theorem dX12_startsFar_42 : decode cX12_startsFar 42 = .ok (.iaload, 1) := by decide +kernel
theorem dX12_startsFar_43 : decode cX12_startsFar 43 = .ok (.iconst 0, 1) := by decide +kernel
theorem dX12_startsFar_44 : decode cX12_startsFar 44 = .ok (.iastore, 1) := by decide +kernel
theorem dX12_startsFar_45 : decode cX12_startsFar 45 = .ok (.aload_n 0, 1) := by decide +kernel
theorem dX12_startsFar_46 : decode cX12_startsFar 46 = .ok (.iconst 1, 1) := by decide +kernel
theorem dX12_startsFar_47 : decode cX12_startsFar 47 = .ok (.putfield 424, 3) := by decide +kernel
theorem dX12_startsFar_50 : decode cX12_startsFar 50 = .ok (.return_, 1) := by decide +kernel
theorem dX12_fillsMoves_0 : decode cX12_fillsMoves 0 = .ok (.aload_n 0, 1) := by decide +kernel
theorem dX12_fillsMoves_1 : decode cX12_fillsMoves 1 = .ok (.invokevirtual 430, 3) := by decide +kernel
theorem dX12_fillsMoves_4 : decode cX12_fillsMoves 4 = .ok (.aload_n 0, 1) := by decide +kernel
theorem dX12_fillsMoves_5 : decode cX12_fillsMoves 5 = .ok (.getfield 61, 3) := by decide +kernel
theorem dX12_fillsMoves_8 : decode cX12_fillsMoves 8 = .ok (.iconst 0, 1) := by decide +kernel
theorem dX12_fillsMoves_9 : decode cX12_fillsMoves 9 = .ok (.iaload, 1) := by decide +kernel
theorem dX12_fillsMoves_10 : decode cX12_fillsMoves 10 = .ok (.istore_n 1, 1) := by decide +kernel
theorem dX12_fillsMoves_11 : decode cX12_fillsMoves 11 = .ok (.iconst 0, 1) := by decide +kernel
theorem dX12_fillsMoves_12 : decode cX12_fillsMoves 12 = .ok (.istore_n 2, 1) := by decide +kernel
theorem dX12_fillsMoves_13 : decode cX12_fillsMoves 13 = .ok (.iload_n 2, 1) := by decide +kernel
theorem dX12_fillsMoves_14 : decode cX12_fillsMoves 14 = .ok (.aload_n 0, 1) := by decide +kernel
theorem dX12_fillsMoves_15 : decode cX12_fillsMoves 15 = .ok (.getfield 424, 3) := by decide +kernel
theorem dX12_fillsMoves_18 : decode cX12_fillsMoves 18 = .ok (.if_icmp .ge 34, 3) := by decide +kernel
theorem dX12_fillsMoves_21 : decode cX12_fillsMoves 21 = .ok (.aload_n 0, 1) := by decide +kernel
theorem dX12_fillsMoves_22 : decode cX12_fillsMoves 22 = .ok (.aload_n 0, 1) := by decide +kernel
theorem dX12_fillsMoves_23 : decode cX12_fillsMoves 23 = .ok (.getfield 61, 3) := by decide +kernel
theorem dX12_fillsMoves_26 : decode cX12_fillsMoves 26 = .ok (.iload_n 2, 1) := by decide +kernel
theorem dX12_fillsMoves_27 : decode cX12_fillsMoves 27 = .ok (.iaload, 1) := by decide +kernel
theorem dX12_fillsMoves_28 : decode cX12_fillsMoves 28 = .ok (.iconst 0, 1) := by decide +kernel
theorem dX12_fillsMoves_29 : decode cX12_fillsMoves 29 = .ok (.iconst 4, 1) := by decide +kernel
theorem dX12_fillsMoves_30 : decode cX12_fillsMoves 30 = .ok (.aload_n 0, 1) := by decide +kernel
theorem dX12_fillsMoves_31 : decode cX12_fillsMoves 31 = .ok (.getfield 58, 3) := by decide +kernel
theorem dX12_fillsMoves_34 : decode cX12_fillsMoves 34 = .ok (.aload_n 0, 1) := by decide +kernel
theorem dX12_fillsMoves_35 : decode cX12_fillsMoves 35 = .ok (.getfield 61, 3) := by decide +kernel
theorem dX12_fillsMoves_38 : decode cX12_fillsMoves 38 = .ok (.iload_n 2, 1) := by decide +kernel
theorem dX12_fillsMoves_39 : decode cX12_fillsMoves 39 = .ok (.iaload, 1) := by decide +kernel
theorem dX12_fillsMoves_40 : decode cX12_fillsMoves 40 = .ok (.iaload, 1) := by decide +kernel
theorem dX12_fillsMoves_41 : decode cX12_fillsMoves 41 = .ok (.iconst 1, 1) := by decide +kernel
theorem dX12_fillsMoves_42 : decode cX12_fillsMoves 42 = .ok (.iadd, 1) := by decide +kernel
theorem dX12_fillsMoves_43 : decode cX12_fillsMoves 43 = .ok (.invokevirtual 433, 3) := by decide +kernel
theorem dX12_fillsMoves_46 : decode cX12_fillsMoves 46 = .ok (.iinc 2 1, 3) := by decide +kernel
theorem dX12_fillsMoves_49 : decode cX12_fillsMoves 49 = .ok (.goto (-36), 3) := by decide +kernel
theorem dX12_fillsMoves_52 : decode cX12_fillsMoves 52 = .ok (.aload_n 0, 1) := by decide +kernel
theorem dX12_fillsMoves_53 : decode cX12_fillsMoves 53 = .ok (.iload_n 1, 1) := by decide +kernel
theorem dX12_fillsMoves_54 : decode cX12_fillsMoves 54 = .ok (.invokevirtual 415, 3) := by decide +kernel
theorem dX12_fillsMoves_57 : decode cX12_fillsMoves 57 = .ok (.return_, 1) := by decide +kernel
theorem dX12_fillsPasses_0 : decode cX12_fillsPasses 0 = .ok (.aload_n 0, 1) := by decide +kernel
theorem dX12_fillsPasses_1 : decode cX12_fillsPasses 1 = .ok (.invokevirtual 430, 3) := by decide +kernel
theorem dX12_fillsPasses_4 : decode cX12_fillsPasses 4 = .ok (.aload_n 0, 1) := by decide +kernel
theorem dX12_fillsPasses_5 : decode cX12_fillsPasses 5 = .ok (.getfield 61, 3) := by decide +kernel
theorem dX12_fillsPasses_8 : decode cX12_fillsPasses 8 = .ok (.iconst 0, 1) := by decide +kernel
theorem dX12_fillsPasses_9 : decode cX12_fillsPasses 9 = .ok (.iaload, 1) := by decide +kernel
theorem dX12_fillsPasses_10 : decode cX12_fillsPasses 10 = .ok (.istore_n 1, 1) := by decide +kernel
theorem dX12_fillsPasses_11 : decode cX12_fillsPasses 11 = .ok (.iconst 0, 1) := by decide +kernel
theorem dX12_fillsPasses_12 : decode cX12_fillsPasses 12 = .ok (.istore_n 2, 1) := by decide +kernel
theorem dX12_fillsPasses_13 : decode cX12_fillsPasses 13 = .ok (.iconst 0, 1) := by decide +kernel
theorem dX12_fillsPasses_14 : decode cX12_fillsPasses 14 = .ok (.istore_n 3, 1) := by decide +kernel
theorem dX12_fillsPasses_15 : decode cX12_fillsPasses 15 = .ok (.iload_n 2, 1) := by decide +kernel
theorem dX12_fillsPasses_16 : decode cX12_fillsPasses 16 = .ok (.aload_n 0, 1) := by decide +kernel
theorem dX12_fillsPasses_17 : decode cX12_fillsPasses 17 = .ok (.getfield 424, 3) := by decide +kernel
theorem dX12_fillsPasses_20 : decode cX12_fillsPasses 20 = .ok (.if_icmp .ge 80, 3) := by decide +kernel
theorem dX12_fillsPasses_23 : decode cX12_fillsPasses 23 = .ok (.iload_n 2, 1) := by decide +kernel
theorem dX12_fillsPasses_24 : decode cX12_fillsPasses 24 = .ok (.istore 4, 2) := by decide +kernel
theorem dX12_fillsPasses_26 : decode cX12_fillsPasses 26 = .ok (.iload 4, 2) := by decide +kernel
theorem dX12_fillsPasses_28 : decode cX12_fillsPasses 28 = .ok (.aload_n 0, 1) := by decide +kernel
theorem dX12_fillsPasses_29 : decode cX12_fillsPasses 29 = .ok (.getfield 424, 3) := by decide +kernel
theorem dX12_fillsPasses_32 : decode cX12_fillsPasses 32 = .ok (.if_icmp .ge 23, 3) := by decide +kernel
theorem dX12_fillsPasses_35 : decode cX12_fillsPasses 35 = .ok (.aload_n 0, 1) := by decide +kernel
theorem dX12_fillsPasses_36 : decode cX12_fillsPasses 36 = .ok (.aload_n 0, 1) := by decide +kernel
theorem dX12_fillsPasses_37 : decode cX12_fillsPasses 37 = .ok (.getfield 61, 3) := by decide +kernel
theorem dX12_fillsPasses_40 : decode cX12_fillsPasses 40 = .ok (.iload 4, 2) := by decide +kernel
theorem dX12_fillsPasses_42 : decode cX12_fillsPasses 42 = .ok (.iaload, 1) := by decide +kernel
theorem dX12_fillsPasses_43 : decode cX12_fillsPasses 43 = .ok (.iconst 0, 1) := by decide +kernel
theorem dX12_fillsPasses_44 : decode cX12_fillsPasses 44 = .ok (.iconst 1, 1) := by decide +kernel
theorem dX12_fillsPasses_45 : decode cX12_fillsPasses 45 = .ok (.iload_n 3, 1) := by decide +kernel
theorem dX12_fillsPasses_46 : decode cX12_fillsPasses 46 = .ok (.invokevirtual 433, 3) := by decide +kernel
theorem dX12_fillsPasses_49 : decode cX12_fillsPasses 49 = .ok (.iinc 4 1, 3) := by decide +kernel
theorem dX12_fillsPasses_52 : decode cX12_fillsPasses 52 = .ok (.goto (-26), 3) := by decide +kernel
theorem dX12_fillsPasses_55 : decode cX12_fillsPasses 55 = .ok (.aload_n 0, 1) := by decide +kernel
theorem dX12_fillsPasses_56 : decode cX12_fillsPasses 56 = .ok (.getfield 424, 3) := by decide +kernel
theorem dX12_fillsPasses_59 : decode cX12_fillsPasses 59 = .ok (.istore 4, 2) := by decide +kernel
theorem dX12_fillsPasses_61 : decode cX12_fillsPasses 61 = .ok (.iinc 3 1, 3) := by decide +kernel
theorem dX12_fillsPasses_64 : decode cX12_fillsPasses 64 = .ok (.iload_n 2, 1) := by decide +kernel
theorem dX12_fillsPasses_65 : decode cX12_fillsPasses 65 = .ok (.istore 5, 2) := by decide +kernel
theorem dX12_fillsPasses_67 : decode cX12_fillsPasses 67 = .ok (.iload 5, 2) := by decide +kernel
theorem dX12_fillsPasses_69 : decode cX12_fillsPasses 69 = .ok (.iload 4, 2) := by decide +kernel
theorem dX12_fillsPasses_71 : decode cX12_fillsPasses 71 = .ok (.if_icmp .ge 23, 3) := by decide +kernel
theorem dX12_fillsPasses_74 : decode cX12_fillsPasses 74 = .ok (.aload_n 0, 1) := by decide +kernel
theorem dX12_fillsPasses_75 : decode cX12_fillsPasses 75 = .ok (.aload_n 0, 1) := by decide +kernel
theorem dX12_fillsPasses_76 : decode cX12_fillsPasses 76 = .ok (.getfield 61, 3) := by decide +kernel
theorem dX12_fillsPasses_79 : decode cX12_fillsPasses 79 = .ok (.iload 5, 2) := by decide +kernel
theorem dX12_fillsPasses_81 : decode cX12_fillsPasses 81 = .ok (.iaload, 1) := by decide +kernel
theorem dX12_fillsPasses_82 : decode cX12_fillsPasses 82 = .ok (.iconst 2, 1) := by decide +kernel
theorem dX12_fillsPasses_83 : decode cX12_fillsPasses 83 = .ok (.iconst 4, 1) := by decide +kernel
theorem dX12_fillsPasses_84 : decode cX12_fillsPasses 84 = .ok (.iload_n 3, 1) := by decide +kernel
theorem dX12_fillsPasses_85 : decode cX12_fillsPasses 85 = .ok (.invokevirtual 433, 3) := by decide +kernel
theorem dX12_fillsPasses_88 : decode cX12_fillsPasses 88 = .ok (.iinc 5 1, 3) := by decide +kernel
theorem dX12_fillsPasses_91 : decode cX12_fillsPasses 91 = .ok (.goto (-24), 3) := by decide +kernel
theorem dX12_fillsPasses_94 : decode cX12_fillsPasses 94 = .ok (.iload 4, 2) := by decide +kernel
theorem dX12_fillsPasses_96 : decode cX12_fillsPasses 96 = .ok (.istore_n 2, 1) := by decide +kernel
theorem dX12_fillsPasses_97 : decode cX12_fillsPasses 97 = .ok (.goto (-82), 3) := by decide +kernel
theorem dX12_fillsPasses_100 : decode cX12_fillsPasses 100 = .ok (.aload_n 0, 1) := by decide +kernel
theorem dX12_fillsPasses_101 : decode cX12_fillsPasses 101 = .ok (.iload_n 1, 1) := by decide +kernel
theorem dX12_fillsPasses_102 : decode cX12_fillsPasses 102 = .ok (.invokevirtual 415, 3) := by decide +kernel
theorem dX12_fillsPasses_105 : decode cX12_fillsPasses 105 = .ok (.return_, 1) := by decide +kernel
theorem dX12_goalFar_0 : decode cX12_goalFar 0 = .ok (.aload_n 0, 1) := by decide +kernel
theorem dX12_goalFar_1 : decode cX12_goalFar 1 = .ok (.getfield 61, 3) := by decide +kernel
theorem dX12_goalFar_4 : decode cX12_goalFar 4 = .ok (.iconst 0, 1) := by decide +kernel
theorem dX12_goalFar_5 : decode cX12_goalFar 5 = .ok (.iaload, 1) := by decide +kernel
theorem dX12_goalFar_6 : decode cX12_goalFar 6 = .ok (.istore_n 2, 1) := by decide +kernel
theorem dX12_goalFar_7 : decode cX12_goalFar 7 = .ok (.iconst (-1), 1) := by decide +kernel
theorem dX12_goalFar_8 : decode cX12_goalFar 8 = .ok (.istore_n 3, 1) := by decide +kernel
theorem dX12_goalFar_9 : decode cX12_goalFar 9 = .ok (.iconst 0, 1) := by decide +kernel
theorem dX12_goalFar_10 : decode cX12_goalFar 10 = .ok (.istore 4, 2) := by decide +kernel
theorem dX12_goalFar_12 : decode cX12_goalFar 12 = .ok (.iload 4, 2) := by decide +kernel
theorem dX12_goalFar_14 : decode cX12_goalFar 14 = .ok (.aload_n 0, 1) := by decide +kernel
theorem dX12_goalFar_15 : decode cX12_goalFar 15 = .ok (.getfield 424, 3) := by decide +kernel
theorem dX12_goalFar_18 : decode cX12_goalFar 18 = .ok (.if_icmp .ge 45, 3) := by decide +kernel
theorem dX12_goalFar_21 : decode cX12_goalFar 21 = .ok (.iload_n 3, 1) := by decide +kernel
theorem dX12_goalFar_22 : decode cX12_goalFar 22 = .ok (.ifCond .ge 41, 3) := by decide +kernel
theorem dX12_goalFar_25 : decode cX12_goalFar 25 = .ok (.aload_n 0, 1) := by decide +kernel
theorem dX12_goalFar_26 : decode cX12_goalFar 26 = .ok (.aload_n 0, 1) := by decide +kernel
theorem dX12_goalFar_27 : decode cX12_goalFar 27 = .ok (.getfield 61, 3) := by decide +kernel
theorem dX12_goalFar_30 : decode cX12_goalFar 30 = .ok (.iload 4, 2) := by decide +kernel
theorem dX12_goalFar_32 : decode cX12_goalFar 32 = .ok (.iaload, 1) := by decide +kernel
theorem dX12_goalFar_33 : decode cX12_goalFar 33 = .ok (.invokevirtual 415, 3) := by decide +kernel
theorem dX12_goalFar_36 : decode cX12_goalFar 36 = .ok (.aload_n 0, 1) := by decide +kernel
theorem dX12_goalFar_37 : decode cX12_goalFar 37 = .ok (.iload_n 1, 1) := by decide +kernel
theorem dX12_goalFar_38 : decode cX12_goalFar 38 = .ok (.invokevirtual 437, 3) := by decide +kernel
theorem dX12_goalFar_41 : decode cX12_goalFar 41 = .ok (.ifCond .eq 16, 3) := by decide +kernel
theorem dX12_goalFar_44 : decode cX12_goalFar 44 = .ok (.aload_n 0, 1) := by decide +kernel
theorem dX12_goalFar_45 : decode cX12_goalFar 45 = .ok (.getfield 58, 3) := by decide +kernel
theorem dX12_goalFar_48 : decode cX12_goalFar 48 = .ok (.aload_n 0, 1) := by decide +kernel
theorem dX12_goalFar_49 : decode cX12_goalFar 49 = .ok (.getfield 61, 3) := by decide +kernel
theorem dX12_goalFar_52 : decode cX12_goalFar 52 = .ok (.iload 4, 2) := by decide +kernel
theorem dX12_goalFar_54 : decode cX12_goalFar 54 = .ok (.iaload, 1) := by decide +kernel
theorem dX12_goalFar_55 : decode cX12_goalFar 55 = .ok (.iaload, 1) := by decide +kernel
theorem dX12_goalFar_56 : decode cX12_goalFar 56 = .ok (.istore_n 3, 1) := by decide +kernel
theorem dX12_goalFar_57 : decode cX12_goalFar 57 = .ok (.iinc 4 1, 3) := by decide +kernel
theorem dX12_goalFar_60 : decode cX12_goalFar 60 = .ok (.goto (-48), 3) := by decide +kernel
theorem dX12_goalFar_63 : decode cX12_goalFar 63 = .ok (.aload_n 0, 1) := by decide +kernel
theorem dX12_goalFar_64 : decode cX12_goalFar 64 = .ok (.iload_n 2, 1) := by decide +kernel
theorem dX12_goalFar_65 : decode cX12_goalFar 65 = .ok (.invokevirtual 415, 3) := by decide +kernel
theorem dX12_goalFar_68 : decode cX12_goalFar 68 = .ok (.iload_n 3, 1) := by decide +kernel
theorem dX12_goalFar_69 : decode cX12_goalFar 69 = .ok (.ireturn, 1) := by decide +kernel
theorem dX12_isSet_0 : decode cX12_isSet 0 = .ok (.aload_n 0, 1) := by decide +kernel
theorem dX12_isSet_1 : decode cX12_isSet 1 = .ok (.invokevirtual 369, 3) := by decide +kernel
theorem dX12_isSet_4 : decode cX12_isSet 4 = .ok (.ifCond .eq 23, 3) := by decide +kernel
theorem dX12_isSet_7 : decode cX12_isSet 7 = .ok (.iload_n 1, 1) := by decide +kernel
theorem dX12_isSet_8 : decode cX12_isSet 8 = .ok (.ifCond .lt 19, 3) := by decide +kernel
theorem dX12_isSet_11 : decode cX12_isSet 11 = .ok (.iload_n 1, 1) := by decide +kernel
theorem dX12_isSet_12 : decode cX12_isSet 12 = .ok (.iconst 1, 1) := by decide +kernel
theorem dX12_isSet_13 : decode cX12_isSet 13 = .ok (.aload_n 0, 1) := by decide +kernel
theorem dX12_isSet_14 : decode cX12_isSet 14 = .ok (.getfield 39, 3) := by decide +kernel
theorem dX12_isSet_17 : decode cX12_isSet 17 = .ok (.iconst 1, 1) := by decide +kernel
theorem dX12_isSet_18 : decode cX12_isSet 18 = .ok (.iaload, 1) := by decide +kernel
theorem dX12_isSet_19 : decode cX12_isSet 19 = .ok (.ishl, 1) := by decide +kernel
theorem dX12_isSet_20 : decode cX12_isSet 20 = .ok (.if_icmp .ge 7, 3) := by decide +kernel
theorem dX12_isSet_23 : decode cX12_isSet 23 = .ok (.iconst 1, 1) := by decide +kernel
theorem dX12_isSet_24 : decode cX12_isSet 24 = .ok (.goto 4, 3) := by decide +kernel
theorem dX12_isSet_27 : decode cX12_isSet 27 = .ok (.iconst 0, 1) := by decide +kernel
theorem dX12_isSet_28 : decode cX12_isSet 28 = .ok (.ireturn, 1) := by decide +kernel
theorem dX12_moves_0 : decode cX12_moves 0 = .ok (.aload_n 0, 1) := by decide +kernel
theorem dX12_moves_1 : decode cX12_moves 1 = .ok (.iload_n 1, 1) := by decide +kernel
theorem dX12_moves_2 : decode cX12_moves 2 = .ok (.invokevirtual 440, 3) := by decide +kernel
theorem dX12_moves_5 : decode cX12_moves 5 = .ok (.ifCond .ne 5, 3) := by decide +kernel
theorem dX12_moves_8 : decode cX12_moves 8 = .ok (.iconst (-1), 1) := by decide +kernel
theorem dX12_moves_9 : decode cX12_moves 9 = .ok (.ireturn, 1) := by decide +kernel
theorem dX12_moves_10 : decode cX12_moves 10 = .ok (.aload_n 0, 1) := by decide +kernel
theorem dX12_moves_11 : decode cX12_moves 11 = .ok (.invokevirtual 443, 3) := by decide +kernel
theorem dX12_moves_14 : decode cX12_moves 14 = .ok (.aload_n 0, 1) := by decide +kernel
theorem dX12_moves_15 : decode cX12_moves 15 = .ok (.iload_n 1, 1) := by decide +kernel
theorem dX12_moves_16 : decode cX12_moves 16 = .ok (.invokevirtual 446, 3) := by decide +kernel
theorem dX12_moves_19 : decode cX12_moves 19 = .ok (.istore_n 2, 1) := by decide +kernel
theorem dX12_moves_20 : decode cX12_moves 20 = .ok (.iload_n 2, 1) := by decide +kernel
theorem dX12_moves_21 : decode cX12_moves 21 = .ok (.ifCond .ge 8, 3) := by decide +kernel
theorem dX12_moves_24 : decode cX12_moves 24 = .ok (.bipush (-2), 2) := by decide +kernel
theorem dX12_moves_26 : decode cX12_moves 26 = .ok (.goto 4, 3) := by decide +kernel
theorem dX12_moves_29 : decode cX12_moves 29 = .ok (.iload_n 2, 1) := by decide +kernel
theorem dX12_moves_30 : decode cX12_moves 30 = .ok (.ireturn, 1) := by decide +kernel
theorem dX12_squeeze_0 : decode cX12_squeeze 0 = .ok (.aload_n 0, 1) := by decide +kernel
theorem dX12_squeeze_1 : decode cX12_squeeze 1 = .ok (.iload_n 1, 1) := by decide +kernel
theorem dX12_squeeze_2 : decode cX12_squeeze 2 = .ok (.invokevirtual 440, 3) := by decide +kernel
theorem dX12_squeeze_5 : decode cX12_squeeze 5 = .ok (.ifCond .ne 5, 3) := by decide +kernel
theorem dX12_squeeze_8 : decode cX12_squeeze 8 = .ok (.iconst (-1), 1) := by decide +kernel
theorem dX12_squeeze_9 : decode cX12_squeeze 9 = .ok (.ireturn, 1) := by decide +kernel
theorem dX12_squeeze_10 : decode cX12_squeeze 10 = .ok (.aload_n 0, 1) := by decide +kernel
theorem dX12_squeeze_11 : decode cX12_squeeze 11 = .ok (.invokevirtual 449, 3) := by decide +kernel
theorem dX12_squeeze_14 : decode cX12_squeeze 14 = .ok (.aload_n 0, 1) := by decide +kernel
theorem dX12_squeeze_15 : decode cX12_squeeze 15 = .ok (.iload_n 1, 1) := by decide +kernel
theorem dX12_squeeze_16 : decode cX12_squeeze 16 = .ok (.invokevirtual 446, 3) := by decide +kernel
theorem dX12_squeeze_19 : decode cX12_squeeze 19 = .ok (.istore_n 2, 1) := by decide +kernel
theorem dX12_squeeze_20 : decode cX12_squeeze 20 = .ok (.iload_n 2, 1) := by decide +kernel
theorem dX12_squeeze_21 : decode cX12_squeeze 21 = .ok (.ifCond .ge 8, 3) := by decide +kernel
theorem dX12_squeeze_24 : decode cX12_squeeze 24 = .ok (.bipush (-2), 2) := by decide +kernel
theorem dX12_squeeze_26 : decode cX12_squeeze 26 = .ok (.goto 4, 3) := by decide +kernel
theorem dX12_squeeze_29 : decode cX12_squeeze 29 = .ok (.iload_n 2, 1) := by decide +kernel
theorem dX12_squeeze_30 : decode cX12_squeeze 30 = .ok (.ireturn, 1) := by decide +kernel
theorem dX12_findsMove_0 : decode cX12_findsMove 0 = .ok (.aload_n 0, 1) := by decide +kernel
theorem dX12_findsMove_1 : decode cX12_findsMove 1 = .ok (.invokevirtual 412, 3) := by decide +kernel
theorem dX12_findsMove_4 : decode cX12_findsMove 4 = .ok (.istore_n 1, 1) := by decide +kernel
theorem dX12_findsMove_5 : decode cX12_findsMove 5 = .ok (.iconst 0, 1) := by decide +kernel
theorem dX12_findsMove_6 : decode cX12_findsMove 6 = .ok (.istore_n 2, 1) := by decide +kernel
theorem dX12_findsMove_7 : decode cX12_findsMove 7 = .ok (.iload_n 2, 1) := by decide +kernel
theorem dX12_findsMove_8 : decode cX12_findsMove 8 = .ok (.aload_n 0, 1) := by decide +kernel
theorem dX12_findsMove_9 : decode cX12_findsMove 9 = .ok (.getfield 39, 3) := by decide +kernel
theorem dX12_findsMove_12 : decode cX12_findsMove 12 = .ok (.iconst 1, 1) := by decide +kernel
theorem dX12_findsMove_13 : decode cX12_findsMove 13 = .ok (.iaload, 1) := by decide +kernel
theorem dX12_findsMove_14 : decode cX12_findsMove 14 = .ok (.if_icmp .ge 82, 3) := by decide +kernel
theorem dX12_findsMove_17 : decode cX12_findsMove 17 = .ok (.iconst 0, 1) := by decide +kernel
theorem dX12_findsMove_18 : decode cX12_findsMove 18 = .ok (.istore_n 3, 1) := by decide +kernel
theorem dX12_findsMove_19 : decode cX12_findsMove 19 = .ok (.iload_n 3, 1) := by decide +kernel
theorem dX12_findsMove_20 : decode cX12_findsMove 20 = .ok (.aload_n 0, 1) := by decide +kernel
theorem dX12_findsMove_21 : decode cX12_findsMove 21 = .ok (.iload_n 2, 1) := by decide +kernel
theorem dX12_findsMove_22 : decode cX12_findsMove 22 = .ok (.invokevirtual 418, 3) := by decide +kernel
theorem dX12_findsMove_25 : decode cX12_findsMove 25 = .ok (.if_icmp .ge 65, 3) := by decide +kernel
theorem dX12_findsMove_28 : decode cX12_findsMove 28 = .ok (.aload_n 0, 1) := by decide +kernel
theorem dX12_findsMove_29 : decode cX12_findsMove 29 = .ok (.iload_n 2, 1) := by decide +kernel
theorem dX12_findsMove_30 : decode cX12_findsMove 30 = .ok (.iload_n 3, 1) := by decide +kernel
theorem dX12_findsMove_31 : decode cX12_findsMove 31 = .ok (.invokevirtual 421, 3) := by decide +kernel
theorem dX12_findsMove_34 : decode cX12_findsMove 34 = .ok (.istore 4, 2) := by decide +kernel
theorem dX12_findsMove_36 : decode cX12_findsMove 36 = .ok (.iload 4, 2) := by decide +kernel
theorem dX12_findsMove_38 : decode cX12_findsMove 38 = .ok (.ifCond .lt 46, 3) := by decide +kernel
theorem dX12_findsMove_41 : decode cX12_findsMove 41 = .ok (.aload_n 0, 1) := by decide +kernel
theorem dX12_findsMove_42 : decode cX12_findsMove 42 = .ok (.getfield 58, 3) := by decide +kernel
theorem dX12_findsMove_45 : decode cX12_findsMove 45 = .ok (.iload 4, 2) := by decide +kernel
theorem dX12_findsMove_47 : decode cX12_findsMove 47 = .ok (.iaload, 1) := by decide +kernel
theorem dX12_findsMove_48 : decode cX12_findsMove 48 = .ok (.aload_n 0, 1) := by decide +kernel
theorem dX12_findsMove_49 : decode cX12_findsMove 49 = .ok (.getfield 58, 3) := by decide +kernel
theorem dX12_findsMove_52 : decode cX12_findsMove 52 = .ok (.iload_n 1, 1) := by decide +kernel
theorem dX12_findsMove_53 : decode cX12_findsMove 53 = .ok (.iaload, 1) := by decide +kernel
theorem dX12_findsMove_54 : decode cX12_findsMove 54 = .ok (.iconst 1, 1) := by decide +kernel
theorem dX12_findsMove_55 : decode cX12_findsMove 55 = .ok (.iadd, 1) := by decide +kernel
theorem dX12_findsMove_56 : decode cX12_findsMove 56 = .ok (.if_icmp .ne 28, 3) := by decide +kernel
theorem dX12_findsMove_59 : decode cX12_findsMove 59 = .ok (.aload_n 0, 1) := by decide +kernel
theorem dX12_findsMove_60 : decode cX12_findsMove 60 = .ok (.getfield 64, 3) := by decide +kernel
theorem dX12_findsMove_63 : decode cX12_findsMove 63 = .ok (.iload 4, 2) := by decide +kernel
theorem dX12_findsMove_65 : decode cX12_findsMove 65 = .ok (.baload, 1) := by decide +kernel
theorem dX12_findsMove_66 : decode cX12_findsMove 66 = .ok (.ifCond .ne 6, 3) := by decide +kernel
theorem dX12_findsMove_69 : decode cX12_findsMove 69 = .ok (.goto 15, 3) := by decide +kernel
theorem dX12_findsMove_72 : decode cX12_findsMove 72 = .ok (.aload_n 0, 1) := by decide +kernel
theorem dX12_findsMove_73 : decode cX12_findsMove 73 = .ok (.iload_n 2, 1) := by decide +kernel
theorem dX12_findsMove_74 : decode cX12_findsMove 74 = .ok (.putfield 452, 3) := by decide +kernel
theorem dX12_findsMove_77 : decode cX12_findsMove 77 = .ok (.aload_n 0, 1) := by decide +kernel
theorem dX12_findsMove_78 : decode cX12_findsMove 78 = .ok (.iload_n 3, 1) := by decide +kernel
theorem dX12_findsMove_79 : decode cX12_findsMove 79 = .ok (.putfield 455, 3) := by decide +kernel
theorem dX12_findsMove_82 : decode cX12_findsMove 82 = .ok (.iconst 1, 1) := by decide +kernel
theorem dX12_findsMove_83 : decode cX12_findsMove 83 = .ok (.ireturn, 1) := by decide +kernel
theorem dX12_findsMove_84 : decode cX12_findsMove 84 = .ok (.iinc 3 1, 3) := by decide +kernel
theorem dX12_findsMove_87 : decode cX12_findsMove 87 = .ok (.goto (-68), 3) := by decide +kernel
theorem dX12_findsMove_90 : decode cX12_findsMove 90 = .ok (.iinc 2 1, 3) := by decide +kernel
theorem dX12_findsMove_93 : decode cX12_findsMove 93 = .ok (.goto (-86), 3) := by decide +kernel
theorem dX12_findsMove_96 : decode cX12_findsMove 96 = .ok (.iconst 0, 1) := by decide +kernel
theorem dX12_findsMove_97 : decode cX12_findsMove 97 = .ok (.ireturn, 1) := by decide +kernel
theorem dX12_fillsWay_0 : decode cX12_fillsWay 0 = .ok (.aload_n 0, 1) := by decide +kernel
theorem dX12_fillsWay_1 : decode cX12_fillsWay 1 = .ok (.getfield 61, 3) := by decide +kernel
theorem dX12_fillsWay_4 : decode cX12_fillsWay 4 = .ok (.iconst 0, 1) := by decide +kernel
theorem dX12_fillsWay_5 : decode cX12_fillsWay 5 = .ok (.iaload, 1) := by decide +kernel
theorem dX12_fillsWay_6 : decode cX12_fillsWay 6 = .ok (.istore_n 3, 1) := by decide +kernel
theorem dX12_fillsWay_7 : decode cX12_fillsWay 7 = .ok (.iconst 0, 1) := by decide +kernel
theorem dX12_fillsWay_8 : decode cX12_fillsWay 8 = .ok (.istore 4, 2) := by decide +kernel
theorem dX12_fillsWay_10 : decode cX12_fillsWay 10 = .ok (.iload 4, 2) := by decide +kernel
theorem dX12_fillsWay_12 : decode cX12_fillsWay 12 = .ok (.aload_n 0, 1) := by decide +kernel
theorem dX12_fillsWay_13 : decode cX12_fillsWay 13 = .ok (.invokevirtual 427, 3) := by decide +kernel
theorem dX12_fillsWay_16 : decode cX12_fillsWay 16 = .ok (.if_icmp .ge 17, 3) := by decide +kernel
theorem dX12_fillsWay_19 : decode cX12_fillsWay 19 = .ok (.aload_n 0, 1) := by decide +kernel
theorem dX12_fillsWay_20 : decode cX12_fillsWay 20 = .ok (.getfield 64, 3) := by decide +kernel
theorem dX12_fillsWay_23 : decode cX12_fillsWay 23 = .ok (.iload 4, 2) := by decide +kernel
theorem dX12_fillsWay_25 : decode cX12_fillsWay 25 = .ok (.iconst 0, 1) := by decide +kernel
theorem dX12_fillsWay_26 : decode cX12_fillsWay 26 = .ok (.bastore, 1) := by decide +kernel
theorem dX12_fillsWay_27 : decode cX12_fillsWay 27 = .ok (.iinc 4 1, 3) := by decide +kernel
theorem dX12_fillsWay_30 : decode cX12_fillsWay 30 = .ok (.goto (-20), 3) := by decide +kernel
theorem dX12_fillsWay_33 : decode cX12_fillsWay 33 = .ok (.aload_n 0, 1) := by decide +kernel
theorem dX12_fillsWay_34 : decode cX12_fillsWay 34 = .ok (.getfield 424, 3) := by decide +kernel
theorem dX12_fillsWay_37 : decode cX12_fillsWay 37 = .ok (.iconst 1, 1) := by decide +kernel
theorem dX12_fillsWay_38 : decode cX12_fillsWay 38 = .ok (.isub, 1) := by decide +kernel
theorem dX12_fillsWay_39 : decode cX12_fillsWay 39 = .ok (.istore 4, 2) := by decide +kernel
theorem dX12_fillsWay_41 : decode cX12_fillsWay 41 = .ok (.iload 4, 2) := by decide +kernel
theorem dX12_fillsWay_43 : decode cX12_fillsWay 43 = .ok (.ifCond .lt 68, 3) := by decide +kernel
theorem dX12_fillsWay_46 : decode cX12_fillsWay 46 = .ok (.aload_n 0, 1) := by decide +kernel
theorem dX12_fillsWay_47 : decode cX12_fillsWay 47 = .ok (.getfield 61, 3) := by decide +kernel
theorem dX12_fillsWay_50 : decode cX12_fillsWay 50 = .ok (.iload 4, 2) := by decide +kernel
theorem dX12_fillsWay_52 : decode cX12_fillsWay 52 = .ok (.iaload, 1) := by decide +kernel
theorem dX12_fillsWay_53 : decode cX12_fillsWay 53 = .ok (.istore 5, 2) := by decide +kernel
theorem dX12_fillsWay_55 : decode cX12_fillsWay 55 = .ok (.aload_n 0, 1) := by decide +kernel
theorem dX12_fillsWay_56 : decode cX12_fillsWay 56 = .ok (.getfield 58, 3) := by decide +kernel
theorem dX12_fillsWay_59 : decode cX12_fillsWay 59 = .ok (.iload 5, 2) := by decide +kernel
theorem dX12_fillsWay_61 : decode cX12_fillsWay 61 = .ok (.iaload, 1) := by decide +kernel
theorem dX12_fillsWay_62 : decode cX12_fillsWay 62 = .ok (.iload_n 2, 1) := by decide +kernel
theorem dX12_fillsWay_63 : decode cX12_fillsWay 63 = .ok (.if_icmp .le 6, 3) := by decide +kernel
theorem dX12_fillsWay_66 : decode cX12_fillsWay 66 = .ok (.goto 39, 3) := by decide +kernel
theorem dX12_fillsWay_69 : decode cX12_fillsWay 69 = .ok (.aload_n 0, 1) := by decide +kernel
theorem dX12_fillsWay_70 : decode cX12_fillsWay 70 = .ok (.iload 5, 2) := by decide +kernel
theorem dX12_fillsWay_72 : decode cX12_fillsWay 72 = .ok (.invokevirtual 415, 3) := by decide +kernel
theorem dX12_fillsWay_75 : decode cX12_fillsWay 75 = .ok (.aload_n 0, 1) := by decide +kernel
theorem dX12_fillsWay_76 : decode cX12_fillsWay 76 = .ok (.getfield 64, 3) := by decide +kernel
theorem dX12_fillsWay_79 : decode cX12_fillsWay 79 = .ok (.iload 5, 2) := by decide +kernel
theorem dX12_fillsWay_81 : decode cX12_fillsWay 81 = .ok (.aload_n 0, 1) := by decide +kernel
theorem dX12_fillsWay_82 : decode cX12_fillsWay 82 = .ok (.getfield 58, 3) := by decide +kernel
theorem dX12_fillsWay_85 : decode cX12_fillsWay 85 = .ok (.iload 5, 2) := by decide +kernel
theorem dX12_fillsWay_87 : decode cX12_fillsWay 87 = .ok (.iaload, 1) := by decide +kernel
theorem dX12_fillsWay_88 : decode cX12_fillsWay 88 = .ok (.iload_n 2, 1) := by decide +kernel
theorem dX12_fillsWay_89 : decode cX12_fillsWay 89 = .ok (.if_icmp .ne 11, 3) := by decide +kernel
theorem dX12_fillsWay_92 : decode cX12_fillsWay 92 = .ok (.aload_n 0, 1) := by decide +kernel
theorem dX12_fillsWay_93 : decode cX12_fillsWay 93 = .ok (.iload_n 1, 1) := by decide +kernel
theorem dX12_fillsWay_94 : decode cX12_fillsWay 94 = .ok (.invokevirtual 437, 3) := by decide +kernel
theorem dX12_fillsWay_97 : decode cX12_fillsWay 97 = .ok (.goto 7, 3) := by decide +kernel
theorem dX12_fillsWay_100 : decode cX12_fillsWay 100 = .ok (.aload_n 0, 1) := by decide +kernel
theorem dX12_fillsWay_101 : decode cX12_fillsWay 101 = .ok (.invokevirtual 458, 3) := by decide +kernel
theorem dX12_fillsWay_104 : decode cX12_fillsWay 104 = .ok (.bastore, 1) := by decide +kernel
theorem dX12_fillsWay_105 : decode cX12_fillsWay 105 = .ok (.iinc 4 (-1), 3) := by decide +kernel
theorem dX12_fillsWay_108 : decode cX12_fillsWay 108 = .ok (.goto (-67), 3) := by decide +kernel
theorem dX12_fillsWay_111 : decode cX12_fillsWay 111 = .ok (.aload_n 0, 1) := by decide +kernel
theorem dX12_fillsWay_112 : decode cX12_fillsWay 112 = .ok (.iload_n 3, 1) := by decide +kernel
theorem dX12_fillsWay_113 : decode cX12_fillsWay 113 = .ok (.invokevirtual 415, 3) := by decide +kernel
theorem dX12_fillsWay_116 : decode cX12_fillsWay 116 = .ok (.return_, 1) := by decide +kernel
theorem dX12_move_0 : decode cX12_move 0 = .ok (.aload_n 0, 1) := by decide +kernel
theorem dX12_move_1 : decode cX12_move 1 = .ok (.iload_n 1, 1) := by decide +kernel
theorem dX12_move_2 : decode cX12_move 2 = .ok (.invokevirtual 440, 3) := by decide +kernel
theorem dX12_move_5 : decode cX12_move 5 = .ok (.ifCond .eq 19, 3) := by decide +kernel
theorem dX12_move_8 : decode cX12_move 8 = .ok (.iload_n 2, 1) := by decide +kernel
theorem dX12_move_9 : decode cX12_move 9 = .ok (.ifCond .lt 15, 3) := by decide +kernel
theorem dX12_move_12 : decode cX12_move 12 = .ok (.iload_n 3, 1) := by decide +kernel
theorem dX12_move_13 : decode cX12_move 13 = .ok (.i2l, 1) := by decide +kernel
theorem dX12_move_14 : decode cX12_move 14 = .ok (.lconst 0, 1) := by decide +kernel
theorem dX12_move_15 : decode cX12_move 15 = .ok (.ldc2_w 395, 3) := by decide +kernel
theorem dX12_move_18 : decode cX12_move 18 = .ok (.invokestatic 124, 3) := by decide +kernel
theorem dX12_move_21 : decode cX12_move 21 = .ok (.ifCond .ne 6, 3) := by decide +kernel
theorem dX12_move_24 : decode cX12_move 24 = .ok (.bipush (-3), 2) := by decide +kernel
theorem dX12_move_26 : decode cX12_move 26 = .ok (.ireturn, 1) := by decide +kernel
theorem dX12_move_27 : decode cX12_move 27 = .ok (.aload_n 0, 1) := by decide +kernel
theorem dX12_move_28 : decode cX12_move 28 = .ok (.invokevirtual 443, 3) := by decide +kernel
theorem dX12_move_31 : decode cX12_move 31 = .ok (.aload_n 0, 1) := by decide +kernel
theorem dX12_move_32 : decode cX12_move 32 = .ok (.iload_n 1, 1) := by decide +kernel
theorem dX12_move_33 : decode cX12_move 33 = .ok (.invokevirtual 446, 3) := by decide +kernel
theorem dX12_move_36 : decode cX12_move 36 = .ok (.istore 4, 2) := by decide +kernel
theorem dX12_move_38 : decode cX12_move 38 = .ok (.iload 4, 2) := by decide +kernel
theorem dX12_move_40 : decode cX12_move 40 = .ok (.ifCond .lt 9, 3) := by decide +kernel
theorem dX12_move_43 : decode cX12_move 43 = .ok (.iload_n 2, 1) := by decide +kernel
theorem dX12_move_44 : decode cX12_move 44 = .ok (.iload 4, 2) := by decide +kernel
theorem dX12_move_46 : decode cX12_move 46 = .ok (.if_icmp .lt 6, 3) := by decide +kernel
theorem dX12_move_49 : decode cX12_move 49 = .ok (.bipush (-2), 2) := by decide +kernel
theorem dX12_move_51 : decode cX12_move 51 = .ok (.ireturn, 1) := by decide +kernel
theorem dX12_move_52 : decode cX12_move 52 = .ok (.aload_n 0, 1) := by decide +kernel
theorem dX12_move_53 : decode cX12_move 53 = .ok (.getfield 61, 3) := by decide +kernel
theorem dX12_move_56 : decode cX12_move 56 = .ok (.iconst 0, 1) := by decide +kernel
theorem dX12_move_57 : decode cX12_move 57 = .ok (.iaload, 1) := by decide +kernel
theorem dX12_move_58 : decode cX12_move 58 = .ok (.istore 5, 2) := by decide +kernel
theorem dX12_move_60 : decode cX12_move 60 = .ok (.aload_n 0, 1) := by decide +kernel
theorem dX12_move_61 : decode cX12_move 61 = .ok (.iload_n 1, 1) := by decide +kernel
theorem dX12_move_62 : decode cX12_move 62 = .ok (.iload 4, 2) := by decide +kernel
theorem dX12_move_64 : decode cX12_move 64 = .ok (.invokevirtual 461, 3) := by decide +kernel
theorem dX12_move_67 : decode cX12_move 67 = .ok (.iconst 0, 1) := by decide +kernel
theorem dX12_move_68 : decode cX12_move 68 = .ok (.istore 6, 2) := by decide +kernel
theorem dX12_move_70 : decode cX12_move 70 = .ok (.iload 6, 2) := by decide +kernel
theorem dX12_move_72 : decode cX12_move 72 = .ok (.iload_n 2, 1) := by decide +kernel
theorem dX12_move_73 : decode cX12_move 73 = .ok (.if_icmp .gt 36, 3) := by decide +kernel
theorem dX12_move_76 : decode cX12_move 76 = .ok (.aload_n 0, 1) := by decide +kernel
theorem dX12_move_77 : decode cX12_move 77 = .ok (.invokevirtual 458, 3) := by decide +kernel
theorem dX12_move_80 : decode cX12_move 80 = .ok (.pop, 1) := by decide +kernel
theorem dX12_move_81 : decode cX12_move 81 = .ok (.iload 6, 2) := by decide +kernel
theorem dX12_move_83 : decode cX12_move 83 = .ok (.iload_n 2, 1) := by decide +kernel
theorem dX12_move_84 : decode cX12_move 84 = .ok (.if_icmp .ge 19, 3) := by decide +kernel
theorem dX12_move_87 : decode cX12_move 87 = .ok (.aload_n 0, 1) := by decide +kernel
theorem dX12_move_88 : decode cX12_move 88 = .ok (.aload_n 0, 1) := by decide +kernel
theorem dX12_move_89 : decode cX12_move 89 = .ok (.aload_n 0, 1) := by decide +kernel
theorem dX12_move_90 : decode cX12_move 90 = .ok (.getfield 452, 3) := by decide +kernel
theorem dX12_move_93 : decode cX12_move 93 = .ok (.aload_n 0, 1) := by decide +kernel
theorem dX12_move_94 : decode cX12_move 94 = .ok (.getfield 455, 3) := by decide +kernel
theorem dX12_move_97 : decode cX12_move 97 = .ok (.invokevirtual 421, 3) := by decide +kernel
theorem dX12_move_100 : decode cX12_move 100 = .ok (.invokevirtual 415, 3) := by decide +kernel
theorem dX12_move_103 : decode cX12_move 103 = .ok (.iinc 6 1, 3) := by decide +kernel
theorem dX12_move_106 : decode cX12_move 106 = .ok (.goto (-36), 3) := by decide +kernel
theorem dX12_move_109 : decode cX12_move 109 = .ok (.aload_n 0, 1) := by decide +kernel
theorem dX12_move_110 : decode cX12_move 110 = .ok (.iload 5, 2) := by decide +kernel
theorem dX12_move_112 : decode cX12_move 112 = .ok (.invokevirtual 415, 3) := by decide +kernel
theorem dX12_move_115 : decode cX12_move 115 = .ok (.iload_n 3, 1) := by decide +kernel
theorem dX12_move_116 : decode cX12_move 116 = .ok (.ifCond .ne 8, 3) := by decide +kernel
theorem dX12_move_119 : decode cX12_move 119 = .ok (.aload_n 0, 1) := by decide +kernel
theorem dX12_move_120 : decode cX12_move 120 = .ok (.getfield 452, 3) := by decide +kernel
theorem dX12_move_123 : decode cX12_move 123 = .ok (.ireturn, 1) := by decide +kernel
theorem dX12_move_124 : decode cX12_move 124 = .ok (.iload_n 3, 1) := by decide +kernel
theorem dX12_move_125 : decode cX12_move 125 = .ok (.iconst 1, 1) := by decide +kernel
theorem dX12_move_126 : decode cX12_move 126 = .ok (.if_icmp .ne 22, 3) := by decide +kernel
theorem dX12_move_129 : decode cX12_move 129 = .ok (.aload_n 0, 1) := by decide +kernel
theorem dX12_move_130 : decode cX12_move 130 = .ok (.getfield 455, 3) := by decide +kernel
theorem dX12_move_133 : decode cX12_move 133 = .ok (.iconst 2, 1) := by decide +kernel
theorem dX12_move_134 : decode cX12_move 134 = .ok (.if_icmp .le 7, 3) := by decide +kernel
theorem dX12_move_137 : decode cX12_move 137 = .ok (.iconst 2, 1) := by decide +kernel
theorem dX12_move_138 : decode cX12_move 138 = .ok (.goto 33, 3) := by decide +kernel
theorem dX12_move_141 : decode cX12_move 141 = .ok (.aload_n 0, 1) := by decide +kernel
theorem dX12_move_142 : decode cX12_move 142 = .ok (.getfield 455, 3) := by decide +kernel
theorem dX12_move_145 : decode cX12_move 145 = .ok (.goto 26, 3) := by decide +kernel
theorem dX12_move_148 : decode cX12_move 148 = .ok (.aload_n 0, 1) := by decide +kernel
theorem dX12_move_149 : decode cX12_move 149 = .ok (.getfield 455, 3) := by decide +kernel
theorem dX12_move_152 : decode cX12_move 152 = .ok (.iconst 2, 1) := by decide +kernel
theorem dX12_move_153 : decode cX12_move 153 = .ok (.if_icmp .ge 7, 3) := by decide +kernel
theorem dX12_move_156 : decode cX12_move 156 = .ok (.iconst (-1), 1) := by decide +kernel
theorem dX12_move_157 : decode cX12_move 157 = .ok (.goto 14, 3) := by decide +kernel
theorem dX12_move_160 : decode cX12_move 160 = .ok (.aload_n 0, 1) := by decide +kernel
theorem dX12_move_161 : decode cX12_move 161 = .ok (.getfield 452, 3) := by decide +kernel
theorem dX12_move_164 : decode cX12_move 164 = .ok (.aload_n 0, 1) := by decide +kernel
theorem dX12_move_165 : decode cX12_move 165 = .ok (.getfield 455, 3) := by decide +kernel
theorem dX12_move_168 : decode cX12_move 168 = .ok (.iadd, 1) := by decide +kernel
theorem dX12_move_169 : decode cX12_move 169 = .ok (.iconst 1, 1) := by decide +kernel
theorem dX12_move_170 : decode cX12_move 170 = .ok (.isub, 1) := by decide +kernel
theorem dX12_move_171 : decode cX12_move 171 = .ok (.ireturn, 1) := by decide +kernel
theorem dX12_capitalNow_0 : decode cX12_capitalNow 0 = .ok (.iconst (-1), 1) := by decide +kernel
theorem dX12_capitalNow_1 : decode cX12_capitalNow 1 = .ok (.istore_n 1, 1) := by decide +kernel
theorem dX12_capitalNow_2 : decode cX12_capitalNow 2 = .ok (.iconst 0, 1) := by decide +kernel
theorem dX12_capitalNow_3 : decode cX12_capitalNow 3 = .ok (.istore_n 2, 1) := by decide +kernel
theorem dX12_capitalNow_4 : decode cX12_capitalNow 4 = .ok (.iconst 0, 1) := by decide +kernel
theorem dX12_capitalNow_5 : decode cX12_capitalNow 5 = .ok (.istore_n 3, 1) := by decide +kernel
theorem dX12_capitalNow_6 : decode cX12_capitalNow 6 = .ok (.iload_n 3, 1) := by decide +kernel
theorem dX12_capitalNow_7 : decode cX12_capitalNow 7 = .ok (.aload_n 0, 1) := by decide +kernel
theorem dX12_capitalNow_8 : decode cX12_capitalNow 8 = .ok (.getfield 39, 3) := by decide +kernel
theorem dX12_capitalNow_11 : decode cX12_capitalNow 11 = .ok (.iconst 0, 1) := by decide +kernel
theorem dX12_capitalNow_12 : decode cX12_capitalNow 12 = .ok (.iaload, 1) := by decide +kernel
theorem dX12_capitalNow_13 : decode cX12_capitalNow 13 = .ok (.if_icmp .ge 29, 3) := by decide +kernel
theorem dX12_capitalNow_16 : decode cX12_capitalNow 16 = .ok (.aload_n 0, 1) := by decide +kernel
theorem dX12_capitalNow_17 : decode cX12_capitalNow 17 = .ok (.iload_n 3, 1) := by decide +kernel
theorem dX12_capitalNow_18 : decode cX12_capitalNow 18 = .ok (.invokevirtual 330, 3) := by decide +kernel
theorem dX12_capitalNow_21 : decode cX12_capitalNow 21 = .ok (.iload_n 2, 1) := by decide +kernel
theorem dX12_capitalNow_22 : decode cX12_capitalNow 22 = .ok (.if_icmp .gt 6, 3) := by decide +kernel
theorem dX12_capitalNow_25 : decode cX12_capitalNow 25 = .ok (.goto 11, 3) := by decide +kernel
theorem dX12_capitalNow_28 : decode cX12_capitalNow 28 = .ok (.iload_n 3, 1) := by decide +kernel
theorem dX12_capitalNow_29 : decode cX12_capitalNow 29 = .ok (.istore_n 1, 1) := by decide +kernel
theorem dX12_capitalNow_30 : decode cX12_capitalNow 30 = .ok (.aload_n 0, 1) := by decide +kernel
theorem dX12_capitalNow_31 : decode cX12_capitalNow 31 = .ok (.iload_n 3, 1) := by decide +kernel
theorem dX12_capitalNow_32 : decode cX12_capitalNow 32 = .ok (.invokevirtual 330, 3) := by decide +kernel
theorem dX12_capitalNow_35 : decode cX12_capitalNow 35 = .ok (.istore_n 2, 1) := by decide +kernel
theorem dX12_capitalNow_36 : decode cX12_capitalNow 36 = .ok (.iinc 3 1, 3) := by decide +kernel
theorem dX12_capitalNow_39 : decode cX12_capitalNow 39 = .ok (.goto (-33), 3) := by decide +kernel
theorem dX12_capitalNow_42 : decode cX12_capitalNow 42 = .ok (.iload_n 1, 1) := by decide +kernel
theorem dX12_capitalNow_43 : decode cX12_capitalNow 43 = .ok (.ireturn, 1) := by decide +kernel
theorem dX12_capital_0 : decode cX12_capital 0 = .ok (.aload_n 0, 1) := by decide +kernel
theorem dX12_capital_1 : decode cX12_capital 1 = .ok (.invokevirtual 369, 3) := by decide +kernel
theorem dX12_capital_4 : decode cX12_capital 4 = .ok (.ifCond .eq 10, 3) := by decide +kernel
theorem dX12_capital_7 : decode cX12_capital 7 = .ok (.aload_n 0, 1) := by decide +kernel
theorem dX12_capital_8 : decode cX12_capital 8 = .ok (.invokevirtual 464, 3) := by decide +kernel
theorem dX12_capital_11 : decode cX12_capital 11 = .ok (.goto 4, 3) := by decide +kernel
theorem dX12_capital_14 : decode cX12_capital 14 = .ok (.iconst (-1), 1) := by decide +kernel
theorem dX12_capital_15 : decode cX12_capital 15 = .ok (.ireturn, 1) := by decide +kernel
theorem dX12_ballot_0 : decode cX12_ballot 0 = .ok (.aload_n 0, 1) := by decide +kernel
theorem dX12_ballot_1 : decode cX12_ballot 1 = .ok (.invokevirtual 369, 3) := by decide +kernel
theorem dX12_ballot_4 : decode cX12_ballot 4 = .ok (.ifCond .ne 5, 3) := by decide +kernel
theorem dX12_ballot_7 : decode cX12_ballot 7 = .ok (.iconst (-1), 1) := by decide +kernel
theorem dX12_ballot_8 : decode cX12_ballot 8 = .ok (.ireturn, 1) := by decide +kernel
theorem dX12_ballot_9 : decode cX12_ballot 9 = .ok (.aload_n 0, 1) := by decide +kernel
theorem dX12_ballot_10 : decode cX12_ballot 10 = .ok (.invokevirtual 464, 3) := by decide +kernel
theorem dX12_ballot_13 : decode cX12_ballot 13 = .ok (.ifCond .ge 7, 3) := by decide +kernel
theorem dX12_ballot_16 : decode cX12_ballot 16 = .ok (.iconst 0, 1) := by decide +kernel
theorem dX12_ballot_17 : decode cX12_ballot 17 = .ok (.goto 9, 3) := by decide +kernel
theorem dX12_ballot_20 : decode cX12_ballot 20 = .ok (.iconst 1, 1) := by decide +kernel
theorem dX12_ballot_21 : decode cX12_ballot 21 = .ok (.aload_n 0, 1) := by decide +kernel
theorem dX12_ballot_22 : decode cX12_ballot 22 = .ok (.invokevirtual 464, 3) := by decide +kernel
theorem dX12_ballot_25 : decode cX12_ballot 25 = .ok (.ishl, 1) := by decide +kernel
theorem dX12_ballot_26 : decode cX12_ballot 26 = .ok (.istore_n 1, 1) := by decide +kernel
theorem dX12_ballot_27 : decode cX12_ballot 27 = .ok (.iconst 0, 1) := by decide +kernel
theorem dX12_ballot_28 : decode cX12_ballot 28 = .ok (.istore_n 2, 1) := by decide +kernel
theorem dX12_ballot_29 : decode cX12_ballot 29 = .ok (.iload_n 2, 1) := by decide +kernel
theorem dX12_ballot_30 : decode cX12_ballot 30 = .ok (.aload_n 0, 1) := by decide +kernel
theorem dX12_ballot_31 : decode cX12_ballot 31 = .ok (.getfield 39, 3) := by decide +kernel
theorem dX12_ballot_34 : decode cX12_ballot 34 = .ok (.iconst 1, 1) := by decide +kernel
theorem dX12_ballot_35 : decode cX12_ballot 35 = .ok (.iaload, 1) := by decide +kernel
theorem dX12_ballot_36 : decode cX12_ballot 36 = .ok (.if_icmp .ge 81, 3) := by decide +kernel
theorem dX12_ballot_39 : decode cX12_ballot 39 = .ok (.iconst (-1), 1) := by decide +kernel
theorem dX12_ballot_40 : decode cX12_ballot 40 = .ok (.istore_n 3, 1) := by decide +kernel
theorem dX12_ballot_41 : decode cX12_ballot 41 = .ok (.iload_n 3, 1) := by decide +kernel
theorem dX12_ballot_42 : decode cX12_ballot 42 = .ok (.iconst 2, 1) := by decide +kernel
theorem dX12_ballot_43 : decode cX12_ballot 43 = .ok (.if_icmp .ge 68, 3) := by decide +kernel
theorem dX12_ballot_46 : decode cX12_ballot 46 = .ok (.aload_n 0, 1) := by decide +kernel
theorem dX12_ballot_47 : decode cX12_ballot 47 = .ok (.iload_n 2, 1) := by decide +kernel
theorem dX12_ballot_48 : decode cX12_ballot 48 = .ok (.iconst 0, 1) := by decide +kernel
theorem dX12_ballot_49 : decode cX12_ballot 49 = .ok (.invokevirtual 290, 3) := by decide +kernel
theorem dX12_ballot_52 : decode cX12_ballot 52 = .ok (.istore 4, 2) := by decide +kernel
theorem dX12_ballot_54 : decode cX12_ballot 54 = .ok (.aload_n 0, 1) := by decide +kernel
theorem dX12_ballot_55 : decode cX12_ballot 55 = .ok (.iload_n 2, 1) := by decide +kernel
theorem dX12_ballot_56 : decode cX12_ballot 56 = .ok (.iload_n 3, 1) := by decide +kernel
theorem dX12_ballot_57 : decode cX12_ballot 57 = .ok (.invokevirtual 378, 3) := by decide +kernel
theorem dX12_ballot_60 : decode cX12_ballot 60 = .ok (.istore 5, 2) := by decide +kernel
theorem dX12_ballot_62 : decode cX12_ballot 62 = .ok (.iload 5, 2) := by decide +kernel
theorem dX12_ballot_64 : decode cX12_ballot 64 = .ok (.ifCond .ge 6, 3) := by decide +kernel
theorem dX12_ballot_67 : decode cX12_ballot 67 = .ok (.goto 38, 3) := by decide +kernel
theorem dX12_ballot_70 : decode cX12_ballot 70 = .ok (.aload_n 0, 1) := by decide +kernel
theorem dX12_ballot_71 : decode cX12_ballot 71 = .ok (.getfield 39, 3) := by decide +kernel
theorem dX12_ballot_74 : decode cX12_ballot 74 = .ok (.bipush 46, 2) := by decide +kernel
theorem dX12_ballot_76 : decode cX12_ballot 76 = .ok (.iconst 4, 1) := by decide +kernel
theorem dX12_ballot_77 : decode cX12_ballot 77 = .ok (.iload_n 2, 1) := by decide +kernel
theorem dX12_ballot_78 : decode cX12_ballot 78 = .ok (.imul, 1) := by decide +kernel
theorem dX12_ballot_79 : decode cX12_ballot 79 = .ok (.iadd, 1) := by decide +kernel
theorem dX12_ballot_80 : decode cX12_ballot 80 = .ok (.iload 5, 2) := by decide +kernel
theorem dX12_ballot_82 : decode cX12_ballot 82 = .ok (.iastore, 1) := by decide +kernel
theorem dX12_ballot_83 : decode cX12_ballot 83 = .ok (.iload_n 1, 1) := by decide +kernel
theorem dX12_ballot_84 : decode cX12_ballot 84 = .ok (.iconst 1, 1) := by decide +kernel
theorem dX12_ballot_85 : decode cX12_ballot 85 = .ok (.aload_n 0, 1) := by decide +kernel
theorem dX12_ballot_86 : decode cX12_ballot 86 = .ok (.invokevirtual 464, 3) := by decide +kernel
theorem dX12_ballot_89 : decode cX12_ballot 89 = .ok (.ishl, 1) := by decide +kernel
theorem dX12_ballot_90 : decode cX12_ballot 90 = .ok (.ior, 1) := by decide +kernel
theorem dX12_ballot_91 : decode cX12_ballot 91 = .ok (.istore_n 1, 1) := by decide +kernel
theorem dX12_ballot_92 : decode cX12_ballot 92 = .ok (.aload_n 0, 1) := by decide +kernel
theorem dX12_ballot_93 : decode cX12_ballot 93 = .ok (.getfield 39, 3) := by decide +kernel
theorem dX12_ballot_96 : decode cX12_ballot 96 = .ok (.bipush 46, 2) := by decide +kernel
theorem dX12_ballot_98 : decode cX12_ballot 98 = .ok (.iconst 4, 1) := by decide +kernel
theorem dX12_ballot_99 : decode cX12_ballot 99 = .ok (.iload_n 2, 1) := by decide +kernel
theorem dX12_ballot_100 : decode cX12_ballot 100 = .ok (.imul, 1) := by decide +kernel
theorem dX12_ballot_101 : decode cX12_ballot 101 = .ok (.iadd, 1) := by decide +kernel
theorem dX12_ballot_102 : decode cX12_ballot 102 = .ok (.iload 4, 2) := by decide +kernel
theorem dX12_ballot_104 : decode cX12_ballot 104 = .ok (.iastore, 1) := by decide +kernel
theorem dX12_ballot_105 : decode cX12_ballot 105 = .ok (.iinc 3 2, 3) := by decide +kernel
theorem dX12_ballot_108 : decode cX12_ballot 108 = .ok (.goto (-67), 3) := by decide +kernel
theorem dX12_ballot_111 : decode cX12_ballot 111 = .ok (.iinc 2 1, 3) := by decide +kernel
theorem dX12_ballot_114 : decode cX12_ballot 114 = .ok (.goto (-85), 3) := by decide +kernel
theorem dX12_ballot_117 : decode cX12_ballot 117 = .ok (.iload_n 1, 1) := by decide +kernel
theorem dX12_ballot_118 : decode cX12_ballot 118 = .ok (.ireturn, 1) := by decide +kernel
theorem dX12_power_0 : decode cX12_power 0 = .ok (.iconst 1, 1) := by decide +kernel
theorem dX12_power_1 : decode cX12_power 1 = .ok (.istore_n 2, 1) := by decide +kernel
theorem dX12_power_2 : decode cX12_power 2 = .ok (.iconst 0, 1) := by decide +kernel
theorem dX12_power_3 : decode cX12_power 3 = .ok (.istore_n 3, 1) := by decide +kernel
theorem dX12_power_4 : decode cX12_power 4 = .ok (.iload_n 3, 1) := by decide +kernel
theorem dX12_power_5 : decode cX12_power 5 = .ok (.iload_n 1, 1) := by decide +kernel
theorem dX12_power_6 : decode cX12_power 6 = .ok (.if_icmp .ge 13, 3) := by decide +kernel
theorem dX12_power_9 : decode cX12_power 9 = .ok (.iload_n 2, 1) := by decide +kernel
theorem dX12_power_10 : decode cX12_power 10 = .ok (.iload_n 0, 1) := by decide +kernel
theorem dX12_power_11 : decode cX12_power 11 = .ok (.imul, 1) := by decide +kernel
theorem dX12_power_12 : decode cX12_power 12 = .ok (.istore_n 2, 1) := by decide +kernel
theorem dX12_power_13 : decode cX12_power 13 = .ok (.iinc 3 1, 3) := by decide +kernel
theorem dX12_power_16 : decode cX12_power 16 = .ok (.goto (-12), 3) := by decide +kernel
theorem dX12_power_19 : decode cX12_power 19 = .ok (.iload_n 2, 1) := by decide +kernel
theorem dX12_power_20 : decode cX12_power 20 = .ok (.ireturn, 1) := by decide +kernel
theorem dX12_heightBy_0 : decode cX12_heightBy 0 = .ok (.iconst (-1), 1) := by decide +kernel
theorem dX12_heightBy_1 : decode cX12_heightBy 1 = .ok (.istore_n 3, 1) := by decide +kernel
theorem dX12_heightBy_2 : decode cX12_heightBy 2 = .ok (.iconst 2, 1) := by decide +kernel
theorem dX12_heightBy_3 : decode cX12_heightBy 3 = .ok (.aload_n 0, 1) := by decide +kernel
theorem dX12_heightBy_4 : decode cX12_heightBy 4 = .ok (.getfield 39, 3) := by decide +kernel
theorem dX12_heightBy_7 : decode cX12_heightBy 7 = .ok (.iconst 1, 1) := by decide +kernel
theorem dX12_heightBy_8 : decode cX12_heightBy 8 = .ok (.iaload, 1) := by decide +kernel
theorem dX12_heightBy_9 : decode cX12_heightBy 9 = .ok (.imul, 1) := by decide +kernel
theorem dX12_heightBy_10 : decode cX12_heightBy 10 = .ok (.iconst 1, 1) := by decide +kernel
theorem dX12_heightBy_11 : decode cX12_heightBy 11 = .ok (.iadd, 1) := by decide +kernel
theorem dX12_heightBy_12 : decode cX12_heightBy 12 = .ok (.istore 4, 2) := by decide +kernel
theorem dX12_heightBy_14 : decode cX12_heightBy 14 = .ok (.iconst 0, 1) := by decide +kernel
theorem dX12_heightBy_15 : decode cX12_heightBy 15 = .ok (.istore 5, 2) := by decide +kernel
theorem dX12_heightBy_17 : decode cX12_heightBy 17 = .ok (.iload 5, 2) := by decide +kernel
theorem dX12_heightBy_19 : decode cX12_heightBy 19 = .ok (.iload_n 2, 1) := by decide +kernel
theorem dX12_heightBy_20 : decode cX12_heightBy 20 = .ok (.if_icmp .ge 113, 3) := by decide +kernel
theorem dX12_heightBy_23 : decode cX12_heightBy 23 = .ok (.iload_n 1, 1) := by decide +kernel
theorem dX12_heightBy_24 : decode cX12_heightBy 24 = .ok (.iload 4, 2) := by decide +kernel
theorem dX12_heightBy_26 : decode cX12_heightBy 26 = .ok (.iload_n 2, 1) := by decide +kernel
theorem dX12_heightBy_27 : decode cX12_heightBy 27 = .ok (.iconst 1, 1) := by decide +kernel
theorem dX12_heightBy_28 : decode cX12_heightBy 28 = .ok (.isub, 1) := by decide +kernel
theorem dX12_heightBy_29 : decode cX12_heightBy 29 = .ok (.iload 5, 2) := by decide +kernel
theorem dX12_heightBy_31 : decode cX12_heightBy 31 = .ok (.isub, 1) := by decide +kernel
theorem dX12_heightBy_32 : decode cX12_heightBy 32 = .ok (.invokestatic 467, 3) := by decide +kernel
theorem dX12_heightBy_35 : decode cX12_heightBy 35 = .ok (.idiv, 1) := by decide +kernel
theorem dX12_heightBy_36 : decode cX12_heightBy 36 = .ok (.iload 4, 2) := by decide +kernel
theorem dX12_heightBy_38 : decode cX12_heightBy 38 = .ok (.irem, 1) := by decide +kernel
theorem dX12_heightBy_39 : decode cX12_heightBy 39 = .ok (.iconst 1, 1) := by decide +kernel
theorem dX12_heightBy_40 : decode cX12_heightBy 40 = .ok (.isub, 1) := by decide +kernel
theorem dX12_heightBy_41 : decode cX12_heightBy 41 = .ok (.istore 6, 2) := by decide +kernel
theorem dX12_heightBy_43 : decode cX12_heightBy 43 = .ok (.iload 6, 2) := by decide +kernel
theorem dX12_heightBy_45 : decode cX12_heightBy 45 = .ok (.ifCond .lt 49, 3) := by decide +kernel
theorem dX12_heightBy_48 : decode cX12_heightBy 48 = .ok (.aload_n 0, 1) := by decide +kernel
theorem dX12_heightBy_49 : decode cX12_heightBy 49 = .ok (.iload 6, 2) := by decide +kernel
theorem dX12_heightBy_51 : decode cX12_heightBy 51 = .ok (.iconst 2, 1) := by decide +kernel
theorem dX12_heightBy_52 : decode cX12_heightBy 52 = .ok (.idiv, 1) := by decide +kernel
theorem dX12_heightBy_53 : decode cX12_heightBy 53 = .ok (.iload 6, 2) := by decide +kernel
theorem dX12_heightBy_55 : decode cX12_heightBy 55 = .ok (.iconst 2, 1) := by decide +kernel
theorem dX12_heightBy_56 : decode cX12_heightBy 56 = .ok (.irem, 1) := by decide +kernel
theorem dX12_heightBy_57 : decode cX12_heightBy 57 = .ok (.ifCond .ne 7, 3) := by decide +kernel
theorem dX12_heightBy_60 : decode cX12_heightBy 60 = .ok (.iconst 1, 1) := by decide +kernel
theorem dX12_heightBy_61 : decode cX12_heightBy 61 = .ok (.goto 4, 3) := by decide +kernel
theorem dX12_heightBy_64 : decode cX12_heightBy 64 = .ok (.iconst (-1), 1) := by decide +kernel
theorem dX12_heightBy_65 : decode cX12_heightBy 65 = .ok (.invokevirtual 378, 3) := by decide +kernel
theorem dX12_heightBy_68 : decode cX12_heightBy 68 = .ok (.istore 7, 2) := by decide +kernel
theorem dX12_heightBy_70 : decode cX12_heightBy 70 = .ok (.iload 7, 2) := by decide +kernel
theorem dX12_heightBy_72 : decode cX12_heightBy 72 = .ok (.ifCond .ge 6, 3) := by decide +kernel
theorem dX12_heightBy_75 : decode cX12_heightBy 75 = .ok (.bipush (-2), 2) := by decide +kernel
theorem dX12_heightBy_77 : decode cX12_heightBy 77 = .ok (.ireturn, 1) := by decide +kernel
theorem dX12_heightBy_78 : decode cX12_heightBy 78 = .ok (.aload_n 0, 1) := by decide +kernel
theorem dX12_heightBy_79 : decode cX12_heightBy 79 = .ok (.getfield 39, 3) := by decide +kernel
theorem dX12_heightBy_82 : decode cX12_heightBy 82 = .ok (.bipush 46, 2) := by decide +kernel
theorem dX12_heightBy_84 : decode cX12_heightBy 84 = .ok (.iconst 4, 1) := by decide +kernel
theorem dX12_heightBy_85 : decode cX12_heightBy 85 = .ok (.iload 6, 2) := by decide +kernel
theorem dX12_heightBy_87 : decode cX12_heightBy 87 = .ok (.iconst 2, 1) := by decide +kernel
theorem dX12_heightBy_88 : decode cX12_heightBy 88 = .ok (.idiv, 1) := by decide +kernel
theorem dX12_heightBy_89 : decode cX12_heightBy 89 = .ok (.imul, 1) := by decide +kernel
theorem dX12_heightBy_90 : decode cX12_heightBy 90 = .ok (.iadd, 1) := by decide +kernel
theorem dX12_heightBy_91 : decode cX12_heightBy 91 = .ok (.iload 7, 2) := by decide +kernel
theorem dX12_heightBy_93 : decode cX12_heightBy 93 = .ok (.iastore, 1) := by decide +kernel
theorem dX12_heightBy_94 : decode cX12_heightBy 94 = .ok (.iload_n 3, 1) := by decide +kernel
theorem dX12_heightBy_95 : decode cX12_heightBy 95 = .ok (.iconst 1, 1) := by decide +kernel
theorem dX12_heightBy_96 : decode cX12_heightBy 96 = .ok (.iadd, 1) := by decide +kernel
theorem dX12_heightBy_97 : decode cX12_heightBy 97 = .ok (.aload_n 0, 1) := by decide +kernel
theorem dX12_heightBy_98 : decode cX12_heightBy 98 = .ok (.getfield 39, 3) := by decide +kernel
theorem dX12_heightBy_101 : decode cX12_heightBy 101 = .ok (.iconst 0, 1) := by decide +kernel
theorem dX12_heightBy_102 : decode cX12_heightBy 102 = .ok (.iaload, 1) := by decide +kernel
theorem dX12_heightBy_103 : decode cX12_heightBy 103 = .ok (.if_icmp .ge 24, 3) := by decide +kernel
theorem dX12_heightBy_106 : decode cX12_heightBy 106 = .ok (.aload_n 0, 1) := by decide +kernel
theorem dX12_heightBy_107 : decode cX12_heightBy 107 = .ok (.iload_n 3, 1) := by decide +kernel
theorem dX12_heightBy_108 : decode cX12_heightBy 108 = .ok (.iconst 1, 1) := by decide +kernel
theorem dX12_heightBy_109 : decode cX12_heightBy 109 = .ok (.iadd, 1) := by decide +kernel
theorem dX12_heightBy_110 : decode cX12_heightBy 110 = .ok (.invokevirtual 330, 3) := by decide +kernel
theorem dX12_heightBy_113 : decode cX12_heightBy 113 = .ok (.aload_n 0, 1) := by decide +kernel
theorem dX12_heightBy_114 : decode cX12_heightBy 114 = .ok (.iload_n 3, 1) := by decide +kernel
theorem dX12_heightBy_115 : decode cX12_heightBy 115 = .ok (.iconst 1, 1) := by decide +kernel
theorem dX12_heightBy_116 : decode cX12_heightBy 116 = .ok (.iadd, 1) := by decide +kernel
theorem dX12_heightBy_117 : decode cX12_heightBy 117 = .ok (.iconst 0, 1) := by decide +kernel
theorem dX12_heightBy_118 : decode cX12_heightBy 118 = .ok (.invokevirtual 297, 3) := by decide +kernel
theorem dX12_heightBy_121 : decode cX12_heightBy 121 = .ok (.if_icmp .ge 6, 3) := by decide +kernel
theorem dX12_heightBy_124 : decode cX12_heightBy 124 = .ok (.iinc 3 1, 3) := by decide +kernel
theorem dX12_heightBy_127 : decode cX12_heightBy 127 = .ok (.iinc 5 1, 3) := by decide +kernel
theorem dX12_heightBy_130 : decode cX12_heightBy 130 = .ok (.goto (-113), 3) := by decide +kernel
theorem dX12_heightBy_133 : decode cX12_heightBy 133 = .ok (.iload_n 3, 1) := by decide +kernel
theorem dX12_heightBy_134 : decode cX12_heightBy 134 = .ok (.ireturn, 1) := by decide +kernel
theorem dX12_hold_0 : decode cX12_hold 0 = .ok (.aload_n 0, 1) := by decide +kernel
theorem dX12_hold_1 : decode cX12_hold 1 = .ok (.invokevirtual 369, 3) := by decide +kernel
theorem dX12_hold_4 : decode cX12_hold 4 = .ok (.ifCond .eq 25, 3) := by decide +kernel
theorem dX12_hold_7 : decode cX12_hold 7 = .ok (.iload_n 1, 1) := by decide +kernel
theorem dX12_hold_8 : decode cX12_hold 8 = .ok (.i2l, 1) := by decide +kernel
theorem dX12_hold_9 : decode cX12_hold 9 = .ok (.lconst 1, 1) := by decide +kernel
theorem dX12_hold_10 : decode cX12_hold 10 = .ok (.ldc2_w 470, 3) := by decide +kernel
theorem dX12_hold_13 : decode cX12_hold 13 = .ok (.invokestatic 124, 3) := by decide +kernel
theorem dX12_hold_16 : decode cX12_hold 16 = .ok (.ifCond .eq 13, 3) := by decide +kernel
theorem dX12_hold_19 : decode cX12_hold 19 = .ok (.iload_n 2, 1) := by decide +kernel
theorem dX12_hold_20 : decode cX12_hold 20 = .ok (.i2l, 1) := by decide +kernel
theorem dX12_hold_21 : decode cX12_hold 21 = .ok (.lconst 0, 1) := by decide +kernel
theorem dX12_hold_22 : decode cX12_hold 22 = .ok (.lconst 1, 1) := by decide +kernel
theorem dX12_hold_23 : decode cX12_hold 23 = .ok (.invokestatic 124, 3) := by decide +kernel
theorem dX12_hold_26 : decode cX12_hold 26 = .ok (.ifCond .ne 6, 3) := by decide +kernel
theorem dX12_hold_29 : decode cX12_hold 29 = .ok (.bipush (-2), 2) := by decide +kernel
theorem dX12_hold_31 : decode cX12_hold 31 = .ok (.ireturn, 1) := by decide +kernel
theorem dX12_hold_32 : decode cX12_hold 32 = .ok (.iconst 2, 1) := by decide +kernel
theorem dX12_hold_33 : decode cX12_hold 33 = .ok (.aload_n 0, 1) := by decide +kernel
theorem dX12_hold_34 : decode cX12_hold 34 = .ok (.getfield 39, 3) := by decide +kernel
theorem dX12_hold_37 : decode cX12_hold 37 = .ok (.iconst 1, 1) := by decide +kernel
theorem dX12_hold_38 : decode cX12_hold 38 = .ok (.iaload, 1) := by decide +kernel
theorem dX12_hold_39 : decode cX12_hold 39 = .ok (.imul, 1) := by decide +kernel
theorem dX12_hold_40 : decode cX12_hold 40 = .ok (.iconst 1, 1) := by decide +kernel
theorem dX12_hold_41 : decode cX12_hold 41 = .ok (.iadd, 1) := by decide +kernel
theorem dX12_hold_42 : decode cX12_hold 42 = .ok (.istore_n 3, 1) := by decide +kernel
theorem dX12_hold_43 : decode cX12_hold 43 = .ok (.bipush (-2), 2) := by decide +kernel
theorem dX12_hold_45 : decode cX12_hold 45 = .ok (.istore 4, 2) := by decide +kernel
theorem dX12_hold_47 : decode cX12_hold 47 = .ok (.iconst 0, 1) := by decide +kernel
theorem dX12_hold_48 : decode cX12_hold 48 = .ok (.istore 5, 2) := by decide +kernel
theorem dX12_hold_50 : decode cX12_hold 50 = .ok (.aload_n 0, 1) := by decide +kernel
theorem dX12_hold_51 : decode cX12_hold 51 = .ok (.invokevirtual 397, 3) := by decide +kernel
theorem dX12_hold_54 : decode cX12_hold 54 = .ok (.iconst 0, 1) := by decide +kernel
theorem dX12_hold_55 : decode cX12_hold 55 = .ok (.istore 6, 2) := by decide +kernel
theorem dX12_hold_57 : decode cX12_hold 57 = .ok (.iload 6, 2) := by decide +kernel
theorem dX12_hold_59 : decode cX12_hold 59 = .ok (.iload_n 3, 1) := by decide +kernel
theorem dX12_hold_60 : decode cX12_hold 60 = .ok (.iload_n 1, 1) := by decide +kernel
theorem dX12_hold_61 : decode cX12_hold 61 = .ok (.invokestatic 467, 3) := by decide +kernel
theorem dX12_hold_64 : decode cX12_hold 64 = .ok (.if_icmp .ge 52, 3) := by decide +kernel
theorem dX12_hold_67 : decode cX12_hold 67 = .ok (.aload_n 0, 1) := by decide +kernel
theorem dX12_hold_68 : decode cX12_hold 68 = .ok (.iload 6, 2) := by decide +kernel
theorem dX12_hold_70 : decode cX12_hold 70 = .ok (.iload_n 1, 1) := by decide +kernel
theorem dX12_hold_71 : decode cX12_hold 71 = .ok (.invokevirtual 472, 3) := by decide +kernel
theorem dX12_hold_74 : decode cX12_hold 74 = .ok (.istore 7, 2) := by decide +kernel
theorem dX12_hold_76 : decode cX12_hold 76 = .ok (.aload_n 0, 1) := by decide +kernel
theorem dX12_hold_77 : decode cX12_hold 77 = .ok (.invokevirtual 400, 3) := by decide +kernel
theorem dX12_hold_80 : decode cX12_hold 80 = .ok (.iload 7, 2) := by decide +kernel
theorem dX12_hold_82 : decode cX12_hold 82 = .ok (.bipush (-2), 2) := by decide +kernel
theorem dX12_hold_84 : decode cX12_hold 84 = .ok (.if_icmp .eq 26, 3) := by decide +kernel
theorem dX12_hold_87 : decode cX12_hold 87 = .ok (.iload 4, 2) := by decide +kernel
theorem dX12_hold_89 : decode cX12_hold 89 = .ok (.ifCond .lt 13, 3) := by decide +kernel
theorem dX12_hold_92 : decode cX12_hold 92 = .ok (.iload 7, 2) := by decide +kernel
theorem dX12_hold_94 : decode cX12_hold 94 = .ok (.iload 5, 2) := by decide +kernel
theorem dX12_hold_96 : decode cX12_hold 96 = .ok (.if_icmp .lt 6, 3) := by decide +kernel
theorem dX12_hold_99 : decode cX12_hold 99 = .ok (.goto 11, 3) := by decide +kernel
theorem dX12_hold_102 : decode cX12_hold 102 = .ok (.iload 6, 2) := by decide +kernel
theorem dX12_hold_104 : decode cX12_hold 104 = .ok (.istore 4, 2) := by decide +kernel
theorem dX12_hold_106 : decode cX12_hold 106 = .ok (.iload 7, 2) := by decide +kernel
theorem dX12_hold_108 : decode cX12_hold 108 = .ok (.istore 5, 2) := by decide +kernel
theorem dX12_hold_110 : decode cX12_hold 110 = .ok (.iinc 6 1, 3) := by decide +kernel
theorem dX12_hold_113 : decode cX12_hold 113 = .ok (.goto (-56), 3) := by decide +kernel
theorem dX12_hold_116 : decode cX12_hold 116 = .ok (.iload_n 2, 1) := by decide +kernel
theorem dX12_hold_117 : decode cX12_hold 117 = .ok (.ifCond .ne 8, 3) := by decide +kernel
theorem dX12_hold_120 : decode cX12_hold 120 = .ok (.iload 5, 2) := by decide +kernel
theorem dX12_hold_122 : decode cX12_hold 122 = .ok (.goto 15, 3) := by decide +kernel
theorem dX12_hold_125 : decode cX12_hold 125 = .ok (.iload 4, 2) := by decide +kernel
theorem dX12_hold_127 : decode cX12_hold 127 = .ok (.iload_n 3, 1) := by decide +kernel
theorem dX12_hold_128 : decode cX12_hold 128 = .ok (.iload_n 1, 1) := by decide +kernel
theorem dX12_hold_129 : decode cX12_hold 129 = .ok (.iconst 1, 1) := by decide +kernel
theorem dX12_hold_130 : decode cX12_hold 130 = .ok (.isub, 1) := by decide +kernel
theorem dX12_hold_131 : decode cX12_hold 131 = .ok (.invokestatic 467, 3) := by decide +kernel
theorem dX12_hold_134 : decode cX12_hold 134 = .ok (.idiv, 1) := by decide +kernel
theorem dX12_hold_135 : decode cX12_hold 135 = .ok (.iconst 1, 1) := by decide +kernel
theorem dX12_hold_136 : decode cX12_hold 136 = .ok (.isub, 1) := by decide +kernel
theorem dX12_hold_137 : decode cX12_hold 137 = .ok (.ireturn, 1) := by decide +kernel
theorem dX12_goods_0 : decode cX12_goods 0 = .ok (.aload_n 0, 1) := by decide +kernel
theorem dX12_goods_1 : decode cX12_goods 1 = .ok (.iload_n 1, 1) := by decide +kernel
theorem dX12_goods_2 : decode cX12_goods 2 = .ok (.invokevirtual 294, 3) := by decide +kernel
theorem dX12_goods_5 : decode cX12_goods 5 = .ok (.ifCond .eq 11, 3) := by decide +kernel
theorem dX12_goods_8 : decode cX12_goods 8 = .ok (.aload_n 0, 1) := by decide +kernel
theorem dX12_goods_9 : decode cX12_goods 9 = .ok (.iload_n 2, 1) := by decide +kernel
theorem dX12_goods_10 : decode cX12_goods 10 = .ok (.invokevirtual 294, 3) := by decide +kernel
theorem dX12_goods_13 : decode cX12_goods 13 = .ok (.ifCond .ne 5, 3) := by decide +kernel
theorem dX12_goods_16 : decode cX12_goods 16 = .ok (.iconst (-1), 1) := by decide +kernel
theorem dX12_goods_17 : decode cX12_goods 17 = .ok (.ireturn, 1) := by decide +kernel
theorem dX12_goods_18 : decode cX12_goods 18 = .ok (.iload_n 1, 1) := by decide +kernel
theorem dX12_goods_19 : decode cX12_goods 19 = .ok (.istore_n 3, 1) := by decide +kernel
theorem dX12_goods_20 : decode cX12_goods 20 = .ok (.iload_n 1, 1) := by decide +kernel
theorem dX12_goods_21 : decode cX12_goods 21 = .ok (.iload_n 2, 1) := by decide +kernel
theorem dX12_goods_22 : decode cX12_goods 22 = .ok (.if_icmp .ne 12, 3) := by decide +kernel
theorem dX12_goods_25 : decode cX12_goods 25 = .ok (.aload_n 0, 1) := by decide +kernel
theorem dX12_goods_26 : decode cX12_goods 26 = .ok (.getfield 39, 3) := by decide +kernel
theorem dX12_goods_29 : decode cX12_goods 29 = .ok (.iconst 2, 1) := by decide +kernel
theorem dX12_goods_30 : decode cX12_goods 30 = .ok (.iaload, 1) := by decide +kernel
theorem dX12_goods_31 : decode cX12_goods 31 = .ok (.goto 5, 3) := by decide +kernel
theorem dX12_goods_34 : decode cX12_goods 34 = .ok (.bipush (-2), 2) := by decide +kernel
theorem dX12_goods_36 : decode cX12_goods 36 = .ok (.istore 4, 2) := by decide +kernel
theorem dX12_goods_38 : decode cX12_goods 38 = .ok (.aload_n 0, 1) := by decide +kernel
theorem dX12_goods_39 : decode cX12_goods 39 = .ok (.invokevirtual 397, 3) := by decide +kernel
theorem dX12_goods_42 : decode cX12_goods 42 = .ok (.iconst 0, 1) := by decide +kernel
theorem dX12_goods_43 : decode cX12_goods 43 = .ok (.istore 5, 2) := by decide +kernel
theorem dX12_goods_45 : decode cX12_goods 45 = .ok (.iload 5, 2) := by decide +kernel
theorem dX12_goods_47 : decode cX12_goods 47 = .ok (.sipush 200, 3) := by decide +kernel
theorem dX12_goods_50 : decode cX12_goods 50 = .ok (.if_icmp .ge 70, 3) := by decide +kernel
theorem dX12_goods_53 : decode cX12_goods 53 = .ok (.iload_n 3, 1) := by decide +kernel
theorem dX12_goods_54 : decode cX12_goods 54 = .ok (.iload_n 2, 1) := by decide +kernel
theorem dX12_goods_55 : decode cX12_goods 55 = .ok (.if_icmp .eq 65, 3) := by decide +kernel
theorem dX12_goods_58 : decode cX12_goods 58 = .ok (.aload_n 0, 1) := by decide +kernel
theorem dX12_goods_59 : decode cX12_goods 59 = .ok (.invokevirtual 375, 3) := by decide +kernel
theorem dX12_goods_62 : decode cX12_goods 62 = .ok (.pop, 1) := by decide +kernel
theorem dX12_goods_63 : decode cX12_goods 63 = .ok (.iload_n 2, 1) := by decide +kernel
theorem dX12_goods_64 : decode cX12_goods 64 = .ok (.iload_n 3, 1) := by decide +kernel
theorem dX12_goods_65 : decode cX12_goods 65 = .ok (.if_icmp .le 9, 3) := by decide +kernel
theorem dX12_goods_68 : decode cX12_goods 68 = .ok (.iload_n 3, 1) := by decide +kernel
theorem dX12_goods_69 : decode cX12_goods 69 = .ok (.iconst 1, 1) := by decide +kernel
theorem dX12_goods_70 : decode cX12_goods 70 = .ok (.iadd, 1) := by decide +kernel
theorem dX12_goods_71 : decode cX12_goods 71 = .ok (.goto 6, 3) := by decide +kernel
theorem dX12_goods_74 : decode cX12_goods 74 = .ok (.iload_n 3, 1) := by decide +kernel
theorem dX12_goods_75 : decode cX12_goods 75 = .ok (.iconst 1, 1) := by decide +kernel
theorem dX12_goods_76 : decode cX12_goods 76 = .ok (.isub, 1) := by decide +kernel
theorem dX12_goods_77 : decode cX12_goods 77 = .ok (.istore 6, 2) := by decide +kernel
theorem dX12_goods_79 : decode cX12_goods 79 = .ok (.aload_n 0, 1) := by decide +kernel
theorem dX12_goods_80 : decode cX12_goods 80 = .ok (.iload_n 3, 1) := by decide +kernel
theorem dX12_goods_81 : decode cX12_goods 81 = .ok (.invokevirtual 330, 3) := by decide +kernel
theorem dX12_goods_84 : decode cX12_goods 84 = .ok (.ifCond .le 15, 3) := by decide +kernel
theorem dX12_goods_87 : decode cX12_goods 87 = .ok (.aload_n 0, 1) := by decide +kernel
theorem dX12_goods_88 : decode cX12_goods 88 = .ok (.iload 6, 2) := by decide +kernel
theorem dX12_goods_90 : decode cX12_goods 90 = .ok (.invokevirtual 330, 3) := by decide +kernel
theorem dX12_goods_93 : decode cX12_goods 93 = .ok (.ifCond .le 6, 3) := by decide +kernel
theorem dX12_goods_96 : decode cX12_goods 96 = .ok (.iload 6, 2) := by decide +kernel
theorem dX12_goods_98 : decode cX12_goods 98 = .ok (.istore_n 3, 1) := by decide +kernel
theorem dX12_goods_99 : decode cX12_goods 99 = .ok (.iload_n 3, 1) := by decide +kernel
theorem dX12_goods_100 : decode cX12_goods 100 = .ok (.iload_n 2, 1) := by decide +kernel
theorem dX12_goods_101 : decode cX12_goods 101 = .ok (.if_icmp .ne 13, 3) := by decide +kernel
theorem dX12_goods_104 : decode cX12_goods 104 = .ok (.aload_n 0, 1) := by decide +kernel
theorem dX12_goods_105 : decode cX12_goods 105 = .ok (.getfield 39, 3) := by decide +kernel
theorem dX12_goods_108 : decode cX12_goods 108 = .ok (.iconst 2, 1) := by decide +kernel
theorem dX12_goods_109 : decode cX12_goods 109 = .ok (.iaload, 1) := by decide +kernel
theorem dX12_goods_110 : decode cX12_goods 110 = .ok (.iconst 1, 1) := by decide +kernel
theorem dX12_goods_111 : decode cX12_goods 111 = .ok (.isub, 1) := by decide +kernel
theorem dX12_goods_112 : decode cX12_goods 112 = .ok (.istore 4, 2) := by decide +kernel
theorem dX12_goods_114 : decode cX12_goods 114 = .ok (.iinc 5 1, 3) := by decide +kernel
theorem dX12_goods_117 : decode cX12_goods 117 = .ok (.goto (-72), 3) := by decide +kernel
theorem dX12_goods_120 : decode cX12_goods 120 = .ok (.aload_n 0, 1) := by decide +kernel
theorem dX12_goods_121 : decode cX12_goods 121 = .ok (.invokevirtual 400, 3) := by decide +kernel
theorem dX12_goods_124 : decode cX12_goods 124 = .ok (.iload 4, 2) := by decide +kernel
theorem dX12_goods_126 : decode cX12_goods 126 = .ok (.ireturn, 1) := by decide +kernel
theorem dX12_stand_0 : decode cX12_stand 0 = .ok (.aload_n 0, 1) := by decide +kernel
theorem dX12_stand_1 : decode cX12_stand 1 = .ok (.iload_n 1, 1) := by decide +kernel
theorem dX12_stand_2 : decode cX12_stand 2 = .ok (.invokevirtual 300, 3) := by decide +kernel
theorem dX12_stand_5 : decode cX12_stand 5 = .ok (.ifCond .eq 15, 3) := by decide +kernel
theorem dX12_stand_8 : decode cX12_stand 8 = .ok (.iload_n 2, 1) := by decide +kernel
theorem dX12_stand_9 : decode cX12_stand 9 = .ok (.i2l, 1) := by decide +kernel
theorem dX12_stand_10 : decode cX12_stand 10 = .ok (.lconst 1, 1) := by decide +kernel
theorem dX12_stand_11 : decode cX12_stand 11 = .ok (.ldc2_w 475, 3) := by decide +kernel
theorem dX12_stand_14 : decode cX12_stand 14 = .ok (.invokestatic 124, 3) := by decide +kernel
theorem dX12_stand_17 : decode cX12_stand 17 = .ok (.ifCond .ne 5, 3) := by decide +kernel
theorem dX12_stand_20 : decode cX12_stand 20 = .ok (.iconst (-1), 1) := by decide +kernel
theorem dX12_stand_21 : decode cX12_stand 21 = .ok (.ireturn, 1) := by decide +kernel
theorem dX12_stand_22 : decode cX12_stand 22 = .ok (.iload_n 2, 1) := by decide +kernel
theorem dX12_stand_23 : decode cX12_stand 23 = .ok (.aload_n 0, 1) := by decide +kernel
theorem dX12_stand_24 : decode cX12_stand 24 = .ok (.iload_n 1, 1) := by decide +kernel
theorem dX12_stand_25 : decode cX12_stand 25 = .ok (.invokevirtual 320, 3) := by decide +kernel
theorem dX12_stand_28 : decode cX12_stand 28 = .ok (.iadd, 1) := by decide +kernel
theorem dX12_stand_29 : decode cX12_stand 29 = .ok (.istore_n 3, 1) := by decide +kernel
theorem dX12_stand_30 : decode cX12_stand 30 = .ok (.aload_n 0, 1) := by decide +kernel
theorem dX12_stand_31 : decode cX12_stand 31 = .ok (.iload_n 1, 1) := by decide +kernel
theorem dX12_stand_32 : decode cX12_stand 32 = .ok (.iconst 1, 1) := by decide +kernel
theorem dX12_stand_33 : decode cX12_stand 33 = .ok (.invokevirtual 297, 3) := by decide +kernel
theorem dX12_stand_36 : decode cX12_stand 36 = .ok (.aload_n 0, 1) := by decide +kernel
theorem dX12_stand_37 : decode cX12_stand 37 = .ok (.iload_n 1, 1) := by decide +kernel
theorem dX12_stand_38 : decode cX12_stand 38 = .ok (.iconst 2, 1) := by decide +kernel
theorem dX12_stand_39 : decode cX12_stand 39 = .ok (.invokevirtual 297, 3) := by decide +kernel
theorem dX12_stand_42 : decode cX12_stand 42 = .ok (.isub, 1) := by decide +kernel
theorem dX12_stand_43 : decode cX12_stand 43 = .ok (.istore 4, 2) := by decide +kernel
theorem dX12_stand_45 : decode cX12_stand 45 = .ok (.iload 4, 2) := by decide +kernel
theorem dX12_stand_47 : decode cX12_stand 47 = .ok (.iload_n 3, 1) := by decide +kernel
theorem dX12_stand_48 : decode cX12_stand 48 = .ok (.if_icmp .gt 7, 3) := by decide +kernel
theorem dX12_stand_51 : decode cX12_stand 51 = .ok (.iconst 1, 1) := by decide +kernel
theorem dX12_stand_52 : decode cX12_stand 52 = .ok (.goto 11, 3) := by decide +kernel
theorem dX12_stand_55 : decode cX12_stand 55 = .ok (.iload 4, 2) := by decide +kernel
theorem dX12_stand_57 : decode cX12_stand 57 = .ok (.iload_n 3, 1) := by decide +kernel
theorem dX12_stand_58 : decode cX12_stand 58 = .ok (.iadd, 1) := by decide +kernel
theorem dX12_stand_59 : decode cX12_stand 59 = .ok (.iconst 1, 1) := by decide +kernel
theorem dX12_stand_60 : decode cX12_stand 60 = .ok (.isub, 1) := by decide +kernel
theorem dX12_stand_61 : decode cX12_stand 61 = .ok (.iload_n 3, 1) := by decide +kernel
theorem dX12_stand_62 : decode cX12_stand 62 = .ok (.idiv, 1) := by decide +kernel
theorem dX12_stand_63 : decode cX12_stand 63 = .ok (.ireturn, 1) := by decide +kernel
theorem dX12_note_0 : decode cX12_note 0 = .ok (.iload_n 1, 1) := by decide +kernel
theorem dX12_note_1 : decode cX12_note 1 = .ok (.iconst (-1), 1) := by decide +kernel
theorem dX12_note_2 : decode cX12_note 2 = .ok (.if_icmp .ne 13, 3) := by decide +kernel
theorem dX12_note_5 : decode cX12_note 5 = .ok (.aload_n 0, 1) := by decide +kernel
theorem dX12_note_6 : decode cX12_note 6 = .ok (.getfield 39, 3) := by decide +kernel
theorem dX12_note_9 : decode cX12_note 9 = .ok (.bipush 109, 2) := by decide +kernel
theorem dX12_note_11 : decode cX12_note 11 = .ok (.iconst 0, 1) := by decide +kernel
theorem dX12_note_12 : decode cX12_note 12 = .ok (.iastore, 1) := by decide +kernel
theorem dX12_note_13 : decode cX12_note 13 = .ok (.iconst 0, 1) := by decide +kernel
theorem dX12_note_14 : decode cX12_note 14 = .ok (.ireturn, 1) := by decide +kernel
theorem dX12_note_15 : decode cX12_note 15 = .ok (.iload_n 1, 1) := by decide +kernel
theorem dX12_note_16 : decode cX12_note 16 = .ok (.i2l, 1) := by decide +kernel
theorem dX12_note_17 : decode cX12_note 17 = .ok (.lconst 0, 1) := by decide +kernel
theorem dX12_note_18 : decode cX12_note 18 = .ok (.ldc2_w 477, 3) := by decide +kernel
theorem dX12_note_21 : decode cX12_note 21 = .ok (.invokestatic 124, 3) := by decide +kernel
theorem dX12_note_24 : decode cX12_note 24 = .ok (.ifCond .eq 35, 3) := by decide +kernel
theorem dX12_note_27 : decode cX12_note 27 = .ok (.aload_n 0, 1) := by decide +kernel
theorem dX12_note_28 : decode cX12_note 28 = .ok (.iload_n 2, 1) := by decide +kernel
theorem dX12_note_29 : decode cX12_note 29 = .ok (.invokevirtual 294, 3) := by decide +kernel
theorem dX12_note_32 : decode cX12_note 32 = .ok (.ifCond .eq 27, 3) := by decide +kernel
theorem dX12_note_35 : decode cX12_note 35 = .ok (.iload_n 3, 1) := by decide +kernel
theorem dX12_note_36 : decode cX12_note 36 = .ok (.i2l, 1) := by decide +kernel
theorem dX12_note_37 : decode cX12_note 37 = .ok (.lconst 0, 1) := by decide +kernel
theorem dX12_note_38 : decode cX12_note 38 = .ok (.ldc2_w 470, 3) := by decide +kernel
theorem dX12_note_41 : decode cX12_note 41 = .ok (.invokestatic 124, 3) := by decide +kernel
theorem dX12_note_44 : decode cX12_note 44 = .ok (.ifCond .eq 15, 3) := by decide +kernel
theorem dX12_note_47 : decode cX12_note 47 = .ok (.aload_n 0, 1) := by decide +kernel
theorem dX12_note_48 : decode cX12_note 48 = .ok (.getfield 39, 3) := by decide +kernel
theorem dX12_note_51 : decode cX12_note 51 = .ok (.bipush 109, 2) := by decide +kernel
theorem dX12_note_53 : decode cX12_note 53 = .ok (.iaload, 1) := by decide +kernel
theorem dX12_note_54 : decode cX12_note 54 = .ok (.bipush 10, 2) := by decide +kernel
theorem dX12_note_56 : decode cX12_note 56 = .ok (.if_icmp .ne 6, 3) := by decide +kernel
theorem dX12_note_59 : decode cX12_note 59 = .ok (.bipush (-2), 2) := by decide +kernel
theorem dX12_note_61 : decode cX12_note 61 = .ok (.ireturn, 1) := by decide +kernel
theorem dX12_note_62 : decode cX12_note 62 = .ok (.bipush 79, 2) := by decide +kernel
theorem dX12_note_64 : decode cX12_note 64 = .ok (.iconst 3, 1) := by decide +kernel
theorem dX12_note_65 : decode cX12_note 65 = .ok (.aload_n 0, 1) := by decide +kernel
theorem dX12_note_66 : decode cX12_note 66 = .ok (.getfield 39, 3) := by decide +kernel
theorem dX12_note_69 : decode cX12_note 69 = .ok (.bipush 109, 2) := by decide +kernel
theorem dX12_note_71 : decode cX12_note 71 = .ok (.iaload, 1) := by decide +kernel
theorem dX12_note_72 : decode cX12_note 72 = .ok (.imul, 1) := by decide +kernel
theorem dX12_note_73 : decode cX12_note 73 = .ok (.iadd, 1) := by decide +kernel
theorem dX12_note_74 : decode cX12_note 74 = .ok (.istore 4, 2) := by decide +kernel
theorem dX12_note_76 : decode cX12_note 76 = .ok (.aload_n 0, 1) := by decide +kernel
theorem dX12_note_77 : decode cX12_note 77 = .ok (.getfield 39, 3) := by decide +kernel
theorem dX12_note_80 : decode cX12_note 80 = .ok (.iload 4, 2) := by decide +kernel
theorem dX12_note_82 : decode cX12_note 82 = .ok (.iload_n 1, 1) := by decide +kernel
theorem dX12_note_83 : decode cX12_note 83 = .ok (.iastore, 1) := by decide +kernel
theorem dX12_note_84 : decode cX12_note 84 = .ok (.aload_n 0, 1) := by decide +kernel
theorem dX12_note_85 : decode cX12_note 85 = .ok (.getfield 39, 3) := by decide +kernel
theorem dX12_note_88 : decode cX12_note 88 = .ok (.iload 4, 2) := by decide +kernel
theorem dX12_note_90 : decode cX12_note 90 = .ok (.iconst 1, 1) := by decide +kernel
theorem dX12_note_91 : decode cX12_note 91 = .ok (.iadd, 1) := by decide +kernel
theorem dX12_note_92 : decode cX12_note 92 = .ok (.iload_n 2, 1) := by decide +kernel
theorem dX12_note_93 : decode cX12_note 93 = .ok (.iastore, 1) := by decide +kernel
theorem dX12_note_94 : decode cX12_note 94 = .ok (.aload_n 0, 1) := by decide +kernel
theorem dX12_note_95 : decode cX12_note 95 = .ok (.getfield 39, 3) := by decide +kernel
theorem dX12_note_98 : decode cX12_note 98 = .ok (.iload 4, 2) := by decide +kernel
theorem dX12_note_100 : decode cX12_note 100 = .ok (.iconst 2, 1) := by decide +kernel
theorem dX12_note_101 : decode cX12_note 101 = .ok (.iadd, 1) := by decide +kernel
theorem dX12_note_102 : decode cX12_note 102 = .ok (.iload_n 3, 1) := by decide +kernel
theorem dX12_note_103 : decode cX12_note 103 = .ok (.iastore, 1) := by decide +kernel
theorem dX12_note_104 : decode cX12_note 104 = .ok (.aload_n 0, 1) := by decide +kernel
theorem dX12_note_105 : decode cX12_note 105 = .ok (.getfield 39, 3) := by decide +kernel
theorem dX12_note_108 : decode cX12_note 108 = .ok (.bipush 109, 2) := by decide +kernel
theorem dX12_note_110 : decode cX12_note 110 = .ok (.dup2, 1) := by decide +kernel
theorem dX12_note_111 : decode cX12_note 111 = .ok (.iaload, 1) := by decide +kernel
theorem dX12_note_112 : decode cX12_note 112 = .ok (.iconst 1, 1) := by decide +kernel
theorem dX12_note_113 : decode cX12_note 113 = .ok (.iadd, 1) := by decide +kernel
theorem dX12_note_114 : decode cX12_note 114 = .ok (.iastore, 1) := by decide +kernel
theorem dX12_note_115 : decode cX12_note 115 = .ok (.aload_n 0, 1) := by decide +kernel
theorem dX12_note_116 : decode cX12_note 116 = .ok (.getfield 39, 3) := by decide +kernel
theorem dX12_note_119 : decode cX12_note 119 = .ok (.bipush 109, 2) := by decide +kernel
theorem dX12_note_121 : decode cX12_note 121 = .ok (.iaload, 1) := by decide +kernel
theorem dX12_note_122 : decode cX12_note 122 = .ok (.ireturn, 1) := by decide +kernel
theorem dX12_begins_0 : decode cX12_begins 0 = .ok (.aload_n 0, 1) := by decide +kernel
theorem dX12_begins_1 : decode cX12_begins 1 = .ok (.getfield 39, 3) := by decide +kernel
theorem dX12_begins_4 : decode cX12_begins 4 = .ok (.iconst 2, 1) := by decide +kernel
theorem dX12_begins_5 : decode cX12_begins 5 = .ok (.iconst 0, 1) := by decide +kernel
theorem dX12_begins_6 : decode cX12_begins 6 = .ok (.iastore, 1) := by decide +kernel
theorem dX12_begins_7 : decode cX12_begins 7 = .ok (.iconst 0, 1) := by decide +kernel
theorem dX12_begins_8 : decode cX12_begins 8 = .ok (.istore_n 1, 1) := by decide +kernel
theorem dX12_begins_9 : decode cX12_begins 9 = .ok (.iload_n 1, 1) := by decide +kernel
theorem dX12_begins_10 : decode cX12_begins 10 = .ok (.aload_n 0, 1) := by decide +kernel
theorem dX12_begins_11 : decode cX12_begins 11 = .ok (.getfield 39, 3) := by decide +kernel
theorem dX12_begins_14 : decode cX12_begins 14 = .ok (.iconst 0, 1) := by decide +kernel
theorem dX12_begins_15 : decode cX12_begins 15 = .ok (.iaload, 1) := by decide +kernel
theorem dX12_begins_16 : decode cX12_begins 16 = .ok (.if_icmp .ge 55, 3) := by decide +kernel
theorem dX12_begins_19 : decode cX12_begins 19 = .ok (.aload_n 0, 1) := by decide +kernel
theorem dX12_begins_20 : decode cX12_begins 20 = .ok (.getfield 39, 3) := by decide +kernel
theorem dX12_begins_23 : decode cX12_begins 23 = .ok (.bipush 10, 2) := by decide +kernel
theorem dX12_begins_25 : decode cX12_begins 25 = .ok (.iconst 4, 1) := by decide +kernel
theorem dX12_begins_26 : decode cX12_begins 26 = .ok (.iload_n 1, 1) := by decide +kernel
theorem dX12_begins_27 : decode cX12_begins 27 = .ok (.imul, 1) := by decide +kernel
theorem dX12_begins_28 : decode cX12_begins 28 = .ok (.iadd, 1) := by decide +kernel
theorem dX12_begins_29 : decode cX12_begins 29 = .ok (.iconst 2, 1) := by decide +kernel
theorem dX12_begins_30 : decode cX12_begins 30 = .ok (.iadd, 1) := by decide +kernel
theorem dX12_begins_31 : decode cX12_begins 31 = .ok (.iconst 0, 1) := by decide +kernel
theorem dX12_begins_32 : decode cX12_begins 32 = .ok (.iastore, 1) := by decide +kernel
theorem dX12_begins_33 : decode cX12_begins 33 = .ok (.aload_n 0, 1) := by decide +kernel
theorem dX12_begins_34 : decode cX12_begins 34 = .ok (.getfield 39, 3) := by decide +kernel
theorem dX12_begins_37 : decode cX12_begins 37 = .ok (.bipush 10, 2) := by decide +kernel
theorem dX12_begins_39 : decode cX12_begins 39 = .ok (.iconst 4, 1) := by decide +kernel
theorem dX12_begins_40 : decode cX12_begins 40 = .ok (.iload_n 1, 1) := by decide +kernel
theorem dX12_begins_41 : decode cX12_begins 41 = .ok (.imul, 1) := by decide +kernel
theorem dX12_begins_42 : decode cX12_begins 42 = .ok (.iadd, 1) := by decide +kernel
theorem dX12_begins_43 : decode cX12_begins 43 = .ok (.iconst 3, 1) := by decide +kernel
theorem dX12_begins_44 : decode cX12_begins 44 = .ok (.iadd, 1) := by decide +kernel
theorem dX12_begins_45 : decode cX12_begins 45 = .ok (.aload_n 0, 1) := by decide +kernel
theorem dX12_begins_46 : decode cX12_begins 46 = .ok (.getfield 39, 3) := by decide +kernel
theorem dX12_begins_49 : decode cX12_begins 49 = .ok (.bipush 78, 2) := by decide +kernel
theorem dX12_begins_51 : decode cX12_begins 51 = .ok (.iaload, 1) := by decide +kernel
theorem dX12_begins_52 : decode cX12_begins 52 = .ok (.iload_n 1, 1) := by decide +kernel
theorem dX12_begins_53 : decode cX12_begins 53 = .ok (.invokestatic 409, 3) := by decide +kernel
theorem dX12_begins_56 : decode cX12_begins 56 = .ok (.ifCond .eq 7, 3) := by decide +kernel
theorem dX12_begins_59 : decode cX12_begins 59 = .ok (.iconst 1, 1) := by decide +kernel
theorem dX12_begins_60 : decode cX12_begins 60 = .ok (.goto 4, 3) := by decide +kernel
theorem dX12_begins_63 : decode cX12_begins 63 = .ok (.iconst 0, 1) := by decide +kernel
theorem dX12_begins_64 : decode cX12_begins 64 = .ok (.iastore, 1) := by decide +kernel
theorem dX12_begins_65 : decode cX12_begins 65 = .ok (.iinc 1 1, 3) := by decide +kernel
theorem dX12_begins_68 : decode cX12_begins 68 = .ok (.goto (-59), 3) := by decide +kernel
theorem dX12_begins_71 : decode cX12_begins 71 = .ok (.iconst 0, 1) := by decide +kernel
theorem dX12_begins_72 : decode cX12_begins 72 = .ok (.istore_n 1, 1) := by decide +kernel
theorem dX12_begins_73 : decode cX12_begins 73 = .ok (.iload_n 1, 1) := by decide +kernel
theorem dX12_begins_74 : decode cX12_begins 74 = .ok (.aload_n 0, 1) := by decide +kernel
theorem dX12_begins_75 : decode cX12_begins 75 = .ok (.getfield 39, 3) := by decide +kernel
theorem dX12_begins_78 : decode cX12_begins 78 = .ok (.iconst 1, 1) := by decide +kernel
theorem dX12_begins_79 : decode cX12_begins 79 = .ok (.iaload, 1) := by decide +kernel
theorem dX12_begins_80 : decode cX12_begins 80 = .ok (.if_icmp .ge 83, 3) := by decide +kernel
theorem dX12_begins_83 : decode cX12_begins 83 = .ok (.aload_n 0, 1) := by decide +kernel
theorem dX12_begins_84 : decode cX12_begins 84 = .ok (.getfield 39, 3) := by decide +kernel
theorem dX12_begins_87 : decode cX12_begins 87 = .ok (.bipush 46, 2) := by decide +kernel
theorem dX12_begins_89 : decode cX12_begins 89 = .ok (.iconst 4, 1) := by decide +kernel
theorem dX12_begins_90 : decode cX12_begins 90 = .ok (.iload_n 1, 1) := by decide +kernel
theorem dX12_begins_91 : decode cX12_begins 91 = .ok (.imul, 1) := by decide +kernel
theorem dX12_begins_92 : decode cX12_begins 92 = .ok (.iadd, 1) := by decide +kernel
theorem dX12_begins_93 : decode cX12_begins 93 = .ok (.aload_n 0, 1) := by decide +kernel
theorem dX12_begins_94 : decode cX12_begins 94 = .ok (.getfield 39, 3) := by decide +kernel
theorem dX12_begins_97 : decode cX12_begins 97 = .ok (.bipush 70, 2) := by decide +kernel
theorem dX12_begins_99 : decode cX12_begins 99 = .ok (.iload_n 1, 1) := by decide +kernel
theorem dX12_begins_100 : decode cX12_begins 100 = .ok (.iadd, 1) := by decide +kernel
theorem dX12_begins_101 : decode cX12_begins 101 = .ok (.iaload, 1) := by decide +kernel
theorem dX12_begins_102 : decode cX12_begins 102 = .ok (.iastore, 1) := by decide +kernel
theorem dX12_begins_103 : decode cX12_begins 103 = .ok (.aload_n 0, 1) := by decide +kernel
theorem dX12_begins_104 : decode cX12_begins 104 = .ok (.getfield 39, 3) := by decide +kernel
theorem dX12_begins_107 : decode cX12_begins 107 = .ok (.bipush 46, 2) := by decide +kernel
theorem dX12_begins_109 : decode cX12_begins 109 = .ok (.iconst 4, 1) := by decide +kernel
theorem dX12_begins_110 : decode cX12_begins 110 = .ok (.iload_n 1, 1) := by decide +kernel
theorem dX12_begins_111 : decode cX12_begins 111 = .ok (.imul, 1) := by decide +kernel
theorem dX12_begins_112 : decode cX12_begins 112 = .ok (.iadd, 1) := by decide +kernel
theorem dX12_begins_113 : decode cX12_begins 113 = .ok (.iconst 1, 1) := by decide +kernel
theorem dX12_begins_114 : decode cX12_begins 114 = .ok (.iadd, 1) := by decide +kernel
theorem dX12_begins_115 : decode cX12_begins 115 = .ok (.aload_n 0, 1) := by decide +kernel
theorem dX12_begins_116 : decode cX12_begins 116 = .ok (.iload_n 1, 1) := by decide +kernel
theorem dX12_begins_117 : decode cX12_begins 117 = .ok (.invokevirtual 327, 3) := by decide +kernel
theorem dX12_begins_120 : decode cX12_begins 120 = .ok (.iastore, 1) := by decide +kernel
theorem dX12_begins_121 : decode cX12_begins 121 = .ok (.aload_n 0, 1) := by decide +kernel
theorem dX12_begins_122 : decode cX12_begins 122 = .ok (.getfield 39, 3) := by decide +kernel
theorem dX12_begins_125 : decode cX12_begins 125 = .ok (.bipush 46, 2) := by decide +kernel
theorem dX12_begins_127 : decode cX12_begins 127 = .ok (.iconst 4, 1) := by decide +kernel
theorem dX12_begins_128 : decode cX12_begins 128 = .ok (.iload_n 1, 1) := by decide +kernel
theorem dX12_begins_129 : decode cX12_begins 129 = .ok (.imul, 1) := by decide +kernel
theorem dX12_begins_130 : decode cX12_begins 130 = .ok (.iadd, 1) := by decide +kernel
theorem dX12_begins_131 : decode cX12_begins 131 = .ok (.iconst 2, 1) := by decide +kernel
theorem dX12_begins_132 : decode cX12_begins 132 = .ok (.iadd, 1) := by decide +kernel
theorem dX12_begins_133 : decode cX12_begins 133 = .ok (.aload_n 0, 1) := by decide +kernel
theorem dX12_begins_134 : decode cX12_begins 134 = .ok (.getfield 39, 3) := by decide +kernel
theorem dX12_begins_137 : decode cX12_begins 137 = .ok (.bipush 74, 2) := by decide +kernel
theorem dX12_begins_139 : decode cX12_begins 139 = .ok (.iload_n 1, 1) := by decide +kernel
theorem dX12_begins_140 : decode cX12_begins 140 = .ok (.iadd, 1) := by decide +kernel
theorem dX12_begins_141 : decode cX12_begins 141 = .ok (.iaload, 1) := by decide +kernel
theorem dX12_begins_142 : decode cX12_begins 142 = .ok (.iastore, 1) := by decide +kernel
theorem dX12_begins_143 : decode cX12_begins 143 = .ok (.aload_n 0, 1) := by decide +kernel
theorem dX12_begins_144 : decode cX12_begins 144 = .ok (.getfield 39, 3) := by decide +kernel
theorem dX12_begins_147 : decode cX12_begins 147 = .ok (.bipush 46, 2) := by decide +kernel
theorem dX12_begins_149 : decode cX12_begins 149 = .ok (.iconst 4, 1) := by decide +kernel
theorem dX12_begins_150 : decode cX12_begins 150 = .ok (.iload_n 1, 1) := by decide +kernel
theorem dX12_begins_151 : decode cX12_begins 151 = .ok (.imul, 1) := by decide +kernel
theorem dX12_begins_152 : decode cX12_begins 152 = .ok (.iadd, 1) := by decide +kernel
theorem dX12_begins_153 : decode cX12_begins 153 = .ok (.iconst 3, 1) := by decide +kernel
theorem dX12_begins_154 : decode cX12_begins 154 = .ok (.iadd, 1) := by decide +kernel
theorem dX12_begins_155 : decode cX12_begins 155 = .ok (.iconst 0, 1) := by decide +kernel
theorem dX12_begins_156 : decode cX12_begins 156 = .ok (.iastore, 1) := by decide +kernel
theorem dX12_begins_157 : decode cX12_begins 157 = .ok (.iinc 1 1, 3) := by decide +kernel
theorem dX12_begins_160 : decode cX12_begins 160 = .ok (.goto (-87), 3) := by decide +kernel
theorem dX12_begins_163 : decode cX12_begins 163 = .ok (.return_, 1) := by decide +kernel
theorem dX12_areNotesSo_0 : decode cX12_areNotesSo 0 = .ok (.iconst 0, 1) := by decide +kernel
theorem dX12_areNotesSo_1 : decode cX12_areNotesSo 1 = .ok (.istore_n 1, 1) := by decide +kernel
theorem dX12_areNotesSo_2 : decode cX12_areNotesSo 2 = .ok (.iload_n 1, 1) := by decide +kernel
theorem dX12_areNotesSo_3 : decode cX12_areNotesSo 3 = .ok (.iconst 3, 1) := by decide +kernel
theorem dX12_areNotesSo_4 : decode cX12_areNotesSo 4 = .ok (.aload_n 0, 1) := by decide +kernel
theorem dX12_areNotesSo_5 : decode cX12_areNotesSo 5 = .ok (.getfield 39, 3) := by decide +kernel
theorem dX12_areNotesSo_8 : decode cX12_areNotesSo 8 = .ok (.bipush 109, 2) := by decide +kernel
theorem dX12_areNotesSo_10 : decode cX12_areNotesSo 10 = .ok (.iaload, 1) := by decide +kernel
theorem dX12_areNotesSo_11 : decode cX12_areNotesSo 11 = .ok (.imul, 1) := by decide +kernel
theorem dX12_areNotesSo_12 : decode cX12_areNotesSo 12 = .ok (.if_icmp .ge 58, 3) := by decide +kernel
theorem dX12_areNotesSo_15 : decode cX12_areNotesSo 15 = .ok (.aload_n 0, 1) := by decide +kernel
theorem dX12_areNotesSo_16 : decode cX12_areNotesSo 16 = .ok (.getfield 39, 3) := by decide +kernel
theorem dX12_areNotesSo_19 : decode cX12_areNotesSo 19 = .ok (.bipush 79, 2) := by decide +kernel
theorem dX12_areNotesSo_21 : decode cX12_areNotesSo 21 = .ok (.iload_n 1, 1) := by decide +kernel
theorem dX12_areNotesSo_22 : decode cX12_areNotesSo 22 = .ok (.iadd, 1) := by decide +kernel
theorem dX12_areNotesSo_23 : decode cX12_areNotesSo 23 = .ok (.iaload, 1) := by decide +kernel
theorem dX12_areNotesSo_24 : decode cX12_areNotesSo 24 = .ok (.aload_n 0, 1) := by decide +kernel
theorem dX12_areNotesSo_25 : decode cX12_areNotesSo 25 = .ok (.getfield 39, 3) := by decide +kernel
theorem dX12_areNotesSo_28 : decode cX12_areNotesSo 28 = .ok (.iconst 2, 1) := by decide +kernel
theorem dX12_areNotesSo_29 : decode cX12_areNotesSo 29 = .ok (.iaload, 1) := by decide +kernel
theorem dX12_areNotesSo_30 : decode cX12_areNotesSo 30 = .ok (.if_icmp .ne 34, 3) := by decide +kernel
theorem dX12_areNotesSo_33 : decode cX12_areNotesSo 33 = .ok (.aload_n 0, 1) := by decide +kernel
theorem dX12_areNotesSo_34 : decode cX12_areNotesSo 34 = .ok (.aload_n 0, 1) := by decide +kernel
theorem dX12_areNotesSo_35 : decode cX12_areNotesSo 35 = .ok (.getfield 39, 3) := by decide +kernel
theorem dX12_areNotesSo_38 : decode cX12_areNotesSo 38 = .ok (.bipush 79, 2) := by decide +kernel
theorem dX12_areNotesSo_40 : decode cX12_areNotesSo 40 = .ok (.iload_n 1, 1) := by decide +kernel
theorem dX12_areNotesSo_41 : decode cX12_areNotesSo 41 = .ok (.iadd, 1) := by decide +kernel
theorem dX12_areNotesSo_42 : decode cX12_areNotesSo 42 = .ok (.iconst 1, 1) := by decide +kernel
theorem dX12_areNotesSo_43 : decode cX12_areNotesSo 43 = .ok (.iadd, 1) := by decide +kernel
theorem dX12_areNotesSo_44 : decode cX12_areNotesSo 44 = .ok (.iaload, 1) := by decide +kernel
theorem dX12_areNotesSo_45 : decode cX12_areNotesSo 45 = .ok (.invokevirtual 330, 3) := by decide +kernel
theorem dX12_areNotesSo_48 : decode cX12_areNotesSo 48 = .ok (.aload_n 0, 1) := by decide +kernel
theorem dX12_areNotesSo_49 : decode cX12_areNotesSo 49 = .ok (.getfield 39, 3) := by decide +kernel
theorem dX12_areNotesSo_52 : decode cX12_areNotesSo 52 = .ok (.bipush 79, 2) := by decide +kernel
theorem dX12_areNotesSo_54 : decode cX12_areNotesSo 54 = .ok (.iload_n 1, 1) := by decide +kernel
theorem dX12_areNotesSo_55 : decode cX12_areNotesSo 55 = .ok (.iadd, 1) := by decide +kernel
theorem dX12_areNotesSo_56 : decode cX12_areNotesSo 56 = .ok (.iconst 2, 1) := by decide +kernel
theorem dX12_areNotesSo_57 : decode cX12_areNotesSo 57 = .ok (.iadd, 1) := by decide +kernel
theorem dX12_areNotesSo_58 : decode cX12_areNotesSo 58 = .ok (.iaload, 1) := by decide +kernel
theorem dX12_areNotesSo_59 : decode cX12_areNotesSo 59 = .ok (.if_icmp .eq 5, 3) := by decide +kernel
theorem dX12_areNotesSo_62 : decode cX12_areNotesSo 62 = .ok (.iconst 0, 1) := by decide +kernel
theorem dX12_areNotesSo_63 : decode cX12_areNotesSo 63 = .ok (.ireturn, 1) := by decide +kernel
theorem dX12_areNotesSo_64 : decode cX12_areNotesSo 64 = .ok (.iinc 1 3, 3) := by decide +kernel
theorem dX12_areNotesSo_67 : decode cX12_areNotesSo 67 = .ok (.goto (-65), 3) := by decide +kernel
theorem dX12_areNotesSo_70 : decode cX12_areNotesSo 70 = .ok (.iconst 1, 1) := by decide +kernel
theorem dX12_areNotesSo_71 : decode cX12_areNotesSo 71 = .ok (.ireturn, 1) := by decide +kernel
theorem dX12_fillsFits_0 : decode cX12_fillsFits 0 = .ok (.aload_n 0, 1) := by decide +kernel
theorem dX12_fillsFits_1 : decode cX12_fillsFits 1 = .ok (.getfield 42, 3) := by decide +kernel
theorem dX12_fillsFits_4 : decode cX12_fillsFits 4 = .ok (.istore_n 2, 1) := by decide +kernel
theorem dX12_fillsFits_5 : decode cX12_fillsFits 5 = .ok (.aload_n 0, 1) := by decide +kernel
theorem dX12_fillsFits_6 : decode cX12_fillsFits 6 = .ok (.invokevirtual 397, 3) := by decide +kernel
theorem dX12_fillsFits_9 : decode cX12_fillsFits 9 = .ok (.iconst (-1), 1) := by decide +kernel
theorem dX12_fillsFits_10 : decode cX12_fillsFits 10 = .ok (.istore_n 3, 1) := by decide +kernel
theorem dX12_fillsFits_11 : decode cX12_fillsFits 11 = .ok (.iload_n 3, 1) := by decide +kernel
theorem dX12_fillsFits_12 : decode cX12_fillsFits 12 = .ok (.aload_n 0, 1) := by decide +kernel
theorem dX12_fillsFits_13 : decode cX12_fillsFits 13 = .ok (.getfield 266, 3) := by decide +kernel
theorem dX12_fillsFits_16 : decode cX12_fillsFits 16 = .ok (.if_icmp .ge 117, 3) := by decide +kernel
theorem dX12_fillsFits_19 : decode cX12_fillsFits 19 = .ok (.aload_n 0, 1) := by decide +kernel
theorem dX12_fillsFits_20 : decode cX12_fillsFits 20 = .ok (.iload_n 3, 1) := by decide +kernel
theorem dX12_fillsFits_21 : decode cX12_fillsFits 21 = .ok (.putfield 42, 3) := by decide +kernel
theorem dX12_fillsFits_24 : decode cX12_fillsFits 24 = .ok (.aload_n 0, 1) := by decide +kernel
theorem dX12_fillsFits_25 : decode cX12_fillsFits 25 = .ok (.invokevirtual 479, 3) := by decide +kernel
theorem dX12_fillsFits_28 : decode cX12_fillsFits 28 = .ok (.iconst 1, 1) := by decide +kernel
theorem dX12_fillsFits_29 : decode cX12_fillsFits 29 = .ok (.istore 4, 2) := by decide +kernel
theorem dX12_fillsFits_31 : decode cX12_fillsFits 31 = .ok (.iconst 0, 1) := by decide +kernel
theorem dX12_fillsFits_32 : decode cX12_fillsFits 32 = .ok (.istore 5, 2) := by decide +kernel
theorem dX12_fillsFits_34 : decode cX12_fillsFits 34 = .ok (.iload 5, 2) := by decide +kernel
theorem dX12_fillsFits_36 : decode cX12_fillsFits 36 = .ok (.bipush 60, 2) := by decide +kernel
theorem dX12_fillsFits_38 : decode cX12_fillsFits 38 = .ok (.if_icmp .gt 79, 3) := by decide +kernel
theorem dX12_fillsFits_41 : decode cX12_fillsFits 41 = .ok (.iload 4, 2) := by decide +kernel
theorem dX12_fillsFits_43 : decode cX12_fillsFits 43 = .ok (.ifCond .eq 14, 3) := by decide +kernel
theorem dX12_fillsFits_46 : decode cX12_fillsFits 46 = .ok (.aload_n 0, 1) := by decide +kernel
theorem dX12_fillsFits_47 : decode cX12_fillsFits 47 = .ok (.invokevirtual 482, 3) := by decide +kernel
theorem dX12_fillsFits_50 : decode cX12_fillsFits 50 = .ok (.ifCond .eq 7, 3) := by decide +kernel
theorem dX12_fillsFits_53 : decode cX12_fillsFits 53 = .ok (.iconst 1, 1) := by decide +kernel
theorem dX12_fillsFits_54 : decode cX12_fillsFits 54 = .ok (.goto 4, 3) := by decide +kernel
theorem dX12_fillsFits_57 : decode cX12_fillsFits 57 = .ok (.iconst 0, 1) := by decide +kernel
theorem dX12_fillsFits_58 : decode cX12_fillsFits 58 = .ok (.istore 4, 2) := by decide +kernel
theorem dX12_fillsFits_60 : decode cX12_fillsFits 60 = .ok (.iconst 0, 1) := by decide +kernel
theorem dX12_fillsFits_61 : decode cX12_fillsFits 61 = .ok (.istore 6, 2) := by decide +kernel
theorem dX12_fillsFits_63 : decode cX12_fillsFits 63 = .ok (.iload 6, 2) := by decide +kernel
theorem dX12_fillsFits_65 : decode cX12_fillsFits 65 = .ok (.aload_n 0, 1) := by decide +kernel
theorem dX12_fillsFits_66 : decode cX12_fillsFits 66 = .ok (.getfield 39, 3) := by decide +kernel
theorem dX12_fillsFits_69 : decode cX12_fillsFits 69 = .ok (.iconst 0, 1) := by decide +kernel
theorem dX12_fillsFits_70 : decode cX12_fillsFits 70 = .ok (.iaload, 1) := by decide +kernel
theorem dX12_fillsFits_71 : decode cX12_fillsFits 71 = .ok (.if_icmp .ge 35, 3) := by decide +kernel
theorem dX12_fillsFits_74 : decode cX12_fillsFits 74 = .ok (.iload 5, 2) := by decide +kernel
theorem dX12_fillsFits_76 : decode cX12_fillsFits 76 = .ok (.iload_n 1, 1) := by decide +kernel
theorem dX12_fillsFits_77 : decode cX12_fillsFits 77 = .ok (.if_icmp .ne 29, 3) := by decide +kernel
theorem dX12_fillsFits_80 : decode cX12_fillsFits 80 = .ok (.aload_n 0, 1) := by decide +kernel
theorem dX12_fillsFits_81 : decode cX12_fillsFits 81 = .ok (.getfield 71, 3) := by decide +kernel
theorem dX12_fillsFits_84 : decode cX12_fillsFits 84 = .ok (.bipush 9, 2) := by decide +kernel
theorem dX12_fillsFits_86 : decode cX12_fillsFits 86 = .ok (.iload_n 3, 1) := by decide +kernel
theorem dX12_fillsFits_87 : decode cX12_fillsFits 87 = .ok (.iconst 1, 1) := by decide +kernel
theorem dX12_fillsFits_88 : decode cX12_fillsFits 88 = .ok (.iadd, 1) := by decide +kernel
theorem dX12_fillsFits_89 : decode cX12_fillsFits 89 = .ok (.imul, 1) := by decide +kernel
theorem dX12_fillsFits_90 : decode cX12_fillsFits 90 = .ok (.iload 6, 2) := by decide +kernel
theorem dX12_fillsFits_92 : decode cX12_fillsFits 92 = .ok (.iadd, 1) := by decide +kernel
theorem dX12_fillsFits_93 : decode cX12_fillsFits 93 = .ok (.aload_n 0, 1) := by decide +kernel
theorem dX12_fillsFits_94 : decode cX12_fillsFits 94 = .ok (.iload 6, 2) := by decide +kernel
theorem dX12_fillsFits_96 : decode cX12_fillsFits 96 = .ok (.invokevirtual 330, 3) := by decide +kernel
theorem dX12_fillsFits_99 : decode cX12_fillsFits 99 = .ok (.iastore, 1) := by decide +kernel
theorem dX12_fillsFits_100 : decode cX12_fillsFits 100 = .ok (.iinc 6 1, 3) := by decide +kernel
theorem dX12_fillsFits_103 : decode cX12_fillsFits 103 = .ok (.goto (-40), 3) := by decide +kernel
theorem dX12_fillsFits_106 : decode cX12_fillsFits 106 = .ok (.aload_n 0, 1) := by decide +kernel
theorem dX12_fillsFits_107 : decode cX12_fillsFits 107 = .ok (.invokevirtual 375, 3) := by decide +kernel
theorem dX12_fillsFits_110 : decode cX12_fillsFits 110 = .ok (.pop, 1) := by decide +kernel
theorem dX12_fillsFits_111 : decode cX12_fillsFits 111 = .ok (.iinc 5 1, 3) := by decide +kernel
theorem dX12_fillsFits_114 : decode cX12_fillsFits 114 = .ok (.goto (-80), 3) := by decide +kernel
theorem dX12_fillsFits_117 : decode cX12_fillsFits 117 = .ok (.aload_n 0, 1) := by decide +kernel
theorem dX12_fillsFits_118 : decode cX12_fillsFits 118 = .ok (.getfield 68, 3) := by decide +kernel
theorem dX12_fillsFits_121 : decode cX12_fillsFits 121 = .ok (.iload_n 3, 1) := by decide +kernel
theorem dX12_fillsFits_122 : decode cX12_fillsFits 122 = .ok (.iconst 1, 1) := by decide +kernel
theorem dX12_fillsFits_123 : decode cX12_fillsFits 123 = .ok (.iadd, 1) := by decide +kernel
theorem dX12_fillsFits_124 : decode cX12_fillsFits 124 = .ok (.iload 4, 2) := by decide +kernel
theorem dX12_fillsFits_126 : decode cX12_fillsFits 126 = .ok (.bastore, 1) := by decide +kernel
theorem dX12_fillsFits_127 : decode cX12_fillsFits 127 = .ok (.iinc 3 1, 3) := by decide +kernel
theorem dX12_fillsFits_130 : decode cX12_fillsFits 130 = .ok (.goto (-119), 3) := by decide +kernel
theorem dX12_fillsFits_133 : decode cX12_fillsFits 133 = .ok (.aload_n 0, 1) := by decide +kernel
theorem dX12_fillsFits_134 : decode cX12_fillsFits 134 = .ok (.iload_n 2, 1) := by decide +kernel
theorem dX12_fillsFits_135 : decode cX12_fillsFits 135 = .ok (.putfield 42, 3) := by decide +kernel
theorem dX12_fillsFits_138 : decode cX12_fillsFits 138 = .ok (.aload_n 0, 1) := by decide +kernel
theorem dX12_fillsFits_139 : decode cX12_fillsFits 139 = .ok (.invokevirtual 400, 3) := by decide +kernel
theorem dX12_fillsFits_142 : decode cX12_fillsFits 142 = .ok (.return_, 1) := by decide +kernel
theorem dX12_ruled_0 : decode cX12_ruled 0 = .ok (.aload_n 0, 1) := by decide +kernel
theorem dX12_ruled_1 : decode cX12_ruled 1 = .ok (.invokevirtual 369, 3) := by decide +kernel
theorem dX12_ruled_4 : decode cX12_ruled 4 = .ok (.ifCond .eq 13, 3) := by decide +kernel
theorem dX12_ruled_7 : decode cX12_ruled 7 = .ok (.iload_n 1, 1) := by decide +kernel
theorem dX12_ruled_8 : decode cX12_ruled 8 = .ok (.i2l, 1) := by decide +kernel
theorem dX12_ruled_9 : decode cX12_ruled 9 = .ok (.lconst 0, 1) := by decide +kernel
theorem dX12_ruled_10 : decode cX12_ruled 10 = .ok (.lconst 1, 1) := by decide +kernel
theorem dX12_ruled_11 : decode cX12_ruled 11 = .ok (.invokestatic 124, 3) := by decide +kernel
theorem dX12_ruled_14 : decode cX12_ruled 14 = .ok (.ifCond .ne 6, 3) := by decide +kernel
theorem dX12_ruled_17 : decode cX12_ruled 17 = .ok (.bipush (-3), 2) := by decide +kernel
theorem dX12_ruled_19 : decode cX12_ruled 19 = .ok (.ireturn, 1) := by decide +kernel
theorem dX12_ruled_20 : decode cX12_ruled 20 = .ok (.aload_n 0, 1) := by decide +kernel
theorem dX12_ruled_21 : decode cX12_ruled 21 = .ok (.iconst 0, 1) := by decide +kernel
theorem dX12_ruled_22 : decode cX12_ruled 22 = .ok (.invokevirtual 485, 3) := by decide +kernel
theorem dX12_ruled_25 : decode cX12_ruled 25 = .ok (.iconst 0, 1) := by decide +kernel
theorem dX12_ruled_26 : decode cX12_ruled 26 = .ok (.istore_n 2, 1) := by decide +kernel
theorem dX12_ruled_27 : decode cX12_ruled 27 = .ok (.bipush (-2), 2) := by decide +kernel
theorem dX12_ruled_29 : decode cX12_ruled 29 = .ok (.istore_n 3, 1) := by decide +kernel
theorem dX12_ruled_30 : decode cX12_ruled 30 = .ok (.aload_n 0, 1) := by decide +kernel
theorem dX12_ruled_31 : decode cX12_ruled 31 = .ok (.getfield 266, 3) := by decide +kernel
theorem dX12_ruled_34 : decode cX12_ruled 34 = .ok (.istore 4, 2) := by decide +kernel
theorem dX12_ruled_36 : decode cX12_ruled 36 = .ok (.iload 4, 2) := by decide +kernel
theorem dX12_ruled_38 : decode cX12_ruled 38 = .ok (.ifCond .lt 30, 3) := by decide +kernel
theorem dX12_ruled_41 : decode cX12_ruled 41 = .ok (.aload_n 0, 1) := by decide +kernel
theorem dX12_ruled_42 : decode cX12_ruled 42 = .ok (.getfield 68, 3) := by decide +kernel
theorem dX12_ruled_45 : decode cX12_ruled 45 = .ok (.iload 4, 2) := by decide +kernel
theorem dX12_ruled_47 : decode cX12_ruled 47 = .ok (.baload, 1) := by decide +kernel
theorem dX12_ruled_48 : decode cX12_ruled 48 = .ok (.ifCond .ne 6, 3) := by decide +kernel
theorem dX12_ruled_51 : decode cX12_ruled 51 = .ok (.goto 11, 3) := by decide +kernel
theorem dX12_ruled_54 : decode cX12_ruled 54 = .ok (.iload 4, 2) := by decide +kernel
theorem dX12_ruled_56 : decode cX12_ruled 56 = .ok (.iconst 1, 1) := by decide +kernel
theorem dX12_ruled_57 : decode cX12_ruled 57 = .ok (.isub, 1) := by decide +kernel
theorem dX12_ruled_58 : decode cX12_ruled 58 = .ok (.istore_n 3, 1) := by decide +kernel
theorem dX12_ruled_59 : decode cX12_ruled 59 = .ok (.iinc 2 1, 3) := by decide +kernel
theorem dX12_ruled_62 : decode cX12_ruled 62 = .ok (.iinc 4 (-1), 3) := by decide +kernel
theorem dX12_ruled_65 : decode cX12_ruled 65 = .ok (.goto (-29), 3) := by decide +kernel
theorem dX12_ruled_68 : decode cX12_ruled 68 = .ok (.iload_n 1, 1) := by decide +kernel
theorem dX12_ruled_69 : decode cX12_ruled 69 = .ok (.ifCond .ne 7, 3) := by decide +kernel
theorem dX12_ruled_72 : decode cX12_ruled 72 = .ok (.iload_n 2, 1) := by decide +kernel
theorem dX12_ruled_73 : decode cX12_ruled 73 = .ok (.goto 4, 3) := by decide +kernel
theorem dX12_ruled_76 : decode cX12_ruled 76 = .ok (.iload_n 3, 1) := by decide +kernel
theorem dX12_ruled_77 : decode cX12_ruled 77 = .ok (.ireturn, 1) := by decide +kernel
theorem dX12_alikeAt_0 : decode cX12_alikeAt 0 = .ok (.iconst 0, 1) := by decide +kernel
theorem dX12_alikeAt_1 : decode cX12_alikeAt 1 = .ok (.istore_n 2, 1) := by decide +kernel
theorem dX12_alikeAt_2 : decode cX12_alikeAt 2 = .ok (.iconst 0, 1) := by decide +kernel
theorem dX12_alikeAt_3 : decode cX12_alikeAt 3 = .ok (.istore_n 3, 1) := by decide +kernel
theorem dX12_alikeAt_4 : decode cX12_alikeAt 4 = .ok (.iload_n 3, 1) := by decide +kernel
theorem dX12_alikeAt_5 : decode cX12_alikeAt 5 = .ok (.aload_n 0, 1) := by decide +kernel
theorem dX12_alikeAt_6 : decode cX12_alikeAt 6 = .ok (.getfield 266, 3) := by decide +kernel
theorem dX12_alikeAt_9 : decode cX12_alikeAt 9 = .ok (.if_icmp .gt 98, 3) := by decide +kernel
theorem dX12_alikeAt_12 : decode cX12_alikeAt 12 = .ok (.iconst 0, 1) := by decide +kernel
theorem dX12_alikeAt_13 : decode cX12_alikeAt 13 = .ok (.istore 4, 2) := by decide +kernel
theorem dX12_alikeAt_15 : decode cX12_alikeAt 15 = .ok (.iconst 0, 1) := by decide +kernel
theorem dX12_alikeAt_16 : decode cX12_alikeAt 16 = .ok (.istore 5, 2) := by decide +kernel
theorem dX12_alikeAt_18 : decode cX12_alikeAt 18 = .ok (.iload 5, 2) := by decide +kernel
theorem dX12_alikeAt_20 : decode cX12_alikeAt 20 = .ok (.aload_n 0, 1) := by decide +kernel
theorem dX12_alikeAt_21 : decode cX12_alikeAt 21 = .ok (.getfield 266, 3) := by decide +kernel
theorem dX12_alikeAt_24 : decode cX12_alikeAt 24 = .ok (.if_icmp .gt 64, 3) := by decide +kernel
theorem dX12_alikeAt_27 : decode cX12_alikeAt 27 = .ok (.aload_n 0, 1) := by decide +kernel
theorem dX12_alikeAt_28 : decode cX12_alikeAt 28 = .ok (.getfield 68, 3) := by decide +kernel
theorem dX12_alikeAt_31 : decode cX12_alikeAt 31 = .ok (.iload_n 3, 1) := by decide +kernel
theorem dX12_alikeAt_32 : decode cX12_alikeAt 32 = .ok (.baload, 1) := by decide +kernel
theorem dX12_alikeAt_33 : decode cX12_alikeAt 33 = .ok (.ifCond .eq 55, 3) := by decide +kernel
theorem dX12_alikeAt_36 : decode cX12_alikeAt 36 = .ok (.iload 4, 2) := by decide +kernel
theorem dX12_alikeAt_38 : decode cX12_alikeAt 38 = .ok (.aload_n 0, 1) := by decide +kernel
theorem dX12_alikeAt_39 : decode cX12_alikeAt 39 = .ok (.getfield 68, 3) := by decide +kernel
theorem dX12_alikeAt_42 : decode cX12_alikeAt 42 = .ok (.iload 5, 2) := by decide +kernel
theorem dX12_alikeAt_44 : decode cX12_alikeAt 44 = .ok (.baload, 1) := by decide +kernel
theorem dX12_alikeAt_45 : decode cX12_alikeAt 45 = .ok (.ifCond .eq 33, 3) := by decide +kernel
theorem dX12_alikeAt_48 : decode cX12_alikeAt 48 = .ok (.aload_n 0, 1) := by decide +kernel
theorem dX12_alikeAt_49 : decode cX12_alikeAt 49 = .ok (.getfield 71, 3) := by decide +kernel
theorem dX12_alikeAt_52 : decode cX12_alikeAt 52 = .ok (.bipush 9, 2) := by decide +kernel
theorem dX12_alikeAt_54 : decode cX12_alikeAt 54 = .ok (.iload_n 3, 1) := by decide +kernel
theorem dX12_alikeAt_55 : decode cX12_alikeAt 55 = .ok (.imul, 1) := by decide +kernel
theorem dX12_alikeAt_56 : decode cX12_alikeAt 56 = .ok (.iload_n 1, 1) := by decide +kernel
theorem dX12_alikeAt_57 : decode cX12_alikeAt 57 = .ok (.iadd, 1) := by decide +kernel
theorem dX12_alikeAt_58 : decode cX12_alikeAt 58 = .ok (.iaload, 1) := by decide +kernel
theorem dX12_alikeAt_59 : decode cX12_alikeAt 59 = .ok (.aload_n 0, 1) := by decide +kernel
theorem dX12_alikeAt_60 : decode cX12_alikeAt 60 = .ok (.getfield 71, 3) := by decide +kernel
theorem dX12_alikeAt_63 : decode cX12_alikeAt 63 = .ok (.bipush 9, 2) := by decide +kernel
theorem dX12_alikeAt_65 : decode cX12_alikeAt 65 = .ok (.iload 5, 2) := by decide +kernel
theorem dX12_alikeAt_67 : decode cX12_alikeAt 67 = .ok (.imul, 1) := by decide +kernel
theorem dX12_alikeAt_68 : decode cX12_alikeAt 68 = .ok (.iload_n 1, 1) := by decide +kernel
theorem dX12_alikeAt_69 : decode cX12_alikeAt 69 = .ok (.iadd, 1) := by decide +kernel
theorem dX12_alikeAt_70 : decode cX12_alikeAt 70 = .ok (.iaload, 1) := by decide +kernel
theorem dX12_alikeAt_71 : decode cX12_alikeAt 71 = .ok (.if_icmp .ne 7, 3) := by decide +kernel
theorem dX12_alikeAt_74 : decode cX12_alikeAt 74 = .ok (.iconst 1, 1) := by decide +kernel
theorem dX12_alikeAt_75 : decode cX12_alikeAt 75 = .ok (.goto 4, 3) := by decide +kernel
theorem dX12_alikeAt_78 : decode cX12_alikeAt 78 = .ok (.iconst 0, 1) := by decide +kernel
theorem dX12_alikeAt_79 : decode cX12_alikeAt 79 = .ok (.iadd, 1) := by decide +kernel
theorem dX12_alikeAt_80 : decode cX12_alikeAt 80 = .ok (.istore 4, 2) := by decide +kernel
theorem dX12_alikeAt_82 : decode cX12_alikeAt 82 = .ok (.iinc 5 1, 3) := by decide +kernel
theorem dX12_alikeAt_85 : decode cX12_alikeAt 85 = .ok (.goto (-67), 3) := by decide +kernel
theorem dX12_alikeAt_88 : decode cX12_alikeAt 88 = .ok (.iload 4, 2) := by decide +kernel
theorem dX12_alikeAt_90 : decode cX12_alikeAt 90 = .ok (.iload_n 2, 1) := by decide +kernel
theorem dX12_alikeAt_91 : decode cX12_alikeAt 91 = .ok (.if_icmp .le 8, 3) := by decide +kernel
theorem dX12_alikeAt_94 : decode cX12_alikeAt 94 = .ok (.iload 4, 2) := by decide +kernel
theorem dX12_alikeAt_96 : decode cX12_alikeAt 96 = .ok (.goto 4, 3) := by decide +kernel
theorem dX12_alikeAt_99 : decode cX12_alikeAt 99 = .ok (.iload_n 2, 1) := by decide +kernel
theorem dX12_alikeAt_100 : decode cX12_alikeAt 100 = .ok (.istore_n 2, 1) := by decide +kernel
theorem dX12_alikeAt_101 : decode cX12_alikeAt 101 = .ok (.iinc 3 1, 3) := by decide +kernel
theorem dX12_alikeAt_104 : decode cX12_alikeAt 104 = .ok (.goto (-100), 3) := by decide +kernel
theorem dX12_alikeAt_107 : decode cX12_alikeAt 107 = .ok (.iload_n 2, 1) := by decide +kernel
theorem dX12_alikeAt_108 : decode cX12_alikeAt 108 = .ok (.ireturn, 1) := by decide +kernel
theorem dX12_look_0 : decode cX12_look 0 = .ok (.aload_n 0, 1) := by decide +kernel
theorem dX12_look_1 : decode cX12_look 1 = .ok (.invokevirtual 369, 3) := by decide +kernel
theorem dX12_look_4 : decode cX12_look 4 = .ok (.ifCond .eq 25, 3) := by decide +kernel
theorem dX12_look_7 : decode cX12_look 7 = .ok (.iload_n 1, 1) := by decide +kernel
theorem dX12_look_8 : decode cX12_look 8 = .ok (.i2l, 1) := by decide +kernel
theorem dX12_look_9 : decode cX12_look 9 = .ok (.lconst 0, 1) := by decide +kernel
theorem dX12_look_10 : decode cX12_look 10 = .ok (.ldc2_w 477, 3) := by decide +kernel
theorem dX12_look_13 : decode cX12_look 13 = .ok (.invokestatic 124, 3) := by decide +kernel
theorem dX12_look_16 : decode cX12_look 16 = .ok (.ifCond .eq 13, 3) := by decide +kernel
theorem dX12_look_19 : decode cX12_look 19 = .ok (.iload_n 2, 1) := by decide +kernel
theorem dX12_look_20 : decode cX12_look 20 = .ok (.i2l, 1) := by decide +kernel
theorem dX12_look_21 : decode cX12_look 21 = .ok (.lconst 0, 1) := by decide +kernel
theorem dX12_look_22 : decode cX12_look 22 = .ok (.lconst 1, 1) := by decide +kernel
theorem dX12_look_23 : decode cX12_look 23 = .ok (.invokestatic 124, 3) := by decide +kernel
theorem dX12_look_26 : decode cX12_look 26 = .ok (.ifCond .ne 5, 3) := by decide +kernel
theorem dX12_look_29 : decode cX12_look 29 = .ok (.iconst (-1), 1) := by decide +kernel
theorem dX12_look_30 : decode cX12_look 30 = .ok (.ireturn, 1) := by decide +kernel
theorem dX12_look_31 : decode cX12_look 31 = .ok (.aload_n 0, 1) := by decide +kernel
theorem dX12_look_32 : decode cX12_look 32 = .ok (.iload_n 1, 1) := by decide +kernel
theorem dX12_look_33 : decode cX12_look 33 = .ok (.invokevirtual 485, 3) := by decide +kernel
theorem dX12_look_36 : decode cX12_look 36 = .ok (.iconst 0, 1) := by decide +kernel
theorem dX12_look_37 : decode cX12_look 37 = .ok (.istore_n 3, 1) := by decide +kernel
theorem dX12_look_38 : decode cX12_look 38 = .ok (.iconst 1, 1) := by decide +kernel
theorem dX12_look_39 : decode cX12_look 39 = .ok (.istore 4, 2) := by decide +kernel
theorem dX12_look_41 : decode cX12_look 41 = .ok (.iload 4, 2) := by decide +kernel
theorem dX12_look_43 : decode cX12_look 43 = .ok (.aload_n 0, 1) := by decide +kernel
theorem dX12_look_44 : decode cX12_look 44 = .ok (.getfield 39, 3) := by decide +kernel
theorem dX12_look_47 : decode cX12_look 47 = .ok (.iconst 0, 1) := by decide +kernel
theorem dX12_look_48 : decode cX12_look 48 = .ok (.iaload, 1) := by decide +kernel
theorem dX12_look_49 : decode cX12_look 49 = .ok (.if_icmp .ge 26, 3) := by decide +kernel
theorem dX12_look_52 : decode cX12_look 52 = .ok (.aload_n 0, 1) := by decide +kernel
theorem dX12_look_53 : decode cX12_look 53 = .ok (.iload 4, 2) := by decide +kernel
theorem dX12_look_55 : decode cX12_look 55 = .ok (.invokevirtual 488, 3) := by decide +kernel
theorem dX12_look_58 : decode cX12_look 58 = .ok (.aload_n 0, 1) := by decide +kernel
theorem dX12_look_59 : decode cX12_look 59 = .ok (.iload_n 3, 1) := by decide +kernel
theorem dX12_look_60 : decode cX12_look 60 = .ok (.invokevirtual 488, 3) := by decide +kernel
theorem dX12_look_63 : decode cX12_look 63 = .ok (.if_icmp .ge 6, 3) := by decide +kernel
theorem dX12_look_66 : decode cX12_look 66 = .ok (.iload 4, 2) := by decide +kernel
theorem dX12_look_68 : decode cX12_look 68 = .ok (.istore_n 3, 1) := by decide +kernel
theorem dX12_look_69 : decode cX12_look 69 = .ok (.iinc 4 1, 3) := by decide +kernel
theorem dX12_look_72 : decode cX12_look 72 = .ok (.goto (-31), 3) := by decide +kernel
theorem dX12_look_75 : decode cX12_look 75 = .ok (.aload_n 0, 1) := by decide +kernel
theorem dX12_look_76 : decode cX12_look 76 = .ok (.iload_n 3, 1) := by decide +kernel
theorem dX12_look_77 : decode cX12_look 77 = .ok (.invokevirtual 488, 3) := by decide +kernel
theorem dX12_look_80 : decode cX12_look 80 = .ok (.ifCond .ne 8, 3) := by decide +kernel
theorem dX12_look_83 : decode cX12_look 83 = .ok (.bipush (-2), 2) := by decide +kernel
theorem dX12_look_85 : decode cX12_look 85 = .ok (.goto 16, 3) := by decide +kernel
theorem dX12_look_88 : decode cX12_look 88 = .ok (.iload_n 2, 1) := by decide +kernel
theorem dX12_look_89 : decode cX12_look 89 = .ok (.ifCond .ne 7, 3) := by decide +kernel
theorem dX12_look_92 : decode cX12_look 92 = .ok (.iload_n 3, 1) := by decide +kernel
theorem dX12_look_93 : decode cX12_look 93 = .ok (.goto 8, 3) := by decide +kernel
theorem dX12_look_96 : decode cX12_look 96 = .ok (.aload_n 0, 1) := by decide +kernel
theorem dX12_look_97 : decode cX12_look 97 = .ok (.iload_n 3, 1) := by decide +kernel
theorem dX12_look_98 : decode cX12_look 98 = .ok (.invokevirtual 488, 3) := by decide +kernel
theorem dX12_look_101 : decode cX12_look 101 = .ok (.ireturn, 1) := by decide +kernel
theorem dX12_seed_0 : decode cX12_seed 0 = .ok (.iload_n 1, 1) := by decide +kernel
theorem dX12_seed_1 : decode cX12_seed 1 = .ok (.ifCond .ge 5, 3) := by decide +kernel
theorem dX12_seed_4 : decode cX12_seed 4 = .ok (.iconst (-1), 1) := by decide +kernel
theorem dX12_seed_5 : decode cX12_seed 5 = .ok (.ireturn, 1) := by decide +kernel
theorem dX12_seed_6 : decode cX12_seed 6 = .ok (.aload_n 0, 1) := by decide +kernel
theorem dX12_seed_7 : decode cX12_seed 7 = .ok (.getfield 491, 3) := by decide +kernel
theorem dX12_seed_10 : decode cX12_seed 10 = .ok (.istore_n 2, 1) := by decide +kernel
theorem dX12_seed_11 : decode cX12_seed 11 = .ok (.aload_n 0, 1) := by decide +kernel
theorem dX12_seed_12 : decode cX12_seed 12 = .ok (.iload_n 1, 1) := by decide +kernel
theorem dX12_seed_13 : decode cX12_seed 13 = .ok (.putfield 491, 3) := by decide +kernel
theorem dX12_seed_16 : decode cX12_seed 16 = .ok (.iload_n 2, 1) := by decide +kernel
theorem dX12_seed_17 : decode cX12_seed 17 = .ok (.ireturn, 1) := by decide +kernel
theorem dX12_draw_0 : decode cX12_draw 0 = .ok (.aload_n 0, 1) := by decide +kernel
theorem dX12_draw_1 : decode cX12_draw 1 = .ok (.aload_n 0, 1) := by decide +kernel
theorem dX12_draw_2 : decode cX12_draw 2 = .ok (.getfield 494, 3) := by decide +kernel
theorem dX12_draw_5 : decode cX12_draw 5 = .ok (.ldc2_w 498, 3) := by decide +kernel
theorem dX12_draw_8 : decode cX12_draw 8 = .ok (.lmul, 1) := by decide +kernel
theorem dX12_draw_9 : decode cX12_draw 9 = .ok (.ldc2_w 500, 3) := by decide +kernel
theorem dX12_draw_12 : decode cX12_draw 12 = .ok (.ladd, 1) := by decide +kernel
theorem dX12_draw_13 : decode cX12_draw 13 = .ok (.ldc2_w 502, 3) := by decide +kernel
theorem dX12_draw_16 : decode cX12_draw 16 = .ok (.lrem, 1) := by decide +kernel
theorem dX12_draw_17 : decode cX12_draw 17 = .ok (.putfield 494, 3) := by decide +kernel
theorem dX12_draw_20 : decode cX12_draw 20 = .ok (.aload_n 0, 1) := by decide +kernel
theorem dX12_draw_21 : decode cX12_draw 21 = .ok (.getfield 494, 3) := by decide +kernel
theorem dX12_draw_24 : decode cX12_draw 24 = .ok (.ldc2_w 504, 3) := by decide +kernel
theorem dX12_draw_27 : decode cX12_draw 27 = .ok (.ldiv, 1) := by decide +kernel
theorem dX12_draw_28 : decode cX12_draw 28 = .ok (.iload_n 1, 1) := by decide +kernel
theorem dX12_draw_29 : decode cX12_draw 29 = .ok (.i2l, 1) := by decide +kernel
theorem dX12_draw_30 : decode cX12_draw 30 = .ok (.lrem, 1) := by decide +kernel
theorem dX12_draw_31 : decode cX12_draw 31 = .ok (.l2i, 1) := by decide +kernel
theorem dX12_draw_32 : decode cX12_draw 32 = .ok (.ireturn, 1) := by decide +kernel
theorem dX12_fallen_0 : decode cX12_fallen 0 = .ok (.iconst 0, 1) := by decide +kernel
theorem dX12_fallen_1 : decode cX12_fallen 1 = .ok (.istore_n 1, 1) := by decide +kernel
theorem dX12_fallen_2 : decode cX12_fallen 2 = .ok (.iconst 0, 1) := by decide +kernel
theorem dX12_fallen_3 : decode cX12_fallen 3 = .ok (.istore_n 2, 1) := by decide +kernel
theorem dX12_fallen_4 : decode cX12_fallen 4 = .ok (.iload_n 2, 1) := by decide +kernel
theorem dX12_fallen_5 : decode cX12_fallen 5 = .ok (.aload_n 0, 1) := by decide +kernel
theorem dX12_fallen_6 : decode cX12_fallen 6 = .ok (.getfield 39, 3) := by decide +kernel
theorem dX12_fallen_9 : decode cX12_fallen 9 = .ok (.iconst 1, 1) := by decide +kernel
theorem dX12_fallen_10 : decode cX12_fallen 10 = .ok (.iaload, 1) := by decide +kernel
theorem dX12_fallen_11 : decode cX12_fallen 11 = .ok (.if_icmp .ge 25, 3) := by decide +kernel
theorem dX12_fallen_14 : decode cX12_fallen 14 = .ok (.iload_n 1, 1) := by decide +kernel
theorem dX12_fallen_15 : decode cX12_fallen 15 = .ok (.aload_n 0, 1) := by decide +kernel
theorem dX12_fallen_16 : decode cX12_fallen 16 = .ok (.iload_n 2, 1) := by decide +kernel
theorem dX12_fallen_17 : decode cX12_fallen 17 = .ok (.invokevirtual 335, 3) := by decide +kernel
theorem dX12_fallen_20 : decode cX12_fallen 20 = .ok (.ifCond .eq 7, 3) := by decide +kernel
theorem dX12_fallen_23 : decode cX12_fallen 23 = .ok (.iconst 0, 1) := by decide +kernel
theorem dX12_fallen_24 : decode cX12_fallen 24 = .ok (.goto 4, 3) := by decide +kernel
theorem dX12_fallen_27 : decode cX12_fallen 27 = .ok (.iconst 1, 1) := by decide +kernel
theorem dX12_fallen_28 : decode cX12_fallen 28 = .ok (.iadd, 1) := by decide +kernel
theorem dX12_fallen_29 : decode cX12_fallen 29 = .ok (.istore_n 1, 1) := by decide +kernel
theorem dX12_fallen_30 : decode cX12_fallen 30 = .ok (.iinc 2 1, 3) := by decide +kernel
theorem dX12_fallen_33 : decode cX12_fallen 33 = .ok (.goto (-29), 3) := by decide +kernel
theorem dX12_fallen_36 : decode cX12_fallen 36 = .ok (.iload_n 1, 1) := by decide +kernel
theorem dX12_fallen_37 : decode cX12_fallen 37 = .ok (.ireturn, 1) := by decide +kernel
theorem dX12_years_0 : decode cX12_years 0 = .ok (.aload_n 0, 1) := by decide +kernel
theorem dX12_years_1 : decode cX12_years 1 = .ok (.invokevirtual 369, 3) := by decide +kernel
theorem dX12_years_4 : decode cX12_years 4 = .ok (.ifCond .eq 50, 3) := by decide +kernel
theorem dX12_years_7 : decode cX12_years 7 = .ok (.iload_n 1, 1) := by decide +kernel
theorem dX12_years_8 : decode cX12_years 8 = .ok (.i2l, 1) := by decide +kernel
theorem dX12_years_9 : decode cX12_years 9 = .ok (.lconst 1, 1) := by decide +kernel
theorem dX12_years_10 : decode cX12_years 10 = .ok (.ldc2_w 506, 3) := by decide +kernel
theorem dX12_years_13 : decode cX12_years 13 = .ok (.invokestatic 124, 3) := by decide +kernel
theorem dX12_years_16 : decode cX12_years 16 = .ok (.ifCond .eq 38, 3) := by decide +kernel
theorem dX12_years_19 : decode cX12_years 19 = .ok (.iload_n 2, 1) := by decide +kernel
theorem dX12_years_20 : decode cX12_years 20 = .ok (.i2l, 1) := by decide +kernel
theorem dX12_years_21 : decode cX12_years 21 = .ok (.lconst 1, 1) := by decide +kernel
theorem dX12_years_22 : decode cX12_years 22 = .ok (.ldc2_w 477, 3) := by decide +kernel
theorem dX12_years_25 : decode cX12_years 25 = .ok (.invokestatic 124, 3) := by decide +kernel
theorem dX12_years_28 : decode cX12_years 28 = .ok (.ifCond .eq 26, 3) := by decide +kernel
theorem dX12_years_31 : decode cX12_years 31 = .ok (.iload_n 3, 1) := by decide +kernel
theorem dX12_years_32 : decode cX12_years 32 = .ok (.i2l, 1) := by decide +kernel
theorem dX12_years_33 : decode cX12_years 33 = .ok (.lconst 0, 1) := by decide +kernel
theorem dX12_years_34 : decode cX12_years 34 = .ok (.ldc2_w 393, 3) := by decide +kernel
theorem dX12_years_37 : decode cX12_years 37 = .ok (.invokestatic 124, 3) := by decide +kernel
theorem dX12_years_40 : decode cX12_years 40 = .ok (.ifCond .eq 14, 3) := by decide +kernel
theorem dX12_years_43 : decode cX12_years 43 = .ok (.iload 4, 2) := by decide +kernel
theorem dX12_years_45 : decode cX12_years 45 = .ok (.i2l, 1) := by decide +kernel
theorem dX12_years_46 : decode cX12_years 46 = .ok (.lconst 0, 1) := by decide +kernel
theorem dX12_years_47 : decode cX12_years 47 = .ok (.lconst 1, 1) := by decide +kernel
theorem dX12_years_48 : decode cX12_years 48 = .ok (.invokestatic 124, 3) := by decide +kernel
theorem dX12_years_51 : decode cX12_years 51 = .ok (.ifCond .ne 5, 3) := by decide +kernel
theorem dX12_years_54 : decode cX12_years 54 = .ok (.iconst (-1), 1) := by decide +kernel
theorem dX12_years_55 : decode cX12_years 55 = .ok (.ireturn, 1) := by decide +kernel
theorem dX12_years_56 : decode cX12_years 56 = .ok (.aload_n 0, 1) := by decide +kernel
theorem dX12_years_57 : decode cX12_years 57 = .ok (.aload_n 0, 1) := by decide +kernel
theorem dX12_years_58 : decode cX12_years 58 = .ok (.getfield 491, 3) := by decide +kernel
theorem dX12_years_61 : decode cX12_years 61 = .ok (.i2l, 1) := by decide +kernel
theorem dX12_years_62 : decode cX12_years 62 = .ok (.putfield 494, 3) := by decide +kernel
theorem dX12_years_65 : decode cX12_years 65 = .ok (.iconst 0, 1) := by decide +kernel
theorem dX12_years_66 : decode cX12_years 66 = .ok (.istore 5, 2) := by decide +kernel
theorem dX12_years_68 : decode cX12_years 68 = .ok (.iconst 0, 1) := by decide +kernel
theorem dX12_years_69 : decode cX12_years 69 = .ok (.istore 6, 2) := by decide +kernel
theorem dX12_years_71 : decode cX12_years 71 = .ok (.aload_n 0, 1) := by decide +kernel
theorem dX12_years_72 : decode cX12_years 72 = .ok (.invokevirtual 508, 3) := by decide +kernel
theorem dX12_years_75 : decode cX12_years 75 = .ok (.istore 7, 2) := by decide +kernel
theorem dX12_years_77 : decode cX12_years 77 = .ok (.aload_n 0, 1) := by decide +kernel
theorem dX12_years_78 : decode cX12_years 78 = .ok (.invokevirtual 397, 3) := by decide +kernel
theorem dX12_years_81 : decode cX12_years 81 = .ok (.iconst 0, 1) := by decide +kernel
theorem dX12_years_82 : decode cX12_years 82 = .ok (.istore 8, 2) := by decide +kernel
theorem dX12_years_84 : decode cX12_years 84 = .ok (.iload 8, 2) := by decide +kernel
theorem dX12_years_86 : decode cX12_years 86 = .ok (.iload_n 1, 1) := by decide +kernel
theorem dX12_years_87 : decode cX12_years 87 = .ok (.if_icmp .ge 121, 3) := by decide +kernel
theorem dX12_years_90 : decode cX12_years 90 = .ok (.iconst 0, 1) := by decide +kernel
theorem dX12_years_91 : decode cX12_years 91 = .ok (.istore 9, 2) := by decide +kernel
theorem dX12_years_93 : decode cX12_years 93 = .ok (.iload 9, 2) := by decide +kernel
theorem dX12_years_95 : decode cX12_years 95 = .ok (.iload_n 2, 1) := by decide +kernel
theorem dX12_years_96 : decode cX12_years 96 = .ok (.if_icmp .ge 90, 3) := by decide +kernel
theorem dX12_years_99 : decode cX12_years 99 = .ok (.iconst 0, 1) := by decide +kernel
theorem dX12_years_100 : decode cX12_years 100 = .ok (.istore 10, 2) := by decide +kernel
theorem dX12_years_102 : decode cX12_years 102 = .ok (.iload 10, 2) := by decide +kernel
theorem dX12_years_104 : decode cX12_years 104 = .ok (.aload_n 0, 1) := by decide +kernel
theorem dX12_years_105 : decode cX12_years 105 = .ok (.getfield 39, 3) := by decide +kernel
theorem dX12_years_108 : decode cX12_years 108 = .ok (.iconst 1, 1) := by decide +kernel
theorem dX12_years_109 : decode cX12_years 109 = .ok (.iaload, 1) := by decide +kernel
theorem dX12_years_110 : decode cX12_years 110 = .ok (.if_icmp .ge 61, 3) := by decide +kernel
theorem dX12_years_113 : decode cX12_years 113 = .ok (.bipush 46, 2) := by decide +kernel
theorem dX12_years_115 : decode cX12_years 115 = .ok (.iconst 4, 1) := by decide +kernel
theorem dX12_years_116 : decode cX12_years 116 = .ok (.iload 10, 2) := by decide +kernel
theorem dX12_years_118 : decode cX12_years 118 = .ok (.imul, 1) := by decide +kernel
theorem dX12_years_119 : decode cX12_years 119 = .ok (.iadd, 1) := by decide +kernel
theorem dX12_years_120 : decode cX12_years 120 = .ok (.iconst 1, 1) := by decide +kernel
theorem dX12_years_121 : decode cX12_years 121 = .ok (.iadd, 1) := by decide +kernel
theorem dX12_years_122 : decode cX12_years 122 = .ok (.istore 11, 2) := by decide +kernel
theorem dX12_years_124 : decode cX12_years 124 = .ok (.aload_n 0, 1) := by decide +kernel
theorem dX12_years_125 : decode cX12_years 125 = .ok (.iload 10, 2) := by decide +kernel
theorem dX12_years_127 : decode cX12_years 127 = .ok (.invokevirtual 335, 3) := by decide +kernel
theorem dX12_years_130 : decode cX12_years 130 = .ok (.ifCond .eq 35, 3) := by decide +kernel
theorem dX12_years_133 : decode cX12_years 133 = .ok (.aload_n 0, 1) := by decide +kernel
theorem dX12_years_134 : decode cX12_years 134 = .ok (.bipush 100, 2) := by decide +kernel
theorem dX12_years_136 : decode cX12_years 136 = .ok (.invokevirtual 511, 3) := by decide +kernel
theorem dX12_years_139 : decode cX12_years 139 = .ok (.iload_n 3, 1) := by decide +kernel
theorem dX12_years_140 : decode cX12_years 140 = .ok (.if_icmp .ge 25, 3) := by decide +kernel
theorem dX12_years_143 : decode cX12_years 143 = .ok (.aload_n 0, 1) := by decide +kernel
theorem dX12_years_144 : decode cX12_years 144 = .ok (.getfield 39, 3) := by decide +kernel
theorem dX12_years_147 : decode cX12_years 147 = .ok (.iload 11, 2) := by decide +kernel
theorem dX12_years_149 : decode cX12_years 149 = .ok (.iaload, 1) := by decide +kernel
theorem dX12_years_150 : decode cX12_years 150 = .ok (.iconst 1, 1) := by decide +kernel
theorem dX12_years_151 : decode cX12_years 151 = .ok (.if_icmp .le 14, 3) := by decide +kernel
theorem dX12_years_154 : decode cX12_years 154 = .ok (.aload_n 0, 1) := by decide +kernel
theorem dX12_years_155 : decode cX12_years 155 = .ok (.getfield 39, 3) := by decide +kernel
theorem dX12_years_158 : decode cX12_years 158 = .ok (.iload 11, 2) := by decide +kernel
theorem dX12_years_160 : decode cX12_years 160 = .ok (.dup2, 1) := by decide +kernel
theorem dX12_years_161 : decode cX12_years 161 = .ok (.iaload, 1) := by decide +kernel
theorem dX12_years_162 : decode cX12_years 162 = .ok (.iconst 1, 1) := by decide +kernel
theorem dX12_years_163 : decode cX12_years 163 = .ok (.isub, 1) := by decide +kernel
theorem dX12_years_164 : decode cX12_years 164 = .ok (.iastore, 1) := by decide +kernel
theorem dX12_years_165 : decode cX12_years 165 = .ok (.iinc 10 1, 3) := by decide +kernel
theorem dX12_years_168 : decode cX12_years 168 = .ok (.goto (-66), 3) := by decide +kernel
theorem dX12_years_171 : decode cX12_years 171 = .ok (.iload 5, 2) := by decide +kernel
theorem dX12_years_173 : decode cX12_years 173 = .ok (.aload_n 0, 1) := by decide +kernel
theorem dX12_years_174 : decode cX12_years 174 = .ok (.invokevirtual 375, 3) := by decide +kernel
theorem dX12_years_177 : decode cX12_years 177 = .ok (.iadd, 1) := by decide +kernel
theorem dX12_years_178 : decode cX12_years 178 = .ok (.istore 5, 2) := by decide +kernel
theorem dX12_years_180 : decode cX12_years 180 = .ok (.iinc 9 1, 3) := by decide +kernel
theorem dX12_years_183 : decode cX12_years 183 = .ok (.goto (-90), 3) := by decide +kernel
theorem dX12_years_186 : decode cX12_years 186 = .ok (.iload 6, 2) := by decide +kernel
theorem dX12_years_188 : decode cX12_years 188 = .ok (.aload_n 0, 1) := by decide +kernel
theorem dX12_years_189 : decode cX12_years 189 = .ok (.invokevirtual 508, 3) := by decide +kernel
theorem dX12_years_192 : decode cX12_years 192 = .ok (.iload 7, 2) := by decide +kernel
theorem dX12_years_194 : decode cX12_years 194 = .ok (.isub, 1) := by decide +kernel
theorem dX12_years_195 : decode cX12_years 195 = .ok (.iadd, 1) := by decide +kernel
theorem dX12_years_196 : decode cX12_years 196 = .ok (.istore 6, 2) := by decide +kernel
theorem dX12_years_198 : decode cX12_years 198 = .ok (.aload_n 0, 1) := by decide +kernel
theorem dX12_years_199 : decode cX12_years 199 = .ok (.invokevirtual 400, 3) := by decide +kernel
theorem dX12_years_202 : decode cX12_years 202 = .ok (.iinc 8 1, 3) := by decide +kernel
theorem dX12_years_205 : decode cX12_years 205 = .ok (.goto (-121), 3) := by decide +kernel
theorem dX12_years_208 : decode cX12_years 208 = .ok (.iload 4, 2) := by decide +kernel
theorem dX12_years_210 : decode cX12_years 210 = .ok (.ifCond .ne 8, 3) := by decide +kernel
theorem dX12_years_213 : decode cX12_years 213 = .ok (.iload 5, 2) := by decide +kernel
theorem dX12_years_215 : decode cX12_years 215 = .ok (.goto 5, 3) := by decide +kernel
theorem dX12_years_218 : decode cX12_years 218 = .ok (.iload 6, 2) := by decide +kernel
theorem dX12_years_220 : decode cX12_years 220 = .ok (.ireturn, 1) := by decide +kernel
theorem dX12_count_0 : decode cX12_count 0 = .ok (.iconst 0, 1) := by decide +kernel
theorem dX12_count_1 : decode cX12_count 1 = .ok (.istore_n 2, 1) := by decide +kernel
theorem dX12_count_2 : decode cX12_count 2 = .ok (.iload_n 1, 1) := by decide +kernel
theorem dX12_count_3 : decode cX12_count 3 = .ok (.tableswitch 248 0 12 #[65, 65, 72, 110, 150, 155, 160, 167, 196, 225, 233, 238, 243], 65) := by decide +kernel
theorem dX12_count_68 : decode cX12_count 68 = .ok (.aload_n 0, 1) := by decide +kernel
theorem dX12_count_69 : decode cX12_count 69 = .ok (.getfield 39, 3) := by decide +kernel
theorem dX12_count_72 : decode cX12_count 72 = .ok (.iload_n 1, 1) := by decide +kernel
theorem dX12_count_73 : decode cX12_count 73 = .ok (.iaload, 1) := by decide +kernel
theorem dX12_count_74 : decode cX12_count 74 = .ok (.ireturn, 1) := by decide +kernel
theorem dX12_count_75 : decode cX12_count 75 = .ok (.iconst 0, 1) := by decide +kernel
theorem dX12_count_76 : decode cX12_count 76 = .ok (.istore_n 3, 1) := by decide +kernel
theorem dX12_count_77 : decode cX12_count 77 = .ok (.iload_n 3, 1) := by decide +kernel
theorem dX12_count_78 : decode cX12_count 78 = .ok (.aload_n 0, 1) := by decide +kernel
theorem dX12_count_79 : decode cX12_count 79 = .ok (.getfield 39, 3) := by decide +kernel
theorem dX12_count_82 : decode cX12_count 82 = .ok (.iconst 1, 1) := by decide +kernel
theorem dX12_count_83 : decode cX12_count 83 = .ok (.iaload, 1) := by decide +kernel
theorem dX12_count_84 : decode cX12_count 84 = .ok (.if_icmp .ge 27, 3) := by decide +kernel
theorem dX12_count_87 : decode cX12_count 87 = .ok (.iload_n 2, 1) := by decide +kernel
theorem dX12_count_88 : decode cX12_count 88 = .ok (.aload_n 0, 1) := by decide +kernel
theorem dX12_count_89 : decode cX12_count 89 = .ok (.iload_n 3, 1) := by decide +kernel
theorem dX12_count_90 : decode cX12_count 90 = .ok (.invokevirtual 335, 3) := by decide +kernel
theorem dX12_count_93 : decode cX12_count 93 = .ok (.ifCond .eq 9, 3) := by decide +kernel
theorem dX12_count_96 : decode cX12_count 96 = .ok (.iconst 1, 1) := by decide +kernel
theorem dX12_count_97 : decode cX12_count 97 = .ok (.iload_n 3, 1) := by decide +kernel
theorem dX12_count_98 : decode cX12_count 98 = .ok (.ishl, 1) := by decide +kernel
theorem dX12_count_99 : decode cX12_count 99 = .ok (.goto 4, 3) := by decide +kernel
theorem dX12_count_102 : decode cX12_count 102 = .ok (.iconst 0, 1) := by decide +kernel
theorem dX12_count_103 : decode cX12_count 103 = .ok (.ior, 1) := by decide +kernel
theorem dX12_count_104 : decode cX12_count 104 = .ok (.istore_n 2, 1) := by decide +kernel
theorem dX12_count_105 : decode cX12_count 105 = .ok (.iinc 3 1, 3) := by decide +kernel
theorem dX12_count_108 : decode cX12_count 108 = .ok (.goto (-31), 3) := by decide +kernel
theorem dX12_count_111 : decode cX12_count 111 = .ok (.iload_n 2, 1) := by decide +kernel
theorem dX12_count_112 : decode cX12_count 112 = .ok (.ireturn, 1) := by decide +kernel
theorem dX12_count_113 : decode cX12_count 113 = .ok (.iconst 0, 1) := by decide +kernel
theorem dX12_count_114 : decode cX12_count 114 = .ok (.istore_n 3, 1) := by decide +kernel
theorem dX12_count_115 : decode cX12_count 115 = .ok (.iload_n 3, 1) := by decide +kernel
theorem dX12_count_116 : decode cX12_count 116 = .ok (.aload_n 0, 1) := by decide +kernel
theorem dX12_count_117 : decode cX12_count 117 = .ok (.getfield 39, 3) := by decide +kernel
theorem dX12_count_120 : decode cX12_count 120 = .ok (.iconst 0, 1) := by decide +kernel
theorem dX12_count_121 : decode cX12_count 121 = .ok (.iaload, 1) := by decide +kernel
theorem dX12_count_122 : decode cX12_count 122 = .ok (.if_icmp .ge 29, 3) := by decide +kernel
theorem dX12_count_125 : decode cX12_count 125 = .ok (.iload_n 2, 1) := by decide +kernel
theorem dX12_count_126 : decode cX12_count 126 = .ok (.aload_n 0, 1) := by decide +kernel
theorem dX12_count_127 : decode cX12_count 127 = .ok (.iload_n 3, 1) := by decide +kernel
theorem dX12_count_128 : decode cX12_count 128 = .ok (.iconst 3, 1) := by decide +kernel
theorem dX12_count_129 : decode cX12_count 129 = .ok (.invokevirtual 297, 3) := by decide +kernel
theorem dX12_count_132 : decode cX12_count 132 = .ok (.iconst 1, 1) := by decide +kernel
theorem dX12_count_133 : decode cX12_count 133 = .ok (.if_icmp .ne 9, 3) := by decide +kernel
theorem dX12_count_136 : decode cX12_count 136 = .ok (.iconst 1, 1) := by decide +kernel
theorem dX12_count_137 : decode cX12_count 137 = .ok (.iload_n 3, 1) := by decide +kernel
theorem dX12_count_138 : decode cX12_count 138 = .ok (.ishl, 1) := by decide +kernel
theorem dX12_count_139 : decode cX12_count 139 = .ok (.goto 4, 3) := by decide +kernel
theorem dX12_count_142 : decode cX12_count 142 = .ok (.iconst 0, 1) := by decide +kernel
theorem dX12_count_143 : decode cX12_count 143 = .ok (.ior, 1) := by decide +kernel
theorem dX12_count_144 : decode cX12_count 144 = .ok (.istore_n 2, 1) := by decide +kernel
theorem dX12_count_145 : decode cX12_count 145 = .ok (.iinc 3 1, 3) := by decide +kernel
theorem dX12_count_148 : decode cX12_count 148 = .ok (.goto (-33), 3) := by decide +kernel
theorem dX12_count_151 : decode cX12_count 151 = .ok (.iload_n 2, 1) := by decide +kernel
theorem dX12_count_152 : decode cX12_count 152 = .ok (.ireturn, 1) := by decide +kernel
theorem dX12_count_153 : decode cX12_count 153 = .ok (.aload_n 0, 1) := by decide +kernel
theorem dX12_count_154 : decode cX12_count 154 = .ok (.getfield 266, 3) := by decide +kernel
theorem dX12_count_157 : decode cX12_count 157 = .ok (.ireturn, 1) := by decide +kernel
theorem dX12_count_158 : decode cX12_count 158 = .ok (.aload_n 0, 1) := by decide +kernel
theorem dX12_count_159 : decode cX12_count 159 = .ok (.getfield 42, 3) := by decide +kernel
theorem dX12_count_162 : decode cX12_count 162 = .ok (.ireturn, 1) := by decide +kernel
theorem dX12_count_163 : decode cX12_count 163 = .ok (.aload_n 0, 1) := by decide +kernel
theorem dX12_count_164 : decode cX12_count 164 = .ok (.getfield 39, 3) := by decide +kernel
theorem dX12_count_167 : decode cX12_count 167 = .ok (.iconst 2, 1) := by decide +kernel
theorem dX12_count_168 : decode cX12_count 168 = .ok (.iaload, 1) := by decide +kernel
theorem dX12_count_169 : decode cX12_count 169 = .ok (.ireturn, 1) := by decide +kernel
theorem dX12_count_170 : decode cX12_count 170 = .ok (.iconst 0, 1) := by decide +kernel
theorem dX12_count_171 : decode cX12_count 171 = .ok (.istore_n 3, 1) := by decide +kernel
theorem dX12_count_172 : decode cX12_count 172 = .ok (.iload_n 3, 1) := by decide +kernel
theorem dX12_count_173 : decode cX12_count 173 = .ok (.aload_n 0, 1) := by decide +kernel
theorem dX12_count_174 : decode cX12_count 174 = .ok (.getfield 39, 3) := by decide +kernel
theorem dX12_count_177 : decode cX12_count 177 = .ok (.iconst 1, 1) := by decide +kernel
theorem dX12_count_178 : decode cX12_count 178 = .ok (.iaload, 1) := by decide +kernel
theorem dX12_count_179 : decode cX12_count 179 = .ok (.if_icmp .ge 18, 3) := by decide +kernel
theorem dX12_count_182 : decode cX12_count 182 = .ok (.iload_n 2, 1) := by decide +kernel
theorem dX12_count_183 : decode cX12_count 183 = .ok (.aload_n 0, 1) := by decide +kernel
theorem dX12_count_184 : decode cX12_count 184 = .ok (.iload_n 3, 1) := by decide +kernel
theorem dX12_count_185 : decode cX12_count 185 = .ok (.iconst 3, 1) := by decide +kernel
theorem dX12_count_186 : decode cX12_count 186 = .ok (.invokevirtual 290, 3) := by decide +kernel
theorem dX12_count_189 : decode cX12_count 189 = .ok (.iadd, 1) := by decide +kernel
theorem dX12_count_190 : decode cX12_count 190 = .ok (.istore_n 2, 1) := by decide +kernel
theorem dX12_count_191 : decode cX12_count 191 = .ok (.iinc 3 1, 3) := by decide +kernel
theorem dX12_count_194 : decode cX12_count 194 = .ok (.goto (-22), 3) := by decide +kernel
theorem dX12_count_197 : decode cX12_count 197 = .ok (.iload_n 2, 1) := by decide +kernel
theorem dX12_count_198 : decode cX12_count 198 = .ok (.ireturn, 1) := by decide +kernel
theorem dX12_count_199 : decode cX12_count 199 = .ok (.iconst 0, 1) := by decide +kernel
theorem dX12_count_200 : decode cX12_count 200 = .ok (.istore_n 3, 1) := by decide +kernel
theorem dX12_count_201 : decode cX12_count 201 = .ok (.iload_n 3, 1) := by decide +kernel
theorem dX12_count_202 : decode cX12_count 202 = .ok (.aload_n 0, 1) := by decide +kernel
theorem dX12_count_203 : decode cX12_count 203 = .ok (.getfield 39, 3) := by decide +kernel
theorem dX12_count_206 : decode cX12_count 206 = .ok (.iconst 0, 1) := by decide +kernel
theorem dX12_count_207 : decode cX12_count 207 = .ok (.iaload, 1) := by decide +kernel
theorem dX12_count_208 : decode cX12_count 208 = .ok (.if_icmp .ge 18, 3) := by decide +kernel
theorem dX12_count_211 : decode cX12_count 211 = .ok (.iload_n 2, 1) := by decide +kernel
theorem dX12_count_212 : decode cX12_count 212 = .ok (.aload_n 0, 1) := by decide +kernel
theorem dX12_count_213 : decode cX12_count 213 = .ok (.iload_n 3, 1) := by decide +kernel
theorem dX12_count_214 : decode cX12_count 214 = .ok (.iconst 2, 1) := by decide +kernel
theorem dX12_count_215 : decode cX12_count 215 = .ok (.invokevirtual 297, 3) := by decide +kernel
theorem dX12_count_218 : decode cX12_count 218 = .ok (.iadd, 1) := by decide +kernel
theorem dX12_count_219 : decode cX12_count 219 = .ok (.istore_n 2, 1) := by decide +kernel
theorem dX12_count_220 : decode cX12_count 220 = .ok (.iinc 3 1, 3) := by decide +kernel
theorem dX12_count_223 : decode cX12_count 223 = .ok (.goto (-22), 3) := by decide +kernel
theorem dX12_count_226 : decode cX12_count 226 = .ok (.iload_n 2, 1) := by decide +kernel
theorem dX12_count_227 : decode cX12_count 227 = .ok (.ireturn, 1) := by decide +kernel
theorem dX12_count_228 : decode cX12_count 228 = .ok (.aload_n 0, 1) := by decide +kernel
theorem dX12_count_229 : decode cX12_count 229 = .ok (.getfield 39, 3) := by decide +kernel
theorem dX12_count_232 : decode cX12_count 232 = .ok (.bipush 109, 2) := by decide +kernel
theorem dX12_count_234 : decode cX12_count 234 = .ok (.iaload, 1) := by decide +kernel
theorem dX12_count_235 : decode cX12_count 235 = .ok (.ireturn, 1) := by decide +kernel
theorem dX12_count_236 : decode cX12_count 236 = .ok (.aload_n 0, 1) := by decide +kernel
theorem dX12_count_237 : decode cX12_count 237 = .ok (.getfield 272, 3) := by decide +kernel
theorem dX12_count_240 : decode cX12_count 240 = .ok (.ireturn, 1) := by decide +kernel
theorem dX12_count_241 : decode cX12_count 241 = .ok (.aload_n 0, 1) := by decide +kernel
theorem dX12_count_242 : decode cX12_count 242 = .ok (.getfield 491, 3) := by decide +kernel
theorem dX12_count_245 : decode cX12_count 245 = .ok (.ireturn, 1) := by decide +kernel
theorem dX12_count_246 : decode cX12_count 246 = .ok (.aload_n 0, 1) := by decide +kernel
theorem dX12_count_247 : decode cX12_count 247 = .ok (.getfield 86, 3) := by decide +kernel
theorem dX12_count_250 : decode cX12_count 250 = .ok (.ireturn, 1) := by decide +kernel
theorem dX12_count_251 : decode cX12_count 251 = .ok (.iconst (-1), 1) := by decide +kernel
theorem dX12_count_252 : decode cX12_count 252 = .ok (.ireturn, 1) := by decide +kernel
theorem dX12_image_0 : decode cX12_image 0 = .ok (.iload_n 1, 1) := by decide +kernel
theorem dX12_image_1 : decode cX12_image 1 = .ok (.i2l, 1) := by decide +kernel
theorem dX12_image_2 : decode cX12_image 2 = .ok (.lconst 0, 1) := by decide +kernel
theorem dX12_image_3 : decode cX12_image 3 = .ok (.ldc2_w 514, 3) := by decide +kernel
theorem dX12_image_6 : decode cX12_image 6 = .ok (.invokestatic 124, 3) := by decide +kernel
theorem dX12_image_9 : decode cX12_image 9 = .ok (.ifCond .ne 5, 3) := by decide +kernel
theorem dX12_image_12 : decode cX12_image 12 = .ok (.iconst (-1), 1) := by decide +kernel
theorem dX12_image_13 : decode cX12_image 13 = .ok (.ireturn, 1) := by decide +kernel
theorem dX12_image_14 : decode cX12_image 14 = .ok (.aload_n 0, 1) := by decide +kernel
theorem dX12_image_15 : decode cX12_image 15 = .ok (.getfield 83, 3) := by decide +kernel
theorem dX12_image_18 : decode cX12_image 18 = .ok (.iload_n 1, 1) := by decide +kernel
theorem dX12_image_19 : decode cX12_image 19 = .ok (.iconst 1, 1) := by decide +kernel
theorem dX12_image_20 : decode cX12_image 20 = .ok (.bastore, 1) := by decide +kernel
theorem dX12_image_21 : decode cX12_image 21 = .ok (.aload_n 0, 1) := by decide +kernel
theorem dX12_image_22 : decode cX12_image 22 = .ok (.getfield 77, 3) := by decide +kernel
theorem dX12_image_25 : decode cX12_image 25 = .ok (.iload_n 1, 1) := by decide +kernel
theorem dX12_image_26 : decode cX12_image 26 = .ok (.aload_n 0, 1) := by decide +kernel
theorem dX12_image_27 : decode cX12_image 27 = .ok (.getfield 42, 3) := by decide +kernel
theorem dX12_image_30 : decode cX12_image 30 = .ok (.iastore, 1) := by decide +kernel
theorem dX12_image_31 : decode cX12_image 31 = .ok (.aload_n 0, 1) := by decide +kernel
theorem dX12_image_32 : decode cX12_image 32 = .ok (.getfield 80, 3) := by decide +kernel
theorem dX12_image_35 : decode cX12_image 35 = .ok (.iload_n 1, 1) := by decide +kernel
theorem dX12_image_36 : decode cX12_image 36 = .ok (.aload_n 0, 1) := by decide +kernel
theorem dX12_image_37 : decode cX12_image 37 = .ok (.getfield 491, 3) := by decide +kernel
theorem dX12_image_40 : decode cX12_image 40 = .ok (.iastore, 1) := by decide +kernel
theorem dX12_image_41 : decode cX12_image 41 = .ok (.iconst 0, 1) := by decide +kernel
theorem dX12_image_42 : decode cX12_image 42 = .ok (.istore_n 2, 1) := by decide +kernel
theorem dX12_image_43 : decode cX12_image 43 = .ok (.iload_n 2, 1) := by decide +kernel
theorem dX12_image_44 : decode cX12_image 44 = .ok (.bipush 110, 2) := by decide +kernel
theorem dX12_image_46 : decode cX12_image 46 = .ok (.if_icmp .ge 26, 3) := by decide +kernel
theorem dX12_image_49 : decode cX12_image 49 = .ok (.aload_n 0, 1) := by decide +kernel
theorem dX12_image_50 : decode cX12_image 50 = .ok (.getfield 74, 3) := by decide +kernel
theorem dX12_image_53 : decode cX12_image 53 = .ok (.bipush 110, 2) := by decide +kernel
theorem dX12_image_55 : decode cX12_image 55 = .ok (.iload_n 1, 1) := by decide +kernel
theorem dX12_image_56 : decode cX12_image 56 = .ok (.imul, 1) := by decide +kernel
theorem dX12_image_57 : decode cX12_image 57 = .ok (.iload_n 2, 1) := by decide +kernel
theorem dX12_image_58 : decode cX12_image 58 = .ok (.iadd, 1) := by decide +kernel
theorem dX12_image_59 : decode cX12_image 59 = .ok (.aload_n 0, 1) := by decide +kernel
theorem dX12_image_60 : decode cX12_image 60 = .ok (.getfield 39, 3) := by decide +kernel
theorem dX12_image_63 : decode cX12_image 63 = .ok (.iload_n 2, 1) := by decide +kernel
theorem dX12_image_64 : decode cX12_image 64 = .ok (.iaload, 1) := by decide +kernel
theorem dX12_image_65 : decode cX12_image 65 = .ok (.iastore, 1) := by decide +kernel
theorem dX12_image_66 : decode cX12_image 66 = .ok (.iinc 2 1, 3) := by decide +kernel
theorem dX12_image_69 : decode cX12_image 69 = .ok (.goto (-26), 3) := by decide +kernel
theorem dX12_image_72 : decode cX12_image 72 = .ok (.aload_n 0, 1) := by decide +kernel
theorem dX12_image_73 : decode cX12_image 73 = .ok (.getfield 39, 3) := by decide +kernel
theorem dX12_image_76 : decode cX12_image 76 = .ok (.iconst 2, 1) := by decide +kernel
theorem dX12_image_77 : decode cX12_image 77 = .ok (.iaload, 1) := by decide +kernel
theorem dX12_image_78 : decode cX12_image 78 = .ok (.ireturn, 1) := by decide +kernel
theorem dX12_back_0 : decode cX12_back 0 = .ok (.iload_n 1, 1) := by decide +kernel
theorem dX12_back_1 : decode cX12_back 1 = .ok (.i2l, 1) := by decide +kernel
theorem dX12_back_2 : decode cX12_back 2 = .ok (.lconst 0, 1) := by decide +kernel
theorem dX12_back_3 : decode cX12_back 3 = .ok (.ldc2_w 514, 3) := by decide +kernel
theorem dX12_back_6 : decode cX12_back 6 = .ok (.invokestatic 124, 3) := by decide +kernel
theorem dX12_back_9 : decode cX12_back 9 = .ok (.ifCond .eq 12, 3) := by decide +kernel
theorem dX12_back_12 : decode cX12_back 12 = .ok (.aload_n 0, 1) := by decide +kernel
theorem dX12_back_13 : decode cX12_back 13 = .ok (.getfield 83, 3) := by decide +kernel
theorem dX12_back_16 : decode cX12_back 16 = .ok (.iload_n 1, 1) := by decide +kernel
theorem dX12_back_17 : decode cX12_back 17 = .ok (.baload, 1) := by decide +kernel
theorem dX12_back_18 : decode cX12_back 18 = .ok (.ifCond .ne 5, 3) := by decide +kernel
theorem dX12_back_21 : decode cX12_back 21 = .ok (.iconst (-1), 1) := by decide +kernel
theorem dX12_back_22 : decode cX12_back 22 = .ok (.ireturn, 1) := by decide +kernel
theorem dX12_back_23 : decode cX12_back 23 = .ok (.aload_n 0, 1) := by decide +kernel
theorem dX12_back_24 : decode cX12_back 24 = .ok (.aload_n 0, 1) := by decide +kernel
theorem dX12_back_25 : decode cX12_back 25 = .ok (.getfield 77, 3) := by decide +kernel
theorem dX12_back_28 : decode cX12_back 28 = .ok (.iload_n 1, 1) := by decide +kernel
theorem dX12_back_29 : decode cX12_back 29 = .ok (.iaload, 1) := by decide +kernel
theorem dX12_back_30 : decode cX12_back 30 = .ok (.putfield 42, 3) := by decide +kernel
theorem dX12_back_33 : decode cX12_back 33 = .ok (.aload_n 0, 1) := by decide +kernel
theorem dX12_back_34 : decode cX12_back 34 = .ok (.aload_n 0, 1) := by decide +kernel
theorem dX12_back_35 : decode cX12_back 35 = .ok (.getfield 80, 3) := by decide +kernel
theorem dX12_back_38 : decode cX12_back 38 = .ok (.iload_n 1, 1) := by decide +kernel
theorem dX12_back_39 : decode cX12_back 39 = .ok (.iaload, 1) := by decide +kernel
theorem dX12_back_40 : decode cX12_back 40 = .ok (.putfield 491, 3) := by decide +kernel
theorem dX12_back_43 : decode cX12_back 43 = .ok (.aload_n 0, 1) := by decide +kernel
theorem dX12_back_44 : decode cX12_back 44 = .ok (.iconst 0, 1) := by decide +kernel
theorem dX12_back_45 : decode cX12_back 45 = .ok (.putfield 272, 3) := by decide +kernel
theorem dX12_back_48 : decode cX12_back 48 = .ok (.iconst 0, 1) := by decide +kernel
theorem dX12_back_49 : decode cX12_back 49 = .ok (.istore_n 2, 1) := by decide +kernel
theorem dX12_back_50 : decode cX12_back 50 = .ok (.iload_n 2, 1) := by decide +kernel
theorem dX12_back_51 : decode cX12_back 51 = .ok (.bipush 110, 2) := by decide +kernel
theorem dX12_back_53 : decode cX12_back 53 = .ok (.if_icmp .ge 26, 3) := by decide +kernel
theorem dX12_back_56 : decode cX12_back 56 = .ok (.aload_n 0, 1) := by decide +kernel
theorem dX12_back_57 : decode cX12_back 57 = .ok (.getfield 39, 3) := by decide +kernel
theorem dX12_back_60 : decode cX12_back 60 = .ok (.iload_n 2, 1) := by decide +kernel
theorem dX12_back_61 : decode cX12_back 61 = .ok (.aload_n 0, 1) := by decide +kernel
theorem dX12_back_62 : decode cX12_back 62 = .ok (.getfield 74, 3) := by decide +kernel
theorem dX12_back_65 : decode cX12_back 65 = .ok (.bipush 110, 2) := by decide +kernel
theorem dX12_back_67 : decode cX12_back 67 = .ok (.iload_n 1, 1) := by decide +kernel
theorem dX12_back_68 : decode cX12_back 68 = .ok (.imul, 1) := by decide +kernel
theorem dX12_back_69 : decode cX12_back 69 = .ok (.iload_n 2, 1) := by decide +kernel
theorem dX12_back_70 : decode cX12_back 70 = .ok (.iadd, 1) := by decide +kernel
theorem dX12_back_71 : decode cX12_back 71 = .ok (.iaload, 1) := by decide +kernel
theorem dX12_back_72 : decode cX12_back 72 = .ok (.iastore, 1) := by decide +kernel
theorem dX12_back_73 : decode cX12_back 73 = .ok (.iinc 2 1, 3) := by decide +kernel
theorem dX12_back_76 : decode cX12_back 76 = .ok (.goto (-26), 3) := by decide +kernel
theorem dX12_back_79 : decode cX12_back 79 = .ok (.aload_n 0, 1) := by decide +kernel
theorem dX12_back_80 : decode cX12_back 80 = .ok (.getfield 39, 3) := by decide +kernel
theorem dX12_back_83 : decode cX12_back 83 = .ok (.iconst 2, 1) := by decide +kernel
theorem dX12_back_84 : decode cX12_back 84 = .ok (.iaload, 1) := by decide +kernel
theorem dX12_back_85 : decode cX12_back 85 = .ok (.ireturn, 1) := by decide +kernel
