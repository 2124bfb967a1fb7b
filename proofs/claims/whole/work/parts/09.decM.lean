theorem dX11_init_0 : decode cX11_init 0 = .ok (.aload_n 0, 1) := by decide +kernel
theorem dX11_init_1 : decode cX11_init 1 = .ok (.invokespecial 1, 3) := by decide +kernel
theorem dX11_init_4 : decode cX11_init 4 = .ok (.aload_n 0, 1) := by decide +kernel
theorem dX11_init_5 : decode cX11_init 5 = .ok (.bipush 64, 2) := by decide +kernel
theorem dX11_init_7 : decode cX11_init 7 = .ok (.newarray .int, 2) := by decide +kernel
theorem dX11_init_9 : decode cX11_init 9 = .ok (.putfield 7, 3) := by decide +kernel
theorem dX11_init_12 : decode cX11_init 12 = .ok (.aload_n 0, 1) := by decide +kernel
theorem dX11_init_13 : decode cX11_init 13 = .ok (.bipush 22, 2) := by decide +kernel
theorem dX11_init_15 : decode cX11_init 15 = .ok (.newarray .int, 2) := by decide +kernel
theorem dX11_init_17 : decode cX11_init 17 = .ok (.putfield 13, 3) := by decide +kernel
theorem dX11_init_20 : decode cX11_init 20 = .ok (.aload_n 0, 1) := by decide +kernel
theorem dX11_init_21 : decode cX11_init 21 = .ok (.bipush 22, 2) := by decide +kernel
theorem dX11_init_23 : decode cX11_init 23 = .ok (.newarray .int, 2) := by decide +kernel
theorem dX11_init_25 : decode cX11_init 25 = .ok (.putfield 16, 3) := by decide +kernel
theorem dX11_init_28 : decode cX11_init 28 = .ok (.aload_n 0, 1) := by decide +kernel
theorem dX11_init_29 : decode cX11_init 29 = .ok (.bipush 22, 2) := by decide +kernel
theorem dX11_init_31 : decode cX11_init 31 = .ok (.newarray .int, 2) := by decide +kernel
theorem dX11_init_33 : decode cX11_init 33 = .ok (.putfield 19, 3) := by decide +kernel
theorem dX11_init_36 : decode cX11_init 36 = .ok (.aload_n 0, 1) := by decide +kernel
theorem dX11_init_37 : decode cX11_init 37 = .ok (.sipush 308, 3) := by decide +kernel
theorem dX11_init_40 : decode cX11_init 40 = .ok (.newarray .int, 2) := by decide +kernel
theorem dX11_init_42 : decode cX11_init 42 = .ok (.putfield 22, 3) := by decide +kernel
theorem dX11_init_45 : decode cX11_init 45 = .ok (.aload_n 0, 1) := by decide +kernel
theorem dX11_init_46 : decode cX11_init 46 = .ok (.bipush 44, 2) := by decide +kernel
theorem dX11_init_48 : decode cX11_init 48 = .ok (.newarray .int, 2) := by decide +kernel
theorem dX11_init_50 : decode cX11_init 50 = .ok (.putfield 25, 3) := by decide +kernel
theorem dX11_init_53 : decode cX11_init 53 = .ok (.aload_n 0, 1) := by decide +kernel
theorem dX11_init_54 : decode cX11_init 54 = .ok (.iconst 2, 1) := by decide +kernel
theorem dX11_init_55 : decode cX11_init 55 = .ok (.newarray .boolean, 2) := by decide +kernel
theorem dX11_init_57 : decode cX11_init 57 = .ok (.putfield 28, 3) := by decide +kernel
theorem dX11_init_60 : decode cX11_init 60 = .ok (.aload_n 0, 1) := by decide +kernel
theorem dX11_init_61 : decode cX11_init 61 = .ok (.bipush 6, 2) := by decide +kernel
theorem dX11_init_63 : decode cX11_init 63 = .ok (.newarray .int, 2) := by decide +kernel
theorem dX11_init_65 : decode cX11_init 65 = .ok (.putfield 32, 3) := by decide +kernel
theorem dX11_init_68 : decode cX11_init 68 = .ok (.aload_n 0, 1) := by decide +kernel
theorem dX11_init_69 : decode cX11_init 69 = .ok (.bipush 6, 2) := by decide +kernel
theorem dX11_init_71 : decode cX11_init 71 = .ok (.newarray .int, 2) := by decide +kernel
theorem dX11_init_73 : decode cX11_init 73 = .ok (.putfield 35, 3) := by decide +kernel
theorem dX11_init_76 : decode cX11_init 76 = .ok (.aload_n 0, 1) := by decide +kernel
theorem dX11_init_77 : decode cX11_init 77 = .ok (.bipush 6, 2) := by decide +kernel
theorem dX11_init_79 : decode cX11_init 79 = .ok (.newarray .int, 2) := by decide +kernel
theorem dX11_init_81 : decode cX11_init 81 = .ok (.putfield 38, 3) := by decide +kernel
theorem dX11_init_84 : decode cX11_init 84 = .ok (.aload_n 0, 1) := by decide +kernel
theorem dX11_init_85 : decode cX11_init 85 = .ok (.sipush 1372, 3) := by decide +kernel
theorem dX11_init_88 : decode cX11_init 88 = .ok (.newarray .int, 2) := by decide +kernel
theorem dX11_init_90 : decode cX11_init 90 = .ok (.putfield 41, 3) := by decide +kernel
theorem dX11_init_93 : decode cX11_init 93 = .ok (.aload_n 0, 1) := by decide +kernel
theorem dX11_init_94 : decode cX11_init 94 = .ok (.sipush 1372, 3) := by decide +kernel
theorem dX11_init_97 : decode cX11_init 97 = .ok (.newarray .int, 2) := by decide +kernel
theorem dX11_init_99 : decode cX11_init 99 = .ok (.putfield 44, 3) := by decide +kernel
theorem dX11_init_102 : decode cX11_init 102 = .ok (.aload_n 0, 1) := by decide +kernel
theorem dX11_init_103 : decode cX11_init 103 = .ok (.sipush 1372, 3) := by decide +kernel
theorem dX11_init_106 : decode cX11_init 106 = .ok (.newarray .int, 2) := by decide +kernel
theorem dX11_init_108 : decode cX11_init 108 = .ok (.putfield 47, 3) := by decide +kernel
theorem dX11_init_111 : decode cX11_init 111 = .ok (.aload_n 0, 1) := by decide +kernel
theorem dX11_init_112 : decode cX11_init 112 = .ok (.bipush 8, 2) := by decide +kernel
theorem dX11_init_114 : decode cX11_init 114 = .ok (.newarray .int, 2) := by decide +kernel
theorem dX11_init_116 : decode cX11_init 116 = .ok (.putfield 50, 3) := by decide +kernel
theorem dX11_init_119 : decode cX11_init 119 = .ok (.aload_n 0, 1) := by decide +kernel
theorem dX11_init_120 : decode cX11_init 120 = .ok (.bipush 36, 2) := by decide +kernel
theorem dX11_init_122 : decode cX11_init 122 = .ok (.newarray .int, 2) := by decide +kernel
theorem dX11_init_124 : decode cX11_init 124 = .ok (.putfield 53, 3) := by decide +kernel
theorem dX11_init_127 : decode cX11_init 127 = .ok (.aload_n 0, 1) := by decide +kernel
theorem dX11_init_128 : decode cX11_init 128 = .ok (.sipush 343, 3) := by decide +kernel
theorem dX11_init_131 : decode cX11_init 131 = .ok (.newarray .boolean, 2) := by decide +kernel
theorem dX11_init_133 : decode cX11_init 133 = .ok (.putfield 56, 3) := by decide +kernel
theorem dX11_init_136 : decode cX11_init 136 = .ok (.aload_n 0, 1) := by decide +kernel
theorem dX11_init_137 : decode cX11_init 137 = .ok (.sipush 343, 3) := by decide +kernel
theorem dX11_init_140 : decode cX11_init 140 = .ok (.newarray .int, 2) := by decide +kernel
theorem dX11_init_142 : decode cX11_init 142 = .ok (.putfield 59, 3) := by decide +kernel
theorem dX11_init_145 : decode cX11_init 145 = .ok (.aload_n 0, 1) := by decide +kernel
theorem dX11_init_146 : decode cX11_init 146 = .ok (.sipush 1600, 3) := by decide +kernel
theorem dX11_init_149 : decode cX11_init 149 = .ok (.newarray .int, 2) := by decide +kernel
theorem dX11_init_151 : decode cX11_init 151 = .ok (.putfield 62, 3) := by decide +kernel
theorem dX11_init_154 : decode cX11_init 154 = .ok (.aload_n 0, 1) := by decide +kernel
theorem dX11_init_155 : decode cX11_init 155 = .ok (.bipush 64, 2) := by decide +kernel
theorem dX11_init_157 : decode cX11_init 157 = .ok (.newarray .int, 2) := by decide +kernel
theorem dX11_init_159 : decode cX11_init 159 = .ok (.putfield 65, 3) := by decide +kernel
theorem dX11_init_162 : decode cX11_init 162 = .ok (.iconst 0, 1) := by decide +kernel
theorem dX11_init_163 : decode cX11_init 163 = .ok (.istore_n 1, 1) := by decide +kernel
theorem dX11_init_164 : decode cX11_init 164 = .ok (.iload_n 1, 1) := by decide +kernel
theorem dX11_init_165 : decode cX11_init 165 = .ok (.iconst 4, 1) := by decide +kernel
theorem dX11_init_166 : decode cX11_init 166 = .ok (.if_icmp .ge 19, 3) := by decide +kernel
theorem dX11_init_169 : decode cX11_init 169 = .ok (.aload_n 0, 1) := by decide +kernel
theorem dX11_init_170 : decode cX11_init 170 = .ok (.getfield 16, 3) := by decide +kernel
theorem dX11_init_173 : decode cX11_init 173 = .ok (.bipush 17, 2) := by decide +kernel
theorem dX11_init_175 : decode cX11_init 175 = .ok (.iload_n 1, 1) := by decide +kernel
theorem dX11_init_176 : decode cX11_init 176 = .ok (.iadd, 1) := by decide +kernel
theorem dX11_init_177 : decode cX11_init 177 = .ok (.iconst 1, 1) := by decide +kernel
theorem dX11_init_178 : decode cX11_init 178 = .ok (.iastore, 1) := by decide +kernel
theorem dX11_init_179 : decode cX11_init 179 = .ok (.iinc 1 1, 3) := by decide +kernel
theorem dX11_init_182 : decode cX11_init 182 = .ok (.goto (-18), 3) := by decide +kernel
theorem dX11_init_185 : decode cX11_init 185 = .ok (.return_, 1) := by decide +kernel
theorem dX11_in_0 : decode cX11_in 0 = .ok (.lload_n 0, 1) := by decide +kernel
theorem dX11_in_1 : decode cX11_in 1 = .ok (.lload_n 2, 1) := by decide +kernel
theorem dX11_in_2 : decode cX11_in 2 = .ok (.lcmp, 1) := by decide +kernel
theorem dX11_in_3 : decode cX11_in 3 = .ok (.ifCond .lt 14, 3) := by decide +kernel
theorem dX11_in_6 : decode cX11_in 6 = .ok (.lload_n 0, 1) := by decide +kernel
theorem dX11_in_7 : decode cX11_in 7 = .ok (.lload 4, 2) := by decide +kernel
theorem dX11_in_9 : decode cX11_in 9 = .ok (.lcmp, 1) := by decide +kernel
theorem dX11_in_10 : decode cX11_in 10 = .ok (.ifCond .gt 7, 3) := by decide +kernel
theorem dX11_in_13 : decode cX11_in 13 = .ok (.iconst 1, 1) := by decide +kernel
theorem dX11_in_14 : decode cX11_in 14 = .ok (.goto 4, 3) := by decide +kernel
theorem dX11_in_17 : decode cX11_in 17 = .ok (.iconst 0, 1) := by decide +kernel
theorem dX11_in_18 : decode cX11_in 18 = .ok (.ireturn, 1) := by decide +kernel
theorem dX11_has_0 : decode cX11_has 0 = .ok (.iload_n 0, 1) := by decide +kernel
theorem dX11_has_1 : decode cX11_has 1 = .ok (.iload_n 1, 1) := by decide +kernel
theorem dX11_has_2 : decode cX11_has 2 = .ok (.ishr, 1) := by decide +kernel
theorem dX11_has_3 : decode cX11_has 3 = .ok (.iconst 1, 1) := by decide +kernel
theorem dX11_has_4 : decode cX11_has 4 = .ok (.iand, 1) := by decide +kernel
theorem dX11_has_5 : decode cX11_has 5 = .ok (.iconst 1, 1) := by decide +kernel
theorem dX11_has_6 : decode cX11_has 6 = .ok (.if_icmp .ne 7, 3) := by decide +kernel
theorem dX11_has_9 : decode cX11_has 9 = .ok (.iconst 1, 1) := by decide +kernel
theorem dX11_has_10 : decode cX11_has 10 = .ok (.goto 4, 3) := by decide +kernel
theorem dX11_has_13 : decode cX11_has 13 = .ok (.iconst 0, 1) := by decide +kernel
theorem dX11_has_14 : decode cX11_has 14 = .ok (.ireturn, 1) := by decide +kernel
theorem dX11_many_0 : decode cX11_many 0 = .ok (.iconst 0, 1) := by decide +kernel
theorem dX11_many_1 : decode cX11_many 1 = .ok (.istore_n 1, 1) := by decide +kernel
theorem dX11_many_2 : decode cX11_many 2 = .ok (.iconst 0, 1) := by decide +kernel
theorem dX11_many_3 : decode cX11_many 3 = .ok (.istore_n 2, 1) := by decide +kernel
theorem dX11_many_4 : decode cX11_many 4 = .ok (.iload_n 2, 1) := by decide +kernel
theorem dX11_many_5 : decode cX11_many 5 = .ok (.bipush 6, 2) := by decide +kernel
theorem dX11_many_7 : decode cX11_many 7 = .ok (.if_icmp .ge 17, 3) := by decide +kernel
theorem dX11_many_10 : decode cX11_many 10 = .ok (.iload_n 1, 1) := by decide +kernel
theorem dX11_many_11 : decode cX11_many 11 = .ok (.iload_n 0, 1) := by decide +kernel
theorem dX11_many_12 : decode cX11_many 12 = .ok (.iload_n 2, 1) := by decide +kernel
theorem dX11_many_13 : decode cX11_many 13 = .ok (.ishr, 1) := by decide +kernel
theorem dX11_many_14 : decode cX11_many 14 = .ok (.iconst 1, 1) := by decide +kernel
theorem dX11_many_15 : decode cX11_many 15 = .ok (.iand, 1) := by decide +kernel
theorem dX11_many_16 : decode cX11_many 16 = .ok (.iadd, 1) := by decide +kernel
theorem dX11_many_17 : decode cX11_many 17 = .ok (.istore_n 1, 1) := by decide +kernel
theorem dX11_many_18 : decode cX11_many 18 = .ok (.iinc 2 1, 3) := by decide +kernel
theorem dX11_many_21 : decode cX11_many 21 = .ok (.goto (-17), 3) := by decide +kernel
theorem dX11_many_24 : decode cX11_many 24 = .ok (.iload_n 1, 1) := by decide +kernel
theorem dX11_many_25 : decode cX11_many 25 = .ok (.ireturn, 1) := by decide +kernel
theorem dX11_power_0 : decode cX11_power 0 = .ok (.iconst 1, 1) := by decide +kernel
theorem dX11_power_1 : decode cX11_power 1 = .ok (.istore_n 2, 1) := by decide +kernel
theorem dX11_power_2 : decode cX11_power 2 = .ok (.iconst 0, 1) := by decide +kernel
theorem dX11_power_3 : decode cX11_power 3 = .ok (.istore_n 3, 1) := by decide +kernel
theorem dX11_power_4 : decode cX11_power 4 = .ok (.iload_n 3, 1) := by decide +kernel
theorem dX11_power_5 : decode cX11_power 5 = .ok (.iload_n 1, 1) := by decide +kernel
theorem dX11_power_6 : decode cX11_power 6 = .ok (.if_icmp .ge 13, 3) := by decide +kernel
theorem dX11_power_9 : decode cX11_power 9 = .ok (.iload_n 2, 1) := by decide +kernel
theorem dX11_power_10 : decode cX11_power 10 = .ok (.iload_n 0, 1) := by decide +kernel
theorem dX11_power_11 : decode cX11_power 11 = .ok (.imul, 1) := by decide +kernel
theorem dX11_power_12 : decode cX11_power 12 = .ok (.istore_n 2, 1) := by decide +kernel
theorem dX11_power_13 : decode cX11_power 13 = .ok (.iinc 3 1, 3) := by decide +kernel
theorem dX11_power_16 : decode cX11_power 16 = .ok (.goto (-12), 3) := by decide +kernel
theorem dX11_power_19 : decode cX11_power 19 = .ok (.iload_n 2, 1) := by decide +kernel
theorem dX11_power_20 : decode cX11_power 20 = .ok (.ireturn, 1) := by decide +kernel
theorem dX11_length_0 : decode cX11_length 0 = .ok (.iconst 0, 1) := by decide +kernel
theorem dX11_length_1 : decode cX11_length 1 = .ok (.istore_n 1, 1) := by decide +kernel
theorem dX11_length_2 : decode cX11_length 2 = .ok (.iload_n 0, 1) := by decide +kernel
theorem dX11_length_3 : decode cX11_length 3 = .ok (.istore_n 2, 1) := by decide +kernel
theorem dX11_length_4 : decode cX11_length 4 = .ok (.iload_n 2, 1) := by decide +kernel
theorem dX11_length_5 : decode cX11_length 5 = .ok (.ifCond .le 14, 3) := by decide +kernel
theorem dX11_length_8 : decode cX11_length 8 = .ok (.iinc 1 1, 3) := by decide +kernel
theorem dX11_length_11 : decode cX11_length 11 = .ok (.iload_n 2, 1) := by decide +kernel
theorem dX11_length_12 : decode cX11_length 12 = .ok (.bipush 10, 2) := by decide +kernel
theorem dX11_length_14 : decode cX11_length 14 = .ok (.idiv, 1) := by decide +kernel
theorem dX11_length_15 : decode cX11_length 15 = .ok (.istore_n 2, 1) := by decide +kernel
theorem dX11_length_16 : decode cX11_length 16 = .ok (.goto (-12), 3) := by decide +kernel
theorem dX11_length_19 : decode cX11_length 19 = .ok (.iload_n 1, 1) := by decide +kernel
theorem dX11_length_20 : decode cX11_length 20 = .ok (.ireturn, 1) := by decide +kernel
theorem dX11_noWord_0 : decode cX11_noWord 0 = .ok (.iload_n 1, 1) := by decide +kernel
theorem dX11_noWord_1 : decode cX11_noWord 1 = .ok (.i2l, 1) := by decide +kernel
theorem dX11_noWord_2 : decode cX11_noWord 2 = .ok (.lconst 0, 1) := by decide +kernel
theorem dX11_noWord_3 : decode cX11_noWord 3 = .ok (.aload_n 0, 1) := by decide +kernel
theorem dX11_noWord_4 : decode cX11_noWord 4 = .ok (.getfield 16, 3) := by decide +kernel
theorem dX11_noWord_7 : decode cX11_noWord 7 = .ok (.iconst 0, 1) := by decide +kernel
theorem dX11_noWord_8 : decode cX11_noWord 8 = .ok (.iaload, 1) := by decide +kernel
theorem dX11_noWord_9 : decode cX11_noWord 9 = .ok (.iconst 1, 1) := by decide +kernel
theorem dX11_noWord_10 : decode cX11_noWord 10 = .ok (.isub, 1) := by decide +kernel
theorem dX11_noWord_11 : decode cX11_noWord 11 = .ok (.i2l, 1) := by decide +kernel
theorem dX11_noWord_12 : decode cX11_noWord 12 = .ok (.invokestatic 72, 3) := by decide +kernel
theorem dX11_noWord_15 : decode cX11_noWord 15 = .ok (.ifCond .ne 7, 3) := by decide +kernel
theorem dX11_noWord_18 : decode cX11_noWord 18 = .ok (.iconst 1, 1) := by decide +kernel
theorem dX11_noWord_19 : decode cX11_noWord 19 = .ok (.goto 4, 3) := by decide +kernel
theorem dX11_noWord_22 : decode cX11_noWord 22 = .ok (.iconst 0, 1) := by decide +kernel
theorem dX11_noWord_23 : decode cX11_noWord 23 = .ok (.ireturn, 1) := by decide +kernel
theorem dX11_noPlace_0 : decode cX11_noPlace 0 = .ok (.aload_n 0, 1) := by decide +kernel
theorem dX11_noPlace_1 : decode cX11_noPlace 1 = .ok (.iload_n 1, 1) := by decide +kernel
theorem dX11_noPlace_2 : decode cX11_noPlace 2 = .ok (.invokevirtual 76, 3) := by decide +kernel
theorem dX11_noPlace_5 : decode cX11_noPlace 5 = .ok (.ifCond .ne 26, 3) := by decide +kernel
theorem dX11_noPlace_8 : decode cX11_noPlace 8 = .ok (.iload_n 2, 1) := by decide +kernel
theorem dX11_noPlace_9 : decode cX11_noPlace 9 = .ok (.i2l, 1) := by decide +kernel
theorem dX11_noPlace_10 : decode cX11_noPlace 10 = .ok (.lconst 0, 1) := by decide +kernel
theorem dX11_noPlace_11 : decode cX11_noPlace 11 = .ok (.aload_n 0, 1) := by decide +kernel
theorem dX11_noPlace_12 : decode cX11_noPlace 12 = .ok (.getfield 16, 3) := by decide +kernel
theorem dX11_noPlace_15 : decode cX11_noPlace 15 = .ok (.iconst 1, 1) := by decide +kernel
theorem dX11_noPlace_16 : decode cX11_noPlace 16 = .ok (.iload_n 1, 1) := by decide +kernel
theorem dX11_noPlace_17 : decode cX11_noPlace 17 = .ok (.iadd, 1) := by decide +kernel
theorem dX11_noPlace_18 : decode cX11_noPlace 18 = .ok (.iaload, 1) := by decide +kernel
theorem dX11_noPlace_19 : decode cX11_noPlace 19 = .ok (.invokestatic 80, 3) := by decide +kernel
theorem dX11_noPlace_22 : decode cX11_noPlace 22 = .ok (.iconst 2, 1) := by decide +kernel
theorem dX11_noPlace_23 : decode cX11_noPlace 23 = .ok (.isub, 1) := by decide +kernel
theorem dX11_noPlace_24 : decode cX11_noPlace 24 = .ok (.i2l, 1) := by decide +kernel
theorem dX11_noPlace_25 : decode cX11_noPlace 25 = .ok (.invokestatic 72, 3) := by decide +kernel
theorem dX11_noPlace_28 : decode cX11_noPlace 28 = .ok (.ifCond .ne 7, 3) := by decide +kernel
theorem dX11_noPlace_31 : decode cX11_noPlace 31 = .ok (.iconst 1, 1) := by decide +kernel
theorem dX11_noPlace_32 : decode cX11_noPlace 32 = .ok (.goto 4, 3) := by decide +kernel
theorem dX11_noPlace_35 : decode cX11_noPlace 35 = .ok (.iconst 0, 1) := by decide +kernel
theorem dX11_noPlace_36 : decode cX11_noPlace 36 = .ok (.ireturn, 1) := by decide +kernel
theorem dX11_write_0 : decode cX11_write 0 = .ok (.aload_n 0, 1) := by decide +kernel
theorem dX11_write_1 : decode cX11_write 1 = .ok (.iconst 0, 1) := by decide +kernel
theorem dX11_write_2 : decode cX11_write 2 = .ok (.putfield 68, 3) := by decide +kernel
theorem dX11_write_5 : decode cX11_write 5 = .ok (.iload_n 1, 1) := by decide +kernel
theorem dX11_write_6 : decode cX11_write 6 = .ok (.i2l, 1) := by decide +kernel
theorem dX11_write_7 : decode cX11_write 7 = .ok (.lconst 0, 1) := by decide +kernel
theorem dX11_write_8 : decode cX11_write 8 = .ok (.ldc2_w 84, 3) := by decide +kernel
theorem dX11_write_11 : decode cX11_write 11 = .ok (.invokestatic 72, 3) := by decide +kernel
theorem dX11_write_14 : decode cX11_write 14 = .ok (.ifCond .ne 6, 3) := by decide +kernel
theorem dX11_write_17 : decode cX11_write 17 = .ok (.bipush (-2), 2) := by decide +kernel
theorem dX11_write_19 : decode cX11_write 19 = .ok (.ireturn, 1) := by decide +kernel
theorem dX11_write_20 : decode cX11_write 20 = .ok (.aload_n 0, 1) := by decide +kernel
theorem dX11_write_21 : decode cX11_write 21 = .ok (.getfield 86, 3) := by decide +kernel
theorem dX11_write_24 : decode cX11_write 24 = .ok (.bipush 64, 2) := by decide +kernel
theorem dX11_write_26 : decode cX11_write 26 = .ok (.if_icmp .ne 6, 3) := by decide +kernel
theorem dX11_write_29 : decode cX11_write 29 = .ok (.bipush (-4), 2) := by decide +kernel
theorem dX11_write_31 : decode cX11_write 31 = .ok (.ireturn, 1) := by decide +kernel
theorem dX11_write_32 : decode cX11_write 32 = .ok (.aload_n 0, 1) := by decide +kernel
theorem dX11_write_33 : decode cX11_write 33 = .ok (.getfield 7, 3) := by decide +kernel
theorem dX11_write_36 : decode cX11_write 36 = .ok (.aload_n 0, 1) := by decide +kernel
theorem dX11_write_37 : decode cX11_write 37 = .ok (.getfield 86, 3) := by decide +kernel
theorem dX11_write_40 : decode cX11_write 40 = .ok (.iload_n 1, 1) := by decide +kernel
theorem dX11_write_41 : decode cX11_write 41 = .ok (.iastore, 1) := by decide +kernel
theorem dX11_write_42 : decode cX11_write 42 = .ok (.aload_n 0, 1) := by decide +kernel
theorem dX11_write_43 : decode cX11_write 43 = .ok (.dup, 1) := by decide +kernel
theorem dX11_write_44 : decode cX11_write 44 = .ok (.getfield 86, 3) := by decide +kernel
theorem dX11_write_47 : decode cX11_write 47 = .ok (.iconst 1, 1) := by decide +kernel
theorem dX11_write_48 : decode cX11_write 48 = .ok (.iadd, 1) := by decide +kernel
theorem dX11_write_49 : decode cX11_write 49 = .ok (.putfield 86, 3) := by decide +kernel
theorem dX11_write_52 : decode cX11_write 52 = .ok (.aload_n 0, 1) := by decide +kernel
theorem dX11_write_53 : decode cX11_write 53 = .ok (.getfield 86, 3) := by decide +kernel
theorem dX11_write_56 : decode cX11_write 56 = .ok (.ireturn, 1) := by decide +kernel
theorem dX11_wipe_0 : decode cX11_wipe 0 = .ok (.aload_n 0, 1) := by decide +kernel
theorem dX11_wipe_1 : decode cX11_wipe 1 = .ok (.iconst 0, 1) := by decide +kernel
theorem dX11_wipe_2 : decode cX11_wipe 2 = .ok (.putfield 68, 3) := by decide +kernel
theorem dX11_wipe_5 : decode cX11_wipe 5 = .ok (.aload_n 0, 1) := by decide +kernel
theorem dX11_wipe_6 : decode cX11_wipe 6 = .ok (.getfield 86, 3) := by decide +kernel
theorem dX11_wipe_9 : decode cX11_wipe 9 = .ok (.istore_n 1, 1) := by decide +kernel
theorem dX11_wipe_10 : decode cX11_wipe 10 = .ok (.aload_n 0, 1) := by decide +kernel
theorem dX11_wipe_11 : decode cX11_wipe 11 = .ok (.iconst 0, 1) := by decide +kernel
theorem dX11_wipe_12 : decode cX11_wipe 12 = .ok (.putfield 86, 3) := by decide +kernel
theorem dX11_wipe_15 : decode cX11_wipe 15 = .ok (.iload_n 1, 1) := by decide +kernel
theorem dX11_wipe_16 : decode cX11_wipe 16 = .ok (.ireturn, 1) := by decide +kernel
theorem dX11_readList_0 : decode cX11_readList 0 = .ok (.aload_n 0, 1) := by decide +kernel
theorem dX11_readList_1 : decode cX11_readList 1 = .ok (.getfield 13, 3) := by decide +kernel
theorem dX11_readList_4 : decode cX11_readList 4 = .ok (.iconst 0, 1) := by decide +kernel
theorem dX11_readList_5 : decode cX11_readList 5 = .ok (.iconst 0, 1) := by decide +kernel
theorem dX11_readList_6 : decode cX11_readList 6 = .ok (.iastore, 1) := by decide +kernel
theorem dX11_readList_7 : decode cX11_readList 7 = .ok (.iconst 0, 1) := by decide +kernel
theorem dX11_readList_8 : decode cX11_readList 8 = .ok (.istore_n 1, 1) := by decide +kernel
theorem dX11_readList_9 : decode cX11_readList 9 = .ok (.iconst 0, 1) := by decide +kernel
theorem dX11_readList_10 : decode cX11_readList 10 = .ok (.istore_n 2, 1) := by decide +kernel
theorem dX11_readList_11 : decode cX11_readList 11 = .ok (.iconst 0, 1) := by decide +kernel
theorem dX11_readList_12 : decode cX11_readList 12 = .ok (.istore_n 3, 1) := by decide +kernel
theorem dX11_readList_13 : decode cX11_readList 13 = .ok (.iload_n 3, 1) := by decide +kernel
theorem dX11_readList_14 : decode cX11_readList 14 = .ok (.aload_n 0, 1) := by decide +kernel
theorem dX11_readList_15 : decode cX11_readList 15 = .ok (.getfield 86, 3) := by decide +kernel
theorem dX11_readList_18 : decode cX11_readList 18 = .ok (.if_icmp .ge 210, 3) := by decide +kernel
theorem dX11_readList_21 : decode cX11_readList 21 = .ok (.aload_n 0, 1) := by decide +kernel
theorem dX11_readList_22 : decode cX11_readList 22 = .ok (.getfield 7, 3) := by decide +kernel
theorem dX11_readList_25 : decode cX11_readList 25 = .ok (.iload_n 3, 1) := by decide +kernel
theorem dX11_readList_26 : decode cX11_readList 26 = .ok (.iaload, 1) := by decide +kernel
theorem dX11_readList_27 : decode cX11_readList 27 = .ok (.istore 4, 2) := by decide +kernel
theorem dX11_readList_29 : decode cX11_readList 29 = .ok (.aload_n 0, 1) := by decide +kernel
theorem dX11_readList_30 : decode cX11_readList 30 = .ok (.getfield 13, 3) := by decide +kernel
theorem dX11_readList_33 : decode cX11_readList 33 = .ok (.iconst 0, 1) := by decide +kernel
theorem dX11_readList_34 : decode cX11_readList 34 = .ok (.iaload, 1) := by decide +kernel
theorem dX11_readList_35 : decode cX11_readList 35 = .ok (.iconst 1, 1) := by decide +kernel
theorem dX11_readList_36 : decode cX11_readList 36 = .ok (.isub, 1) := by decide +kernel
theorem dX11_readList_37 : decode cX11_readList 37 = .ok (.istore 5, 2) := by decide +kernel
theorem dX11_readList_39 : decode cX11_readList 39 = .ok (.iload 4, 2) := by decide +kernel
theorem dX11_readList_41 : decode cX11_readList 41 = .ok (.bipush 87, 2) := by decide +kernel
theorem dX11_readList_43 : decode cX11_readList 43 = .ok (.if_icmp .ne 63, 3) := by decide +kernel
theorem dX11_readList_46 : decode cX11_readList 46 = .ok (.iload_n 2, 1) := by decide +kernel
theorem dX11_readList_47 : decode cX11_readList 47 = .ok (.ifCond .ne 59, 3) := by decide +kernel
theorem dX11_readList_50 : decode cX11_readList 50 = .ok (.iload 5, 2) := by decide +kernel
theorem dX11_readList_52 : decode cX11_readList 52 = .ok (.ifCond .lt 8, 3) := by decide +kernel
theorem dX11_readList_55 : decode cX11_readList 55 = .ok (.iload_n 1, 1) := by decide +kernel
theorem dX11_readList_56 : decode cX11_readList 56 = .ok (.iconst 1, 1) := by decide +kernel
theorem dX11_readList_57 : decode cX11_readList 57 = .ok (.if_icmp .le 49, 3) := by decide +kernel
theorem dX11_readList_60 : decode cX11_readList 60 = .ok (.iload 5, 2) := by decide +kernel
theorem dX11_readList_62 : decode cX11_readList 62 = .ok (.iconst 5, 1) := by decide +kernel
theorem dX11_readList_63 : decode cX11_readList 63 = .ok (.if_icmp .ge 43, 3) := by decide +kernel
theorem dX11_readList_66 : decode cX11_readList 66 = .ok (.aload_n 0, 1) := by decide +kernel
theorem dX11_readList_67 : decode cX11_readList 67 = .ok (.getfield 13, 3) := by decide +kernel
theorem dX11_readList_70 : decode cX11_readList 70 = .ok (.iconst 0, 1) := by decide +kernel
theorem dX11_readList_71 : decode cX11_readList 71 = .ok (.dup2, 1) := by decide +kernel
theorem dX11_readList_72 : decode cX11_readList 72 = .ok (.iaload, 1) := by decide +kernel
theorem dX11_readList_73 : decode cX11_readList 73 = .ok (.iconst 1, 1) := by decide +kernel
theorem dX11_readList_74 : decode cX11_readList 74 = .ok (.iadd, 1) := by decide +kernel
theorem dX11_readList_75 : decode cX11_readList 75 = .ok (.iastore, 1) := by decide +kernel
theorem dX11_readList_76 : decode cX11_readList 76 = .ok (.aload_n 0, 1) := by decide +kernel
theorem dX11_readList_77 : decode cX11_readList 77 = .ok (.getfield 13, 3) := by decide +kernel
theorem dX11_readList_80 : decode cX11_readList 80 = .ok (.iconst 1, 1) := by decide +kernel
theorem dX11_readList_81 : decode cX11_readList 81 = .ok (.iload 5, 2) := by decide +kernel
theorem dX11_readList_83 : decode cX11_readList 83 = .ok (.iadd, 1) := by decide +kernel
theorem dX11_readList_84 : decode cX11_readList 84 = .ok (.iconst 1, 1) := by decide +kernel
theorem dX11_readList_85 : decode cX11_readList 85 = .ok (.iadd, 1) := by decide +kernel
theorem dX11_readList_86 : decode cX11_readList 86 = .ok (.iconst 0, 1) := by decide +kernel
theorem dX11_readList_87 : decode cX11_readList 87 = .ok (.iastore, 1) := by decide +kernel
theorem dX11_readList_88 : decode cX11_readList 88 = .ok (.aload_n 0, 1) := by decide +kernel
theorem dX11_readList_89 : decode cX11_readList 89 = .ok (.getfield 13, 3) := by decide +kernel
theorem dX11_readList_92 : decode cX11_readList 92 = .ok (.bipush 7, 2) := by decide +kernel
theorem dX11_readList_94 : decode cX11_readList 94 = .ok (.iload 5, 2) := by decide +kernel
theorem dX11_readList_96 : decode cX11_readList 96 = .ok (.iadd, 1) := by decide +kernel
theorem dX11_readList_97 : decode cX11_readList 97 = .ok (.iconst 1, 1) := by decide +kernel
theorem dX11_readList_98 : decode cX11_readList 98 = .ok (.iadd, 1) := by decide +kernel
theorem dX11_readList_99 : decode cX11_readList 99 = .ok (.iconst 0, 1) := by decide +kernel
theorem dX11_readList_100 : decode cX11_readList 100 = .ok (.iastore, 1) := by decide +kernel
theorem dX11_readList_101 : decode cX11_readList 101 = .ok (.iconst 0, 1) := by decide +kernel
theorem dX11_readList_102 : decode cX11_readList 102 = .ok (.istore_n 1, 1) := by decide +kernel
theorem dX11_readList_103 : decode cX11_readList 103 = .ok (.goto 119, 3) := by decide +kernel
theorem dX11_readList_106 : decode cX11_readList 106 = .ok (.iload 4, 2) := by decide +kernel
theorem dX11_readList_108 : decode cX11_readList 108 = .ok (.bipush 45, 2) := by decide +kernel
theorem dX11_readList_110 : decode cX11_readList 110 = .ok (.if_icmp .ne 47, 3) := by decide +kernel
theorem dX11_readList_113 : decode cX11_readList 113 = .ok (.iload 5, 2) := by decide +kernel
theorem dX11_readList_115 : decode cX11_readList 115 = .ok (.ifCond .lt 42, 3) := by decide +kernel
theorem dX11_readList_118 : decode cX11_readList 118 = .ok (.iload_n 2, 1) := by decide +kernel
theorem dX11_readList_119 : decode cX11_readList 119 = .ok (.ifCond .ne 38, 3) := by decide +kernel
theorem dX11_readList_122 : decode cX11_readList 122 = .ok (.iload_n 1, 1) := by decide +kernel
theorem dX11_readList_123 : decode cX11_readList 123 = .ok (.i2l, 1) := by decide +kernel
theorem dX11_readList_124 : decode cX11_readList 124 = .ok (.lconst 1, 1) := by decide +kernel
theorem dX11_readList_125 : decode cX11_readList 125 = .ok (.ldc2_w 89, 3) := by decide +kernel
theorem dX11_readList_128 : decode cX11_readList 128 = .ok (.invokestatic 72, 3) := by decide +kernel
theorem dX11_readList_131 : decode cX11_readList 131 = .ok (.ifCond .eq 26, 3) := by decide +kernel
theorem dX11_readList_134 : decode cX11_readList 134 = .ok (.iconst 1, 1) := by decide +kernel
theorem dX11_readList_135 : decode cX11_readList 135 = .ok (.istore_n 2, 1) := by decide +kernel
theorem dX11_readList_136 : decode cX11_readList 136 = .ok (.aload_n 0, 1) := by decide +kernel
theorem dX11_readList_137 : decode cX11_readList 137 = .ok (.getfield 13, 3) := by decide +kernel
theorem dX11_readList_140 : decode cX11_readList 140 = .ok (.bipush 7, 2) := by decide +kernel
theorem dX11_readList_142 : decode cX11_readList 142 = .ok (.iload 5, 2) := by decide +kernel
theorem dX11_readList_144 : decode cX11_readList 144 = .ok (.iadd, 1) := by decide +kernel
theorem dX11_readList_145 : decode cX11_readList 145 = .ok (.dup2, 1) := by decide +kernel
theorem dX11_readList_146 : decode cX11_readList 146 = .ok (.iaload, 1) := by decide +kernel
theorem dX11_readList_147 : decode cX11_readList 147 = .ok (.iconst 1, 1) := by decide +kernel
theorem dX11_readList_148 : decode cX11_readList 148 = .ok (.iload_n 1, 1) := by decide +kernel
theorem dX11_readList_149 : decode cX11_readList 149 = .ok (.iconst 1, 1) := by decide +kernel
theorem dX11_readList_150 : decode cX11_readList 150 = .ok (.isub, 1) := by decide +kernel
theorem dX11_readList_151 : decode cX11_readList 151 = .ok (.ishl, 1) := by decide +kernel
theorem dX11_readList_152 : decode cX11_readList 152 = .ok (.ior, 1) := by decide +kernel
theorem dX11_readList_153 : decode cX11_readList 153 = .ok (.iastore, 1) := by decide +kernel
theorem dX11_readList_154 : decode cX11_readList 154 = .ok (.goto 68, 3) := by decide +kernel
theorem dX11_readList_157 : decode cX11_readList 157 = .ok (.iload 4, 2) := by decide +kernel
theorem dX11_readList_159 : decode cX11_readList 159 = .ok (.i2l, 1) := by decide +kernel
theorem dX11_readList_160 : decode cX11_readList 160 = .ok (.ldc2_w 91, 3) := by decide +kernel
theorem dX11_readList_163 : decode cX11_readList 163 = .ok (.ldc2_w 93, 3) := by decide +kernel
theorem dX11_readList_166 : decode cX11_readList 166 = .ok (.invokestatic 72, 3) := by decide +kernel
theorem dX11_readList_169 : decode cX11_readList 169 = .ok (.ifCond .eq 51, 3) := by decide +kernel
theorem dX11_readList_172 : decode cX11_readList 172 = .ok (.iload 5, 2) := by decide +kernel
theorem dX11_readList_174 : decode cX11_readList 174 = .ok (.ifCond .lt 46, 3) := by decide +kernel
theorem dX11_readList_177 : decode cX11_readList 177 = .ok (.iload_n 1, 1) := by decide +kernel
theorem dX11_readList_178 : decode cX11_readList 178 = .ok (.bipush 6, 2) := by decide +kernel
theorem dX11_readList_180 : decode cX11_readList 180 = .ok (.if_icmp .ge 40, 3) := by decide +kernel
theorem dX11_readList_183 : decode cX11_readList 183 = .ok (.aload_n 0, 1) := by decide +kernel
theorem dX11_readList_184 : decode cX11_readList 184 = .ok (.getfield 13, 3) := by decide +kernel
theorem dX11_readList_187 : decode cX11_readList 187 = .ok (.iconst 1, 1) := by decide +kernel
theorem dX11_readList_188 : decode cX11_readList 188 = .ok (.iload 5, 2) := by decide +kernel
theorem dX11_readList_190 : decode cX11_readList 190 = .ok (.iadd, 1) := by decide +kernel
theorem dX11_readList_191 : decode cX11_readList 191 = .ok (.bipush 10, 2) := by decide +kernel
theorem dX11_readList_193 : decode cX11_readList 193 = .ok (.aload_n 0, 1) := by decide +kernel
theorem dX11_readList_194 : decode cX11_readList 194 = .ok (.getfield 13, 3) := by decide +kernel
theorem dX11_readList_197 : decode cX11_readList 197 = .ok (.iconst 1, 1) := by decide +kernel
theorem dX11_readList_198 : decode cX11_readList 198 = .ok (.iload 5, 2) := by decide +kernel
theorem dX11_readList_200 : decode cX11_readList 200 = .ok (.iadd, 1) := by decide +kernel
theorem dX11_readList_201 : decode cX11_readList 201 = .ok (.iaload, 1) := by decide +kernel
theorem dX11_readList_202 : decode cX11_readList 202 = .ok (.imul, 1) := by decide +kernel
theorem dX11_readList_203 : decode cX11_readList 203 = .ok (.iload 4, 2) := by decide +kernel
theorem dX11_readList_205 : decode cX11_readList 205 = .ok (.iadd, 1) := by decide +kernel
theorem dX11_readList_206 : decode cX11_readList 206 = .ok (.bipush 97, 2) := by decide +kernel
theorem dX11_readList_208 : decode cX11_readList 208 = .ok (.isub, 1) := by decide +kernel
theorem dX11_readList_209 : decode cX11_readList 209 = .ok (.iconst 1, 1) := by decide +kernel
theorem dX11_readList_210 : decode cX11_readList 210 = .ok (.iadd, 1) := by decide +kernel
theorem dX11_readList_211 : decode cX11_readList 211 = .ok (.iastore, 1) := by decide +kernel
theorem dX11_readList_212 : decode cX11_readList 212 = .ok (.iinc 1 1, 3) := by decide +kernel
theorem dX11_readList_215 : decode cX11_readList 215 = .ok (.iconst 0, 1) := by decide +kernel
theorem dX11_readList_216 : decode cX11_readList 216 = .ok (.istore_n 2, 1) := by decide +kernel
theorem dX11_readList_217 : decode cX11_readList 217 = .ok (.goto 5, 3) := by decide +kernel
theorem dX11_readList_220 : decode cX11_readList 220 = .ok (.iload_n 3, 1) := by decide +kernel
theorem dX11_readList_221 : decode cX11_readList 221 = .ok (.ireturn, 1) := by decide +kernel
theorem dX11_readList_222 : decode cX11_readList 222 = .ok (.iinc 3 1, 3) := by decide +kernel
theorem dX11_readList_225 : decode cX11_readList 225 = .ok (.goto (-212), 3) := by decide +kernel
theorem dX11_readList_228 : decode cX11_readList 228 = .ok (.iload_n 2, 1) := by decide +kernel
theorem dX11_readList_229 : decode cX11_readList 229 = .ok (.ifCond .ne 17, 3) := by decide +kernel
theorem dX11_readList_232 : decode cX11_readList 232 = .ok (.aload_n 0, 1) := by decide +kernel
theorem dX11_readList_233 : decode cX11_readList 233 = .ok (.getfield 13, 3) := by decide +kernel
theorem dX11_readList_236 : decode cX11_readList 236 = .ok (.iconst 0, 1) := by decide +kernel
theorem dX11_readList_237 : decode cX11_readList 237 = .ok (.iaload, 1) := by decide +kernel
theorem dX11_readList_238 : decode cX11_readList 238 = .ok (.ifCond .le 15, 3) := by decide +kernel
theorem dX11_readList_241 : decode cX11_readList 241 = .ok (.iload_n 1, 1) := by decide +kernel
theorem dX11_readList_242 : decode cX11_readList 242 = .ok (.iconst 2, 1) := by decide +kernel
theorem dX11_readList_243 : decode cX11_readList 243 = .ok (.if_icmp .ge 10, 3) := by decide +kernel
theorem dX11_readList_246 : decode cX11_readList 246 = .ok (.aload_n 0, 1) := by decide +kernel
theorem dX11_readList_247 : decode cX11_readList 247 = .ok (.getfield 86, 3) := by decide +kernel
theorem dX11_readList_250 : decode cX11_readList 250 = .ok (.goto 5, 3) := by decide +kernel
theorem dX11_readList_253 : decode cX11_readList 253 = .ok (.bipush (-9), 2) := by decide +kernel
theorem dX11_readList_255 : decode cX11_readList 255 = .ok (.ireturn, 1) := by decide +kernel
theorem dX11_fault_0 : decode cX11_fault 0 = .ok (.aload_n 0, 1) := by decide +kernel
theorem dX11_fault_1 : decode cX11_fault 1 = .ok (.iconst 0, 1) := by decide +kernel
theorem dX11_fault_2 : decode cX11_fault 2 = .ok (.putfield 68, 3) := by decide +kernel
theorem dX11_fault_5 : decode cX11_fault 5 = .ok (.aload_n 0, 1) := by decide +kernel
theorem dX11_fault_6 : decode cX11_fault 6 = .ok (.invokevirtual 95, 3) := by decide +kernel
theorem dX11_fault_9 : decode cX11_fault 9 = .ok (.ireturn, 1) := by decide +kernel
theorem dX11_list_0 : decode cX11_list 0 = .ok (.aload_n 0, 1) := by decide +kernel
theorem dX11_list_1 : decode cX11_list 1 = .ok (.iconst 0, 1) := by decide +kernel
theorem dX11_list_2 : decode cX11_list 2 = .ok (.putfield 68, 3) := by decide +kernel
theorem dX11_list_5 : decode cX11_list 5 = .ok (.aload_n 0, 1) := by decide +kernel
theorem dX11_list_6 : decode cX11_list 6 = .ok (.invokevirtual 95, 3) := by decide +kernel
theorem dX11_list_9 : decode cX11_list 9 = .ok (.bipush (-9), 2) := by decide +kernel
theorem dX11_list_11 : decode cX11_list 11 = .ok (.if_icmp .eq 6, 3) := by decide +kernel
theorem dX11_list_14 : decode cX11_list 14 = .ok (.bipush (-3), 2) := by decide +kernel
theorem dX11_list_16 : decode cX11_list 16 = .ok (.ireturn, 1) := by decide +kernel
theorem dX11_list_17 : decode cX11_list 17 = .ok (.iconst 0, 1) := by decide +kernel
theorem dX11_list_18 : decode cX11_list 18 = .ok (.istore_n 1, 1) := by decide +kernel
theorem dX11_list_19 : decode cX11_list 19 = .ok (.iload_n 1, 1) := by decide +kernel
theorem dX11_list_20 : decode cX11_list 20 = .ok (.bipush 13, 2) := by decide +kernel
theorem dX11_list_22 : decode cX11_list 22 = .ok (.if_icmp .ge 21, 3) := by decide +kernel
theorem dX11_list_25 : decode cX11_list 25 = .ok (.aload_n 0, 1) := by decide +kernel
theorem dX11_list_26 : decode cX11_list 26 = .ok (.getfield 16, 3) := by decide +kernel
theorem dX11_list_29 : decode cX11_list 29 = .ok (.iload_n 1, 1) := by decide +kernel
theorem dX11_list_30 : decode cX11_list 30 = .ok (.aload_n 0, 1) := by decide +kernel
theorem dX11_list_31 : decode cX11_list 31 = .ok (.getfield 13, 3) := by decide +kernel
theorem dX11_list_34 : decode cX11_list 34 = .ok (.iload_n 1, 1) := by decide +kernel
theorem dX11_list_35 : decode cX11_list 35 = .ok (.iaload, 1) := by decide +kernel
theorem dX11_list_36 : decode cX11_list 36 = .ok (.iastore, 1) := by decide +kernel
theorem dX11_list_37 : decode cX11_list 37 = .ok (.iinc 1 1, 3) := by decide +kernel
theorem dX11_list_40 : decode cX11_list 40 = .ok (.goto (-21), 3) := by decide +kernel
theorem dX11_list_43 : decode cX11_list 43 = .ok (.aload_n 0, 1) := by decide +kernel
theorem dX11_list_44 : decode cX11_list 44 = .ok (.getfield 16, 3) := by decide +kernel
theorem dX11_list_47 : decode cX11_list 47 = .ok (.bipush 21, 2) := by decide +kernel
theorem dX11_list_49 : decode cX11_list 49 = .ok (.iconst 0, 1) := by decide +kernel
theorem dX11_list_50 : decode cX11_list 50 = .ok (.iastore, 1) := by decide +kernel
theorem dX11_list_51 : decode cX11_list 51 = .ok (.aload_n 0, 1) := by decide +kernel
theorem dX11_list_52 : decode cX11_list 52 = .ok (.iconst 0, 1) := by decide +kernel
theorem dX11_list_53 : decode cX11_list 53 = .ok (.putfield 99, 3) := by decide +kernel
theorem dX11_list_56 : decode cX11_list 56 = .ok (.aload_n 0, 1) := by decide +kernel
theorem dX11_list_57 : decode cX11_list 57 = .ok (.getfield 28, 3) := by decide +kernel
theorem dX11_list_60 : decode cX11_list 60 = .ok (.iconst 0, 1) := by decide +kernel
theorem dX11_list_61 : decode cX11_list 61 = .ok (.iconst 0, 1) := by decide +kernel
theorem dX11_list_62 : decode cX11_list 62 = .ok (.bastore, 1) := by decide +kernel
theorem dX11_list_63 : decode cX11_list 63 = .ok (.aload_n 0, 1) := by decide +kernel
theorem dX11_list_64 : decode cX11_list 64 = .ok (.getfield 28, 3) := by decide +kernel
theorem dX11_list_67 : decode cX11_list 67 = .ok (.iconst 1, 1) := by decide +kernel
theorem dX11_list_68 : decode cX11_list 68 = .ok (.iconst 0, 1) := by decide +kernel
theorem dX11_list_69 : decode cX11_list 69 = .ok (.bastore, 1) := by decide +kernel
theorem dX11_list_70 : decode cX11_list 70 = .ok (.aload_n 0, 1) := by decide +kernel
theorem dX11_list_71 : decode cX11_list 71 = .ok (.getfield 16, 3) := by decide +kernel
theorem dX11_list_74 : decode cX11_list 74 = .ok (.iconst 0, 1) := by decide +kernel
theorem dX11_list_75 : decode cX11_list 75 = .ok (.iaload, 1) := by decide +kernel
theorem dX11_list_76 : decode cX11_list 76 = .ok (.ireturn, 1) := by decide +kernel
theorem dX11_laySigns_0 : decode cX11_laySigns 0 = .ok (.iload_n 1, 1) := by decide +kernel
theorem dX11_laySigns_1 : decode cX11_laySigns 1 = .ok (.invokestatic 80, 3) := by decide +kernel
theorem dX11_laySigns_4 : decode cX11_laySigns 4 = .ok (.istore_n 2, 1) := by decide +kernel
theorem dX11_laySigns_5 : decode cX11_laySigns 5 = .ok (.aload_n 0, 1) := by decide +kernel
theorem dX11_laySigns_6 : decode cX11_laySigns 6 = .ok (.iload_n 2, 1) := by decide +kernel
theorem dX11_laySigns_7 : decode cX11_laySigns 7 = .ok (.iconst 2, 1) := by decide +kernel
theorem dX11_laySigns_8 : decode cX11_laySigns 8 = .ok (.iadd, 1) := by decide +kernel
theorem dX11_laySigns_9 : decode cX11_laySigns 9 = .ok (.putfield 102, 3) := by decide +kernel
theorem dX11_laySigns_12 : decode cX11_laySigns 12 = .ok (.aload_n 0, 1) := by decide +kernel
theorem dX11_laySigns_13 : decode cX11_laySigns 13 = .ok (.getfield 50, 3) := by decide +kernel
theorem dX11_laySigns_16 : decode cX11_laySigns 16 = .ok (.iconst 0, 1) := by decide +kernel
theorem dX11_laySigns_17 : decode cX11_laySigns 17 = .ok (.bipush 6, 2) := by decide +kernel
theorem dX11_laySigns_19 : decode cX11_laySigns 19 = .ok (.iastore, 1) := by decide +kernel
theorem dX11_laySigns_20 : decode cX11_laySigns 20 = .ok (.aload_n 0, 1) := by decide +kernel
theorem dX11_laySigns_21 : decode cX11_laySigns 21 = .ok (.getfield 50, 3) := by decide +kernel
theorem dX11_laySigns_24 : decode cX11_laySigns 24 = .ok (.iload_n 2, 1) := by decide +kernel
theorem dX11_laySigns_25 : decode cX11_laySigns 25 = .ok (.iconst 1, 1) := by decide +kernel
theorem dX11_laySigns_26 : decode cX11_laySigns 26 = .ok (.iadd, 1) := by decide +kernel
theorem dX11_laySigns_27 : decode cX11_laySigns 27 = .ok (.bipush 6, 2) := by decide +kernel
theorem dX11_laySigns_29 : decode cX11_laySigns 29 = .ok (.iastore, 1) := by decide +kernel
theorem dX11_laySigns_30 : decode cX11_laySigns 30 = .ok (.iload_n 2, 1) := by decide +kernel
theorem dX11_laySigns_31 : decode cX11_laySigns 31 = .ok (.istore_n 3, 1) := by decide +kernel
theorem dX11_laySigns_32 : decode cX11_laySigns 32 = .ok (.iload_n 1, 1) := by decide +kernel
theorem dX11_laySigns_33 : decode cX11_laySigns 33 = .ok (.istore 4, 2) := by decide +kernel
theorem dX11_laySigns_35 : decode cX11_laySigns 35 = .ok (.iload_n 3, 1) := by decide +kernel
theorem dX11_laySigns_36 : decode cX11_laySigns 36 = .ok (.ifCond .le 27, 3) := by decide +kernel
theorem dX11_laySigns_39 : decode cX11_laySigns 39 = .ok (.aload_n 0, 1) := by decide +kernel
theorem dX11_laySigns_40 : decode cX11_laySigns 40 = .ok (.getfield 50, 3) := by decide +kernel
theorem dX11_laySigns_43 : decode cX11_laySigns 43 = .ok (.iload_n 3, 1) := by decide +kernel
theorem dX11_laySigns_44 : decode cX11_laySigns 44 = .ok (.iload 4, 2) := by decide +kernel
theorem dX11_laySigns_46 : decode cX11_laySigns 46 = .ok (.bipush 10, 2) := by decide +kernel
theorem dX11_laySigns_48 : decode cX11_laySigns 48 = .ok (.irem, 1) := by decide +kernel
theorem dX11_laySigns_49 : decode cX11_laySigns 49 = .ok (.iastore, 1) := by decide +kernel
theorem dX11_laySigns_50 : decode cX11_laySigns 50 = .ok (.iload 4, 2) := by decide +kernel
theorem dX11_laySigns_52 : decode cX11_laySigns 52 = .ok (.bipush 10, 2) := by decide +kernel
theorem dX11_laySigns_54 : decode cX11_laySigns 54 = .ok (.idiv, 1) := by decide +kernel
theorem dX11_laySigns_55 : decode cX11_laySigns 55 = .ok (.istore 4, 2) := by decide +kernel
theorem dX11_laySigns_57 : decode cX11_laySigns 57 = .ok (.iinc 3 (-1), 3) := by decide +kernel
theorem dX11_laySigns_60 : decode cX11_laySigns 60 = .ok (.goto (-25), 3) := by decide +kernel
theorem dX11_laySigns_63 : decode cX11_laySigns 63 = .ok (.return_, 1) := by decide +kernel
theorem dX11_stringAt_0 : decode cX11_stringAt 0 = .ok (.iconst 0, 1) := by decide +kernel
theorem dX11_stringAt_1 : decode cX11_stringAt 1 = .ok (.istore_n 3, 1) := by decide +kernel
theorem dX11_stringAt_2 : decode cX11_stringAt 2 = .ok (.iconst 0, 1) := by decide +kernel
theorem dX11_stringAt_3 : decode cX11_stringAt 3 = .ok (.istore 4, 2) := by decide +kernel
theorem dX11_stringAt_5 : decode cX11_stringAt 5 = .ok (.iload 4, 2) := by decide +kernel
theorem dX11_stringAt_7 : decode cX11_stringAt 7 = .ok (.iload_n 2, 1) := by decide +kernel
theorem dX11_stringAt_8 : decode cX11_stringAt 8 = .ok (.if_icmp .ge 24, 3) := by decide +kernel
theorem dX11_stringAt_11 : decode cX11_stringAt 11 = .ok (.bipush 7, 2) := by decide +kernel
theorem dX11_stringAt_13 : decode cX11_stringAt 13 = .ok (.iload_n 3, 1) := by decide +kernel
theorem dX11_stringAt_14 : decode cX11_stringAt 14 = .ok (.imul, 1) := by decide +kernel
theorem dX11_stringAt_15 : decode cX11_stringAt 15 = .ok (.aload_n 0, 1) := by decide +kernel
theorem dX11_stringAt_16 : decode cX11_stringAt 16 = .ok (.getfield 50, 3) := by decide +kernel
theorem dX11_stringAt_19 : decode cX11_stringAt 19 = .ok (.iload_n 1, 1) := by decide +kernel
theorem dX11_stringAt_20 : decode cX11_stringAt 20 = .ok (.iload 4, 2) := by decide +kernel
theorem dX11_stringAt_22 : decode cX11_stringAt 22 = .ok (.iadd, 1) := by decide +kernel
theorem dX11_stringAt_23 : decode cX11_stringAt 23 = .ok (.iaload, 1) := by decide +kernel
theorem dX11_stringAt_24 : decode cX11_stringAt 24 = .ok (.iadd, 1) := by decide +kernel
theorem dX11_stringAt_25 : decode cX11_stringAt 25 = .ok (.istore_n 3, 1) := by decide +kernel
theorem dX11_stringAt_26 : decode cX11_stringAt 26 = .ok (.iinc 4 1, 3) := by decide +kernel
theorem dX11_stringAt_29 : decode cX11_stringAt 29 = .ok (.goto (-24), 3) := by decide +kernel
theorem dX11_stringAt_32 : decode cX11_stringAt 32 = .ok (.iload_n 3, 1) := by decide +kernel
theorem dX11_stringAt_33 : decode cX11_stringAt 33 = .ok (.ireturn, 1) := by decide +kernel
theorem dX11_fits_0 : decode cX11_fits 0 = .ok (.iload_n 1, 1) := by decide +kernel
theorem dX11_fits_1 : decode cX11_fits 1 = .ok (.iconst 2, 1) := by decide +kernel
theorem dX11_fits_2 : decode cX11_fits 2 = .ok (.iadd, 1) := by decide +kernel
theorem dX11_fits_3 : decode cX11_fits 3 = .ok (.iload_n 3, 1) := by decide +kernel
theorem dX11_fits_4 : decode cX11_fits 4 = .ok (.isub, 1) := by decide +kernel
theorem dX11_fits_5 : decode cX11_fits 5 = .ok (.istore 4, 2) := by decide +kernel
theorem dX11_fits_7 : decode cX11_fits 7 = .ok (.iload 4, 2) := by decide +kernel
theorem dX11_fits_9 : decode cX11_fits 9 = .ok (.ifCond .lt 14, 3) := by decide +kernel
theorem dX11_fits_12 : decode cX11_fits 12 = .ok (.iload 4, 2) := by decide +kernel
theorem dX11_fits_14 : decode cX11_fits 14 = .ok (.iload_n 2, 1) := by decide +kernel
theorem dX11_fits_15 : decode cX11_fits 15 = .ok (.iadd, 1) := by decide +kernel
theorem dX11_fits_16 : decode cX11_fits 16 = .ok (.aload_n 0, 1) := by decide +kernel
theorem dX11_fits_17 : decode cX11_fits 17 = .ok (.getfield 102, 3) := by decide +kernel
theorem dX11_fits_20 : decode cX11_fits 20 = .ok (.if_icmp .le 6, 3) := by decide +kernel
theorem dX11_fits_23 : decode cX11_fits 23 = .ok (.bipush (-9), 2) := by decide +kernel
theorem dX11_fits_25 : decode cX11_fits 25 = .ok (.ireturn, 1) := by decide +kernel
theorem dX11_fits_26 : decode cX11_fits 26 = .ok (.aload_n 0, 1) := by decide +kernel
theorem dX11_fits_27 : decode cX11_fits 27 = .ok (.iload 4, 2) := by decide +kernel
theorem dX11_fits_29 : decode cX11_fits 29 = .ok (.iload_n 2, 1) := by decide +kernel
theorem dX11_fits_30 : decode cX11_fits 30 = .ok (.invokevirtual 105, 3) := by decide +kernel
theorem dX11_fits_33 : decode cX11_fits 33 = .ok (.istore 5, 2) := by decide +kernel
theorem dX11_fits_35 : decode cX11_fits 35 = .ok (.iload 5, 2) := by decide +kernel
theorem dX11_fits_37 : decode cX11_fits 37 = .ok (.bipush 6, 2) := by decide +kernel
theorem dX11_fits_39 : decode cX11_fits 39 = .ok (.if_icmp .ne 8, 3) := by decide +kernel
theorem dX11_fits_42 : decode cX11_fits 42 = .ok (.bipush (-9), 2) := by decide +kernel
theorem dX11_fits_44 : decode cX11_fits 44 = .ok (.goto 9, 3) := by decide +kernel
theorem dX11_fits_47 : decode cX11_fits 47 = .ok (.iconst 4, 1) := by decide +kernel
theorem dX11_fits_48 : decode cX11_fits 48 = .ok (.iload 5, 2) := by decide +kernel
theorem dX11_fits_50 : decode cX11_fits 50 = .ok (.imul, 1) := by decide +kernel
theorem dX11_fits_51 : decode cX11_fits 51 = .ok (.iload_n 3, 1) := by decide +kernel
theorem dX11_fits_52 : decode cX11_fits 52 = .ok (.iadd, 1) := by decide +kernel
theorem dX11_fits_53 : decode cX11_fits 53 = .ok (.ireturn, 1) := by decide +kernel
theorem dX11_digitAt_0 : decode cX11_digitAt 0 = .ok (.iconst 0, 1) := by decide +kernel
theorem dX11_digitAt_1 : decode cX11_digitAt 1 = .ok (.istore_n 2, 1) := by decide +kernel
theorem dX11_digitAt_2 : decode cX11_digitAt 2 = .ok (.iconst 1, 1) := by decide +kernel
theorem dX11_digitAt_3 : decode cX11_digitAt 3 = .ok (.istore_n 3, 1) := by decide +kernel
theorem dX11_digitAt_4 : decode cX11_digitAt 4 = .ok (.iload_n 3, 1) := by decide +kernel
theorem dX11_digitAt_5 : decode cX11_digitAt 5 = .ok (.iconst 4, 1) := by decide +kernel
theorem dX11_digitAt_6 : decode cX11_digitAt 6 = .ok (.if_icmp .ge 64, 3) := by decide +kernel
theorem dX11_digitAt_9 : decode cX11_digitAt 9 = .ok (.iconst 0, 1) := by decide +kernel
theorem dX11_digitAt_10 : decode cX11_digitAt 10 = .ok (.istore 4, 2) := by decide +kernel
theorem dX11_digitAt_12 : decode cX11_digitAt 12 = .ok (.iload 4, 2) := by decide +kernel
theorem dX11_digitAt_14 : decode cX11_digitAt 14 = .ok (.iload_n 3, 1) := by decide +kernel
theorem dX11_digitAt_15 : decode cX11_digitAt 15 = .ok (.if_icmp .gt 49, 3) := by decide +kernel
theorem dX11_digitAt_18 : decode cX11_digitAt 18 = .ok (.aload_n 0, 1) := by decide +kernel
theorem dX11_digitAt_19 : decode cX11_digitAt 19 = .ok (.iload_n 1, 1) := by decide +kernel
theorem dX11_digitAt_20 : decode cX11_digitAt 20 = .ok (.iload_n 3, 1) := by decide +kernel
theorem dX11_digitAt_21 : decode cX11_digitAt 21 = .ok (.iload 4, 2) := by decide +kernel
theorem dX11_digitAt_23 : decode cX11_digitAt 23 = .ok (.invokevirtual 109, 3) := by decide +kernel
theorem dX11_digitAt_26 : decode cX11_digitAt 26 = .ok (.istore 5, 2) := by decide +kernel
theorem dX11_digitAt_28 : decode cX11_digitAt 28 = .ok (.iload 5, 2) := by decide +kernel
theorem dX11_digitAt_30 : decode cX11_digitAt 30 = .ok (.bipush (-9), 2) := by decide +kernel
theorem dX11_digitAt_32 : decode cX11_digitAt 32 = .ok (.if_icmp .eq 24, 3) := by decide +kernel
theorem dX11_digitAt_35 : decode cX11_digitAt 35 = .ok (.aload_n 0, 1) := by decide +kernel
theorem dX11_digitAt_36 : decode cX11_digitAt 36 = .ok (.getfield 41, 3) := by decide +kernel
theorem dX11_digitAt_39 : decode cX11_digitAt 39 = .ok (.iload 5, 2) := by decide +kernel
theorem dX11_digitAt_41 : decode cX11_digitAt 41 = .ok (.iaload, 1) := by decide +kernel
theorem dX11_digitAt_42 : decode cX11_digitAt 42 = .ok (.iload_n 2, 1) := by decide +kernel
theorem dX11_digitAt_43 : decode cX11_digitAt 43 = .ok (.if_icmp .le 13, 3) := by decide +kernel
theorem dX11_digitAt_46 : decode cX11_digitAt 46 = .ok (.aload_n 0, 1) := by decide +kernel
theorem dX11_digitAt_47 : decode cX11_digitAt 47 = .ok (.getfield 41, 3) := by decide +kernel
theorem dX11_digitAt_50 : decode cX11_digitAt 50 = .ok (.iload 5, 2) := by decide +kernel
theorem dX11_digitAt_52 : decode cX11_digitAt 52 = .ok (.iaload, 1) := by decide +kernel
theorem dX11_digitAt_53 : decode cX11_digitAt 53 = .ok (.goto 4, 3) := by decide +kernel
theorem dX11_digitAt_56 : decode cX11_digitAt 56 = .ok (.iload_n 2, 1) := by decide +kernel
theorem dX11_digitAt_57 : decode cX11_digitAt 57 = .ok (.istore_n 2, 1) := by decide +kernel
theorem dX11_digitAt_58 : decode cX11_digitAt 58 = .ok (.iinc 4 1, 3) := by decide +kernel
theorem dX11_digitAt_61 : decode cX11_digitAt 61 = .ok (.goto (-49), 3) := by decide +kernel
theorem dX11_digitAt_64 : decode cX11_digitAt 64 = .ok (.iinc 3 1, 3) := by decide +kernel
theorem dX11_digitAt_67 : decode cX11_digitAt 67 = .ok (.goto (-63), 3) := by decide +kernel
theorem dX11_digitAt_70 : decode cX11_digitAt 70 = .ok (.iload_n 2, 1) := by decide +kernel
theorem dX11_digitAt_71 : decode cX11_digitAt 71 = .ok (.ireturn, 1) := by decide +kernel
theorem dX11_layDigits_0 : decode cX11_layDigits 0 = .ok (.iconst 0, 1) := by decide +kernel
theorem dX11_layDigits_1 : decode cX11_layDigits 1 = .ok (.istore_n 2, 1) := by decide +kernel
theorem dX11_layDigits_2 : decode cX11_layDigits 2 = .ok (.iload_n 2, 1) := by decide +kernel
theorem dX11_layDigits_3 : decode cX11_layDigits 3 = .ok (.aload_n 1, 1) := by decide +kernel
theorem dX11_layDigits_4 : decode cX11_layDigits 4 = .ok (.iconst 0, 1) := by decide +kernel
theorem dX11_layDigits_5 : decode cX11_layDigits 5 = .ok (.iaload, 1) := by decide +kernel
theorem dX11_layDigits_6 : decode cX11_layDigits 6 = .ok (.if_icmp .ge 52, 3) := by decide +kernel
theorem dX11_layDigits_9 : decode cX11_layDigits 9 = .ok (.aload_n 0, 1) := by decide +kernel
theorem dX11_layDigits_10 : decode cX11_layDigits 10 = .ok (.aload_n 1, 1) := by decide +kernel
theorem dX11_layDigits_11 : decode cX11_layDigits 11 = .ok (.iconst 1, 1) := by decide +kernel
theorem dX11_layDigits_12 : decode cX11_layDigits 12 = .ok (.iload_n 2, 1) := by decide +kernel
theorem dX11_layDigits_13 : decode cX11_layDigits 13 = .ok (.iadd, 1) := by decide +kernel
theorem dX11_layDigits_14 : decode cX11_layDigits 14 = .ok (.iaload, 1) := by decide +kernel
theorem dX11_layDigits_15 : decode cX11_layDigits 15 = .ok (.invokevirtual 113, 3) := by decide +kernel
theorem dX11_layDigits_18 : decode cX11_layDigits 18 = .ok (.iconst 0, 1) := by decide +kernel
theorem dX11_layDigits_19 : decode cX11_layDigits 19 = .ok (.istore_n 3, 1) := by decide +kernel
theorem dX11_layDigits_20 : decode cX11_layDigits 20 = .ok (.iload_n 3, 1) := by decide +kernel
theorem dX11_layDigits_21 : decode cX11_layDigits 21 = .ok (.aload_n 0, 1) := by decide +kernel
theorem dX11_layDigits_22 : decode cX11_layDigits 22 = .ok (.getfield 102, 3) := by decide +kernel
theorem dX11_layDigits_25 : decode cX11_layDigits 25 = .ok (.iconst 3, 1) := by decide +kernel
theorem dX11_layDigits_26 : decode cX11_layDigits 26 = .ok (.isub, 1) := by decide +kernel
theorem dX11_layDigits_27 : decode cX11_layDigits 27 = .ok (.if_icmp .ge 25, 3) := by decide +kernel
theorem dX11_layDigits_30 : decode cX11_layDigits 30 = .ok (.aload_n 0, 1) := by decide +kernel
theorem dX11_layDigits_31 : decode cX11_layDigits 31 = .ok (.getfield 53, 3) := by decide +kernel
theorem dX11_layDigits_34 : decode cX11_layDigits 34 = .ok (.bipush 6, 2) := by decide +kernel
theorem dX11_layDigits_36 : decode cX11_layDigits 36 = .ok (.iload_n 2, 1) := by decide +kernel
theorem dX11_layDigits_37 : decode cX11_layDigits 37 = .ok (.imul, 1) := by decide +kernel
theorem dX11_layDigits_38 : decode cX11_layDigits 38 = .ok (.iload_n 3, 1) := by decide +kernel
theorem dX11_layDigits_39 : decode cX11_layDigits 39 = .ok (.iadd, 1) := by decide +kernel
theorem dX11_layDigits_40 : decode cX11_layDigits 40 = .ok (.aload_n 0, 1) := by decide +kernel
theorem dX11_layDigits_41 : decode cX11_layDigits 41 = .ok (.iload_n 3, 1) := by decide +kernel
theorem dX11_layDigits_42 : decode cX11_layDigits 42 = .ok (.invokevirtual 117, 3) := by decide +kernel
theorem dX11_layDigits_45 : decode cX11_layDigits 45 = .ok (.iastore, 1) := by decide +kernel
theorem dX11_layDigits_46 : decode cX11_layDigits 46 = .ok (.iinc 3 1, 3) := by decide +kernel
theorem dX11_layDigits_49 : decode cX11_layDigits 49 = .ok (.goto (-29), 3) := by decide +kernel
theorem dX11_layDigits_52 : decode cX11_layDigits 52 = .ok (.iinc 2 1, 3) := by decide +kernel
theorem dX11_layDigits_55 : decode cX11_layDigits 55 = .ok (.goto (-53), 3) := by decide +kernel
theorem dX11_layDigits_58 : decode cX11_layDigits 58 = .ok (.return_, 1) := by decide +kernel
theorem dX11_countPlace_0 : decode cX11_countPlace 0 = .ok (.iconst 0, 1) := by decide +kernel
theorem dX11_countPlace_1 : decode cX11_countPlace 1 = .ok (.istore 5, 2) := by decide +kernel
theorem dX11_countPlace_3 : decode cX11_countPlace 3 = .ok (.iload 5, 2) := by decide +kernel
theorem dX11_countPlace_5 : decode cX11_countPlace 5 = .ok (.iload_n 1, 1) := by decide +kernel
theorem dX11_countPlace_6 : decode cX11_countPlace 6 = .ok (.if_icmp .gt 65, 3) := by decide +kernel
theorem dX11_countPlace_9 : decode cX11_countPlace 9 = .ok (.aload_n 0, 1) := by decide +kernel
theorem dX11_countPlace_10 : decode cX11_countPlace 10 = .ok (.iload_n 2, 1) := by decide +kernel
theorem dX11_countPlace_11 : decode cX11_countPlace 11 = .ok (.iload_n 1, 1) := by decide +kernel
theorem dX11_countPlace_12 : decode cX11_countPlace 12 = .ok (.iload 5, 2) := by decide +kernel
theorem dX11_countPlace_14 : decode cX11_countPlace 14 = .ok (.invokevirtual 109, 3) := by decide +kernel
theorem dX11_countPlace_17 : decode cX11_countPlace 17 = .ok (.istore 6, 2) := by decide +kernel
theorem dX11_countPlace_19 : decode cX11_countPlace 19 = .ok (.iload 6, 2) := by decide +kernel
theorem dX11_countPlace_21 : decode cX11_countPlace 21 = .ok (.bipush (-9), 2) := by decide +kernel
theorem dX11_countPlace_23 : decode cX11_countPlace 23 = .ok (.if_icmp .eq 42, 3) := by decide +kernel
theorem dX11_countPlace_26 : decode cX11_countPlace 26 = .ok (.aload_n 0, 1) := by decide +kernel
theorem dX11_countPlace_27 : decode cX11_countPlace 27 = .ok (.getfield 44, 3) := by decide +kernel
theorem dX11_countPlace_30 : decode cX11_countPlace 30 = .ok (.iload 6, 2) := by decide +kernel
theorem dX11_countPlace_32 : decode cX11_countPlace 32 = .ok (.dup2, 1) := by decide +kernel
theorem dX11_countPlace_33 : decode cX11_countPlace 33 = .ok (.iaload, 1) := by decide +kernel
theorem dX11_countPlace_34 : decode cX11_countPlace 34 = .ok (.iload_n 3, 1) := by decide +kernel
theorem dX11_countPlace_35 : decode cX11_countPlace 35 = .ok (.ifCond .eq 7, 3) := by decide +kernel
theorem dX11_countPlace_38 : decode cX11_countPlace 38 = .ok (.iconst 1, 1) := by decide +kernel
theorem dX11_countPlace_39 : decode cX11_countPlace 39 = .ok (.goto 4, 3) := by decide +kernel
theorem dX11_countPlace_42 : decode cX11_countPlace 42 = .ok (.iconst 0, 1) := by decide +kernel
theorem dX11_countPlace_43 : decode cX11_countPlace 43 = .ok (.iadd, 1) := by decide +kernel
theorem dX11_countPlace_44 : decode cX11_countPlace 44 = .ok (.iastore, 1) := by decide +kernel
theorem dX11_countPlace_45 : decode cX11_countPlace 45 = .ok (.aload_n 0, 1) := by decide +kernel
theorem dX11_countPlace_46 : decode cX11_countPlace 46 = .ok (.getfield 47, 3) := by decide +kernel
theorem dX11_countPlace_49 : decode cX11_countPlace 49 = .ok (.iload 6, 2) := by decide +kernel
theorem dX11_countPlace_51 : decode cX11_countPlace 51 = .ok (.dup2, 1) := by decide +kernel
theorem dX11_countPlace_52 : decode cX11_countPlace 52 = .ok (.iaload, 1) := by decide +kernel
theorem dX11_countPlace_53 : decode cX11_countPlace 53 = .ok (.iload 4, 2) := by decide +kernel
theorem dX11_countPlace_55 : decode cX11_countPlace 55 = .ok (.ifCond .eq 7, 3) := by decide +kernel
theorem dX11_countPlace_58 : decode cX11_countPlace 58 = .ok (.iconst 1, 1) := by decide +kernel
theorem dX11_countPlace_59 : decode cX11_countPlace 59 = .ok (.goto 4, 3) := by decide +kernel
theorem dX11_countPlace_62 : decode cX11_countPlace 62 = .ok (.iconst 0, 1) := by decide +kernel
theorem dX11_countPlace_63 : decode cX11_countPlace 63 = .ok (.iadd, 1) := by decide +kernel
theorem dX11_countPlace_64 : decode cX11_countPlace 64 = .ok (.iastore, 1) := by decide +kernel
theorem dX11_countPlace_65 : decode cX11_countPlace 65 = .ok (.iinc 5 1, 3) := by decide +kernel
theorem dX11_countPlace_68 : decode cX11_countPlace 68 = .ok (.goto (-65), 3) := by decide +kernel
theorem dX11_countPlace_71 : decode cX11_countPlace 71 = .ok (.return_, 1) := by decide +kernel
theorem dX11_count_0 : decode cX11_count 0 = .ok (.iconst 0, 1) := by decide +kernel
theorem dX11_count_1 : decode cX11_count 1 = .ok (.istore 5, 2) := by decide +kernel
theorem dX11_count_3 : decode cX11_count 3 = .ok (.iload 5, 2) := by decide +kernel
theorem dX11_count_5 : decode cX11_count 5 = .ok (.sipush 1372, 3) := by decide +kernel
theorem dX11_count_8 : decode cX11_count 8 = .ok (.if_icmp .ge 25, 3) := by decide +kernel
theorem dX11_count_11 : decode cX11_count 11 = .ok (.aload_n 0, 1) := by decide +kernel
theorem dX11_count_12 : decode cX11_count 12 = .ok (.getfield 44, 3) := by decide +kernel
theorem dX11_count_15 : decode cX11_count 15 = .ok (.iload 5, 2) := by decide +kernel
theorem dX11_count_17 : decode cX11_count 17 = .ok (.iconst 0, 1) := by decide +kernel
theorem dX11_count_18 : decode cX11_count 18 = .ok (.iastore, 1) := by decide +kernel
theorem dX11_count_19 : decode cX11_count 19 = .ok (.aload_n 0, 1) := by decide +kernel
theorem dX11_count_20 : decode cX11_count 20 = .ok (.getfield 47, 3) := by decide +kernel
theorem dX11_count_23 : decode cX11_count 23 = .ok (.iload 5, 2) := by decide +kernel
theorem dX11_count_25 : decode cX11_count 25 = .ok (.iconst 0, 1) := by decide +kernel
theorem dX11_count_26 : decode cX11_count 26 = .ok (.iastore, 1) := by decide +kernel
theorem dX11_count_27 : decode cX11_count 27 = .ok (.iinc 5 1, 3) := by decide +kernel
theorem dX11_count_30 : decode cX11_count 30 = .ok (.goto (-27), 3) := by decide +kernel
theorem dX11_count_33 : decode cX11_count 33 = .ok (.iconst 0, 1) := by decide +kernel
theorem dX11_count_34 : decode cX11_count 34 = .ok (.istore 5, 2) := by decide +kernel
theorem dX11_count_36 : decode cX11_count 36 = .ok (.iload 5, 2) := by decide +kernel
theorem dX11_count_38 : decode cX11_count 38 = .ok (.aload_n 1, 1) := by decide +kernel
theorem dX11_count_39 : decode cX11_count 39 = .ok (.iconst 0, 1) := by decide +kernel
theorem dX11_count_40 : decode cX11_count 40 = .ok (.iaload, 1) := by decide +kernel
theorem dX11_count_41 : decode cX11_count 41 = .ok (.if_icmp .ge 169, 3) := by decide +kernel
theorem dX11_count_44 : decode cX11_count 44 = .ok (.aload_n 0, 1) := by decide +kernel
theorem dX11_count_45 : decode cX11_count 45 = .ok (.aload_n 1, 1) := by decide +kernel
theorem dX11_count_46 : decode cX11_count 46 = .ok (.iconst 1, 1) := by decide +kernel
theorem dX11_count_47 : decode cX11_count 47 = .ok (.iload 5, 2) := by decide +kernel
theorem dX11_count_49 : decode cX11_count 49 = .ok (.iadd, 1) := by decide +kernel
theorem dX11_count_50 : decode cX11_count 50 = .ok (.iaload, 1) := by decide +kernel
theorem dX11_count_51 : decode cX11_count 51 = .ok (.invokevirtual 113, 3) := by decide +kernel
theorem dX11_count_54 : decode cX11_count 54 = .ok (.iconst 0, 1) := by decide +kernel
theorem dX11_count_55 : decode cX11_count 55 = .ok (.istore 6, 2) := by decide +kernel
theorem dX11_count_57 : decode cX11_count 57 = .ok (.iload 6, 2) := by decide +kernel
theorem dX11_count_59 : decode cX11_count 59 = .ok (.aload_n 0, 1) := by decide +kernel
theorem dX11_count_60 : decode cX11_count 60 = .ok (.getfield 102, 3) := by decide +kernel
theorem dX11_count_63 : decode cX11_count 63 = .ok (.iconst 3, 1) := by decide +kernel
theorem dX11_count_64 : decode cX11_count 64 = .ok (.isub, 1) := by decide +kernel
theorem dX11_count_65 : decode cX11_count 65 = .ok (.if_icmp .ge 139, 3) := by decide +kernel
theorem dX11_count_68 : decode cX11_count 68 = .ok (.iload_n 2, 1) := by decide +kernel
theorem dX11_count_69 : decode cX11_count 69 = .ok (.iload 5, 2) := by decide +kernel
theorem dX11_count_71 : decode cX11_count 71 = .ok (.invokestatic 120, 3) := by decide +kernel
theorem dX11_count_74 : decode cX11_count 74 = .ok (.ifCond .eq 130, 3) := by decide +kernel
theorem dX11_count_77 : decode cX11_count 77 = .ok (.aload_n 1, 1) := by decide +kernel
theorem dX11_count_78 : decode cX11_count 78 = .ok (.bipush 7, 2) := by decide +kernel
theorem dX11_count_80 : decode cX11_count 80 = .ok (.iload 5, 2) := by decide +kernel
theorem dX11_count_82 : decode cX11_count 82 = .ok (.iadd, 1) := by decide +kernel
theorem dX11_count_83 : decode cX11_count 83 = .ok (.iaload, 1) := by decide +kernel
theorem dX11_count_84 : decode cX11_count 84 = .ok (.iload 6, 2) := by decide +kernel
theorem dX11_count_86 : decode cX11_count 86 = .ok (.invokestatic 120, 3) := by decide +kernel
theorem dX11_count_89 : decode cX11_count 89 = .ok (.istore 7, 2) := by decide +kernel
theorem dX11_count_91 : decode cX11_count 91 = .ok (.aload_n 0, 1) := by decide +kernel
theorem dX11_count_92 : decode cX11_count 92 = .ok (.getfield 53, 3) := by decide +kernel
theorem dX11_count_95 : decode cX11_count 95 = .ok (.bipush 6, 2) := by decide +kernel
theorem dX11_count_97 : decode cX11_count 97 = .ok (.iload 5, 2) := by decide +kernel
theorem dX11_count_99 : decode cX11_count 99 = .ok (.imul, 1) := by decide +kernel
theorem dX11_count_100 : decode cX11_count 100 = .ok (.iload 6, 2) := by decide +kernel
theorem dX11_count_102 : decode cX11_count 102 = .ok (.iadd, 1) := by decide +kernel
theorem dX11_count_103 : decode cX11_count 103 = .ok (.iaload, 1) := by decide +kernel
theorem dX11_count_104 : decode cX11_count 104 = .ok (.iconst 2, 1) := by decide +kernel
theorem dX11_count_105 : decode cX11_count 105 = .ok (.irem, 1) := by decide +kernel
theorem dX11_count_106 : decode cX11_count 106 = .ok (.iconst 1, 1) := by decide +kernel
theorem dX11_count_107 : decode cX11_count 107 = .ok (.if_icmp .ne 7, 3) := by decide +kernel
theorem dX11_count_110 : decode cX11_count 110 = .ok (.iconst 1, 1) := by decide +kernel
theorem dX11_count_111 : decode cX11_count 111 = .ok (.goto 4, 3) := by decide +kernel
theorem dX11_count_114 : decode cX11_count 114 = .ok (.iconst 0, 1) := by decide +kernel
theorem dX11_count_115 : decode cX11_count 115 = .ok (.istore 8, 2) := by decide +kernel
theorem dX11_count_117 : decode cX11_count 117 = .ok (.iload_n 3, 1) := by decide +kernel
theorem dX11_count_118 : decode cX11_count 118 = .ok (.iconst 2, 1) := by decide +kernel
theorem dX11_count_119 : decode cX11_count 119 = .ok (.irem, 1) := by decide +kernel
theorem dX11_count_120 : decode cX11_count 120 = .ok (.iconst 1, 1) := by decide +kernel
theorem dX11_count_121 : decode cX11_count 121 = .ok (.if_icmp .ne 39, 3) := by decide +kernel
theorem dX11_count_124 : decode cX11_count 124 = .ok (.aload_n 0, 1) := by decide +kernel
theorem dX11_count_125 : decode cX11_count 125 = .ok (.iload 4, 2) := by decide +kernel
theorem dX11_count_127 : decode cX11_count 127 = .ok (.iload 6, 2) := by decide +kernel
theorem dX11_count_129 : decode cX11_count 129 = .ok (.iload 7, 2) := by decide +kernel
theorem dX11_count_131 : decode cX11_count 131 = .ok (.ifCond .eq 12, 3) := by decide +kernel
theorem dX11_count_134 : decode cX11_count 134 = .ok (.iload 8, 2) := by decide +kernel
theorem dX11_count_136 : decode cX11_count 136 = .ok (.ifCond .ne 7, 3) := by decide +kernel
theorem dX11_count_139 : decode cX11_count 139 = .ok (.iconst 1, 1) := by decide +kernel
theorem dX11_count_140 : decode cX11_count 140 = .ok (.goto 4, 3) := by decide +kernel
theorem dX11_count_143 : decode cX11_count 143 = .ok (.iconst 0, 1) := by decide +kernel
theorem dX11_count_144 : decode cX11_count 144 = .ok (.iload 7, 2) := by decide +kernel
theorem dX11_count_146 : decode cX11_count 146 = .ok (.ifCond .ne 7, 3) := by decide +kernel
theorem dX11_count_149 : decode cX11_count 149 = .ok (.iconst 1, 1) := by decide +kernel
theorem dX11_count_150 : decode cX11_count 150 = .ok (.goto 4, 3) := by decide +kernel
theorem dX11_count_153 : decode cX11_count 153 = .ok (.iconst 0, 1) := by decide +kernel
theorem dX11_count_154 : decode cX11_count 154 = .ok (.invokevirtual 124, 3) := by decide +kernel
theorem dX11_count_157 : decode cX11_count 157 = .ok (.goto 41, 3) := by decide +kernel
theorem dX11_count_160 : decode cX11_count 160 = .ok (.aload_n 0, 1) := by decide +kernel
theorem dX11_count_161 : decode cX11_count 161 = .ok (.iload 4, 2) := by decide +kernel
theorem dX11_count_163 : decode cX11_count 163 = .ok (.iload 6, 2) := by decide +kernel
theorem dX11_count_165 : decode cX11_count 165 = .ok (.iload 8, 2) := by decide +kernel
theorem dX11_count_167 : decode cX11_count 167 = .ok (.ifCond .eq 12, 3) := by decide +kernel
theorem dX11_count_170 : decode cX11_count 170 = .ok (.iload 7, 2) := by decide +kernel
theorem dX11_count_172 : decode cX11_count 172 = .ok (.ifCond .ne 7, 3) := by decide +kernel
theorem dX11_count_175 : decode cX11_count 175 = .ok (.iconst 1, 1) := by decide +kernel
theorem dX11_count_176 : decode cX11_count 176 = .ok (.goto 4, 3) := by decide +kernel
theorem dX11_count_179 : decode cX11_count 179 = .ok (.iconst 0, 1) := by decide +kernel
theorem dX11_count_180 : decode cX11_count 180 = .ok (.iload 8, 2) := by decide +kernel
theorem dX11_count_182 : decode cX11_count 182 = .ok (.ifCond .eq 12, 3) := by decide +kernel
theorem dX11_count_185 : decode cX11_count 185 = .ok (.iload 7, 2) := by decide +kernel
theorem dX11_count_187 : decode cX11_count 187 = .ok (.ifCond .eq 7, 3) := by decide +kernel
theorem dX11_count_190 : decode cX11_count 190 = .ok (.iconst 1, 1) := by decide +kernel
theorem dX11_count_191 : decode cX11_count 191 = .ok (.goto 4, 3) := by decide +kernel
theorem dX11_count_194 : decode cX11_count 194 = .ok (.iconst 0, 1) := by decide +kernel
theorem dX11_count_195 : decode cX11_count 195 = .ok (.invokevirtual 124, 3) := by decide +kernel
theorem dX11_count_198 : decode cX11_count 198 = .ok (.iinc 6 1, 3) := by decide +kernel
theorem dX11_count_201 : decode cX11_count 201 = .ok (.goto (-144), 3) := by decide +kernel
theorem dX11_count_204 : decode cX11_count 204 = .ok (.iinc 5 1, 3) := by decide +kernel
theorem dX11_count_207 : decode cX11_count 207 = .ok (.goto (-171), 3) := by decide +kernel
theorem dX11_count_210 : decode cX11_count 210 = .ok (.return_, 1) := by decide +kernel
theorem dX11_keeps_0 : decode cX11_keeps 0 = .ok (.iload_n 2, 1) := by decide +kernel
theorem dX11_keeps_1 : decode cX11_keeps 1 = .ok (.iconst 1, 1) := by decide +kernel
theorem dX11_keeps_2 : decode cX11_keeps 2 = .ok (.if_icmp .ge 5, 3) := by decide +kernel
theorem dX11_keeps_5 : decode cX11_keeps 5 = .ok (.iconst 0, 1) := by decide +kernel
theorem dX11_keeps_6 : decode cX11_keeps 6 = .ok (.ireturn, 1) := by decide +kernel
theorem dX11_keeps_7 : decode cX11_keeps 7 = .ok (.iload_n 0, 1) := by decide +kernel
theorem dX11_keeps_8 : decode cX11_keeps 8 = .ok (.ifCond .ne 18, 3) := by decide +kernel
theorem dX11_keeps_11 : decode cX11_keeps 11 = .ok (.iload_n 2, 1) := by decide +kernel
theorem dX11_keeps_12 : decode cX11_keeps 12 = .ok (.iload_n 3, 1) := by decide +kernel
theorem dX11_keeps_13 : decode cX11_keeps 13 = .ok (.isub, 1) := by decide +kernel
theorem dX11_keeps_14 : decode cX11_keeps 14 = .ok (.iload_n 1, 1) := by decide +kernel
theorem dX11_keeps_15 : decode cX11_keeps 15 = .ok (.if_icmp .lt 7, 3) := by decide +kernel
theorem dX11_keeps_18 : decode cX11_keeps 18 = .ok (.iconst 1, 1) := by decide +kernel
theorem dX11_keeps_19 : decode cX11_keeps 19 = .ok (.goto 43, 3) := by decide +kernel
theorem dX11_keeps_22 : decode cX11_keeps 22 = .ok (.iconst 0, 1) := by decide +kernel
theorem dX11_keeps_23 : decode cX11_keeps 23 = .ok (.goto 39, 3) := by decide +kernel
theorem dX11_keeps_26 : decode cX11_keeps 26 = .ok (.iload_n 0, 1) := by decide +kernel
theorem dX11_keeps_27 : decode cX11_keeps 27 = .ok (.iconst 1, 1) := by decide +kernel
theorem dX11_keeps_28 : decode cX11_keeps 28 = .ok (.if_icmp .ne 20, 3) := by decide +kernel
theorem dX11_keeps_31 : decode cX11_keeps 31 = .ok (.iload_n 3, 1) := by decide +kernel
theorem dX11_keeps_32 : decode cX11_keeps 32 = .ok (.ifCond .ne 12, 3) := by decide +kernel
theorem dX11_keeps_35 : decode cX11_keeps 35 = .ok (.iload_n 2, 1) := by decide +kernel
theorem dX11_keeps_36 : decode cX11_keeps 36 = .ok (.iload_n 1, 1) := by decide +kernel
theorem dX11_keeps_37 : decode cX11_keeps 37 = .ok (.if_icmp .lt 7, 3) := by decide +kernel
theorem dX11_keeps_40 : decode cX11_keeps 40 = .ok (.iconst 1, 1) := by decide +kernel
theorem dX11_keeps_41 : decode cX11_keeps 41 = .ok (.goto 21, 3) := by decide +kernel
theorem dX11_keeps_44 : decode cX11_keeps 44 = .ok (.iconst 0, 1) := by decide +kernel
theorem dX11_keeps_45 : decode cX11_keeps 45 = .ok (.goto 17, 3) := by decide +kernel
theorem dX11_keeps_48 : decode cX11_keeps 48 = .ok (.iload_n 2, 1) := by decide +kernel
theorem dX11_keeps_49 : decode cX11_keeps 49 = .ok (.iload_n 1, 1) := by decide +kernel
theorem dX11_keeps_50 : decode cX11_keeps 50 = .ok (.iload_n 3, 1) := by decide +kernel
theorem dX11_keeps_51 : decode cX11_keeps 51 = .ok (.imul, 1) := by decide +kernel
theorem dX11_keeps_52 : decode cX11_keeps 52 = .ok (.iload_n 1, 1) := by decide +kernel
theorem dX11_keeps_53 : decode cX11_keeps 53 = .ok (.iadd, 1) := by decide +kernel
theorem dX11_keeps_54 : decode cX11_keeps 54 = .ok (.if_icmp .lt 7, 3) := by decide +kernel
theorem dX11_keeps_57 : decode cX11_keeps 57 = .ok (.iconst 1, 1) := by decide +kernel
theorem dX11_keeps_58 : decode cX11_keeps 58 = .ok (.goto 4, 3) := by decide +kernel
theorem dX11_keeps_61 : decode cX11_keeps 61 = .ok (.iconst 0, 1) := by decide +kernel
theorem dX11_keeps_62 : decode cX11_keeps 62 = .ok (.ireturn, 1) := by decide +kernel
theorem dX11_learn_0 : decode cX11_learn 0 = .ok (.iconst 0, 1) := by decide +kernel
theorem dX11_learn_1 : decode cX11_learn 1 = .ok (.istore_n 3, 1) := by decide +kernel
theorem dX11_learn_2 : decode cX11_learn 2 = .ok (.iload_n 3, 1) := by decide +kernel
theorem dX11_learn_3 : decode cX11_learn 3 = .ok (.sipush 1372, 3) := by decide +kernel
theorem dX11_learn_6 : decode cX11_learn 6 = .ok (.if_icmp .ge 16, 3) := by decide +kernel
theorem dX11_learn_9 : decode cX11_learn 9 = .ok (.aload_n 0, 1) := by decide +kernel
theorem dX11_learn_10 : decode cX11_learn 10 = .ok (.getfield 41, 3) := by decide +kernel
theorem dX11_learn_13 : decode cX11_learn 13 = .ok (.iload_n 3, 1) := by decide +kernel
theorem dX11_learn_14 : decode cX11_learn 14 = .ok (.iconst 0, 1) := by decide +kernel
theorem dX11_learn_15 : decode cX11_learn 15 = .ok (.iastore, 1) := by decide +kernel
theorem dX11_learn_16 : decode cX11_learn 16 = .ok (.iinc 3 1, 3) := by decide +kernel
theorem dX11_learn_19 : decode cX11_learn 19 = .ok (.goto (-17), 3) := by decide +kernel
theorem dX11_learn_22 : decode cX11_learn 22 = .ok (.iconst 1, 1) := by decide +kernel
theorem dX11_learn_23 : decode cX11_learn 23 = .ok (.istore_n 3, 1) := by decide +kernel
theorem dX11_learn_24 : decode cX11_learn 24 = .ok (.iload_n 3, 1) := by decide +kernel
theorem dX11_learn_25 : decode cX11_learn 25 = .ok (.aload_n 1, 1) := by decide +kernel
theorem dX11_learn_26 : decode cX11_learn 26 = .ok (.bipush 21, 2) := by decide +kernel
theorem dX11_learn_28 : decode cX11_learn 28 = .ok (.iaload, 1) := by decide +kernel
theorem dX11_learn_29 : decode cX11_learn 29 = .ok (.if_icmp .gt 109, 3) := by decide +kernel
theorem dX11_learn_32 : decode cX11_learn 32 = .ok (.iconst 1, 1) := by decide +kernel
theorem dX11_learn_33 : decode cX11_learn 33 = .ok (.istore 4, 2) := by decide +kernel
theorem dX11_learn_35 : decode cX11_learn 35 = .ok (.iload 4, 2) := by decide +kernel
theorem dX11_learn_37 : decode cX11_learn 37 = .ok (.iconst 4, 1) := by decide +kernel
theorem dX11_learn_38 : decode cX11_learn 38 = .ok (.if_icmp .ge 94, 3) := by decide +kernel
theorem dX11_learn_41 : decode cX11_learn 41 = .ok (.aload_n 0, 1) := by decide +kernel
theorem dX11_learn_42 : decode cX11_learn 42 = .ok (.aload_n 1, 1) := by decide +kernel
theorem dX11_learn_43 : decode cX11_learn 43 = .ok (.invokevirtual 128, 3) := by decide +kernel
theorem dX11_learn_46 : decode cX11_learn 46 = .ok (.aload_n 0, 1) := by decide +kernel
theorem dX11_learn_47 : decode cX11_learn 47 = .ok (.aload_n 1, 1) := by decide +kernel
theorem dX11_learn_48 : decode cX11_learn 48 = .ok (.iload_n 2, 1) := by decide +kernel
theorem dX11_learn_49 : decode cX11_learn 49 = .ok (.iload_n 3, 1) := by decide +kernel
theorem dX11_learn_50 : decode cX11_learn 50 = .ok (.iload 4, 2) := by decide +kernel
theorem dX11_learn_52 : decode cX11_learn 52 = .ok (.invokevirtual 132, 3) := by decide +kernel
theorem dX11_learn_55 : decode cX11_learn 55 = .ok (.iconst 0, 1) := by decide +kernel
theorem dX11_learn_56 : decode cX11_learn 56 = .ok (.istore 5, 2) := by decide +kernel
theorem dX11_learn_58 : decode cX11_learn 58 = .ok (.iload 5, 2) := by decide +kernel
theorem dX11_learn_60 : decode cX11_learn 60 = .ok (.sipush 1372, 3) := by decide +kernel
theorem dX11_learn_63 : decode cX11_learn 63 = .ok (.if_icmp .ge 63, 3) := by decide +kernel
theorem dX11_learn_66 : decode cX11_learn 66 = .ok (.aload_n 0, 1) := by decide +kernel
theorem dX11_learn_67 : decode cX11_learn 67 = .ok (.getfield 41, 3) := by decide +kernel
theorem dX11_learn_70 : decode cX11_learn 70 = .ok (.iload 5, 2) := by decide +kernel
theorem dX11_learn_72 : decode cX11_learn 72 = .ok (.aload_n 1, 1) := by decide +kernel
theorem dX11_learn_73 : decode cX11_learn 73 = .ok (.bipush 13, 2) := by decide +kernel
theorem dX11_learn_75 : decode cX11_learn 75 = .ok (.iload_n 3, 1) := by decide +kernel
theorem dX11_learn_76 : decode cX11_learn 76 = .ok (.iadd, 1) := by decide +kernel
theorem dX11_learn_77 : decode cX11_learn 77 = .ok (.iconst 1, 1) := by decide +kernel
theorem dX11_learn_78 : decode cX11_learn 78 = .ok (.isub, 1) := by decide +kernel
theorem dX11_learn_79 : decode cX11_learn 79 = .ok (.iaload, 1) := by decide +kernel
theorem dX11_learn_80 : decode cX11_learn 80 = .ok (.aload_n 1, 1) := by decide +kernel
theorem dX11_learn_81 : decode cX11_learn 81 = .ok (.bipush 17, 2) := by decide +kernel
theorem dX11_learn_83 : decode cX11_learn 83 = .ok (.iload_n 3, 1) := by decide +kernel
theorem dX11_learn_84 : decode cX11_learn 84 = .ok (.iadd, 1) := by decide +kernel
theorem dX11_learn_85 : decode cX11_learn 85 = .ok (.iconst 1, 1) := by decide +kernel
theorem dX11_learn_86 : decode cX11_learn 86 = .ok (.isub, 1) := by decide +kernel
theorem dX11_learn_87 : decode cX11_learn 87 = .ok (.iaload, 1) := by decide +kernel
theorem dX11_learn_88 : decode cX11_learn 88 = .ok (.aload_n 0, 1) := by decide +kernel
theorem dX11_learn_89 : decode cX11_learn 89 = .ok (.getfield 44, 3) := by decide +kernel
theorem dX11_learn_92 : decode cX11_learn 92 = .ok (.iload 5, 2) := by decide +kernel
theorem dX11_learn_94 : decode cX11_learn 94 = .ok (.iaload, 1) := by decide +kernel
theorem dX11_learn_95 : decode cX11_learn 95 = .ok (.aload_n 0, 1) := by decide +kernel
theorem dX11_learn_96 : decode cX11_learn 96 = .ok (.getfield 47, 3) := by decide +kernel
theorem dX11_learn_99 : decode cX11_learn 99 = .ok (.iload 5, 2) := by decide +kernel
theorem dX11_learn_101 : decode cX11_learn 101 = .ok (.iaload, 1) := by decide +kernel
theorem dX11_learn_102 : decode cX11_learn 102 = .ok (.invokestatic 136, 3) := by decide +kernel
theorem dX11_learn_105 : decode cX11_learn 105 = .ok (.ifCond .eq 7, 3) := by decide +kernel
theorem dX11_learn_108 : decode cX11_learn 108 = .ok (.iload_n 3, 1) := by decide +kernel
theorem dX11_learn_109 : decode cX11_learn 109 = .ok (.goto 10, 3) := by decide +kernel
theorem dX11_learn_112 : decode cX11_learn 112 = .ok (.aload_n 0, 1) := by decide +kernel
theorem dX11_learn_113 : decode cX11_learn 113 = .ok (.getfield 41, 3) := by decide +kernel
theorem dX11_learn_116 : decode cX11_learn 116 = .ok (.iload 5, 2) := by decide +kernel
theorem dX11_learn_118 : decode cX11_learn 118 = .ok (.iaload, 1) := by decide +kernel
theorem dX11_learn_119 : decode cX11_learn 119 = .ok (.iastore, 1) := by decide +kernel
theorem dX11_learn_120 : decode cX11_learn 120 = .ok (.iinc 5 1, 3) := by decide +kernel
theorem dX11_learn_123 : decode cX11_learn 123 = .ok (.goto (-65), 3) := by decide +kernel
theorem dX11_learn_126 : decode cX11_learn 126 = .ok (.iinc 4 1, 3) := by decide +kernel
theorem dX11_learn_129 : decode cX11_learn 129 = .ok (.goto (-94), 3) := by decide +kernel
theorem dX11_learn_132 : decode cX11_learn 132 = .ok (.iinc 3 1, 3) := by decide +kernel
theorem dX11_learn_135 : decode cX11_learn 135 = .ok (.goto (-111), 3) := by decide +kernel
theorem dX11_learn_138 : decode cX11_learn 138 = .ok (.aload_n 0, 1) := by decide +kernel
theorem dX11_learn_139 : decode cX11_learn 139 = .ok (.aload_n 1, 1) := by decide +kernel
theorem dX11_learn_140 : decode cX11_learn 140 = .ok (.invokevirtual 128, 3) := by decide +kernel
theorem dX11_learn_143 : decode cX11_learn 143 = .ok (.return_, 1) := by decide +kernel
theorem dX11_learnAll_0 : decode cX11_learnAll 0 = .ok (.aload_n 0, 1) := by decide +kernel
theorem dX11_learnAll_1 : decode cX11_learnAll 1 = .ok (.aload_n 1, 1) := by decide +kernel
theorem dX11_learnAll_2 : decode cX11_learnAll 2 = .ok (.bipush 63, 2) := by decide +kernel
theorem dX11_learnAll_4 : decode cX11_learnAll 4 = .ok (.invokevirtual 140, 3) := by decide +kernel
theorem dX11_learnAll_7 : decode cX11_learnAll 7 = .ok (.return_, 1) := by decide +kernel
theorem dX11_placesOf_0 : decode cX11_placesOf 0 = .ok (.iconst 0, 1) := by decide +kernel
theorem dX11_placesOf_1 : decode cX11_placesOf 1 = .ok (.istore_n 1, 1) := by decide +kernel
theorem dX11_placesOf_2 : decode cX11_placesOf 2 = .ok (.iconst 0, 1) := by decide +kernel
theorem dX11_placesOf_3 : decode cX11_placesOf 3 = .ok (.istore_n 2, 1) := by decide +kernel
theorem dX11_placesOf_4 : decode cX11_placesOf 4 = .ok (.iload_n 2, 1) := by decide +kernel
theorem dX11_placesOf_5 : decode cX11_placesOf 5 = .ok (.aload_n 0, 1) := by decide +kernel
theorem dX11_placesOf_6 : decode cX11_placesOf 6 = .ok (.iconst 0, 1) := by decide +kernel
theorem dX11_placesOf_7 : decode cX11_placesOf 7 = .ok (.iaload, 1) := by decide +kernel
theorem dX11_placesOf_8 : decode cX11_placesOf 8 = .ok (.if_icmp .ge 22, 3) := by decide +kernel
theorem dX11_placesOf_11 : decode cX11_placesOf 11 = .ok (.iload_n 1, 1) := by decide +kernel
theorem dX11_placesOf_12 : decode cX11_placesOf 12 = .ok (.aload_n 0, 1) := by decide +kernel
theorem dX11_placesOf_13 : decode cX11_placesOf 13 = .ok (.iconst 1, 1) := by decide +kernel
theorem dX11_placesOf_14 : decode cX11_placesOf 14 = .ok (.iload_n 2, 1) := by decide +kernel
theorem dX11_placesOf_15 : decode cX11_placesOf 15 = .ok (.iadd, 1) := by decide +kernel
theorem dX11_placesOf_16 : decode cX11_placesOf 16 = .ok (.iaload, 1) := by decide +kernel
theorem dX11_placesOf_17 : decode cX11_placesOf 17 = .ok (.invokestatic 80, 3) := by decide +kernel
theorem dX11_placesOf_20 : decode cX11_placesOf 20 = .ok (.iconst 1, 1) := by decide +kernel
theorem dX11_placesOf_21 : decode cX11_placesOf 21 = .ok (.isub, 1) := by decide +kernel
theorem dX11_placesOf_22 : decode cX11_placesOf 22 = .ok (.iadd, 1) := by decide +kernel
theorem dX11_placesOf_23 : decode cX11_placesOf 23 = .ok (.istore_n 1, 1) := by decide +kernel
theorem dX11_placesOf_24 : decode cX11_placesOf 24 = .ok (.iinc 2 1, 3) := by decide +kernel
theorem dX11_placesOf_27 : decode cX11_placesOf 27 = .ok (.goto (-23), 3) := by decide +kernel
theorem dX11_placesOf_30 : decode cX11_placesOf 30 = .ok (.iload_n 1, 1) := by decide +kernel
theorem dX11_placesOf_31 : decode cX11_placesOf 31 = .ok (.ireturn, 1) := by decide +kernel
theorem dX11_isRight_0 : decode cX11_isRight 0 = .ok (.aload_n 0, 1) := by decide +kernel
theorem dX11_isRight_1 : decode cX11_isRight 1 = .ok (.getfield 53, 3) := by decide +kernel
theorem dX11_isRight_4 : decode cX11_isRight 4 = .ok (.bipush 6, 2) := by decide +kernel
theorem dX11_isRight_6 : decode cX11_isRight 6 = .ok (.iload_n 2, 1) := by decide +kernel
theorem dX11_isRight_7 : decode cX11_isRight 7 = .ok (.imul, 1) := by decide +kernel
theorem dX11_isRight_8 : decode cX11_isRight 8 = .ok (.iload_n 3, 1) := by decide +kernel
theorem dX11_isRight_9 : decode cX11_isRight 9 = .ok (.iadd, 1) := by decide +kernel
theorem dX11_isRight_10 : decode cX11_isRight 10 = .ok (.iaload, 1) := by decide +kernel
theorem dX11_isRight_11 : decode cX11_isRight 11 = .ok (.iconst 2, 1) := by decide +kernel
theorem dX11_isRight_12 : decode cX11_isRight 12 = .ok (.irem, 1) := by decide +kernel
theorem dX11_isRight_13 : decode cX11_isRight 13 = .ok (.iconst 1, 1) := by decide +kernel
theorem dX11_isRight_14 : decode cX11_isRight 14 = .ok (.if_icmp .ne 7, 3) := by decide +kernel
theorem dX11_isRight_17 : decode cX11_isRight 17 = .ok (.iconst 1, 1) := by decide +kernel
theorem dX11_isRight_18 : decode cX11_isRight 18 = .ok (.goto 4, 3) := by decide +kernel
theorem dX11_isRight_21 : decode cX11_isRight 21 = .ok (.iconst 0, 1) := by decide +kernel
theorem dX11_isRight_22 : decode cX11_isRight 22 = .ok (.aload_n 1, 1) := by decide +kernel
theorem dX11_isRight_23 : decode cX11_isRight 23 = .ok (.bipush 7, 2) := by decide +kernel
theorem dX11_isRight_25 : decode cX11_isRight 25 = .ok (.iload_n 2, 1) := by decide +kernel
theorem dX11_isRight_26 : decode cX11_isRight 26 = .ok (.iadd, 1) := by decide +kernel
theorem dX11_isRight_27 : decode cX11_isRight 27 = .ok (.iaload, 1) := by decide +kernel
theorem dX11_isRight_28 : decode cX11_isRight 28 = .ok (.iload_n 3, 1) := by decide +kernel
theorem dX11_isRight_29 : decode cX11_isRight 29 = .ok (.invokestatic 120, 3) := by decide +kernel
theorem dX11_isRight_32 : decode cX11_isRight 32 = .ok (.if_icmp .ne 7, 3) := by decide +kernel
theorem dX11_isRight_35 : decode cX11_isRight 35 = .ok (.iconst 1, 1) := by decide +kernel
theorem dX11_isRight_36 : decode cX11_isRight 36 = .ok (.goto 4, 3) := by decide +kernel
theorem dX11_isRight_39 : decode cX11_isRight 39 = .ok (.iconst 0, 1) := by decide +kernel
theorem dX11_isRight_40 : decode cX11_isRight 40 = .ok (.ireturn, 1) := by decide +kernel
theorem dX11_rightOf_0 : decode cX11_rightOf 0 = .ok (.iconst 0, 1) := by decide +kernel
theorem dX11_rightOf_1 : decode cX11_rightOf 1 = .ok (.istore_n 3, 1) := by decide +kernel
theorem dX11_rightOf_2 : decode cX11_rightOf 2 = .ok (.iconst 0, 1) := by decide +kernel
theorem dX11_rightOf_3 : decode cX11_rightOf 3 = .ok (.istore 4, 2) := by decide +kernel
theorem dX11_rightOf_5 : decode cX11_rightOf 5 = .ok (.iload 4, 2) := by decide +kernel
theorem dX11_rightOf_7 : decode cX11_rightOf 7 = .ok (.aload_n 1, 1) := by decide +kernel
theorem dX11_rightOf_8 : decode cX11_rightOf 8 = .ok (.iconst 1, 1) := by decide +kernel
theorem dX11_rightOf_9 : decode cX11_rightOf 9 = .ok (.iload_n 2, 1) := by decide +kernel
theorem dX11_rightOf_10 : decode cX11_rightOf 10 = .ok (.iadd, 1) := by decide +kernel
theorem dX11_rightOf_11 : decode cX11_rightOf 11 = .ok (.iaload, 1) := by decide +kernel
theorem dX11_rightOf_12 : decode cX11_rightOf 12 = .ok (.invokestatic 80, 3) := by decide +kernel
theorem dX11_rightOf_15 : decode cX11_rightOf 15 = .ok (.iconst 1, 1) := by decide +kernel
theorem dX11_rightOf_16 : decode cX11_rightOf 16 = .ok (.isub, 1) := by decide +kernel
theorem dX11_rightOf_17 : decode cX11_rightOf 17 = .ok (.if_icmp .ge 28, 3) := by decide +kernel
theorem dX11_rightOf_20 : decode cX11_rightOf 20 = .ok (.iload_n 3, 1) := by decide +kernel
theorem dX11_rightOf_21 : decode cX11_rightOf 21 = .ok (.aload_n 0, 1) := by decide +kernel
theorem dX11_rightOf_22 : decode cX11_rightOf 22 = .ok (.aload_n 1, 1) := by decide +kernel
theorem dX11_rightOf_23 : decode cX11_rightOf 23 = .ok (.iload_n 2, 1) := by decide +kernel
theorem dX11_rightOf_24 : decode cX11_rightOf 24 = .ok (.iload 4, 2) := by decide +kernel
theorem dX11_rightOf_26 : decode cX11_rightOf 26 = .ok (.invokevirtual 144, 3) := by decide +kernel
theorem dX11_rightOf_29 : decode cX11_rightOf 29 = .ok (.ifCond .eq 7, 3) := by decide +kernel
theorem dX11_rightOf_32 : decode cX11_rightOf 32 = .ok (.iconst 1, 1) := by decide +kernel
theorem dX11_rightOf_33 : decode cX11_rightOf 33 = .ok (.goto 4, 3) := by decide +kernel
theorem dX11_rightOf_36 : decode cX11_rightOf 36 = .ok (.iconst 0, 1) := by decide +kernel
theorem dX11_rightOf_37 : decode cX11_rightOf 37 = .ok (.iadd, 1) := by decide +kernel
theorem dX11_rightOf_38 : decode cX11_rightOf 38 = .ok (.istore_n 3, 1) := by decide +kernel
theorem dX11_rightOf_39 : decode cX11_rightOf 39 = .ok (.iinc 4 1, 3) := by decide +kernel
theorem dX11_rightOf_42 : decode cX11_rightOf 42 = .ok (.goto (-37), 3) := by decide +kernel
theorem dX11_rightOf_45 : decode cX11_rightOf 45 = .ok (.iload_n 3, 1) := by decide +kernel
theorem dX11_rightOf_46 : decode cX11_rightOf 46 = .ok (.ireturn, 1) := by decide +kernel
theorem dX11_rightOfAll_0 : decode cX11_rightOfAll 0 = .ok (.iconst 0, 1) := by decide +kernel
theorem dX11_rightOfAll_1 : decode cX11_rightOfAll 1 = .ok (.istore_n 2, 1) := by decide +kernel
theorem dX11_rightOfAll_2 : decode cX11_rightOfAll 2 = .ok (.iconst 0, 1) := by decide +kernel
theorem dX11_rightOfAll_3 : decode cX11_rightOfAll 3 = .ok (.istore_n 3, 1) := by decide +kernel
theorem dX11_rightOfAll_4 : decode cX11_rightOfAll 4 = .ok (.iload_n 3, 1) := by decide +kernel
theorem dX11_rightOfAll_5 : decode cX11_rightOfAll 5 = .ok (.aload_n 1, 1) := by decide +kernel
theorem dX11_rightOfAll_6 : decode cX11_rightOfAll 6 = .ok (.iconst 0, 1) := by decide +kernel
theorem dX11_rightOfAll_7 : decode cX11_rightOfAll 7 = .ok (.iaload, 1) := by decide +kernel
theorem dX11_rightOfAll_8 : decode cX11_rightOfAll 8 = .ok (.if_icmp .ge 18, 3) := by decide +kernel
theorem dX11_rightOfAll_11 : decode cX11_rightOfAll 11 = .ok (.iload_n 2, 1) := by decide +kernel
theorem dX11_rightOfAll_12 : decode cX11_rightOfAll 12 = .ok (.aload_n 0, 1) := by decide +kernel
theorem dX11_rightOfAll_13 : decode cX11_rightOfAll 13 = .ok (.aload_n 1, 1) := by decide +kernel
theorem dX11_rightOfAll_14 : decode cX11_rightOfAll 14 = .ok (.iload_n 3, 1) := by decide +kernel
theorem dX11_rightOfAll_15 : decode cX11_rightOfAll 15 = .ok (.invokevirtual 148, 3) := by decide +kernel
theorem dX11_rightOfAll_18 : decode cX11_rightOfAll 18 = .ok (.iadd, 1) := by decide +kernel
theorem dX11_rightOfAll_19 : decode cX11_rightOfAll 19 = .ok (.istore_n 2, 1) := by decide +kernel
theorem dX11_rightOfAll_20 : decode cX11_rightOfAll 20 = .ok (.iinc 3 1, 3) := by decide +kernel
theorem dX11_rightOfAll_23 : decode cX11_rightOfAll 23 = .ok (.goto (-19), 3) := by decide +kernel
theorem dX11_rightOfAll_26 : decode cX11_rightOfAll 26 = .ok (.iload_n 2, 1) := by decide +kernel
theorem dX11_rightOfAll_27 : decode cX11_rightOfAll 27 = .ok (.ireturn, 1) := by decide +kernel
theorem dX11_patternsOf_0 : decode cX11_patternsOf 0 = .ok (.iconst 0, 1) := by decide +kernel
theorem dX11_patternsOf_1 : decode cX11_patternsOf 1 = .ok (.istore_n 2, 1) := by decide +kernel
theorem dX11_patternsOf_2 : decode cX11_patternsOf 2 = .ok (.iconst 0, 1) := by decide +kernel
theorem dX11_patternsOf_3 : decode cX11_patternsOf 3 = .ok (.istore_n 3, 1) := by decide +kernel
theorem dX11_patternsOf_4 : decode cX11_patternsOf 4 = .ok (.iload_n 3, 1) := by decide +kernel
theorem dX11_patternsOf_5 : decode cX11_patternsOf 5 = .ok (.sipush 1372, 3) := by decide +kernel
theorem dX11_patternsOf_8 : decode cX11_patternsOf 8 = .ok (.if_icmp .ge 48, 3) := by decide +kernel
theorem dX11_patternsOf_11 : decode cX11_patternsOf 11 = .ok (.iload_n 2, 1) := by decide +kernel
theorem dX11_patternsOf_12 : decode cX11_patternsOf 12 = .ok (.iload_n 1, 1) := by decide +kernel
theorem dX11_patternsOf_13 : decode cX11_patternsOf 13 = .ok (.ifCond .ne 20, 3) := by decide +kernel
theorem dX11_patternsOf_16 : decode cX11_patternsOf 16 = .ok (.aload_n 0, 1) := by decide +kernel
theorem dX11_patternsOf_17 : decode cX11_patternsOf 17 = .ok (.getfield 41, 3) := by decide +kernel
theorem dX11_patternsOf_20 : decode cX11_patternsOf 20 = .ok (.iload_n 3, 1) := by decide +kernel
theorem dX11_patternsOf_21 : decode cX11_patternsOf 21 = .ok (.iaload, 1) := by decide +kernel
theorem dX11_patternsOf_22 : decode cX11_patternsOf 22 = .ok (.ifCond .le 7, 3) := by decide +kernel
theorem dX11_patternsOf_25 : decode cX11_patternsOf 25 = .ok (.iconst 1, 1) := by decide +kernel
theorem dX11_patternsOf_26 : decode cX11_patternsOf 26 = .ok (.goto 22, 3) := by decide +kernel
theorem dX11_patternsOf_29 : decode cX11_patternsOf 29 = .ok (.iconst 0, 1) := by decide +kernel
theorem dX11_patternsOf_30 : decode cX11_patternsOf 30 = .ok (.goto 18, 3) := by decide +kernel
theorem dX11_patternsOf_33 : decode cX11_patternsOf 33 = .ok (.aload_n 0, 1) := by decide +kernel
theorem dX11_patternsOf_34 : decode cX11_patternsOf 34 = .ok (.getfield 41, 3) := by decide +kernel
theorem dX11_patternsOf_37 : decode cX11_patternsOf 37 = .ok (.iload_n 3, 1) := by decide +kernel
theorem dX11_patternsOf_38 : decode cX11_patternsOf 38 = .ok (.iaload, 1) := by decide +kernel
theorem dX11_patternsOf_39 : decode cX11_patternsOf 39 = .ok (.iload_n 1, 1) := by decide +kernel
theorem dX11_patternsOf_40 : decode cX11_patternsOf 40 = .ok (.if_icmp .ne 7, 3) := by decide +kernel
theorem dX11_patternsOf_43 : decode cX11_patternsOf 43 = .ok (.iconst 1, 1) := by decide +kernel
theorem dX11_patternsOf_44 : decode cX11_patternsOf 44 = .ok (.goto 4, 3) := by decide +kernel
theorem dX11_patternsOf_47 : decode cX11_patternsOf 47 = .ok (.iconst 0, 1) := by decide +kernel
theorem dX11_patternsOf_48 : decode cX11_patternsOf 48 = .ok (.iadd, 1) := by decide +kernel
theorem dX11_patternsOf_49 : decode cX11_patternsOf 49 = .ok (.istore_n 2, 1) := by decide +kernel
theorem dX11_patternsOf_50 : decode cX11_patternsOf 50 = .ok (.iinc 3 1, 3) := by decide +kernel
theorem dX11_patternsOf_53 : decode cX11_patternsOf 53 = .ok (.goto (-49), 3) := by decide +kernel
theorem dX11_patternsOf_56 : decode cX11_patternsOf 56 = .ok (.iload_n 2, 1) := by decide +kernel
theorem dX11_patternsOf_57 : decode cX11_patternsOf 57 = .ok (.ireturn, 1) := by decide +kernel
theorem dX11_wrongWords_0 : decode cX11_wrongWords 0 = .ok (.iconst 0, 1) := by decide +kernel
theorem dX11_wrongWords_1 : decode cX11_wrongWords 1 = .ok (.istore_n 1, 1) := by decide +kernel
theorem dX11_wrongWords_2 : decode cX11_wrongWords 2 = .ok (.iconst 0, 1) := by decide +kernel
theorem dX11_wrongWords_3 : decode cX11_wrongWords 3 = .ok (.istore_n 2, 1) := by decide +kernel
theorem dX11_wrongWords_4 : decode cX11_wrongWords 4 = .ok (.iload_n 2, 1) := by decide +kernel
theorem dX11_wrongWords_5 : decode cX11_wrongWords 5 = .ok (.aload_n 0, 1) := by decide +kernel
theorem dX11_wrongWords_6 : decode cX11_wrongWords 6 = .ok (.getfield 16, 3) := by decide +kernel
theorem dX11_wrongWords_9 : decode cX11_wrongWords 9 = .ok (.iconst 0, 1) := by decide +kernel
theorem dX11_wrongWords_10 : decode cX11_wrongWords 10 = .ok (.iaload, 1) := by decide +kernel
theorem dX11_wrongWords_11 : decode cX11_wrongWords 11 = .ok (.if_icmp .ge 44, 3) := by decide +kernel
theorem dX11_wrongWords_14 : decode cX11_wrongWords 14 = .ok (.iload_n 1, 1) := by decide +kernel
theorem dX11_wrongWords_15 : decode cX11_wrongWords 15 = .ok (.aload_n 0, 1) := by decide +kernel
theorem dX11_wrongWords_16 : decode cX11_wrongWords 16 = .ok (.aload_n 0, 1) := by decide +kernel
theorem dX11_wrongWords_17 : decode cX11_wrongWords 17 = .ok (.getfield 16, 3) := by decide +kernel
theorem dX11_wrongWords_20 : decode cX11_wrongWords 20 = .ok (.iload_n 2, 1) := by decide +kernel
theorem dX11_wrongWords_21 : decode cX11_wrongWords 21 = .ok (.invokevirtual 148, 3) := by decide +kernel
theorem dX11_wrongWords_24 : decode cX11_wrongWords 24 = .ok (.aload_n 0, 1) := by decide +kernel
theorem dX11_wrongWords_25 : decode cX11_wrongWords 25 = .ok (.getfield 16, 3) := by decide +kernel
theorem dX11_wrongWords_28 : decode cX11_wrongWords 28 = .ok (.iconst 1, 1) := by decide +kernel
theorem dX11_wrongWords_29 : decode cX11_wrongWords 29 = .ok (.iload_n 2, 1) := by decide +kernel
theorem dX11_wrongWords_30 : decode cX11_wrongWords 30 = .ok (.iadd, 1) := by decide +kernel
theorem dX11_wrongWords_31 : decode cX11_wrongWords 31 = .ok (.iaload, 1) := by decide +kernel
theorem dX11_wrongWords_32 : decode cX11_wrongWords 32 = .ok (.invokestatic 80, 3) := by decide +kernel
theorem dX11_wrongWords_35 : decode cX11_wrongWords 35 = .ok (.iconst 1, 1) := by decide +kernel
theorem dX11_wrongWords_36 : decode cX11_wrongWords 36 = .ok (.isub, 1) := by decide +kernel
theorem dX11_wrongWords_37 : decode cX11_wrongWords 37 = .ok (.if_icmp .ge 9, 3) := by decide +kernel
theorem dX11_wrongWords_40 : decode cX11_wrongWords 40 = .ok (.iconst 1, 1) := by decide +kernel
theorem dX11_wrongWords_41 : decode cX11_wrongWords 41 = .ok (.iload_n 2, 1) := by decide +kernel
theorem dX11_wrongWords_42 : decode cX11_wrongWords 42 = .ok (.ishl, 1) := by decide +kernel
theorem dX11_wrongWords_43 : decode cX11_wrongWords 43 = .ok (.goto 4, 3) := by decide +kernel
theorem dX11_wrongWords_46 : decode cX11_wrongWords 46 = .ok (.iconst 0, 1) := by decide +kernel
theorem dX11_wrongWords_47 : decode cX11_wrongWords 47 = .ok (.ior, 1) := by decide +kernel
theorem dX11_wrongWords_48 : decode cX11_wrongWords 48 = .ok (.istore_n 1, 1) := by decide +kernel
theorem dX11_wrongWords_49 : decode cX11_wrongWords 49 = .ok (.iinc 2 1, 3) := by decide +kernel
theorem dX11_wrongWords_52 : decode cX11_wrongWords 52 = .ok (.goto (-48), 3) := by decide +kernel
theorem dX11_wrongWords_55 : decode cX11_wrongWords 55 = .ok (.iload_n 1, 1) := by decide +kernel
theorem dX11_wrongWords_56 : decode cX11_wrongWords 56 = .ok (.ireturn, 1) := by decide +kernel
theorem dX11_figures_0 : decode cX11_figures 0 = .ok (.iconst 0, 1) := by decide +kernel
theorem dX11_figures_1 : decode cX11_figures 1 = .ok (.istore_n 1, 1) := by decide +kernel
theorem dX11_figures_2 : decode cX11_figures 2 = .ok (.iconst 1, 1) := by decide +kernel
theorem dX11_figures_3 : decode cX11_figures 3 = .ok (.istore_n 2, 1) := by decide +kernel
theorem dX11_figures_4 : decode cX11_figures 4 = .ok (.iload_n 0, 1) := by decide +kernel
theorem dX11_figures_5 : decode cX11_figures 5 = .ok (.istore_n 3, 1) := by decide +kernel
theorem dX11_figures_6 : decode cX11_figures 6 = .ok (.iload_n 3, 1) := by decide +kernel
theorem dX11_figures_7 : decode cX11_figures 7 = .ok (.ifCond .le 25, 3) := by decide +kernel
theorem dX11_figures_10 : decode cX11_figures 10 = .ok (.iload_n 1, 1) := by decide +kernel
theorem dX11_figures_11 : decode cX11_figures 11 = .ok (.iload_n 2, 1) := by decide +kernel
theorem dX11_figures_12 : decode cX11_figures 12 = .ok (.iload_n 3, 1) := by decide +kernel
theorem dX11_figures_13 : decode cX11_figures 13 = .ok (.bipush 7, 2) := by decide +kernel
theorem dX11_figures_15 : decode cX11_figures 15 = .ok (.irem, 1) := by decide +kernel
theorem dX11_figures_16 : decode cX11_figures 16 = .ok (.imul, 1) := by decide +kernel
theorem dX11_figures_17 : decode cX11_figures 17 = .ok (.iadd, 1) := by decide +kernel
theorem dX11_figures_18 : decode cX11_figures 18 = .ok (.istore_n 1, 1) := by decide +kernel
theorem dX11_figures_19 : decode cX11_figures 19 = .ok (.iload_n 2, 1) := by decide +kernel
theorem dX11_figures_20 : decode cX11_figures 20 = .ok (.bipush 10, 2) := by decide +kernel
theorem dX11_figures_22 : decode cX11_figures 22 = .ok (.imul, 1) := by decide +kernel
theorem dX11_figures_23 : decode cX11_figures 23 = .ok (.istore_n 2, 1) := by decide +kernel
theorem dX11_figures_24 : decode cX11_figures 24 = .ok (.iload_n 3, 1) := by decide +kernel
theorem dX11_figures_25 : decode cX11_figures 25 = .ok (.bipush 7, 2) := by decide +kernel
theorem dX11_figures_27 : decode cX11_figures 27 = .ok (.idiv, 1) := by decide +kernel
theorem dX11_figures_28 : decode cX11_figures 28 = .ok (.istore_n 3, 1) := by decide +kernel
theorem dX11_figures_29 : decode cX11_figures 29 = .ok (.goto (-23), 3) := by decide +kernel
theorem dX11_figures_32 : decode cX11_figures 32 = .ok (.iload_n 1, 1) := by decide +kernel
theorem dX11_figures_33 : decode cX11_figures 33 = .ok (.ireturn, 1) := by decide +kernel
theorem dX11_sevens_0 : decode cX11_sevens 0 = .ok (.iconst 0, 1) := by decide +kernel
theorem dX11_sevens_1 : decode cX11_sevens 1 = .ok (.istore_n 1, 1) := by decide +kernel
theorem dX11_sevens_2 : decode cX11_sevens 2 = .ok (.iconst 1, 1) := by decide +kernel
theorem dX11_sevens_3 : decode cX11_sevens 3 = .ok (.istore_n 2, 1) := by decide +kernel
theorem dX11_sevens_4 : decode cX11_sevens 4 = .ok (.iload_n 0, 1) := by decide +kernel
theorem dX11_sevens_5 : decode cX11_sevens 5 = .ok (.istore_n 3, 1) := by decide +kernel
theorem dX11_sevens_6 : decode cX11_sevens 6 = .ok (.iload_n 3, 1) := by decide +kernel
theorem dX11_sevens_7 : decode cX11_sevens 7 = .ok (.ifCond .le 25, 3) := by decide +kernel
theorem dX11_sevens_10 : decode cX11_sevens 10 = .ok (.iload_n 1, 1) := by decide +kernel
theorem dX11_sevens_11 : decode cX11_sevens 11 = .ok (.iload_n 2, 1) := by decide +kernel
theorem dX11_sevens_12 : decode cX11_sevens 12 = .ok (.iload_n 3, 1) := by decide +kernel
theorem dX11_sevens_13 : decode cX11_sevens 13 = .ok (.bipush 10, 2) := by decide +kernel
theorem dX11_sevens_15 : decode cX11_sevens 15 = .ok (.irem, 1) := by decide +kernel
theorem dX11_sevens_16 : decode cX11_sevens 16 = .ok (.imul, 1) := by decide +kernel
theorem dX11_sevens_17 : decode cX11_sevens 17 = .ok (.iadd, 1) := by decide +kernel
theorem dX11_sevens_18 : decode cX11_sevens 18 = .ok (.istore_n 1, 1) := by decide +kernel
theorem dX11_sevens_19 : decode cX11_sevens 19 = .ok (.iload_n 2, 1) := by decide +kernel
theorem dX11_sevens_20 : decode cX11_sevens 20 = .ok (.bipush 7, 2) := by decide +kernel
theorem dX11_sevens_22 : decode cX11_sevens 22 = .ok (.imul, 1) := by decide +kernel
theorem dX11_sevens_23 : decode cX11_sevens 23 = .ok (.istore_n 2, 1) := by decide +kernel
theorem dX11_sevens_24 : decode cX11_sevens 24 = .ok (.iload_n 3, 1) := by decide +kernel
theorem dX11_sevens_25 : decode cX11_sevens 25 = .ok (.bipush 10, 2) := by decide +kernel
theorem dX11_sevens_27 : decode cX11_sevens 27 = .ok (.idiv, 1) := by decide +kernel
theorem dX11_sevens_28 : decode cX11_sevens 28 = .ok (.istore_n 3, 1) := by decide +kernel
theorem dX11_sevens_29 : decode cX11_sevens 29 = .ok (.goto (-23), 3) := by decide +kernel
theorem dX11_sevens_32 : decode cX11_sevens 32 = .ok (.iload_n 1, 1) := by decide +kernel
theorem dX11_sevens_33 : decode cX11_sevens 33 = .ok (.ireturn, 1) := by decide +kernel
theorem dX11_layNodes_0 : decode cX11_layNodes 0 = .ok (.iconst 0, 1) := by decide +kernel
theorem dX11_layNodes_1 : decode cX11_layNodes 1 = .ok (.istore_n 1, 1) := by decide +kernel
theorem dX11_layNodes_2 : decode cX11_layNodes 2 = .ok (.iload_n 1, 1) := by decide +kernel
theorem dX11_layNodes_3 : decode cX11_layNodes 3 = .ok (.sipush 343, 3) := by decide +kernel
theorem dX11_layNodes_6 : decode cX11_layNodes 6 = .ok (.if_icmp .ge 24, 3) := by decide +kernel
theorem dX11_layNodes_9 : decode cX11_layNodes 9 = .ok (.aload_n 0, 1) := by decide +kernel
theorem dX11_layNodes_10 : decode cX11_layNodes 10 = .ok (.getfield 56, 3) := by decide +kernel
theorem dX11_layNodes_13 : decode cX11_layNodes 13 = .ok (.iload_n 1, 1) := by decide +kernel
theorem dX11_layNodes_14 : decode cX11_layNodes 14 = .ok (.iconst 0, 1) := by decide +kernel
theorem dX11_layNodes_15 : decode cX11_layNodes 15 = .ok (.bastore, 1) := by decide +kernel
theorem dX11_layNodes_16 : decode cX11_layNodes 16 = .ok (.aload_n 0, 1) := by decide +kernel
theorem dX11_layNodes_17 : decode cX11_layNodes 17 = .ok (.getfield 59, 3) := by decide +kernel
theorem dX11_layNodes_20 : decode cX11_layNodes 20 = .ok (.iload_n 1, 1) := by decide +kernel
theorem dX11_layNodes_21 : decode cX11_layNodes 21 = .ok (.bipush (-9), 2) := by decide +kernel
theorem dX11_layNodes_23 : decode cX11_layNodes 23 = .ok (.iastore, 1) := by decide +kernel
theorem dX11_layNodes_24 : decode cX11_layNodes 24 = .ok (.iinc 1 1, 3) := by decide +kernel
theorem dX11_layNodes_27 : decode cX11_layNodes 27 = .ok (.goto (-25), 3) := by decide +kernel
theorem dX11_layNodes_30 : decode cX11_layNodes 30 = .ok (.iconst 0, 1) := by decide +kernel
theorem dX11_layNodes_31 : decode cX11_layNodes 31 = .ok (.istore_n 1, 1) := by decide +kernel
theorem dX11_layNodes_32 : decode cX11_layNodes 32 = .ok (.iload_n 1, 1) := by decide +kernel
theorem dX11_layNodes_33 : decode cX11_layNodes 33 = .ok (.sipush 1372, 3) := by decide +kernel
theorem dX11_layNodes_36 : decode cX11_layNodes 36 = .ok (.if_icmp .ge 48, 3) := by decide +kernel
theorem dX11_layNodes_39 : decode cX11_layNodes 39 = .ok (.iload_n 1, 1) := by decide +kernel
theorem dX11_layNodes_40 : decode cX11_layNodes 40 = .ok (.iconst 4, 1) := by decide +kernel
theorem dX11_layNodes_41 : decode cX11_layNodes 41 = .ok (.idiv, 1) := by decide +kernel
theorem dX11_layNodes_42 : decode cX11_layNodes 42 = .ok (.istore_n 2, 1) := by decide +kernel
theorem dX11_layNodes_43 : decode cX11_layNodes 43 = .ok (.iload_n 2, 1) := by decide +kernel
theorem dX11_layNodes_44 : decode cX11_layNodes 44 = .ok (.ifCond .le 34, 3) := by decide +kernel
theorem dX11_layNodes_47 : decode cX11_layNodes 47 = .ok (.aload_n 0, 1) := by decide +kernel
theorem dX11_layNodes_48 : decode cX11_layNodes 48 = .ok (.getfield 41, 3) := by decide +kernel
theorem dX11_layNodes_51 : decode cX11_layNodes 51 = .ok (.iload_n 1, 1) := by decide +kernel
theorem dX11_layNodes_52 : decode cX11_layNodes 52 = .ok (.iaload, 1) := by decide +kernel
theorem dX11_layNodes_53 : decode cX11_layNodes 53 = .ok (.ifCond .le 25, 3) := by decide +kernel
theorem dX11_layNodes_56 : decode cX11_layNodes 56 = .ok (.aload_n 0, 1) := by decide +kernel
theorem dX11_layNodes_57 : decode cX11_layNodes 57 = .ok (.getfield 56, 3) := by decide +kernel
theorem dX11_layNodes_60 : decode cX11_layNodes 60 = .ok (.iload_n 2, 1) := by decide +kernel
theorem dX11_layNodes_61 : decode cX11_layNodes 61 = .ok (.iconst 1, 1) := by decide +kernel
theorem dX11_layNodes_62 : decode cX11_layNodes 62 = .ok (.bastore, 1) := by decide +kernel
theorem dX11_layNodes_63 : decode cX11_layNodes 63 = .ok (.aload_n 0, 1) := by decide +kernel
theorem dX11_layNodes_64 : decode cX11_layNodes 64 = .ok (.getfield 56, 3) := by decide +kernel
theorem dX11_layNodes_67 : decode cX11_layNodes 67 = .ok (.iconst 0, 1) := by decide +kernel
theorem dX11_layNodes_68 : decode cX11_layNodes 68 = .ok (.iconst 1, 1) := by decide +kernel
theorem dX11_layNodes_69 : decode cX11_layNodes 69 = .ok (.bastore, 1) := by decide +kernel
theorem dX11_layNodes_70 : decode cX11_layNodes 70 = .ok (.iload_n 2, 1) := by decide +kernel
theorem dX11_layNodes_71 : decode cX11_layNodes 71 = .ok (.bipush 7, 2) := by decide +kernel
theorem dX11_layNodes_73 : decode cX11_layNodes 73 = .ok (.idiv, 1) := by decide +kernel
theorem dX11_layNodes_74 : decode cX11_layNodes 74 = .ok (.istore_n 2, 1) := by decide +kernel
theorem dX11_layNodes_75 : decode cX11_layNodes 75 = .ok (.goto (-32), 3) := by decide +kernel
theorem dX11_layNodes_78 : decode cX11_layNodes 78 = .ok (.iinc 1 1, 3) := by decide +kernel
theorem dX11_layNodes_81 : decode cX11_layNodes 81 = .ok (.goto (-49), 3) := by decide +kernel
theorem dX11_layNodes_84 : decode cX11_layNodes 84 = .ok (.return_, 1) := by decide +kernel
theorem dX11_fitsSlots_0 : decode cX11_fitsSlots 0 = .ok (.iconst 1, 1) := by decide +kernel
theorem dX11_fitsSlots_1 : decode cX11_fitsSlots 1 = .ok (.istore_n 3, 1) := by decide +kernel
theorem dX11_fitsSlots_2 : decode cX11_fitsSlots 2 = .ok (.iconst 1, 1) := by decide +kernel
theorem dX11_fitsSlots_3 : decode cX11_fitsSlots 3 = .ok (.istore 4, 2) := by decide +kernel
theorem dX11_fitsSlots_5 : decode cX11_fitsSlots 5 = .ok (.iload 4, 2) := by decide +kernel
theorem dX11_fitsSlots_7 : decode cX11_fitsSlots 7 = .ok (.bipush 7, 2) := by decide +kernel
theorem dX11_fitsSlots_9 : decode cX11_fitsSlots 9 = .ok (.if_icmp .ge 60, 3) := by decide +kernel
theorem dX11_fitsSlots_12 : decode cX11_fitsSlots 12 = .ok (.bipush 7, 2) := by decide +kernel
theorem dX11_fitsSlots_14 : decode cX11_fitsSlots 14 = .ok (.iload_n 1, 1) := by decide +kernel
theorem dX11_fitsSlots_15 : decode cX11_fitsSlots 15 = .ok (.imul, 1) := by decide +kernel
theorem dX11_fitsSlots_16 : decode cX11_fitsSlots 16 = .ok (.iload 4, 2) := by decide +kernel
theorem dX11_fitsSlots_18 : decode cX11_fitsSlots 18 = .ok (.iadd, 1) := by decide +kernel
theorem dX11_fitsSlots_19 : decode cX11_fitsSlots 19 = .ok (.istore 5, 2) := by decide +kernel
theorem dX11_fitsSlots_21 : decode cX11_fitsSlots 21 = .ok (.iload_n 3, 1) := by decide +kernel
theorem dX11_fitsSlots_22 : decode cX11_fitsSlots 22 = .ok (.ifCond .eq 39, 3) := by decide +kernel
theorem dX11_fitsSlots_25 : decode cX11_fitsSlots 25 = .ok (.iload 5, 2) := by decide +kernel
theorem dX11_fitsSlots_27 : decode cX11_fitsSlots 27 = .ok (.sipush 343, 3) := by decide +kernel
theorem dX11_fitsSlots_30 : decode cX11_fitsSlots 30 = .ok (.if_icmp .ge 27, 3) := by decide +kernel
theorem dX11_fitsSlots_33 : decode cX11_fitsSlots 33 = .ok (.aload_n 0, 1) := by decide +kernel
theorem dX11_fitsSlots_34 : decode cX11_fitsSlots 34 = .ok (.getfield 56, 3) := by decide +kernel
theorem dX11_fitsSlots_37 : decode cX11_fitsSlots 37 = .ok (.iload 5, 2) := by decide +kernel
theorem dX11_fitsSlots_39 : decode cX11_fitsSlots 39 = .ok (.baload, 1) := by decide +kernel
theorem dX11_fitsSlots_40 : decode cX11_fitsSlots 40 = .ok (.ifCond .eq 17, 3) := by decide +kernel
theorem dX11_fitsSlots_43 : decode cX11_fitsSlots 43 = .ok (.aload_n 0, 1) := by decide +kernel
theorem dX11_fitsSlots_44 : decode cX11_fitsSlots 44 = .ok (.getfield 62, 3) := by decide +kernel
theorem dX11_fitsSlots_47 : decode cX11_fitsSlots 47 = .ok (.iload_n 2, 1) := by decide +kernel
theorem dX11_fitsSlots_48 : decode cX11_fitsSlots 48 = .ok (.iload 4, 2) := by decide +kernel
theorem dX11_fitsSlots_50 : decode cX11_fitsSlots 50 = .ok (.iadd, 1) := by decide +kernel
theorem dX11_fitsSlots_51 : decode cX11_fitsSlots 51 = .ok (.iaload, 1) := by decide +kernel
theorem dX11_fitsSlots_52 : decode cX11_fitsSlots 52 = .ok (.bipush (-9), 2) := by decide +kernel
theorem dX11_fitsSlots_54 : decode cX11_fitsSlots 54 = .ok (.if_icmp .ne 7, 3) := by decide +kernel
theorem dX11_fitsSlots_57 : decode cX11_fitsSlots 57 = .ok (.iconst 1, 1) := by decide +kernel
theorem dX11_fitsSlots_58 : decode cX11_fitsSlots 58 = .ok (.goto 4, 3) := by decide +kernel
theorem dX11_fitsSlots_61 : decode cX11_fitsSlots 61 = .ok (.iconst 0, 1) := by decide +kernel
theorem dX11_fitsSlots_62 : decode cX11_fitsSlots 62 = .ok (.istore_n 3, 1) := by decide +kernel
theorem dX11_fitsSlots_63 : decode cX11_fitsSlots 63 = .ok (.iinc 4 1, 3) := by decide +kernel
theorem dX11_fitsSlots_66 : decode cX11_fitsSlots 66 = .ok (.goto (-61), 3) := by decide +kernel
theorem dX11_fitsSlots_69 : decode cX11_fitsSlots 69 = .ok (.iload_n 3, 1) := by decide +kernel
theorem dX11_fitsSlots_70 : decode cX11_fitsSlots 70 = .ok (.ireturn, 1) := by decide +kernel
theorem dX11_packNode_0 : decode cX11_packNode 0 = .ok (.iconst 0, 1) := by decide +kernel
theorem dX11_packNode_1 : decode cX11_packNode 1 = .ok (.istore_n 2, 1) := by decide +kernel
theorem dX11_packNode_2 : decode cX11_packNode 2 = .ok (.iconst 1, 1) := by decide +kernel
theorem dX11_packNode_3 : decode cX11_packNode 3 = .ok (.istore_n 3, 1) := by decide +kernel
theorem dX11_packNode_4 : decode cX11_packNode 4 = .ok (.iload_n 3, 1) := by decide +kernel
theorem dX11_packNode_5 : decode cX11_packNode 5 = .ok (.bipush 7, 2) := by decide +kernel
theorem dX11_packNode_7 : decode cX11_packNode 7 = .ok (.if_icmp .ge 45, 3) := by decide +kernel
theorem dX11_packNode_10 : decode cX11_packNode 10 = .ok (.iload_n 2, 1) := by decide +kernel
theorem dX11_packNode_11 : decode cX11_packNode 11 = .ok (.ifCond .ne 29, 3) := by decide +kernel
theorem dX11_packNode_14 : decode cX11_packNode 14 = .ok (.bipush 7, 2) := by decide +kernel
theorem dX11_packNode_16 : decode cX11_packNode 16 = .ok (.iload_n 1, 1) := by decide +kernel
theorem dX11_packNode_17 : decode cX11_packNode 17 = .ok (.imul, 1) := by decide +kernel
theorem dX11_packNode_18 : decode cX11_packNode 18 = .ok (.iload_n 3, 1) := by decide +kernel
theorem dX11_packNode_19 : decode cX11_packNode 19 = .ok (.iadd, 1) := by decide +kernel
theorem dX11_packNode_20 : decode cX11_packNode 20 = .ok (.sipush 343, 3) := by decide +kernel
theorem dX11_packNode_23 : decode cX11_packNode 23 = .ok (.if_icmp .ge 21, 3) := by decide +kernel
theorem dX11_packNode_26 : decode cX11_packNode 26 = .ok (.aload_n 0, 1) := by decide +kernel
theorem dX11_packNode_27 : decode cX11_packNode 27 = .ok (.getfield 56, 3) := by decide +kernel
theorem dX11_packNode_30 : decode cX11_packNode 30 = .ok (.bipush 7, 2) := by decide +kernel
theorem dX11_packNode_32 : decode cX11_packNode 32 = .ok (.iload_n 1, 1) := by decide +kernel
theorem dX11_packNode_33 : decode cX11_packNode 33 = .ok (.imul, 1) := by decide +kernel
theorem dX11_packNode_34 : decode cX11_packNode 34 = .ok (.iload_n 3, 1) := by decide +kernel
theorem dX11_packNode_35 : decode cX11_packNode 35 = .ok (.iadd, 1) := by decide +kernel
theorem dX11_packNode_36 : decode cX11_packNode 36 = .ok (.baload, 1) := by decide +kernel
theorem dX11_packNode_37 : decode cX11_packNode 37 = .ok (.ifCond .eq 7, 3) := by decide +kernel
theorem dX11_packNode_40 : decode cX11_packNode 40 = .ok (.iconst 1, 1) := by decide +kernel
theorem dX11_packNode_41 : decode cX11_packNode 41 = .ok (.goto 4, 3) := by decide +kernel
theorem dX11_packNode_44 : decode cX11_packNode 44 = .ok (.iconst 0, 1) := by decide +kernel
theorem dX11_packNode_45 : decode cX11_packNode 45 = .ok (.istore_n 2, 1) := by decide +kernel
theorem dX11_packNode_46 : decode cX11_packNode 46 = .ok (.iinc 3 1, 3) := by decide +kernel
theorem dX11_packNode_49 : decode cX11_packNode 49 = .ok (.goto (-45), 3) := by decide +kernel
theorem dX11_packNode_52 : decode cX11_packNode 52 = .ok (.iload_n 2, 1) := by decide +kernel
theorem dX11_packNode_53 : decode cX11_packNode 53 = .ok (.ifCond .ne 4, 3) := by decide +kernel
theorem dX11_packNode_56 : decode cX11_packNode 56 = .ok (.return_, 1) := by decide +kernel
theorem dX11_packNode_57 : decode cX11_packNode 57 = .ok (.iconst 0, 1) := by decide +kernel
theorem dX11_packNode_58 : decode cX11_packNode 58 = .ok (.istore_n 3, 1) := by decide +kernel
theorem dX11_packNode_59 : decode cX11_packNode 59 = .ok (.aload_n 0, 1) := by decide +kernel
theorem dX11_packNode_60 : decode cX11_packNode 60 = .ok (.iload_n 1, 1) := by decide +kernel
theorem dX11_packNode_61 : decode cX11_packNode 61 = .ok (.iload_n 3, 1) := by decide +kernel
theorem dX11_packNode_62 : decode cX11_packNode 62 = .ok (.invokevirtual 152, 3) := by decide +kernel
theorem dX11_packNode_65 : decode cX11_packNode 65 = .ok (.ifCond .ne 9, 3) := by decide +kernel
theorem dX11_packNode_68 : decode cX11_packNode 68 = .ok (.iinc 3 1, 3) := by decide +kernel
theorem dX11_packNode_71 : decode cX11_packNode 71 = .ok (.goto (-12), 3) := by decide +kernel
theorem dX11_packNode_74 : decode cX11_packNode 74 = .ok (.aload_n 0, 1) := by decide +kernel
theorem dX11_packNode_75 : decode cX11_packNode 75 = .ok (.getfield 59, 3) := by decide +kernel
theorem dX11_packNode_78 : decode cX11_packNode 78 = .ok (.iload_n 1, 1) := by decide +kernel
theorem dX11_packNode_79 : decode cX11_packNode 79 = .ok (.iload_n 3, 1) := by decide +kernel
theorem dX11_packNode_80 : decode cX11_packNode 80 = .ok (.iastore, 1) := by decide +kernel
theorem dX11_packNode_81 : decode cX11_packNode 81 = .ok (.iconst 1, 1) := by decide +kernel
theorem dX11_packNode_82 : decode cX11_packNode 82 = .ok (.istore 4, 2) := by decide +kernel
theorem dX11_packNode_84 : decode cX11_packNode 84 = .ok (.iload 4, 2) := by decide +kernel
theorem dX11_packNode_86 : decode cX11_packNode 86 = .ok (.bipush 7, 2) := by decide +kernel
theorem dX11_packNode_88 : decode cX11_packNode 88 = .ok (.if_icmp .ge 53, 3) := by decide +kernel
theorem dX11_packNode_91 : decode cX11_packNode 91 = .ok (.bipush 7, 2) := by decide +kernel
theorem dX11_packNode_93 : decode cX11_packNode 93 = .ok (.iload_n 1, 1) := by decide +kernel
theorem dX11_packNode_94 : decode cX11_packNode 94 = .ok (.imul, 1) := by decide +kernel
theorem dX11_packNode_95 : decode cX11_packNode 95 = .ok (.iload 4, 2) := by decide +kernel
theorem dX11_packNode_97 : decode cX11_packNode 97 = .ok (.iadd, 1) := by decide +kernel
theorem dX11_packNode_98 : decode cX11_packNode 98 = .ok (.sipush 343, 3) := by decide +kernel
theorem dX11_packNode_101 : decode cX11_packNode 101 = .ok (.if_icmp .ge 34, 3) := by decide +kernel
theorem dX11_packNode_104 : decode cX11_packNode 104 = .ok (.aload_n 0, 1) := by decide +kernel
theorem dX11_packNode_105 : decode cX11_packNode 105 = .ok (.getfield 56, 3) := by decide +kernel
theorem dX11_packNode_108 : decode cX11_packNode 108 = .ok (.bipush 7, 2) := by decide +kernel
theorem dX11_packNode_110 : decode cX11_packNode 110 = .ok (.iload_n 1, 1) := by decide +kernel
theorem dX11_packNode_111 : decode cX11_packNode 111 = .ok (.imul, 1) := by decide +kernel
theorem dX11_packNode_112 : decode cX11_packNode 112 = .ok (.iload 4, 2) := by decide +kernel
theorem dX11_packNode_114 : decode cX11_packNode 114 = .ok (.iadd, 1) := by decide +kernel
theorem dX11_packNode_115 : decode cX11_packNode 115 = .ok (.baload, 1) := by decide +kernel
theorem dX11_packNode_116 : decode cX11_packNode 116 = .ok (.ifCond .eq 19, 3) := by decide +kernel
theorem dX11_packNode_119 : decode cX11_packNode 119 = .ok (.aload_n 0, 1) := by decide +kernel
theorem dX11_packNode_120 : decode cX11_packNode 120 = .ok (.getfield 62, 3) := by decide +kernel
theorem dX11_packNode_123 : decode cX11_packNode 123 = .ok (.iload_n 3, 1) := by decide +kernel
theorem dX11_packNode_124 : decode cX11_packNode 124 = .ok (.iload 4, 2) := by decide +kernel
theorem dX11_packNode_126 : decode cX11_packNode 126 = .ok (.iadd, 1) := by decide +kernel
theorem dX11_packNode_127 : decode cX11_packNode 127 = .ok (.bipush 7, 2) := by decide +kernel
theorem dX11_packNode_129 : decode cX11_packNode 129 = .ok (.iload_n 1, 1) := by decide +kernel
theorem dX11_packNode_130 : decode cX11_packNode 130 = .ok (.imul, 1) := by decide +kernel
theorem dX11_packNode_131 : decode cX11_packNode 131 = .ok (.iload 4, 2) := by decide +kernel
theorem dX11_packNode_133 : decode cX11_packNode 133 = .ok (.iadd, 1) := by decide +kernel
theorem dX11_packNode_134 : decode cX11_packNode 134 = .ok (.iastore, 1) := by decide +kernel
theorem dX11_packNode_135 : decode cX11_packNode 135 = .ok (.iinc 4 1, 3) := by decide +kernel
theorem dX11_packNode_138 : decode cX11_packNode 138 = .ok (.goto (-54), 3) := by decide +kernel
theorem dX11_packNode_141 : decode cX11_packNode 141 = .ok (.return_, 1) := by decide +kernel
theorem dX11_pack_0 : decode cX11_pack 0 = .ok (.aload_n 0, 1) := by decide +kernel
theorem dX11_pack_1 : decode cX11_pack 1 = .ok (.invokevirtual 155, 3) := by decide +kernel
theorem dX11_pack_4 : decode cX11_pack 4 = .ok (.iconst 0, 1) := by decide +kernel
theorem dX11_pack_5 : decode cX11_pack 5 = .ok (.istore_n 1, 1) := by decide +kernel
theorem dX11_pack_6 : decode cX11_pack 6 = .ok (.iload_n 1, 1) := by decide +kernel
theorem dX11_pack_7 : decode cX11_pack 7 = .ok (.sipush 1600, 3) := by decide +kernel
theorem dX11_pack_10 : decode cX11_pack 10 = .ok (.if_icmp .ge 17, 3) := by decide +kernel
theorem dX11_pack_13 : decode cX11_pack 13 = .ok (.aload_n 0, 1) := by decide +kernel
theorem dX11_pack_14 : decode cX11_pack 14 = .ok (.getfield 62, 3) := by decide +kernel
theorem dX11_pack_17 : decode cX11_pack 17 = .ok (.iload_n 1, 1) := by decide +kernel
theorem dX11_pack_18 : decode cX11_pack 18 = .ok (.bipush (-9), 2) := by decide +kernel
theorem dX11_pack_20 : decode cX11_pack 20 = .ok (.iastore, 1) := by decide +kernel
theorem dX11_pack_21 : decode cX11_pack 21 = .ok (.iinc 1 1, 3) := by decide +kernel
theorem dX11_pack_24 : decode cX11_pack 24 = .ok (.goto (-18), 3) := by decide +kernel
theorem dX11_pack_27 : decode cX11_pack 27 = .ok (.iconst 0, 1) := by decide +kernel
theorem dX11_pack_28 : decode cX11_pack 28 = .ok (.istore_n 1, 1) := by decide +kernel
theorem dX11_pack_29 : decode cX11_pack 29 = .ok (.iload_n 1, 1) := by decide +kernel
theorem dX11_pack_30 : decode cX11_pack 30 = .ok (.sipush 343, 3) := by decide +kernel
theorem dX11_pack_33 : decode cX11_pack 33 = .ok (.if_icmp .ge 23, 3) := by decide +kernel
theorem dX11_pack_36 : decode cX11_pack 36 = .ok (.aload_n 0, 1) := by decide +kernel
theorem dX11_pack_37 : decode cX11_pack 37 = .ok (.getfield 56, 3) := by decide +kernel
theorem dX11_pack_40 : decode cX11_pack 40 = .ok (.iload_n 1, 1) := by decide +kernel
theorem dX11_pack_41 : decode cX11_pack 41 = .ok (.baload, 1) := by decide +kernel
theorem dX11_pack_42 : decode cX11_pack 42 = .ok (.ifCond .eq 8, 3) := by decide +kernel
theorem dX11_pack_45 : decode cX11_pack 45 = .ok (.aload_n 0, 1) := by decide +kernel
theorem dX11_pack_46 : decode cX11_pack 46 = .ok (.iload_n 1, 1) := by decide +kernel
theorem dX11_pack_47 : decode cX11_pack 47 = .ok (.invokevirtual 158, 3) := by decide +kernel
theorem dX11_pack_50 : decode cX11_pack 50 = .ok (.iinc 1 1, 3) := by decide +kernel
theorem dX11_pack_53 : decode cX11_pack 53 = .ok (.goto (-24), 3) := by decide +kernel
theorem dX11_pack_56 : decode cX11_pack 56 = .ok (.return_, 1) := by decide +kernel
theorem dX11_nodes_0 : decode cX11_nodes 0 = .ok (.iconst 0, 1) := by decide +kernel
theorem dX11_nodes_1 : decode cX11_nodes 1 = .ok (.istore_n 1, 1) := by decide +kernel
theorem dX11_nodes_2 : decode cX11_nodes 2 = .ok (.iconst 0, 1) := by decide +kernel
theorem dX11_nodes_3 : decode cX11_nodes 3 = .ok (.istore_n 2, 1) := by decide +kernel
theorem dX11_nodes_4 : decode cX11_nodes 4 = .ok (.iload_n 2, 1) := by decide +kernel
theorem dX11_nodes_5 : decode cX11_nodes 5 = .ok (.sipush 343, 3) := by decide +kernel
theorem dX11_nodes_8 : decode cX11_nodes 8 = .ok (.if_icmp .ge 26, 3) := by decide +kernel
theorem dX11_nodes_11 : decode cX11_nodes 11 = .ok (.iload_n 1, 1) := by decide +kernel
theorem dX11_nodes_12 : decode cX11_nodes 12 = .ok (.aload_n 0, 1) := by decide +kernel
theorem dX11_nodes_13 : decode cX11_nodes 13 = .ok (.getfield 56, 3) := by decide +kernel
theorem dX11_nodes_16 : decode cX11_nodes 16 = .ok (.iload_n 2, 1) := by decide +kernel
theorem dX11_nodes_17 : decode cX11_nodes 17 = .ok (.baload, 1) := by decide +kernel
theorem dX11_nodes_18 : decode cX11_nodes 18 = .ok (.ifCond .eq 7, 3) := by decide +kernel
theorem dX11_nodes_21 : decode cX11_nodes 21 = .ok (.iconst 1, 1) := by decide +kernel
theorem dX11_nodes_22 : decode cX11_nodes 22 = .ok (.goto 4, 3) := by decide +kernel
theorem dX11_nodes_25 : decode cX11_nodes 25 = .ok (.iconst 0, 1) := by decide +kernel
theorem dX11_nodes_26 : decode cX11_nodes 26 = .ok (.iadd, 1) := by decide +kernel
theorem dX11_nodes_27 : decode cX11_nodes 27 = .ok (.istore_n 1, 1) := by decide +kernel
theorem dX11_nodes_28 : decode cX11_nodes 28 = .ok (.iinc 2 1, 3) := by decide +kernel
theorem dX11_nodes_31 : decode cX11_nodes 31 = .ok (.goto (-27), 3) := by decide +kernel
theorem dX11_nodes_34 : decode cX11_nodes 34 = .ok (.iload_n 1, 1) := by decide +kernel
theorem dX11_nodes_35 : decode cX11_nodes 35 = .ok (.ireturn, 1) := by decide +kernel
theorem dX11_slots_0 : decode cX11_slots 0 = .ok (.iconst 0, 1) := by decide +kernel
theorem dX11_slots_1 : decode cX11_slots 1 = .ok (.istore_n 1, 1) := by decide +kernel
theorem dX11_slots_2 : decode cX11_slots 2 = .ok (.iconst 0, 1) := by decide +kernel
theorem dX11_slots_3 : decode cX11_slots 3 = .ok (.istore_n 2, 1) := by decide +kernel
theorem dX11_slots_4 : decode cX11_slots 4 = .ok (.iload_n 2, 1) := by decide +kernel
theorem dX11_slots_5 : decode cX11_slots 5 = .ok (.sipush 1600, 3) := by decide +kernel
theorem dX11_slots_8 : decode cX11_slots 8 = .ok (.if_icmp .ge 28, 3) := by decide +kernel
theorem dX11_slots_11 : decode cX11_slots 11 = .ok (.aload_n 0, 1) := by decide +kernel
theorem dX11_slots_12 : decode cX11_slots 12 = .ok (.getfield 62, 3) := by decide +kernel
theorem dX11_slots_15 : decode cX11_slots 15 = .ok (.iload_n 2, 1) := by decide +kernel
theorem dX11_slots_16 : decode cX11_slots 16 = .ok (.iaload, 1) := by decide +kernel
theorem dX11_slots_17 : decode cX11_slots 17 = .ok (.bipush (-9), 2) := by decide +kernel
theorem dX11_slots_19 : decode cX11_slots 19 = .ok (.if_icmp .ne 7, 3) := by decide +kernel
theorem dX11_slots_22 : decode cX11_slots 22 = .ok (.iload_n 1, 1) := by decide +kernel
theorem dX11_slots_23 : decode cX11_slots 23 = .ok (.goto 6, 3) := by decide +kernel
theorem dX11_slots_26 : decode cX11_slots 26 = .ok (.iload_n 2, 1) := by decide +kernel
theorem dX11_slots_27 : decode cX11_slots 27 = .ok (.iconst 1, 1) := by decide +kernel
theorem dX11_slots_28 : decode cX11_slots 28 = .ok (.iadd, 1) := by decide +kernel
theorem dX11_slots_29 : decode cX11_slots 29 = .ok (.istore_n 1, 1) := by decide +kernel
theorem dX11_slots_30 : decode cX11_slots 30 = .ok (.iinc 2 1, 3) := by decide +kernel
theorem dX11_slots_33 : decode cX11_slots 33 = .ok (.goto (-29), 3) := by decide +kernel
theorem dX11_slots_36 : decode cX11_slots 36 = .ok (.iload_n 1, 1) := by decide +kernel
theorem dX11_slots_37 : decode cX11_slots 37 = .ok (.ireturn, 1) := by decide +kernel
theorem dX11_about_0 : decode cX11_about 0 = .ok (.aload_n 0, 1) := by decide +kernel
theorem dX11_about_1 : decode cX11_about 1 = .ok (.iconst 0, 1) := by decide +kernel
theorem dX11_about_2 : decode cX11_about 2 = .ok (.putfield 68, 3) := by decide +kernel
theorem dX11_about_5 : decode cX11_about 5 = .ok (.aload_n 0, 1) := by decide +kernel
theorem dX11_about_6 : decode cX11_about 6 = .ok (.aload_n 0, 1) := by decide +kernel
theorem dX11_about_7 : decode cX11_about 7 = .ok (.getfield 16, 3) := by decide +kernel
theorem dX11_about_10 : decode cX11_about 10 = .ok (.invokevirtual 161, 3) := by decide +kernel
theorem dX11_about_13 : decode cX11_about 13 = .ok (.aload_n 0, 1) := by decide +kernel
theorem dX11_about_14 : decode cX11_about 14 = .ok (.invokevirtual 164, 3) := by decide +kernel
theorem dX11_about_17 : decode cX11_about 17 = .ok (.iload_n 1, 1) := by decide +kernel
theorem dX11_about_18 : decode cX11_about 18 = .ok (.tableswitch 126 0 10 #[58, 65, 73, 82, 90, 96, 101, 106, 111, 116, 121], 58) := by decide +kernel
theorem dX11_about_76 : decode cX11_about 76 = .ok (.aload_n 0, 1) := by decide +kernel
theorem dX11_about_77 : decode cX11_about 77 = .ok (.getfield 16, 3) := by decide +kernel
theorem dX11_about_80 : decode cX11_about 80 = .ok (.iconst 0, 1) := by decide +kernel
theorem dX11_about_81 : decode cX11_about 81 = .ok (.iaload, 1) := by decide +kernel
theorem dX11_about_82 : decode cX11_about 82 = .ok (.ireturn, 1) := by decide +kernel
theorem dX11_about_83 : decode cX11_about 83 = .ok (.aload_n 0, 1) := by decide +kernel
theorem dX11_about_84 : decode cX11_about 84 = .ok (.getfield 16, 3) := by decide +kernel
theorem dX11_about_87 : decode cX11_about 87 = .ok (.invokestatic 167, 3) := by decide +kernel
theorem dX11_about_90 : decode cX11_about 90 = .ok (.ireturn, 1) := by decide +kernel
theorem dX11_about_91 : decode cX11_about 91 = .ok (.aload_n 0, 1) := by decide +kernel
theorem dX11_about_92 : decode cX11_about 92 = .ok (.aload_n 0, 1) := by decide +kernel
theorem dX11_about_93 : decode cX11_about 93 = .ok (.getfield 16, 3) := by decide +kernel
theorem dX11_about_96 : decode cX11_about 96 = .ok (.invokevirtual 171, 3) := by decide +kernel
theorem dX11_about_99 : decode cX11_about 99 = .ok (.ireturn, 1) := by decide +kernel
theorem dX11_about_100 : decode cX11_about 100 = .ok (.aload_n 0, 1) := by decide +kernel
theorem dX11_about_101 : decode cX11_about 101 = .ok (.getfield 16, 3) := by decide +kernel
theorem dX11_about_104 : decode cX11_about 104 = .ok (.bipush 21, 2) := by decide +kernel
theorem dX11_about_106 : decode cX11_about 106 = .ok (.iaload, 1) := by decide +kernel
theorem dX11_about_107 : decode cX11_about 107 = .ok (.ireturn, 1) := by decide +kernel
theorem dX11_about_108 : decode cX11_about 108 = .ok (.aload_n 0, 1) := by decide +kernel
theorem dX11_about_109 : decode cX11_about 109 = .ok (.iconst 0, 1) := by decide +kernel
theorem dX11_about_110 : decode cX11_about 110 = .ok (.invokevirtual 174, 3) := by decide +kernel
theorem dX11_about_113 : decode cX11_about 113 = .ok (.ireturn, 1) := by decide +kernel
theorem dX11_about_114 : decode cX11_about 114 = .ok (.aload_n 0, 1) := by decide +kernel
theorem dX11_about_115 : decode cX11_about 115 = .ok (.invokevirtual 177, 3) := by decide +kernel
theorem dX11_about_118 : decode cX11_about 118 = .ok (.ireturn, 1) := by decide +kernel
theorem dX11_about_119 : decode cX11_about 119 = .ok (.aload_n 0, 1) := by decide +kernel
theorem dX11_about_120 : decode cX11_about 120 = .ok (.invokevirtual 180, 3) := by decide +kernel
theorem dX11_about_123 : decode cX11_about 123 = .ok (.ireturn, 1) := by decide +kernel
theorem dX11_about_124 : decode cX11_about 124 = .ok (.aload_n 0, 1) := by decide +kernel
theorem dX11_about_125 : decode cX11_about 125 = .ok (.invokevirtual 183, 3) := by decide +kernel
theorem dX11_about_128 : decode cX11_about 128 = .ok (.ireturn, 1) := by decide +kernel
theorem dX11_about_129 : decode cX11_about 129 = .ok (.aload_n 0, 1) := by decide +kernel
theorem dX11_about_130 : decode cX11_about 130 = .ok (.getfield 99, 3) := by decide +kernel
theorem dX11_about_133 : decode cX11_about 133 = .ok (.ireturn, 1) := by decide +kernel
theorem dX11_about_134 : decode cX11_about 134 = .ok (.aload_n 0, 1) := by decide +kernel
theorem dX11_about_135 : decode cX11_about 135 = .ok (.getfield 186, 3) := by decide +kernel
theorem dX11_about_138 : decode cX11_about 138 = .ok (.ireturn, 1) := by decide +kernel
theorem dX11_about_139 : decode cX11_about 139 = .ok (.aload_n 0, 1) := by decide +kernel
theorem dX11_about_140 : decode cX11_about 140 = .ok (.getfield 86, 3) := by decide +kernel
theorem dX11_about_143 : decode cX11_about 143 = .ok (.ireturn, 1) := by decide +kernel
theorem dX11_about_144 : decode cX11_about 144 = .ok (.bipush (-2), 2) := by decide +kernel
theorem dX11_about_146 : decode cX11_about 146 = .ok (.ireturn, 1) := by decide +kernel
theorem dX11_word_0 : decode cX11_word 0 = .ok (.aload_n 0, 1) := by decide +kernel
theorem dX11_word_1 : decode cX11_word 1 = .ok (.iconst 0, 1) := by decide +kernel
theorem dX11_word_2 : decode cX11_word 2 = .ok (.putfield 68, 3) := by decide +kernel
theorem dX11_word_5 : decode cX11_word 5 = .ok (.aload_n 0, 1) := by decide +kernel
theorem dX11_word_6 : decode cX11_word 6 = .ok (.iload_n 1, 1) := by decide +kernel
theorem dX11_word_7 : decode cX11_word 7 = .ok (.invokevirtual 76, 3) := by decide +kernel
theorem dX11_word_10 : decode cX11_word 10 = .ok (.ifCond .eq 5, 3) := by decide +kernel
theorem dX11_word_13 : decode cX11_word 13 = .ok (.iconst (-1), 1) := by decide +kernel
theorem dX11_word_14 : decode cX11_word 14 = .ok (.ireturn, 1) := by decide +kernel
theorem dX11_word_15 : decode cX11_word 15 = .ok (.aload_n 0, 1) := by decide +kernel
theorem dX11_word_16 : decode cX11_word 16 = .ok (.aload_n 0, 1) := by decide +kernel
theorem dX11_word_17 : decode cX11_word 17 = .ok (.getfield 16, 3) := by decide +kernel
theorem dX11_word_20 : decode cX11_word 20 = .ok (.invokevirtual 161, 3) := by decide +kernel
theorem dX11_word_23 : decode cX11_word 23 = .ok (.iconst 0, 1) := by decide +kernel
theorem dX11_word_24 : decode cX11_word 24 = .ok (.istore_n 3, 1) := by decide +kernel
theorem dX11_word_25 : decode cX11_word 25 = .ok (.iconst 0, 1) := by decide +kernel
theorem dX11_word_26 : decode cX11_word 26 = .ok (.istore 4, 2) := by decide +kernel
theorem dX11_word_28 : decode cX11_word 28 = .ok (.iload 4, 2) := by decide +kernel
theorem dX11_word_30 : decode cX11_word 30 = .ok (.aload_n 0, 1) := by decide +kernel
theorem dX11_word_31 : decode cX11_word 31 = .ok (.getfield 16, 3) := by decide +kernel
theorem dX11_word_34 : decode cX11_word 34 = .ok (.iconst 1, 1) := by decide +kernel
theorem dX11_word_35 : decode cX11_word 35 = .ok (.iload_n 1, 1) := by decide +kernel
theorem dX11_word_36 : decode cX11_word 36 = .ok (.iadd, 1) := by decide +kernel
theorem dX11_word_37 : decode cX11_word 37 = .ok (.iaload, 1) := by decide +kernel
theorem dX11_word_38 : decode cX11_word 38 = .ok (.invokestatic 80, 3) := by decide +kernel
theorem dX11_word_41 : decode cX11_word 41 = .ok (.iconst 1, 1) := by decide +kernel
theorem dX11_word_42 : decode cX11_word 42 = .ok (.isub, 1) := by decide +kernel
theorem dX11_word_43 : decode cX11_word 43 = .ok (.if_icmp .ge 38, 3) := by decide +kernel
theorem dX11_word_46 : decode cX11_word 46 = .ok (.iload_n 3, 1) := by decide +kernel
theorem dX11_word_47 : decode cX11_word 47 = .ok (.aload_n 0, 1) := by decide +kernel
theorem dX11_word_48 : decode cX11_word 48 = .ok (.getfield 53, 3) := by decide +kernel
theorem dX11_word_51 : decode cX11_word 51 = .ok (.bipush 6, 2) := by decide +kernel
theorem dX11_word_53 : decode cX11_word 53 = .ok (.iload_n 1, 1) := by decide +kernel
theorem dX11_word_54 : decode cX11_word 54 = .ok (.imul, 1) := by decide +kernel
theorem dX11_word_55 : decode cX11_word 55 = .ok (.iload 4, 2) := by decide +kernel
theorem dX11_word_57 : decode cX11_word 57 = .ok (.iadd, 1) := by decide +kernel
theorem dX11_word_58 : decode cX11_word 58 = .ok (.iaload, 1) := by decide +kernel
theorem dX11_word_59 : decode cX11_word 59 = .ok (.iconst 2, 1) := by decide +kernel
theorem dX11_word_60 : decode cX11_word 60 = .ok (.irem, 1) := by decide +kernel
theorem dX11_word_61 : decode cX11_word 61 = .ok (.iconst 1, 1) := by decide +kernel
theorem dX11_word_62 : decode cX11_word 62 = .ok (.if_icmp .ne 10, 3) := by decide +kernel
theorem dX11_word_65 : decode cX11_word 65 = .ok (.iconst 1, 1) := by decide +kernel
theorem dX11_word_66 : decode cX11_word 66 = .ok (.iload 4, 2) := by decide +kernel
theorem dX11_word_68 : decode cX11_word 68 = .ok (.ishl, 1) := by decide +kernel
theorem dX11_word_69 : decode cX11_word 69 = .ok (.goto 4, 3) := by decide +kernel
theorem dX11_word_72 : decode cX11_word 72 = .ok (.iconst 0, 1) := by decide +kernel
theorem dX11_word_73 : decode cX11_word 73 = .ok (.ior, 1) := by decide +kernel
theorem dX11_word_74 : decode cX11_word 74 = .ok (.istore_n 3, 1) := by decide +kernel
theorem dX11_word_75 : decode cX11_word 75 = .ok (.iinc 4 1, 3) := by decide +kernel
theorem dX11_word_78 : decode cX11_word 78 = .ok (.goto (-50), 3) := by decide +kernel
theorem dX11_word_81 : decode cX11_word 81 = .ok (.iload_n 2, 1) := by decide +kernel
theorem dX11_word_82 : decode cX11_word 82 = .ok (.ifCond .ne 14, 3) := by decide +kernel
theorem dX11_word_85 : decode cX11_word 85 = .ok (.aload_n 0, 1) := by decide +kernel
theorem dX11_word_86 : decode cX11_word 86 = .ok (.getfield 16, 3) := by decide +kernel
theorem dX11_word_89 : decode cX11_word 89 = .ok (.iconst 1, 1) := by decide +kernel
theorem dX11_word_90 : decode cX11_word 90 = .ok (.iload_n 1, 1) := by decide +kernel
theorem dX11_word_91 : decode cX11_word 91 = .ok (.iadd, 1) := by decide +kernel
theorem dX11_word_92 : decode cX11_word 92 = .ok (.iaload, 1) := by decide +kernel
theorem dX11_word_93 : decode cX11_word 93 = .ok (.goto 31, 3) := by decide +kernel
theorem dX11_word_96 : decode cX11_word 96 = .ok (.iload_n 2, 1) := by decide +kernel
theorem dX11_word_97 : decode cX11_word 97 = .ok (.iconst 1, 1) := by decide +kernel
theorem dX11_word_98 : decode cX11_word 98 = .ok (.if_icmp .ne 15, 3) := by decide +kernel
theorem dX11_word_101 : decode cX11_word 101 = .ok (.aload_n 0, 1) := by decide +kernel
theorem dX11_word_102 : decode cX11_word 102 = .ok (.getfield 16, 3) := by decide +kernel
theorem dX11_word_105 : decode cX11_word 105 = .ok (.bipush 7, 2) := by decide +kernel
theorem dX11_word_107 : decode cX11_word 107 = .ok (.iload_n 1, 1) := by decide +kernel
theorem dX11_word_108 : decode cX11_word 108 = .ok (.iadd, 1) := by decide +kernel
theorem dX11_word_109 : decode cX11_word 109 = .ok (.iaload, 1) := by decide +kernel
theorem dX11_word_110 : decode cX11_word 110 = .ok (.goto 14, 3) := by decide +kernel
theorem dX11_word_113 : decode cX11_word 113 = .ok (.iload_n 2, 1) := by decide +kernel
theorem dX11_word_114 : decode cX11_word 114 = .ok (.iconst 2, 1) := by decide +kernel
theorem dX11_word_115 : decode cX11_word 115 = .ok (.if_icmp .ne 7, 3) := by decide +kernel
theorem dX11_word_118 : decode cX11_word 118 = .ok (.iload_n 3, 1) := by decide +kernel
theorem dX11_word_119 : decode cX11_word 119 = .ok (.goto 5, 3) := by decide +kernel
theorem dX11_word_122 : decode cX11_word 122 = .ok (.bipush (-2), 2) := by decide +kernel
theorem dX11_word_124 : decode cX11_word 124 = .ok (.ireturn, 1) := by decide +kernel
theorem dX11_digit_0 : decode cX11_digit 0 = .ok (.aload_n 0, 1) := by decide +kernel
theorem dX11_digit_1 : decode cX11_digit 1 = .ok (.iconst 0, 1) := by decide +kernel
theorem dX11_digit_2 : decode cX11_digit 2 = .ok (.putfield 68, 3) := by decide +kernel
theorem dX11_digit_5 : decode cX11_digit 5 = .ok (.aload_n 0, 1) := by decide +kernel
theorem dX11_digit_6 : decode cX11_digit 6 = .ok (.iload_n 1, 1) := by decide +kernel
theorem dX11_digit_7 : decode cX11_digit 7 = .ok (.iload_n 2, 1) := by decide +kernel
theorem dX11_digit_8 : decode cX11_digit 8 = .ok (.invokevirtual 189, 3) := by decide +kernel
theorem dX11_digit_11 : decode cX11_digit 11 = .ok (.ifCond .eq 5, 3) := by decide +kernel
theorem dX11_digit_14 : decode cX11_digit 14 = .ok (.iconst (-1), 1) := by decide +kernel
theorem dX11_digit_15 : decode cX11_digit 15 = .ok (.ireturn, 1) := by decide +kernel
theorem dX11_digit_16 : decode cX11_digit 16 = .ok (.aload_n 0, 1) := by decide +kernel
theorem dX11_digit_17 : decode cX11_digit 17 = .ok (.aload_n 0, 1) := by decide +kernel
theorem dX11_digit_18 : decode cX11_digit 18 = .ok (.getfield 16, 3) := by decide +kernel
theorem dX11_digit_21 : decode cX11_digit 21 = .ok (.invokevirtual 161, 3) := by decide +kernel
theorem dX11_digit_24 : decode cX11_digit 24 = .ok (.aload_n 0, 1) := by decide +kernel
theorem dX11_digit_25 : decode cX11_digit 25 = .ok (.getfield 53, 3) := by decide +kernel
theorem dX11_digit_28 : decode cX11_digit 28 = .ok (.bipush 6, 2) := by decide +kernel
theorem dX11_digit_30 : decode cX11_digit 30 = .ok (.iload_n 1, 1) := by decide +kernel
theorem dX11_digit_31 : decode cX11_digit 31 = .ok (.imul, 1) := by decide +kernel
theorem dX11_digit_32 : decode cX11_digit 32 = .ok (.iload_n 2, 1) := by decide +kernel
theorem dX11_digit_33 : decode cX11_digit 33 = .ok (.iadd, 1) := by decide +kernel
theorem dX11_digit_34 : decode cX11_digit 34 = .ok (.iaload, 1) := by decide +kernel
theorem dX11_digit_35 : decode cX11_digit 35 = .ok (.ireturn, 1) := by decide +kernel
theorem dX11_level_0 : decode cX11_level 0 = .ok (.aload_n 0, 1) := by decide +kernel
theorem dX11_level_1 : decode cX11_level 1 = .ok (.iconst 0, 1) := by decide +kernel
theorem dX11_level_2 : decode cX11_level 2 = .ok (.putfield 68, 3) := by decide +kernel
theorem dX11_level_5 : decode cX11_level 5 = .ok (.iload_n 1, 1) := by decide +kernel
theorem dX11_level_6 : decode cX11_level 6 = .ok (.i2l, 1) := by decide +kernel
theorem dX11_level_7 : decode cX11_level 7 = .ok (.lconst 1, 1) := by decide +kernel
theorem dX11_level_8 : decode cX11_level 8 = .ok (.ldc2_w 192, 3) := by decide +kernel
theorem dX11_level_11 : decode cX11_level 11 = .ok (.invokestatic 72, 3) := by decide +kernel
theorem dX11_level_14 : decode cX11_level 14 = .ok (.ifCond .ne 5, 3) := by decide +kernel
theorem dX11_level_17 : decode cX11_level 17 = .ok (.iconst (-1), 1) := by decide +kernel
theorem dX11_level_18 : decode cX11_level 18 = .ok (.ireturn, 1) := by decide +kernel
theorem dX11_level_19 : decode cX11_level 19 = .ok (.aload_n 0, 1) := by decide +kernel
theorem dX11_level_20 : decode cX11_level 20 = .ok (.aload_n 0, 1) := by decide +kernel
theorem dX11_level_21 : decode cX11_level 21 = .ok (.getfield 16, 3) := by decide +kernel
theorem dX11_level_24 : decode cX11_level 24 = .ok (.invokevirtual 161, 3) := by decide +kernel
theorem dX11_level_27 : decode cX11_level 27 = .ok (.iload_n 2, 1) := by decide +kernel
theorem dX11_level_28 : decode cX11_level 28 = .ok (.ifCond .ne 17, 3) := by decide +kernel
theorem dX11_level_31 : decode cX11_level 31 = .ok (.aload_n 0, 1) := by decide +kernel
theorem dX11_level_32 : decode cX11_level 32 = .ok (.getfield 16, 3) := by decide +kernel
theorem dX11_level_35 : decode cX11_level 35 = .ok (.bipush 13, 2) := by decide +kernel
theorem dX11_level_37 : decode cX11_level 37 = .ok (.iload_n 1, 1) := by decide +kernel
theorem dX11_level_38 : decode cX11_level 38 = .ok (.iadd, 1) := by decide +kernel
theorem dX11_level_39 : decode cX11_level 39 = .ok (.iconst 1, 1) := by decide +kernel
theorem dX11_level_40 : decode cX11_level 40 = .ok (.isub, 1) := by decide +kernel
theorem dX11_level_41 : decode cX11_level 41 = .ok (.iaload, 1) := by decide +kernel
theorem dX11_level_42 : decode cX11_level 42 = .ok (.goto 37, 3) := by decide +kernel
theorem dX11_level_45 : decode cX11_level 45 = .ok (.iload_n 2, 1) := by decide +kernel
theorem dX11_level_46 : decode cX11_level 46 = .ok (.iconst 1, 1) := by decide +kernel
theorem dX11_level_47 : decode cX11_level 47 = .ok (.if_icmp .ne 17, 3) := by decide +kernel
theorem dX11_level_50 : decode cX11_level 50 = .ok (.aload_n 0, 1) := by decide +kernel
theorem dX11_level_51 : decode cX11_level 51 = .ok (.getfield 16, 3) := by decide +kernel
theorem dX11_level_54 : decode cX11_level 54 = .ok (.bipush 17, 2) := by decide +kernel
theorem dX11_level_56 : decode cX11_level 56 = .ok (.iload_n 1, 1) := by decide +kernel
theorem dX11_level_57 : decode cX11_level 57 = .ok (.iadd, 1) := by decide +kernel
theorem dX11_level_58 : decode cX11_level 58 = .ok (.iconst 1, 1) := by decide +kernel
theorem dX11_level_59 : decode cX11_level 59 = .ok (.isub, 1) := by decide +kernel
theorem dX11_level_60 : decode cX11_level 60 = .ok (.iaload, 1) := by decide +kernel
theorem dX11_level_61 : decode cX11_level 61 = .ok (.goto 18, 3) := by decide +kernel
theorem dX11_level_64 : decode cX11_level 64 = .ok (.iload_n 2, 1) := by decide +kernel
theorem dX11_level_65 : decode cX11_level 65 = .ok (.iconst 2, 1) := by decide +kernel
theorem dX11_level_66 : decode cX11_level 66 = .ok (.if_icmp .ne 11, 3) := by decide +kernel
theorem dX11_level_69 : decode cX11_level 69 = .ok (.aload_n 0, 1) := by decide +kernel
theorem dX11_level_70 : decode cX11_level 70 = .ok (.iload_n 1, 1) := by decide +kernel
theorem dX11_level_71 : decode cX11_level 71 = .ok (.invokevirtual 174, 3) := by decide +kernel
theorem dX11_level_74 : decode cX11_level 74 = .ok (.goto 5, 3) := by decide +kernel
theorem dX11_level_77 : decode cX11_level 77 = .ok (.bipush (-2), 2) := by decide +kernel
theorem dX11_level_79 : decode cX11_level 79 = .ok (.ireturn, 1) := by decide +kernel
theorem dX11_areFigures_0 : decode cX11_areFigures 0 = .ok (.iload_n 0, 1) := by decide +kernel
theorem dX11_areFigures_1 : decode cX11_areFigures 1 = .ok (.ifCond .le 22, 3) := by decide +kernel
theorem dX11_areFigures_4 : decode cX11_areFigures 4 = .ok (.iload_n 0, 1) := by decide +kernel
theorem dX11_areFigures_5 : decode cX11_areFigures 5 = .ok (.invokestatic 80, 3) := by decide +kernel
theorem dX11_areFigures_8 : decode cX11_areFigures 8 = .ok (.i2l, 1) := by decide +kernel
theorem dX11_areFigures_9 : decode cX11_areFigures 9 = .ok (.iload_n 1, 1) := by decide +kernel
theorem dX11_areFigures_10 : decode cX11_areFigures 10 = .ok (.i2l, 1) := by decide +kernel
theorem dX11_areFigures_11 : decode cX11_areFigures 11 = .ok (.iload_n 2, 1) := by decide +kernel
theorem dX11_areFigures_12 : decode cX11_areFigures 12 = .ok (.i2l, 1) := by decide +kernel
theorem dX11_areFigures_13 : decode cX11_areFigures 13 = .ok (.invokestatic 72, 3) := by decide +kernel
theorem dX11_areFigures_16 : decode cX11_areFigures 16 = .ok (.ifCond .eq 7, 3) := by decide +kernel
theorem dX11_areFigures_19 : decode cX11_areFigures 19 = .ok (.iconst 1, 1) := by decide +kernel
theorem dX11_areFigures_20 : decode cX11_areFigures 20 = .ok (.goto 4, 3) := by decide +kernel
theorem dX11_areFigures_23 : decode cX11_areFigures 23 = .ok (.iconst 0, 1) := by decide +kernel
theorem dX11_areFigures_24 : decode cX11_areFigures 24 = .ok (.istore 4, 2) := by decide +kernel
theorem dX11_areFigures_26 : decode cX11_areFigures 26 = .ok (.iload_n 0, 1) := by decide +kernel
theorem dX11_areFigures_27 : decode cX11_areFigures 27 = .ok (.istore 5, 2) := by decide +kernel
theorem dX11_areFigures_29 : decode cX11_areFigures 29 = .ok (.iload 5, 2) := by decide +kernel
theorem dX11_areFigures_31 : decode cX11_areFigures 31 = .ok (.ifCond .le 40, 3) := by decide +kernel
theorem dX11_areFigures_34 : decode cX11_areFigures 34 = .ok (.iload 4, 2) := by decide +kernel
theorem dX11_areFigures_36 : decode cX11_areFigures 36 = .ok (.ifCond .eq 22, 3) := by decide +kernel
theorem dX11_areFigures_39 : decode cX11_areFigures 39 = .ok (.iload 5, 2) := by decide +kernel
theorem dX11_areFigures_41 : decode cX11_areFigures 41 = .ok (.bipush 10, 2) := by decide +kernel
theorem dX11_areFigures_43 : decode cX11_areFigures 43 = .ok (.irem, 1) := by decide +kernel
theorem dX11_areFigures_44 : decode cX11_areFigures 44 = .ok (.i2l, 1) := by decide +kernel
theorem dX11_areFigures_45 : decode cX11_areFigures 45 = .ok (.lconst 1, 1) := by decide +kernel
theorem dX11_areFigures_46 : decode cX11_areFigures 46 = .ok (.iload_n 3, 1) := by decide +kernel
theorem dX11_areFigures_47 : decode cX11_areFigures 47 = .ok (.i2l, 1) := by decide +kernel
theorem dX11_areFigures_48 : decode cX11_areFigures 48 = .ok (.invokestatic 72, 3) := by decide +kernel
theorem dX11_areFigures_51 : decode cX11_areFigures 51 = .ok (.ifCond .eq 7, 3) := by decide +kernel
theorem dX11_areFigures_54 : decode cX11_areFigures 54 = .ok (.iconst 1, 1) := by decide +kernel
theorem dX11_areFigures_55 : decode cX11_areFigures 55 = .ok (.goto 4, 3) := by decide +kernel
theorem dX11_areFigures_58 : decode cX11_areFigures 58 = .ok (.iconst 0, 1) := by decide +kernel
theorem dX11_areFigures_59 : decode cX11_areFigures 59 = .ok (.istore 4, 2) := by decide +kernel
theorem dX11_areFigures_61 : decode cX11_areFigures 61 = .ok (.iload 5, 2) := by decide +kernel
theorem dX11_areFigures_63 : decode cX11_areFigures 63 = .ok (.bipush 10, 2) := by decide +kernel
theorem dX11_areFigures_65 : decode cX11_areFigures 65 = .ok (.idiv, 1) := by decide +kernel
theorem dX11_areFigures_66 : decode cX11_areFigures 66 = .ok (.istore 5, 2) := by decide +kernel
theorem dX11_areFigures_68 : decode cX11_areFigures 68 = .ok (.goto (-39), 3) := by decide +kernel
theorem dX11_areFigures_71 : decode cX11_areFigures 71 = .ok (.iload 4, 2) := by decide +kernel
theorem dX11_areFigures_73 : decode cX11_areFigures 73 = .ok (.ireturn, 1) := by decide +kernel
theorem dX11_isString_0 : decode cX11_isString 0 = .ok (.iload_n 0, 1) := by decide +kernel
theorem dX11_isString_1 : decode cX11_isString 1 = .ok (.iconst 1, 1) := by decide +kernel
theorem dX11_isString_2 : decode cX11_isString 2 = .ok (.iconst 3, 1) := by decide +kernel
theorem dX11_isString_3 : decode cX11_isString 3 = .ok (.bipush 6, 2) := by decide +kernel
theorem dX11_isString_5 : decode cX11_isString 5 = .ok (.invokestatic 194, 3) := by decide +kernel
theorem dX11_isString_8 : decode cX11_isString 8 = .ok (.ifCond .eq 37, 3) := by decide +kernel
theorem dX11_isString_11 : decode cX11_isString 11 = .ok (.iload_n 0, 1) := by decide +kernel
theorem dX11_isString_12 : decode cX11_isString 12 = .ok (.bipush 6, 2) := by decide +kernel
theorem dX11_isString_14 : decode cX11_isString 14 = .ok (.if_icmp .eq 31, 3) := by decide +kernel
theorem dX11_isString_17 : decode cX11_isString 17 = .ok (.iload_n 0, 1) := by decide +kernel
theorem dX11_isString_18 : decode cX11_isString 18 = .ok (.bipush 66, 2) := by decide +kernel
theorem dX11_isString_20 : decode cX11_isString 20 = .ok (.if_icmp .eq 25, 3) := by decide +kernel
theorem dX11_isString_23 : decode cX11_isString 23 = .ok (.iload_n 0, 1) := by decide +kernel
theorem dX11_isString_24 : decode cX11_isString 24 = .ok (.bipush 100, 2) := by decide +kernel
theorem dX11_isString_26 : decode cX11_isString 26 = .ok (.if_icmp .lt 15, 3) := by decide +kernel
theorem dX11_isString_29 : decode cX11_isString 29 = .ok (.iload_n 0, 1) := by decide +kernel
theorem dX11_isString_30 : decode cX11_isString 30 = .ok (.bipush 10, 2) := by decide +kernel
theorem dX11_isString_32 : decode cX11_isString 32 = .ok (.idiv, 1) := by decide +kernel
theorem dX11_isString_33 : decode cX11_isString 33 = .ok (.bipush 10, 2) := by decide +kernel
theorem dX11_isString_35 : decode cX11_isString 35 = .ok (.irem, 1) := by decide +kernel
theorem dX11_isString_36 : decode cX11_isString 36 = .ok (.bipush 6, 2) := by decide +kernel
theorem dX11_isString_38 : decode cX11_isString 38 = .ok (.if_icmp .eq 7, 3) := by decide +kernel
theorem dX11_isString_41 : decode cX11_isString 41 = .ok (.iconst 1, 1) := by decide +kernel
theorem dX11_isString_42 : decode cX11_isString 42 = .ok (.goto 4, 3) := by decide +kernel
theorem dX11_isString_45 : decode cX11_isString 45 = .ok (.iconst 0, 1) := by decide +kernel
theorem dX11_isString_46 : decode cX11_isString 46 = .ok (.ireturn, 1) := by decide +kernel
theorem dX11_pattern_0 : decode cX11_pattern 0 = .ok (.aload_n 0, 1) := by decide +kernel
theorem dX11_pattern_1 : decode cX11_pattern 1 = .ok (.iconst 0, 1) := by decide +kernel
theorem dX11_pattern_2 : decode cX11_pattern 2 = .ok (.putfield 68, 3) := by decide +kernel
theorem dX11_pattern_5 : decode cX11_pattern 5 = .ok (.iload_n 1, 1) := by decide +kernel
theorem dX11_pattern_6 : decode cX11_pattern 6 = .ok (.invokestatic 197, 3) := by decide +kernel
theorem dX11_pattern_9 : decode cX11_pattern 9 = .ok (.ifCond .eq 17, 3) := by decide +kernel
theorem dX11_pattern_12 : decode cX11_pattern 12 = .ok (.iload_n 2, 1) := by decide +kernel
theorem dX11_pattern_13 : decode cX11_pattern 13 = .ok (.i2l, 1) := by decide +kernel
theorem dX11_pattern_14 : decode cX11_pattern 14 = .ok (.lconst 0, 1) := by decide +kernel
theorem dX11_pattern_15 : decode cX11_pattern 15 = .ok (.iload_n 1, 1) := by decide +kernel
theorem dX11_pattern_16 : decode cX11_pattern 16 = .ok (.invokestatic 80, 3) := by decide +kernel
theorem dX11_pattern_19 : decode cX11_pattern 19 = .ok (.i2l, 1) := by decide +kernel
theorem dX11_pattern_20 : decode cX11_pattern 20 = .ok (.invokestatic 72, 3) := by decide +kernel
theorem dX11_pattern_23 : decode cX11_pattern 23 = .ok (.ifCond .ne 6, 3) := by decide +kernel
theorem dX11_pattern_26 : decode cX11_pattern 26 = .ok (.bipush (-2), 2) := by decide +kernel
theorem dX11_pattern_28 : decode cX11_pattern 28 = .ok (.ireturn, 1) := by decide +kernel
theorem dX11_pattern_29 : decode cX11_pattern 29 = .ok (.aload_n 0, 1) := by decide +kernel
theorem dX11_pattern_30 : decode cX11_pattern 30 = .ok (.aload_n 0, 1) := by decide +kernel
theorem dX11_pattern_31 : decode cX11_pattern 31 = .ok (.getfield 16, 3) := by decide +kernel
theorem dX11_pattern_34 : decode cX11_pattern 34 = .ok (.invokevirtual 161, 3) := by decide +kernel
theorem dX11_pattern_37 : decode cX11_pattern 37 = .ok (.aload_n 0, 1) := by decide +kernel
theorem dX11_pattern_38 : decode cX11_pattern 38 = .ok (.getfield 41, 3) := by decide +kernel
theorem dX11_pattern_41 : decode cX11_pattern 41 = .ok (.iconst 4, 1) := by decide +kernel
theorem dX11_pattern_42 : decode cX11_pattern 42 = .ok (.iload_n 1, 1) := by decide +kernel
theorem dX11_pattern_43 : decode cX11_pattern 43 = .ok (.invokestatic 200, 3) := by decide +kernel
theorem dX11_pattern_46 : decode cX11_pattern 46 = .ok (.imul, 1) := by decide +kernel
theorem dX11_pattern_47 : decode cX11_pattern 47 = .ok (.iload_n 2, 1) := by decide +kernel
theorem dX11_pattern_48 : decode cX11_pattern 48 = .ok (.iadd, 1) := by decide +kernel
theorem dX11_pattern_49 : decode cX11_pattern 49 = .ok (.iaload, 1) := by decide +kernel
theorem dX11_pattern_50 : decode cX11_pattern 50 = .ok (.ireturn, 1) := by decide +kernel
theorem dX11_note_0 : decode cX11_note 0 = .ok (.aload_n 0, 1) := by decide +kernel
theorem dX11_note_1 : decode cX11_note 1 = .ok (.getfield 99, 3) := by decide +kernel
theorem dX11_note_4 : decode cX11_note 4 = .ok (.bipush 14, 2) := by decide +kernel
theorem dX11_note_6 : decode cX11_note 6 = .ok (.if_icmp .ne 43, 3) := by decide +kernel
theorem dX11_note_9 : decode cX11_note 9 = .ok (.iconst 0, 1) := by decide +kernel
theorem dX11_note_10 : decode cX11_note 10 = .ok (.istore_n 1, 1) := by decide +kernel
theorem dX11_note_11 : decode cX11_note 11 = .ok (.iload_n 1, 1) := by decide +kernel
theorem dX11_note_12 : decode cX11_note 12 = .ok (.sipush 286, 3) := by decide +kernel
theorem dX11_note_15 : decode cX11_note 15 = .ok (.if_icmp .ge 24, 3) := by decide +kernel
theorem dX11_note_18 : decode cX11_note 18 = .ok (.aload_n 0, 1) := by decide +kernel
theorem dX11_note_19 : decode cX11_note 19 = .ok (.getfield 22, 3) := by decide +kernel
theorem dX11_note_22 : decode cX11_note 22 = .ok (.iload_n 1, 1) := by decide +kernel
theorem dX11_note_23 : decode cX11_note 23 = .ok (.aload_n 0, 1) := by decide +kernel
theorem dX11_note_24 : decode cX11_note 24 = .ok (.getfield 22, 3) := by decide +kernel
theorem dX11_note_27 : decode cX11_note 27 = .ok (.iload_n 1, 1) := by decide +kernel
theorem dX11_note_28 : decode cX11_note 28 = .ok (.bipush 22, 2) := by decide +kernel
theorem dX11_note_30 : decode cX11_note 30 = .ok (.iadd, 1) := by decide +kernel
theorem dX11_note_31 : decode cX11_note 31 = .ok (.iaload, 1) := by decide +kernel
theorem dX11_note_32 : decode cX11_note 32 = .ok (.iastore, 1) := by decide +kernel
theorem dX11_note_33 : decode cX11_note 33 = .ok (.iinc 1 1, 3) := by decide +kernel
theorem dX11_note_36 : decode cX11_note 36 = .ok (.goto (-25), 3) := by decide +kernel
theorem dX11_note_39 : decode cX11_note 39 = .ok (.aload_n 0, 1) := by decide +kernel
theorem dX11_note_40 : decode cX11_note 40 = .ok (.dup, 1) := by decide +kernel
theorem dX11_note_41 : decode cX11_note 41 = .ok (.getfield 99, 3) := by decide +kernel
theorem dX11_note_44 : decode cX11_note 44 = .ok (.iconst 1, 1) := by decide +kernel
theorem dX11_note_45 : decode cX11_note 45 = .ok (.isub, 1) := by decide +kernel
theorem dX11_note_46 : decode cX11_note 46 = .ok (.putfield 99, 3) := by decide +kernel
theorem dX11_note_49 : decode cX11_note 49 = .ok (.iconst 0, 1) := by decide +kernel
theorem dX11_note_50 : decode cX11_note 50 = .ok (.istore_n 1, 1) := by decide +kernel
theorem dX11_note_51 : decode cX11_note 51 = .ok (.iload_n 1, 1) := by decide +kernel
theorem dX11_note_52 : decode cX11_note 52 = .ok (.bipush 22, 2) := by decide +kernel
theorem dX11_note_54 : decode cX11_note 54 = .ok (.if_icmp .ge 29, 3) := by decide +kernel
theorem dX11_note_57 : decode cX11_note 57 = .ok (.aload_n 0, 1) := by decide +kernel
theorem dX11_note_58 : decode cX11_note 58 = .ok (.getfield 22, 3) := by decide +kernel
theorem dX11_note_61 : decode cX11_note 61 = .ok (.bipush 22, 2) := by decide +kernel
theorem dX11_note_63 : decode cX11_note 63 = .ok (.aload_n 0, 1) := by decide +kernel
theorem dX11_note_64 : decode cX11_note 64 = .ok (.getfield 99, 3) := by decide +kernel
theorem dX11_note_67 : decode cX11_note 67 = .ok (.imul, 1) := by decide +kernel
theorem dX11_note_68 : decode cX11_note 68 = .ok (.iload_n 1, 1) := by decide +kernel
theorem dX11_note_69 : decode cX11_note 69 = .ok (.iadd, 1) := by decide +kernel
theorem dX11_note_70 : decode cX11_note 70 = .ok (.aload_n 0, 1) := by decide +kernel
theorem dX11_note_71 : decode cX11_note 71 = .ok (.getfield 16, 3) := by decide +kernel
theorem dX11_note_74 : decode cX11_note 74 = .ok (.iload_n 1, 1) := by decide +kernel
theorem dX11_note_75 : decode cX11_note 75 = .ok (.iaload, 1) := by decide +kernel
theorem dX11_note_76 : decode cX11_note 76 = .ok (.iastore, 1) := by decide +kernel
theorem dX11_note_77 : decode cX11_note 77 = .ok (.iinc 1 1, 3) := by decide +kernel
theorem dX11_note_80 : decode cX11_note 80 = .ok (.goto (-29), 3) := by decide +kernel
theorem dX11_note_83 : decode cX11_note 83 = .ok (.aload_n 0, 1) := by decide +kernel
theorem dX11_note_84 : decode cX11_note 84 = .ok (.dup, 1) := by decide +kernel
theorem dX11_note_85 : decode cX11_note 85 = .ok (.getfield 99, 3) := by decide +kernel
theorem dX11_note_88 : decode cX11_note 88 = .ok (.iconst 1, 1) := by decide +kernel
theorem dX11_note_89 : decode cX11_note 89 = .ok (.iadd, 1) := by decide +kernel
theorem dX11_note_90 : decode cX11_note 90 = .ok (.putfield 99, 3) := by decide +kernel
theorem dX11_note_93 : decode cX11_note 93 = .ok (.return_, 1) := by decide +kernel
theorem dX11_add_0 : decode cX11_add 0 = .ok (.aload_n 0, 1) := by decide +kernel
theorem dX11_add_1 : decode cX11_add 1 = .ok (.iconst 0, 1) := by decide +kernel
theorem dX11_add_2 : decode cX11_add 2 = .ok (.putfield 68, 3) := by decide +kernel
theorem dX11_add_5 : decode cX11_add 5 = .ok (.iload_n 1, 1) := by decide +kernel
theorem dX11_add_6 : decode cX11_add 6 = .ok (.iconst 2, 1) := by decide +kernel
theorem dX11_add_7 : decode cX11_add 7 = .ok (.bipush 6, 2) := by decide +kernel
theorem dX11_add_9 : decode cX11_add 9 = .ok (.iconst 5, 1) := by decide +kernel
theorem dX11_add_10 : decode cX11_add 10 = .ok (.invokestatic 194, 3) := by decide +kernel
theorem dX11_add_13 : decode cX11_add 13 = .ok (.ifCond .eq 23, 3) := by decide +kernel
theorem dX11_add_16 : decode cX11_add 16 = .ok (.iload_n 2, 1) := by decide +kernel
theorem dX11_add_17 : decode cX11_add 17 = .ok (.i2l, 1) := by decide +kernel
theorem dX11_add_18 : decode cX11_add 18 = .ok (.lconst 0, 1) := by decide +kernel
theorem dX11_add_19 : decode cX11_add 19 = .ok (.iconst 1, 1) := by decide +kernel
theorem dX11_add_20 : decode cX11_add 20 = .ok (.iload_n 1, 1) := by decide +kernel
theorem dX11_add_21 : decode cX11_add 21 = .ok (.invokestatic 80, 3) := by decide +kernel
theorem dX11_add_24 : decode cX11_add 24 = .ok (.iconst 1, 1) := by decide +kernel
theorem dX11_add_25 : decode cX11_add 25 = .ok (.isub, 1) := by decide +kernel
theorem dX11_add_26 : decode cX11_add 26 = .ok (.ishl, 1) := by decide +kernel
theorem dX11_add_27 : decode cX11_add 27 = .ok (.iconst 1, 1) := by decide +kernel
theorem dX11_add_28 : decode cX11_add 28 = .ok (.isub, 1) := by decide +kernel
theorem dX11_add_29 : decode cX11_add 29 = .ok (.i2l, 1) := by decide +kernel
theorem dX11_add_30 : decode cX11_add 30 = .ok (.invokestatic 72, 3) := by decide +kernel
theorem dX11_add_33 : decode cX11_add 33 = .ok (.ifCond .ne 6, 3) := by decide +kernel
theorem dX11_add_36 : decode cX11_add 36 = .ok (.bipush (-2), 2) := by decide +kernel
theorem dX11_add_38 : decode cX11_add 38 = .ok (.ireturn, 1) := by decide +kernel
theorem dX11_add_39 : decode cX11_add 39 = .ok (.aload_n 0, 1) := by decide +kernel
theorem dX11_add_40 : decode cX11_add 40 = .ok (.getfield 16, 3) := by decide +kernel
theorem dX11_add_43 : decode cX11_add 43 = .ok (.iconst 0, 1) := by decide +kernel
theorem dX11_add_44 : decode cX11_add 44 = .ok (.iaload, 1) := by decide +kernel
theorem dX11_add_45 : decode cX11_add 45 = .ok (.bipush 6, 2) := by decide +kernel
theorem dX11_add_47 : decode cX11_add 47 = .ok (.if_icmp .ne 6, 3) := by decide +kernel
theorem dX11_add_50 : decode cX11_add 50 = .ok (.bipush (-4), 2) := by decide +kernel
theorem dX11_add_52 : decode cX11_add 52 = .ok (.ireturn, 1) := by decide +kernel
theorem dX11_add_53 : decode cX11_add 53 = .ok (.aload_n 0, 1) := by decide +kernel
theorem dX11_add_54 : decode cX11_add 54 = .ok (.invokevirtual 203, 3) := by decide +kernel
theorem dX11_add_57 : decode cX11_add 57 = .ok (.aload_n 0, 1) := by decide +kernel
theorem dX11_add_58 : decode cX11_add 58 = .ok (.getfield 16, 3) := by decide +kernel
theorem dX11_add_61 : decode cX11_add 61 = .ok (.iconst 1, 1) := by decide +kernel
theorem dX11_add_62 : decode cX11_add 62 = .ok (.aload_n 0, 1) := by decide +kernel
theorem dX11_add_63 : decode cX11_add 63 = .ok (.getfield 16, 3) := by decide +kernel
theorem dX11_add_66 : decode cX11_add 66 = .ok (.iconst 0, 1) := by decide +kernel
theorem dX11_add_67 : decode cX11_add 67 = .ok (.iaload, 1) := by decide +kernel
theorem dX11_add_68 : decode cX11_add 68 = .ok (.iadd, 1) := by decide +kernel
theorem dX11_add_69 : decode cX11_add 69 = .ok (.iload_n 1, 1) := by decide +kernel
theorem dX11_add_70 : decode cX11_add 70 = .ok (.iastore, 1) := by decide +kernel
theorem dX11_add_71 : decode cX11_add 71 = .ok (.aload_n 0, 1) := by decide +kernel
theorem dX11_add_72 : decode cX11_add 72 = .ok (.getfield 16, 3) := by decide +kernel
theorem dX11_add_75 : decode cX11_add 75 = .ok (.bipush 7, 2) := by decide +kernel
theorem dX11_add_77 : decode cX11_add 77 = .ok (.aload_n 0, 1) := by decide +kernel
theorem dX11_add_78 : decode cX11_add 78 = .ok (.getfield 16, 3) := by decide +kernel
theorem dX11_add_81 : decode cX11_add 81 = .ok (.iconst 0, 1) := by decide +kernel
theorem dX11_add_82 : decode cX11_add 82 = .ok (.iaload, 1) := by decide +kernel
theorem dX11_add_83 : decode cX11_add 83 = .ok (.iadd, 1) := by decide +kernel
theorem dX11_add_84 : decode cX11_add 84 = .ok (.iload_n 2, 1) := by decide +kernel
theorem dX11_add_85 : decode cX11_add 85 = .ok (.iastore, 1) := by decide +kernel
theorem dX11_add_86 : decode cX11_add 86 = .ok (.aload_n 0, 1) := by decide +kernel
theorem dX11_add_87 : decode cX11_add 87 = .ok (.getfield 16, 3) := by decide +kernel
theorem dX11_add_90 : decode cX11_add 90 = .ok (.iconst 0, 1) := by decide +kernel
theorem dX11_add_91 : decode cX11_add 91 = .ok (.dup2, 1) := by decide +kernel
theorem dX11_add_92 : decode cX11_add 92 = .ok (.iaload, 1) := by decide +kernel
theorem dX11_add_93 : decode cX11_add 93 = .ok (.iconst 1, 1) := by decide +kernel
theorem dX11_add_94 : decode cX11_add 94 = .ok (.iadd, 1) := by decide +kernel
theorem dX11_add_95 : decode cX11_add 95 = .ok (.iastore, 1) := by decide +kernel
theorem dX11_add_96 : decode cX11_add 96 = .ok (.aload_n 0, 1) := by decide +kernel
theorem dX11_add_97 : decode cX11_add 97 = .ok (.getfield 16, 3) := by decide +kernel
theorem dX11_add_100 : decode cX11_add 100 = .ok (.iconst 0, 1) := by decide +kernel
theorem dX11_add_101 : decode cX11_add 101 = .ok (.iaload, 1) := by decide +kernel
theorem dX11_add_102 : decode cX11_add 102 = .ok (.ireturn, 1) := by decide +kernel
theorem dX11_drop_0 : decode cX11_drop 0 = .ok (.aload_n 0, 1) := by decide +kernel
theorem dX11_drop_1 : decode cX11_drop 1 = .ok (.iconst 0, 1) := by decide +kernel
theorem dX11_drop_2 : decode cX11_drop 2 = .ok (.putfield 68, 3) := by decide +kernel
theorem dX11_drop_5 : decode cX11_drop 5 = .ok (.aload_n 0, 1) := by decide +kernel
theorem dX11_drop_6 : decode cX11_drop 6 = .ok (.iload_n 1, 1) := by decide +kernel
theorem dX11_drop_7 : decode cX11_drop 7 = .ok (.invokevirtual 76, 3) := by decide +kernel
theorem dX11_drop_10 : decode cX11_drop 10 = .ok (.ifCond .eq 5, 3) := by decide +kernel
theorem dX11_drop_13 : decode cX11_drop 13 = .ok (.iconst (-1), 1) := by decide +kernel
theorem dX11_drop_14 : decode cX11_drop 14 = .ok (.ireturn, 1) := by decide +kernel
theorem dX11_drop_15 : decode cX11_drop 15 = .ok (.aload_n 0, 1) := by decide +kernel
theorem dX11_drop_16 : decode cX11_drop 16 = .ok (.invokevirtual 203, 3) := by decide +kernel
theorem dX11_drop_19 : decode cX11_drop 19 = .ok (.aload_n 0, 1) := by decide +kernel
theorem dX11_drop_20 : decode cX11_drop 20 = .ok (.getfield 16, 3) := by decide +kernel
theorem dX11_drop_23 : decode cX11_drop 23 = .ok (.iconst 1, 1) := by decide +kernel
theorem dX11_drop_24 : decode cX11_drop 24 = .ok (.iload_n 1, 1) := by decide +kernel
theorem dX11_drop_25 : decode cX11_drop 25 = .ok (.iadd, 1) := by decide +kernel
theorem dX11_drop_26 : decode cX11_drop 26 = .ok (.iaload, 1) := by decide +kernel
theorem dX11_drop_27 : decode cX11_drop 27 = .ok (.istore_n 2, 1) := by decide +kernel
theorem dX11_drop_28 : decode cX11_drop 28 = .ok (.aload_n 0, 1) := by decide +kernel
theorem dX11_drop_29 : decode cX11_drop 29 = .ok (.getfield 16, 3) := by decide +kernel
theorem dX11_drop_32 : decode cX11_drop 32 = .ok (.iconst 0, 1) := by decide +kernel
theorem dX11_drop_33 : decode cX11_drop 33 = .ok (.dup2, 1) := by decide +kernel
theorem dX11_drop_34 : decode cX11_drop 34 = .ok (.iaload, 1) := by decide +kernel
theorem dX11_drop_35 : decode cX11_drop 35 = .ok (.iconst 1, 1) := by decide +kernel
theorem dX11_drop_36 : decode cX11_drop 36 = .ok (.isub, 1) := by decide +kernel
theorem dX11_drop_37 : decode cX11_drop 37 = .ok (.iastore, 1) := by decide +kernel
theorem dX11_drop_38 : decode cX11_drop 38 = .ok (.iload_n 1, 1) := by decide +kernel
theorem dX11_drop_39 : decode cX11_drop 39 = .ok (.istore_n 3, 1) := by decide +kernel
theorem dX11_drop_40 : decode cX11_drop 40 = .ok (.iload_n 3, 1) := by decide +kernel
theorem dX11_drop_41 : decode cX11_drop 41 = .ok (.aload_n 0, 1) := by decide +kernel
theorem dX11_drop_42 : decode cX11_drop 42 = .ok (.getfield 16, 3) := by decide +kernel
theorem dX11_drop_45 : decode cX11_drop 45 = .ok (.iconst 0, 1) := by decide +kernel
theorem dX11_drop_46 : decode cX11_drop 46 = .ok (.iaload, 1) := by decide +kernel
theorem dX11_drop_47 : decode cX11_drop 47 = .ok (.if_icmp .ge 47, 3) := by decide +kernel
theorem dX11_drop_50 : decode cX11_drop 50 = .ok (.aload_n 0, 1) := by decide +kernel
theorem dX11_drop_51 : decode cX11_drop 51 = .ok (.getfield 16, 3) := by decide +kernel
theorem dX11_drop_54 : decode cX11_drop 54 = .ok (.iconst 1, 1) := by decide +kernel
theorem dX11_drop_55 : decode cX11_drop 55 = .ok (.iload_n 3, 1) := by decide +kernel
theorem dX11_drop_56 : decode cX11_drop 56 = .ok (.iadd, 1) := by decide +kernel
theorem dX11_drop_57 : decode cX11_drop 57 = .ok (.aload_n 0, 1) := by decide +kernel
theorem dX11_drop_58 : decode cX11_drop 58 = .ok (.getfield 16, 3) := by decide +kernel
theorem dX11_drop_61 : decode cX11_drop 61 = .ok (.iconst 1, 1) := by decide +kernel
theorem dX11_drop_62 : decode cX11_drop 62 = .ok (.iload_n 3, 1) := by decide +kernel
theorem dX11_drop_63 : decode cX11_drop 63 = .ok (.iadd, 1) := by decide +kernel
theorem dX11_drop_64 : decode cX11_drop 64 = .ok (.iconst 1, 1) := by decide +kernel
theorem dX11_drop_65 : decode cX11_drop 65 = .ok (.iadd, 1) := by decide +kernel
theorem dX11_drop_66 : decode cX11_drop 66 = .ok (.iaload, 1) := by decide +kernel
theorem dX11_drop_67 : decode cX11_drop 67 = .ok (.iastore, 1) := by decide +kernel
theorem dX11_drop_68 : decode cX11_drop 68 = .ok (.aload_n 0, 1) := by decide +kernel
theorem dX11_drop_69 : decode cX11_drop 69 = .ok (.getfield 16, 3) := by decide +kernel
theorem dX11_drop_72 : decode cX11_drop 72 = .ok (.bipush 7, 2) := by decide +kernel
theorem dX11_drop_74 : decode cX11_drop 74 = .ok (.iload_n 3, 1) := by decide +kernel
theorem dX11_drop_75 : decode cX11_drop 75 = .ok (.iadd, 1) := by decide +kernel
theorem dX11_drop_76 : decode cX11_drop 76 = .ok (.aload_n 0, 1) := by decide +kernel
theorem dX11_drop_77 : decode cX11_drop 77 = .ok (.getfield 16, 3) := by decide +kernel
theorem dX11_drop_80 : decode cX11_drop 80 = .ok (.bipush 7, 2) := by decide +kernel
theorem dX11_drop_82 : decode cX11_drop 82 = .ok (.iload_n 3, 1) := by decide +kernel
theorem dX11_drop_83 : decode cX11_drop 83 = .ok (.iadd, 1) := by decide +kernel
theorem dX11_drop_84 : decode cX11_drop 84 = .ok (.iconst 1, 1) := by decide +kernel
theorem dX11_drop_85 : decode cX11_drop 85 = .ok (.iadd, 1) := by decide +kernel
theorem dX11_drop_86 : decode cX11_drop 86 = .ok (.iaload, 1) := by decide +kernel
theorem dX11_drop_87 : decode cX11_drop 87 = .ok (.iastore, 1) := by decide +kernel
theorem dX11_drop_88 : decode cX11_drop 88 = .ok (.iinc 3 1, 3) := by decide +kernel
theorem dX11_drop_91 : decode cX11_drop 91 = .ok (.goto (-51), 3) := by decide +kernel
theorem dX11_drop_94 : decode cX11_drop 94 = .ok (.iload_n 2, 1) := by decide +kernel
theorem dX11_drop_95 : decode cX11_drop 95 = .ok (.ireturn, 1) := by decide +kernel
theorem dX11_turn_0 : decode cX11_turn 0 = .ok (.aload_n 0, 1) := by decide +kernel
theorem dX11_turn_1 : decode cX11_turn 1 = .ok (.iconst 0, 1) := by decide +kernel
theorem dX11_turn_2 : decode cX11_turn 2 = .ok (.putfield 68, 3) := by decide +kernel
theorem dX11_turn_5 : decode cX11_turn 5 = .ok (.aload_n 0, 1) := by decide +kernel
theorem dX11_turn_6 : decode cX11_turn 6 = .ok (.iload_n 1, 1) := by decide +kernel
theorem dX11_turn_7 : decode cX11_turn 7 = .ok (.iload_n 2, 1) := by decide +kernel
theorem dX11_turn_8 : decode cX11_turn 8 = .ok (.invokevirtual 189, 3) := by decide +kernel
theorem dX11_turn_11 : decode cX11_turn 11 = .ok (.ifCond .eq 5, 3) := by decide +kernel
theorem dX11_turn_14 : decode cX11_turn 14 = .ok (.iconst (-1), 1) := by decide +kernel
theorem dX11_turn_15 : decode cX11_turn 15 = .ok (.ireturn, 1) := by decide +kernel
theorem dX11_turn_16 : decode cX11_turn 16 = .ok (.aload_n 0, 1) := by decide +kernel
theorem dX11_turn_17 : decode cX11_turn 17 = .ok (.invokevirtual 203, 3) := by decide +kernel
theorem dX11_turn_20 : decode cX11_turn 20 = .ok (.aload_n 0, 1) := by decide +kernel
theorem dX11_turn_21 : decode cX11_turn 21 = .ok (.getfield 16, 3) := by decide +kernel
theorem dX11_turn_24 : decode cX11_turn 24 = .ok (.bipush 7, 2) := by decide +kernel
theorem dX11_turn_26 : decode cX11_turn 26 = .ok (.iload_n 1, 1) := by decide +kernel
theorem dX11_turn_27 : decode cX11_turn 27 = .ok (.iadd, 1) := by decide +kernel
theorem dX11_turn_28 : decode cX11_turn 28 = .ok (.dup2, 1) := by decide +kernel
theorem dX11_turn_29 : decode cX11_turn 29 = .ok (.iaload, 1) := by decide +kernel
theorem dX11_turn_30 : decode cX11_turn 30 = .ok (.iconst 1, 1) := by decide +kernel
theorem dX11_turn_31 : decode cX11_turn 31 = .ok (.iload_n 2, 1) := by decide +kernel
theorem dX11_turn_32 : decode cX11_turn 32 = .ok (.ishl, 1) := by decide +kernel
theorem dX11_turn_33 : decode cX11_turn 33 = .ok (.ixor, 1) := by decide +kernel
theorem dX11_turn_34 : decode cX11_turn 34 = .ok (.iastore, 1) := by decide +kernel
theorem dX11_turn_35 : decode cX11_turn 35 = .ok (.aload_n 0, 1) := by decide +kernel
theorem dX11_turn_36 : decode cX11_turn 36 = .ok (.getfield 16, 3) := by decide +kernel
theorem dX11_turn_39 : decode cX11_turn 39 = .ok (.bipush 7, 2) := by decide +kernel
theorem dX11_turn_41 : decode cX11_turn 41 = .ok (.iload_n 1, 1) := by decide +kernel
theorem dX11_turn_42 : decode cX11_turn 42 = .ok (.iadd, 1) := by decide +kernel
theorem dX11_turn_43 : decode cX11_turn 43 = .ok (.iaload, 1) := by decide +kernel
theorem dX11_turn_44 : decode cX11_turn 44 = .ok (.iload_n 2, 1) := by decide +kernel
theorem dX11_turn_45 : decode cX11_turn 45 = .ok (.invokestatic 120, 3) := by decide +kernel
theorem dX11_turn_48 : decode cX11_turn 48 = .ok (.ifCond .eq 7, 3) := by decide +kernel
theorem dX11_turn_51 : decode cX11_turn 51 = .ok (.iconst 1, 1) := by decide +kernel
theorem dX11_turn_52 : decode cX11_turn 52 = .ok (.goto 4, 3) := by decide +kernel
theorem dX11_turn_55 : decode cX11_turn 55 = .ok (.iconst 0, 1) := by decide +kernel
theorem dX11_turn_56 : decode cX11_turn 56 = .ok (.ireturn, 1) := by decide +kernel
theorem dX11_rule_0 : decode cX11_rule 0 = .ok (.aload_n 0, 1) := by decide +kernel
theorem dX11_rule_1 : decode cX11_rule 1 = .ok (.iconst 0, 1) := by decide +kernel
theorem dX11_rule_2 : decode cX11_rule 2 = .ok (.putfield 68, 3) := by decide +kernel
theorem dX11_rule_5 : decode cX11_rule 5 = .ok (.iload_n 1, 1) := by decide +kernel
theorem dX11_rule_6 : decode cX11_rule 6 = .ok (.i2l, 1) := by decide +kernel
theorem dX11_rule_7 : decode cX11_rule 7 = .ok (.lconst 1, 1) := by decide +kernel
theorem dX11_rule_8 : decode cX11_rule 8 = .ok (.ldc2_w 192, 3) := by decide +kernel
theorem dX11_rule_11 : decode cX11_rule 11 = .ok (.invokestatic 72, 3) := by decide +kernel
theorem dX11_rule_14 : decode cX11_rule 14 = .ok (.ifCond .ne 5, 3) := by decide +kernel
theorem dX11_rule_17 : decode cX11_rule 17 = .ok (.iconst (-1), 1) := by decide +kernel
theorem dX11_rule_18 : decode cX11_rule 18 = .ok (.ireturn, 1) := by decide +kernel
theorem dX11_rule_19 : decode cX11_rule 19 = .ok (.iload_n 2, 1) := by decide +kernel
theorem dX11_rule_20 : decode cX11_rule 20 = .ok (.i2l, 1) := by decide +kernel
theorem dX11_rule_21 : decode cX11_rule 21 = .ok (.lconst 0, 1) := by decide +kernel
theorem dX11_rule_22 : decode cX11_rule 22 = .ok (.ldc2_w 206, 3) := by decide +kernel
theorem dX11_rule_25 : decode cX11_rule 25 = .ok (.invokestatic 72, 3) := by decide +kernel
theorem dX11_rule_28 : decode cX11_rule 28 = .ok (.ifCond .eq 15, 3) := by decide +kernel
theorem dX11_rule_31 : decode cX11_rule 31 = .ok (.iload_n 3, 1) := by decide +kernel
theorem dX11_rule_32 : decode cX11_rule 32 = .ok (.i2l, 1) := by decide +kernel
theorem dX11_rule_33 : decode cX11_rule 33 = .ok (.lconst 1, 1) := by decide +kernel
theorem dX11_rule_34 : decode cX11_rule 34 = .ok (.ldc2_w 208, 3) := by decide +kernel
theorem dX11_rule_37 : decode cX11_rule 37 = .ok (.invokestatic 72, 3) := by decide +kernel
theorem dX11_rule_40 : decode cX11_rule 40 = .ok (.ifCond .ne 6, 3) := by decide +kernel
theorem dX11_rule_43 : decode cX11_rule 43 = .ok (.bipush (-2), 2) := by decide +kernel
theorem dX11_rule_45 : decode cX11_rule 45 = .ok (.ireturn, 1) := by decide +kernel
theorem dX11_rule_46 : decode cX11_rule 46 = .ok (.aload_n 0, 1) := by decide +kernel
theorem dX11_rule_47 : decode cX11_rule 47 = .ok (.invokevirtual 203, 3) := by decide +kernel
theorem dX11_rule_50 : decode cX11_rule 50 = .ok (.aload_n 0, 1) := by decide +kernel
theorem dX11_rule_51 : decode cX11_rule 51 = .ok (.getfield 16, 3) := by decide +kernel
theorem dX11_rule_54 : decode cX11_rule 54 = .ok (.bipush 13, 2) := by decide +kernel
theorem dX11_rule_56 : decode cX11_rule 56 = .ok (.iload_n 1, 1) := by decide +kernel
theorem dX11_rule_57 : decode cX11_rule 57 = .ok (.iadd, 1) := by decide +kernel
theorem dX11_rule_58 : decode cX11_rule 58 = .ok (.iconst 1, 1) := by decide +kernel
theorem dX11_rule_59 : decode cX11_rule 59 = .ok (.isub, 1) := by decide +kernel
theorem dX11_rule_60 : decode cX11_rule 60 = .ok (.iload_n 2, 1) := by decide +kernel
theorem dX11_rule_61 : decode cX11_rule 61 = .ok (.iastore, 1) := by decide +kernel
theorem dX11_rule_62 : decode cX11_rule 62 = .ok (.aload_n 0, 1) := by decide +kernel
theorem dX11_rule_63 : decode cX11_rule 63 = .ok (.getfield 16, 3) := by decide +kernel
theorem dX11_rule_66 : decode cX11_rule 66 = .ok (.bipush 17, 2) := by decide +kernel
theorem dX11_rule_68 : decode cX11_rule 68 = .ok (.iload_n 1, 1) := by decide +kernel
theorem dX11_rule_69 : decode cX11_rule 69 = .ok (.iadd, 1) := by decide +kernel
theorem dX11_rule_70 : decode cX11_rule 70 = .ok (.iconst 1, 1) := by decide +kernel
theorem dX11_rule_71 : decode cX11_rule 71 = .ok (.isub, 1) := by decide +kernel
theorem dX11_rule_72 : decode cX11_rule 72 = .ok (.iload_n 3, 1) := by decide +kernel
theorem dX11_rule_73 : decode cX11_rule 73 = .ok (.iastore, 1) := by decide +kernel
theorem dX11_rule_74 : decode cX11_rule 74 = .ok (.aload_n 0, 1) := by decide +kernel
theorem dX11_rule_75 : decode cX11_rule 75 = .ok (.aload_n 0, 1) := by decide +kernel
theorem dX11_rule_76 : decode cX11_rule 76 = .ok (.getfield 16, 3) := by decide +kernel
theorem dX11_rule_79 : decode cX11_rule 79 = .ok (.invokevirtual 161, 3) := by decide +kernel
theorem dX11_rule_82 : decode cX11_rule 82 = .ok (.aload_n 0, 1) := by decide +kernel
theorem dX11_rule_83 : decode cX11_rule 83 = .ok (.aload_n 0, 1) := by decide +kernel
theorem dX11_rule_84 : decode cX11_rule 84 = .ok (.getfield 16, 3) := by decide +kernel
theorem dX11_rule_87 : decode cX11_rule 87 = .ok (.invokevirtual 171, 3) := by decide +kernel
theorem dX11_rule_90 : decode cX11_rule 90 = .ok (.ireturn, 1) := by decide +kernel
theorem dX11_study_0 : decode cX11_study 0 = .ok (.aload_n 0, 1) := by decide +kernel
theorem dX11_study_1 : decode cX11_study 1 = .ok (.iconst 0, 1) := by decide +kernel
theorem dX11_study_2 : decode cX11_study 2 = .ok (.putfield 68, 3) := by decide +kernel
theorem dX11_study_5 : decode cX11_study 5 = .ok (.aload_n 0, 1) := by decide +kernel
theorem dX11_study_6 : decode cX11_study 6 = .ok (.getfield 16, 3) := by decide +kernel
theorem dX11_study_9 : decode cX11_study 9 = .ok (.bipush 21, 2) := by decide +kernel
theorem dX11_study_11 : decode cX11_study 11 = .ok (.iaload, 1) := by decide +kernel
theorem dX11_study_12 : decode cX11_study 12 = .ok (.iconst 4, 1) := by decide +kernel
theorem dX11_study_13 : decode cX11_study 13 = .ok (.if_icmp .ne 6, 3) := by decide +kernel
theorem dX11_study_16 : decode cX11_study 16 = .ok (.bipush (-4), 2) := by decide +kernel
theorem dX11_study_18 : decode cX11_study 18 = .ok (.ireturn, 1) := by decide +kernel
theorem dX11_study_19 : decode cX11_study 19 = .ok (.aload_n 0, 1) := by decide +kernel
theorem dX11_study_20 : decode cX11_study 20 = .ok (.invokevirtual 203, 3) := by decide +kernel
theorem dX11_study_23 : decode cX11_study 23 = .ok (.aload_n 0, 1) := by decide +kernel
theorem dX11_study_24 : decode cX11_study 24 = .ok (.getfield 16, 3) := by decide +kernel
theorem dX11_study_27 : decode cX11_study 27 = .ok (.bipush 21, 2) := by decide +kernel
theorem dX11_study_29 : decode cX11_study 29 = .ok (.dup2, 1) := by decide +kernel
theorem dX11_study_30 : decode cX11_study 30 = .ok (.iaload, 1) := by decide +kernel
theorem dX11_study_31 : decode cX11_study 31 = .ok (.iconst 1, 1) := by decide +kernel
theorem dX11_study_32 : decode cX11_study 32 = .ok (.iadd, 1) := by decide +kernel
theorem dX11_study_33 : decode cX11_study 33 = .ok (.iastore, 1) := by decide +kernel
theorem dX11_study_34 : decode cX11_study 34 = .ok (.aload_n 0, 1) := by decide +kernel
theorem dX11_study_35 : decode cX11_study 35 = .ok (.aload_n 0, 1) := by decide +kernel
theorem dX11_study_36 : decode cX11_study 36 = .ok (.getfield 16, 3) := by decide +kernel
theorem dX11_study_39 : decode cX11_study 39 = .ok (.invokevirtual 161, 3) := by decide +kernel
theorem dX11_study_42 : decode cX11_study 42 = .ok (.aload_n 0, 1) := by decide +kernel
theorem dX11_study_43 : decode cX11_study 43 = .ok (.aload_n 0, 1) := by decide +kernel
theorem dX11_study_44 : decode cX11_study 44 = .ok (.getfield 16, 3) := by decide +kernel
theorem dX11_study_47 : decode cX11_study 47 = .ok (.bipush 21, 2) := by decide +kernel
theorem dX11_study_49 : decode cX11_study 49 = .ok (.iaload, 1) := by decide +kernel
theorem dX11_study_50 : decode cX11_study 50 = .ok (.invokevirtual 174, 3) := by decide +kernel
theorem dX11_study_53 : decode cX11_study 53 = .ok (.ireturn, 1) := by decide +kernel
theorem dX11_undo_0 : decode cX11_undo 0 = .ok (.aload_n 0, 1) := by decide +kernel
theorem dX11_undo_1 : decode cX11_undo 1 = .ok (.iconst 0, 1) := by decide +kernel
theorem dX11_undo_2 : decode cX11_undo 2 = .ok (.putfield 68, 3) := by decide +kernel
theorem dX11_undo_5 : decode cX11_undo 5 = .ok (.aload_n 0, 1) := by decide +kernel
theorem dX11_undo_6 : decode cX11_undo 6 = .ok (.getfield 99, 3) := by decide +kernel
theorem dX11_undo_9 : decode cX11_undo 9 = .ok (.ifCond .ne 6, 3) := by decide +kernel
theorem dX11_undo_12 : decode cX11_undo 12 = .ok (.bipush (-3), 2) := by decide +kernel
theorem dX11_undo_14 : decode cX11_undo 14 = .ok (.ireturn, 1) := by decide +kernel
theorem dX11_undo_15 : decode cX11_undo 15 = .ok (.aload_n 0, 1) := by decide +kernel
theorem dX11_undo_16 : decode cX11_undo 16 = .ok (.dup, 1) := by decide +kernel
theorem dX11_undo_17 : decode cX11_undo 17 = .ok (.getfield 99, 3) := by decide +kernel
theorem dX11_undo_20 : decode cX11_undo 20 = .ok (.iconst 1, 1) := by decide +kernel
theorem dX11_undo_21 : decode cX11_undo 21 = .ok (.isub, 1) := by decide +kernel
theorem dX11_undo_22 : decode cX11_undo 22 = .ok (.putfield 99, 3) := by decide +kernel
theorem dX11_undo_25 : decode cX11_undo 25 = .ok (.iconst 0, 1) := by decide +kernel
theorem dX11_undo_26 : decode cX11_undo 26 = .ok (.istore_n 1, 1) := by decide +kernel
theorem dX11_undo_27 : decode cX11_undo 27 = .ok (.iload_n 1, 1) := by decide +kernel
theorem dX11_undo_28 : decode cX11_undo 28 = .ok (.bipush 22, 2) := by decide +kernel
theorem dX11_undo_30 : decode cX11_undo 30 = .ok (.if_icmp .ge 29, 3) := by decide +kernel
theorem dX11_undo_33 : decode cX11_undo 33 = .ok (.aload_n 0, 1) := by decide +kernel
theorem dX11_undo_34 : decode cX11_undo 34 = .ok (.getfield 16, 3) := by decide +kernel
theorem dX11_undo_37 : decode cX11_undo 37 = .ok (.iload_n 1, 1) := by decide +kernel
theorem dX11_undo_38 : decode cX11_undo 38 = .ok (.aload_n 0, 1) := by decide +kernel
theorem dX11_undo_39 : decode cX11_undo 39 = .ok (.getfield 22, 3) := by decide +kernel
theorem dX11_undo_42 : decode cX11_undo 42 = .ok (.bipush 22, 2) := by decide +kernel
theorem dX11_undo_44 : decode cX11_undo 44 = .ok (.aload_n 0, 1) := by decide +kernel
theorem dX11_undo_45 : decode cX11_undo 45 = .ok (.getfield 99, 3) := by decide +kernel
theorem dX11_undo_48 : decode cX11_undo 48 = .ok (.imul, 1) := by decide +kernel
theorem dX11_undo_49 : decode cX11_undo 49 = .ok (.iload_n 1, 1) := by decide +kernel
theorem dX11_undo_50 : decode cX11_undo 50 = .ok (.iadd, 1) := by decide +kernel
theorem dX11_undo_51 : decode cX11_undo 51 = .ok (.iaload, 1) := by decide +kernel
theorem dX11_undo_52 : decode cX11_undo 52 = .ok (.iastore, 1) := by decide +kernel
theorem dX11_undo_53 : decode cX11_undo 53 = .ok (.iinc 1 1, 3) := by decide +kernel
theorem dX11_undo_56 : decode cX11_undo 56 = .ok (.goto (-29), 3) := by decide +kernel
theorem dX11_undo_59 : decode cX11_undo 59 = .ok (.aload_n 0, 1) := by decide +kernel
theorem dX11_undo_60 : decode cX11_undo 60 = .ok (.getfield 99, 3) := by decide +kernel
theorem dX11_undo_63 : decode cX11_undo 63 = .ok (.ireturn, 1) := by decide +kernel
theorem dX11_base_0 : decode cX11_base 0 = .ok (.aload_n 0, 1) := by decide +kernel
theorem dX11_base_1 : decode cX11_base 1 = .ok (.iconst 0, 1) := by decide +kernel
theorem dX11_base_2 : decode cX11_base 2 = .ok (.putfield 68, 3) := by decide +kernel
theorem dX11_base_5 : decode cX11_base 5 = .ok (.iload_n 1, 1) := by decide +kernel
theorem dX11_base_6 : decode cX11_base 6 = .ok (.ifCond .eq 17, 3) := by decide +kernel
theorem dX11_base_9 : decode cX11_base 9 = .ok (.iload_n 1, 1) := by decide +kernel
theorem dX11_base_10 : decode cX11_base 10 = .ok (.iconst 1, 1) := by decide +kernel
theorem dX11_base_11 : decode cX11_base 11 = .ok (.iconst 3, 1) := by decide +kernel
theorem dX11_base_12 : decode cX11_base 12 = .ok (.bipush 6, 2) := by decide +kernel
theorem dX11_base_14 : decode cX11_base 14 = .ok (.invokestatic 194, 3) := by decide +kernel
theorem dX11_base_17 : decode cX11_base 17 = .ok (.ifCond .ne 6, 3) := by decide +kernel
theorem dX11_base_20 : decode cX11_base 20 = .ok (.bipush (-2), 2) := by decide +kernel
theorem dX11_base_22 : decode cX11_base 22 = .ok (.ireturn, 1) := by decide +kernel
theorem dX11_base_23 : decode cX11_base 23 = .ok (.aload_n 0, 1) := by decide +kernel
theorem dX11_base_24 : decode cX11_base 24 = .ok (.aload_n 0, 1) := by decide +kernel
theorem dX11_base_25 : decode cX11_base 25 = .ok (.getfield 16, 3) := by decide +kernel
theorem dX11_base_28 : decode cX11_base 28 = .ok (.invokevirtual 161, 3) := by decide +kernel
theorem dX11_base_31 : decode cX11_base 31 = .ok (.aload_n 0, 1) := by decide +kernel
theorem dX11_base_32 : decode cX11_base 32 = .ok (.invokevirtual 164, 3) := by decide +kernel
theorem dX11_base_35 : decode cX11_base 35 = .ok (.aload_n 0, 1) := by decide +kernel
theorem dX11_base_36 : decode cX11_base 36 = .ok (.getfield 59, 3) := by decide +kernel
theorem dX11_base_39 : decode cX11_base 39 = .ok (.iload_n 1, 1) := by decide +kernel
theorem dX11_base_40 : decode cX11_base 40 = .ok (.invokestatic 200, 3) := by decide +kernel
theorem dX11_base_43 : decode cX11_base 43 = .ok (.iaload, 1) := by decide +kernel
theorem dX11_base_44 : decode cX11_base 44 = .ok (.ireturn, 1) := by decide +kernel
theorem dX11_slot_0 : decode cX11_slot 0 = .ok (.aload_n 0, 1) := by decide +kernel
theorem dX11_slot_1 : decode cX11_slot 1 = .ok (.iconst 0, 1) := by decide +kernel
theorem dX11_slot_2 : decode cX11_slot 2 = .ok (.putfield 68, 3) := by decide +kernel
theorem dX11_slot_5 : decode cX11_slot 5 = .ok (.iload_n 1, 1) := by decide +kernel
theorem dX11_slot_6 : decode cX11_slot 6 = .ok (.ifCond .ge 6, 3) := by decide +kernel
theorem dX11_slot_9 : decode cX11_slot 9 = .ok (.bipush (-2), 2) := by decide +kernel
theorem dX11_slot_11 : decode cX11_slot 11 = .ok (.ireturn, 1) := by decide +kernel
theorem dX11_slot_12 : decode cX11_slot 12 = .ok (.aload_n 0, 1) := by decide +kernel
theorem dX11_slot_13 : decode cX11_slot 13 = .ok (.aload_n 0, 1) := by decide +kernel
theorem dX11_slot_14 : decode cX11_slot 14 = .ok (.getfield 16, 3) := by decide +kernel
theorem dX11_slot_17 : decode cX11_slot 17 = .ok (.invokevirtual 161, 3) := by decide +kernel
theorem dX11_slot_20 : decode cX11_slot 20 = .ok (.aload_n 0, 1) := by decide +kernel
theorem dX11_slot_21 : decode cX11_slot 21 = .ok (.invokevirtual 164, 3) := by decide +kernel
theorem dX11_slot_24 : decode cX11_slot 24 = .ok (.iload_n 1, 1) := by decide +kernel
theorem dX11_slot_25 : decode cX11_slot 25 = .ok (.sipush 1600, 3) := by decide +kernel
theorem dX11_slot_28 : decode cX11_slot 28 = .ok (.if_icmp .ge 14, 3) := by decide +kernel
theorem dX11_slot_31 : decode cX11_slot 31 = .ok (.aload_n 0, 1) := by decide +kernel
theorem dX11_slot_32 : decode cX11_slot 32 = .ok (.getfield 62, 3) := by decide +kernel
theorem dX11_slot_35 : decode cX11_slot 35 = .ok (.iload_n 1, 1) := by decide +kernel
theorem dX11_slot_36 : decode cX11_slot 36 = .ok (.iaload, 1) := by decide +kernel
theorem dX11_slot_37 : decode cX11_slot 37 = .ok (.bipush (-9), 2) := by decide +kernel
theorem dX11_slot_39 : decode cX11_slot 39 = .ok (.if_icmp .ne 8, 3) := by decide +kernel
theorem dX11_slot_42 : decode cX11_slot 42 = .ok (.bipush (-9), 2) := by decide +kernel
theorem dX11_slot_44 : decode cX11_slot 44 = .ok (.goto 12, 3) := by decide +kernel
theorem dX11_slot_47 : decode cX11_slot 47 = .ok (.aload_n 0, 1) := by decide +kernel
theorem dX11_slot_48 : decode cX11_slot 48 = .ok (.getfield 62, 3) := by decide +kernel
theorem dX11_slot_51 : decode cX11_slot 51 = .ok (.iload_n 1, 1) := by decide +kernel
theorem dX11_slot_52 : decode cX11_slot 52 = .ok (.iaload, 1) := by decide +kernel
theorem dX11_slot_53 : decode cX11_slot 53 = .ok (.invokestatic 210, 3) := by decide +kernel
theorem dX11_slot_56 : decode cX11_slot 56 = .ok (.ireturn, 1) := by decide +kernel
theorem dX11_ask_0 : decode cX11_ask 0 = .ok (.aload_n 0, 1) := by decide +kernel
theorem dX11_ask_1 : decode cX11_ask 1 = .ok (.iconst 0, 1) := by decide +kernel
theorem dX11_ask_2 : decode cX11_ask 2 = .ok (.putfield 68, 3) := by decide +kernel
theorem dX11_ask_5 : decode cX11_ask 5 = .ok (.iload_n 1, 1) := by decide +kernel
theorem dX11_ask_6 : decode cX11_ask 6 = .ok (.iconst 2, 1) := by decide +kernel
theorem dX11_ask_7 : decode cX11_ask 7 = .ok (.bipush 6, 2) := by decide +kernel
theorem dX11_ask_9 : decode cX11_ask 9 = .ok (.iconst 5, 1) := by decide +kernel
theorem dX11_ask_10 : decode cX11_ask 10 = .ok (.invokestatic 194, 3) := by decide +kernel
theorem dX11_ask_13 : decode cX11_ask 13 = .ok (.ifCond .ne 6, 3) := by decide +kernel
theorem dX11_ask_16 : decode cX11_ask 16 = .ok (.bipush (-2), 2) := by decide +kernel
theorem dX11_ask_18 : decode cX11_ask 18 = .ok (.ireturn, 1) := by decide +kernel
theorem dX11_ask_19 : decode cX11_ask 19 = .ok (.iload_n 2, 1) := by decide +kernel
theorem dX11_ask_20 : decode cX11_ask 20 = .ok (.i2l, 1) := by decide +kernel
theorem dX11_ask_21 : decode cX11_ask 21 = .ok (.lconst 0, 1) := by decide +kernel
theorem dX11_ask_22 : decode cX11_ask 22 = .ok (.iload_n 1, 1) := by decide +kernel
theorem dX11_ask_23 : decode cX11_ask 23 = .ok (.invokestatic 80, 3) := by decide +kernel
theorem dX11_ask_26 : decode cX11_ask 26 = .ok (.iconst 2, 1) := by decide +kernel
theorem dX11_ask_27 : decode cX11_ask 27 = .ok (.isub, 1) := by decide +kernel
theorem dX11_ask_28 : decode cX11_ask 28 = .ok (.i2l, 1) := by decide +kernel
theorem dX11_ask_29 : decode cX11_ask 29 = .ok (.invokestatic 72, 3) := by decide +kernel
theorem dX11_ask_32 : decode cX11_ask 32 = .ok (.ifCond .ne 5, 3) := by decide +kernel
theorem dX11_ask_35 : decode cX11_ask 35 = .ok (.iconst (-1), 1) := by decide +kernel
theorem dX11_ask_36 : decode cX11_ask 36 = .ok (.ireturn, 1) := by decide +kernel
theorem dX11_ask_37 : decode cX11_ask 37 = .ok (.aload_n 0, 1) := by decide +kernel
theorem dX11_ask_38 : decode cX11_ask 38 = .ok (.aload_n 0, 1) := by decide +kernel
theorem dX11_ask_39 : decode cX11_ask 39 = .ok (.getfield 16, 3) := by decide +kernel
theorem dX11_ask_42 : decode cX11_ask 42 = .ok (.invokevirtual 161, 3) := by decide +kernel
theorem dX11_ask_45 : decode cX11_ask 45 = .ok (.aload_n 0, 1) := by decide +kernel
theorem dX11_ask_46 : decode cX11_ask 46 = .ok (.iload_n 1, 1) := by decide +kernel
theorem dX11_ask_47 : decode cX11_ask 47 = .ok (.invokevirtual 113, 3) := by decide +kernel
theorem dX11_ask_50 : decode cX11_ask 50 = .ok (.aload_n 0, 1) := by decide +kernel
theorem dX11_ask_51 : decode cX11_ask 51 = .ok (.iload_n 2, 1) := by decide +kernel
theorem dX11_ask_52 : decode cX11_ask 52 = .ok (.invokevirtual 117, 3) := by decide +kernel
theorem dX11_ask_55 : decode cX11_ask 55 = .ok (.ireturn, 1) := by decide +kernel
theorem dX11_earns_0 : decode cX11_earns 0 = .ok (.aload_n 0, 1) := by decide +kernel
theorem dX11_earns_1 : decode cX11_earns 1 = .ok (.iconst 0, 1) := by decide +kernel
theorem dX11_earns_2 : decode cX11_earns 2 = .ok (.putfield 68, 3) := by decide +kernel
theorem dX11_earns_5 : decode cX11_earns 5 = .ok (.iload_n 1, 1) := by decide +kernel
theorem dX11_earns_6 : decode cX11_earns 6 = .ok (.invokestatic 197, 3) := by decide +kernel
theorem dX11_earns_9 : decode cX11_earns 9 = .ok (.ifCond .ne 6, 3) := by decide +kernel
theorem dX11_earns_12 : decode cX11_earns 12 = .ok (.bipush (-2), 2) := by decide +kernel
theorem dX11_earns_14 : decode cX11_earns 14 = .ok (.ireturn, 1) := by decide +kernel
theorem dX11_earns_15 : decode cX11_earns 15 = .ok (.aload_n 0, 1) := by decide +kernel
theorem dX11_earns_16 : decode cX11_earns 16 = .ok (.aload_n 0, 1) := by decide +kernel
theorem dX11_earns_17 : decode cX11_earns 17 = .ok (.getfield 16, 3) := by decide +kernel
theorem dX11_earns_20 : decode cX11_earns 20 = .ok (.invokevirtual 161, 3) := by decide +kernel
theorem dX11_earns_23 : decode cX11_earns 23 = .ok (.aload_n 0, 1) := by decide +kernel
theorem dX11_earns_24 : decode cX11_earns 24 = .ok (.aload_n 0, 1) := by decide +kernel
theorem dX11_earns_25 : decode cX11_earns 25 = .ok (.getfield 16, 3) := by decide +kernel
theorem dX11_earns_28 : decode cX11_earns 28 = .ok (.invokevirtual 171, 3) := by decide +kernel
theorem dX11_earns_31 : decode cX11_earns 31 = .ok (.istore_n 2, 1) := by decide +kernel
theorem dX11_earns_32 : decode cX11_earns 32 = .ok (.iconst 0, 1) := by decide +kernel
theorem dX11_earns_33 : decode cX11_earns 33 = .ok (.istore_n 3, 1) := by decide +kernel
theorem dX11_earns_34 : decode cX11_earns 34 = .ok (.iload_n 3, 1) := by decide +kernel
theorem dX11_earns_35 : decode cX11_earns 35 = .ok (.iconst 4, 1) := by decide +kernel
theorem dX11_earns_36 : decode cX11_earns 36 = .ok (.if_icmp .ge 23, 3) := by decide +kernel
theorem dX11_earns_39 : decode cX11_earns 39 = .ok (.aload_n 0, 1) := by decide +kernel
theorem dX11_earns_40 : decode cX11_earns 40 = .ok (.getfield 41, 3) := by decide +kernel
theorem dX11_earns_43 : decode cX11_earns 43 = .ok (.iconst 4, 1) := by decide +kernel
theorem dX11_earns_44 : decode cX11_earns 44 = .ok (.iload_n 1, 1) := by decide +kernel
theorem dX11_earns_45 : decode cX11_earns 45 = .ok (.invokestatic 200, 3) := by decide +kernel
theorem dX11_earns_48 : decode cX11_earns 48 = .ok (.imul, 1) := by decide +kernel
theorem dX11_earns_49 : decode cX11_earns 49 = .ok (.iload_n 3, 1) := by decide +kernel
theorem dX11_earns_50 : decode cX11_earns 50 = .ok (.iadd, 1) := by decide +kernel
theorem dX11_earns_51 : decode cX11_earns 51 = .ok (.iconst 0, 1) := by decide +kernel
theorem dX11_earns_52 : decode cX11_earns 52 = .ok (.iastore, 1) := by decide +kernel
theorem dX11_earns_53 : decode cX11_earns 53 = .ok (.iinc 3 1, 3) := by decide +kernel
theorem dX11_earns_56 : decode cX11_earns 56 = .ok (.goto (-22), 3) := by decide +kernel
theorem dX11_earns_59 : decode cX11_earns 59 = .ok (.aload_n 0, 1) := by decide +kernel
theorem dX11_earns_60 : decode cX11_earns 60 = .ok (.aload_n 0, 1) := by decide +kernel
theorem dX11_earns_61 : decode cX11_earns 61 = .ok (.getfield 16, 3) := by decide +kernel
theorem dX11_earns_64 : decode cX11_earns 64 = .ok (.invokevirtual 128, 3) := by decide +kernel
theorem dX11_earns_67 : decode cX11_earns 67 = .ok (.iload_n 2, 1) := by decide +kernel
theorem dX11_earns_68 : decode cX11_earns 68 = .ok (.aload_n 0, 1) := by decide +kernel
theorem dX11_earns_69 : decode cX11_earns 69 = .ok (.aload_n 0, 1) := by decide +kernel
theorem dX11_earns_70 : decode cX11_earns 70 = .ok (.getfield 16, 3) := by decide +kernel
theorem dX11_earns_73 : decode cX11_earns 73 = .ok (.invokevirtual 171, 3) := by decide +kernel
theorem dX11_earns_76 : decode cX11_earns 76 = .ok (.isub, 1) := by decide +kernel
theorem dX11_earns_77 : decode cX11_earns 77 = .ok (.ireturn, 1) := by decide +kernel
theorem dX11_begin_0 : decode cX11_begin 0 = .ok (.iconst 0, 1) := by decide +kernel
theorem dX11_begin_1 : decode cX11_begin 1 = .ok (.istore_n 1, 1) := by decide +kernel
theorem dX11_begin_2 : decode cX11_begin 2 = .ok (.iload_n 1, 1) := by decide +kernel
theorem dX11_begin_3 : decode cX11_begin 3 = .ok (.bipush 22, 2) := by decide +kernel
theorem dX11_begin_5 : decode cX11_begin 5 = .ok (.if_icmp .ge 21, 3) := by decide +kernel
theorem dX11_begin_8 : decode cX11_begin 8 = .ok (.aload_n 0, 1) := by decide +kernel
theorem dX11_begin_9 : decode cX11_begin 9 = .ok (.getfield 19, 3) := by decide +kernel
theorem dX11_begin_12 : decode cX11_begin 12 = .ok (.iload_n 1, 1) := by decide +kernel
theorem dX11_begin_13 : decode cX11_begin 13 = .ok (.aload_n 0, 1) := by decide +kernel
theorem dX11_begin_14 : decode cX11_begin 14 = .ok (.getfield 16, 3) := by decide +kernel
theorem dX11_begin_17 : decode cX11_begin 17 = .ok (.iload_n 1, 1) := by decide +kernel
theorem dX11_begin_18 : decode cX11_begin 18 = .ok (.iaload, 1) := by decide +kernel
theorem dX11_begin_19 : decode cX11_begin 19 = .ok (.iastore, 1) := by decide +kernel
theorem dX11_begin_20 : decode cX11_begin 20 = .ok (.iinc 1 1, 3) := by decide +kernel
theorem dX11_begin_23 : decode cX11_begin 23 = .ok (.goto (-21), 3) := by decide +kernel
theorem dX11_begin_26 : decode cX11_begin 26 = .ok (.return_, 1) := by decide +kernel
theorem dX11_longPower_0 : decode cX11_longPower 0 = .ok (.lconst 1, 1) := by decide +kernel
theorem dX11_longPower_1 : decode cX11_longPower 1 = .ok (.lstore_n 3, 1) := by decide +kernel
theorem dX11_longPower_2 : decode cX11_longPower 2 = .ok (.iconst 0, 1) := by decide +kernel
theorem dX11_longPower_3 : decode cX11_longPower 3 = .ok (.istore 5, 2) := by decide +kernel
theorem dX11_longPower_5 : decode cX11_longPower 5 = .ok (.iload 5, 2) := by decide +kernel
theorem dX11_longPower_7 : decode cX11_longPower 7 = .ok (.iload_n 2, 1) := by decide +kernel
theorem dX11_longPower_8 : decode cX11_longPower 8 = .ok (.if_icmp .ge 13, 3) := by decide +kernel
theorem dX11_longPower_11 : decode cX11_longPower 11 = .ok (.lload_n 3, 1) := by decide +kernel
theorem dX11_longPower_12 : decode cX11_longPower 12 = .ok (.lload_n 0, 1) := by decide +kernel
theorem dX11_longPower_13 : decode cX11_longPower 13 = .ok (.lmul, 1) := by decide +kernel
theorem dX11_longPower_14 : decode cX11_longPower 14 = .ok (.lstore_n 3, 1) := by decide +kernel
theorem dX11_longPower_15 : decode cX11_longPower 15 = .ok (.iinc 5 1, 3) := by decide +kernel
theorem dX11_longPower_18 : decode cX11_longPower 18 = .ok (.goto (-13), 3) := by decide +kernel
theorem dX11_longPower_21 : decode cX11_longPower 21 = .ok (.lload_n 3, 1) := by decide +kernel
theorem dX11_longPower_22 : decode cX11_longPower 22 = .ok (.lreturn, 1) := by decide +kernel
theorem dX11_isSo_0 : decode cX11_isSo 0 = .ok (.aload_n 0, 1) := by decide +kernel
theorem dX11_isSo_1 : decode cX11_isSo 1 = .ok (.aload_n 0, 1) := by decide +kernel
theorem dX11_isSo_2 : decode cX11_isSo 2 = .ok (.getfield 19, 3) := by decide +kernel
theorem dX11_isSo_5 : decode cX11_isSo 5 = .ok (.invokevirtual 161, 3) := by decide +kernel
theorem dX11_isSo_8 : decode cX11_isSo 8 = .ok (.iload_n 2, 1) := by decide +kernel
theorem dX11_isSo_9 : decode cX11_isSo 9 = .ok (.aload_n 0, 1) := by decide +kernel
theorem dX11_isSo_10 : decode cX11_isSo 10 = .ok (.getfield 19, 3) := by decide +kernel
theorem dX11_isSo_13 : decode cX11_isSo 13 = .ok (.iconst 0, 1) := by decide +kernel
theorem dX11_isSo_14 : decode cX11_isSo 14 = .ok (.iaload, 1) := by decide +kernel
theorem dX11_isSo_15 : decode cX11_isSo 15 = .ok (.if_icmp .ge 7, 3) := by decide +kernel
theorem dX11_isSo_18 : decode cX11_isSo 18 = .ok (.iconst 1, 1) := by decide +kernel
theorem dX11_isSo_19 : decode cX11_isSo 19 = .ok (.goto 4, 3) := by decide +kernel
theorem dX11_isSo_22 : decode cX11_isSo 22 = .ok (.iconst 0, 1) := by decide +kernel
theorem dX11_isSo_23 : decode cX11_isSo 23 = .ok (.istore 5, 2) := by decide +kernel
theorem dX11_isSo_25 : decode cX11_isSo 25 = .ok (.iload_n 1, 1) := by decide +kernel
theorem dX11_isSo_26 : decode cX11_isSo 26 = .ok (.lookupswitch 122 #[(4, 26), (5, 77)], 26) := by decide +kernel
theorem dX11_isSo_52 : decode cX11_isSo 52 = .ok (.iload 5, 2) := by decide +kernel
theorem dX11_isSo_54 : decode cX11_isSo 54 = .ok (.ifCond .eq 47, 3) := by decide +kernel
theorem dX11_isSo_57 : decode cX11_isSo 57 = .ok (.iload_n 3, 1) := by decide +kernel
theorem dX11_isSo_58 : decode cX11_isSo 58 = .ok (.aload_n 0, 1) := by decide +kernel
theorem dX11_isSo_59 : decode cX11_isSo 59 = .ok (.getfield 19, 3) := by decide +kernel
theorem dX11_isSo_62 : decode cX11_isSo 62 = .ok (.iconst 1, 1) := by decide +kernel
theorem dX11_isSo_63 : decode cX11_isSo 63 = .ok (.iload_n 2, 1) := by decide +kernel
theorem dX11_isSo_64 : decode cX11_isSo 64 = .ok (.iadd, 1) := by decide +kernel
theorem dX11_isSo_65 : decode cX11_isSo 65 = .ok (.iaload, 1) := by decide +kernel
theorem dX11_isSo_66 : decode cX11_isSo 66 = .ok (.invokestatic 80, 3) := by decide +kernel
theorem dX11_isSo_69 : decode cX11_isSo 69 = .ok (.iconst 1, 1) := by decide +kernel
theorem dX11_isSo_70 : decode cX11_isSo 70 = .ok (.isub, 1) := by decide +kernel
theorem dX11_isSo_71 : decode cX11_isSo 71 = .ok (.if_icmp .ge 30, 3) := by decide +kernel
theorem dX11_isSo_74 : decode cX11_isSo 74 = .ok (.iload 4, 2) := by decide +kernel
theorem dX11_isSo_76 : decode cX11_isSo 76 = .ok (.bipush 10, 2) := by decide +kernel
theorem dX11_isSo_78 : decode cX11_isSo 78 = .ok (.if_icmp .ge 23, 3) := by decide +kernel
theorem dX11_isSo_81 : decode cX11_isSo 81 = .ok (.aload_n 0, 1) := by decide +kernel
theorem dX11_isSo_82 : decode cX11_isSo 82 = .ok (.getfield 53, 3) := by decide +kernel
theorem dX11_isSo_85 : decode cX11_isSo 85 = .ok (.bipush 6, 2) := by decide +kernel
theorem dX11_isSo_87 : decode cX11_isSo 87 = .ok (.iload_n 2, 1) := by decide +kernel
theorem dX11_isSo_88 : decode cX11_isSo 88 = .ok (.imul, 1) := by decide +kernel
theorem dX11_isSo_89 : decode cX11_isSo 89 = .ok (.iload_n 3, 1) := by decide +kernel
theorem dX11_isSo_90 : decode cX11_isSo 90 = .ok (.iadd, 1) := by decide +kernel
theorem dX11_isSo_91 : decode cX11_isSo 91 = .ok (.iaload, 1) := by decide +kernel
theorem dX11_isSo_92 : decode cX11_isSo 92 = .ok (.iload 4, 2) := by decide +kernel
theorem dX11_isSo_94 : decode cX11_isSo 94 = .ok (.if_icmp .ne 7, 3) := by decide +kernel
theorem dX11_isSo_97 : decode cX11_isSo 97 = .ok (.iconst 1, 1) := by decide +kernel
theorem dX11_isSo_98 : decode cX11_isSo 98 = .ok (.goto 4, 3) := by decide +kernel
theorem dX11_isSo_101 : decode cX11_isSo 101 = .ok (.iconst 0, 1) := by decide +kernel
theorem dX11_isSo_102 : decode cX11_isSo 102 = .ok (.ireturn, 1) := by decide +kernel
theorem dX11_isSo_103 : decode cX11_isSo 103 = .ok (.iload 5, 2) := by decide +kernel
theorem dX11_isSo_105 : decode cX11_isSo 105 = .ok (.ifCond .eq 41, 3) := by decide +kernel
theorem dX11_isSo_108 : decode cX11_isSo 108 = .ok (.iload_n 3, 1) := by decide +kernel
theorem dX11_isSo_109 : decode cX11_isSo 109 = .ok (.ifCond .ne 37, 3) := by decide +kernel
theorem dX11_isSo_112 : decode cX11_isSo 112 = .ok (.iload 4, 2) := by decide +kernel
theorem dX11_isSo_114 : decode cX11_isSo 114 = .ok (.ifCond .ne 32, 3) := by decide +kernel
theorem dX11_isSo_117 : decode cX11_isSo 117 = .ok (.aload_n 0, 1) := by decide +kernel
theorem dX11_isSo_118 : decode cX11_isSo 118 = .ok (.aload_n 0, 1) := by decide +kernel
theorem dX11_isSo_119 : decode cX11_isSo 119 = .ok (.getfield 19, 3) := by decide +kernel
theorem dX11_isSo_122 : decode cX11_isSo 122 = .ok (.iload_n 2, 1) := by decide +kernel
theorem dX11_isSo_123 : decode cX11_isSo 123 = .ok (.invokevirtual 148, 3) := by decide +kernel
theorem dX11_isSo_126 : decode cX11_isSo 126 = .ok (.aload_n 0, 1) := by decide +kernel
theorem dX11_isSo_127 : decode cX11_isSo 127 = .ok (.getfield 19, 3) := by decide +kernel
theorem dX11_isSo_130 : decode cX11_isSo 130 = .ok (.iconst 1, 1) := by decide +kernel
theorem dX11_isSo_131 : decode cX11_isSo 131 = .ok (.iload_n 2, 1) := by decide +kernel
theorem dX11_isSo_132 : decode cX11_isSo 132 = .ok (.iadd, 1) := by decide +kernel
theorem dX11_isSo_133 : decode cX11_isSo 133 = .ok (.iaload, 1) := by decide +kernel
theorem dX11_isSo_134 : decode cX11_isSo 134 = .ok (.invokestatic 80, 3) := by decide +kernel
theorem dX11_isSo_137 : decode cX11_isSo 137 = .ok (.iconst 1, 1) := by decide +kernel
theorem dX11_isSo_138 : decode cX11_isSo 138 = .ok (.isub, 1) := by decide +kernel
theorem dX11_isSo_139 : decode cX11_isSo 139 = .ok (.if_icmp .ne 7, 3) := by decide +kernel
theorem dX11_isSo_142 : decode cX11_isSo 142 = .ok (.iconst 1, 1) := by decide +kernel
theorem dX11_isSo_143 : decode cX11_isSo 143 = .ok (.goto 4, 3) := by decide +kernel
theorem dX11_isSo_146 : decode cX11_isSo 146 = .ok (.iconst 0, 1) := by decide +kernel
theorem dX11_isSo_147 : decode cX11_isSo 147 = .ok (.ireturn, 1) := by decide +kernel
theorem dX11_isSo_148 : decode cX11_isSo 148 = .ok (.iload_n 2, 1) := by decide +kernel
theorem dX11_isSo_149 : decode cX11_isSo 149 = .ok (.ifCond .ne 24, 3) := by decide +kernel
theorem dX11_isSo_152 : decode cX11_isSo 152 = .ok (.iload_n 3, 1) := by decide +kernel
theorem dX11_isSo_153 : decode cX11_isSo 153 = .ok (.ifCond .ne 20, 3) := by decide +kernel
theorem dX11_isSo_156 : decode cX11_isSo 156 = .ok (.aload_n 0, 1) := by decide +kernel
theorem dX11_isSo_157 : decode cX11_isSo 157 = .ok (.aload_n 0, 1) := by decide +kernel
theorem dX11_isSo_158 : decode cX11_isSo 158 = .ok (.getfield 19, 3) := by decide +kernel
theorem dX11_isSo_161 : decode cX11_isSo 161 = .ok (.invokevirtual 171, 3) := by decide +kernel
theorem dX11_isSo_164 : decode cX11_isSo 164 = .ok (.iload 4, 2) := by decide +kernel
theorem dX11_isSo_166 : decode cX11_isSo 166 = .ok (.if_icmp .lt 7, 3) := by decide +kernel
theorem dX11_isSo_169 : decode cX11_isSo 169 = .ok (.iconst 1, 1) := by decide +kernel
theorem dX11_isSo_170 : decode cX11_isSo 170 = .ok (.goto 4, 3) := by decide +kernel
theorem dX11_isSo_173 : decode cX11_isSo 173 = .ok (.iconst 0, 1) := by decide +kernel
theorem dX11_isSo_174 : decode cX11_isSo 174 = .ok (.ireturn, 1) := by decide +kernel
theorem dX11_isPattern_0 : decode cX11_isPattern 0 = .ok (.aload_n 0, 1) := by decide +kernel
theorem dX11_isPattern_1 : decode cX11_isPattern 1 = .ok (.aload_n 0, 1) := by decide +kernel
theorem dX11_isPattern_2 : decode cX11_isPattern 2 = .ok (.getfield 19, 3) := by decide +kernel
theorem dX11_isPattern_5 : decode cX11_isPattern 5 = .ok (.invokevirtual 161, 3) := by decide +kernel
theorem dX11_isPattern_8 : decode cX11_isPattern 8 = .ok (.iload_n 2, 1) := by decide +kernel
theorem dX11_isPattern_9 : decode cX11_isPattern 9 = .ok (.invokestatic 197, 3) := by decide +kernel
theorem dX11_isPattern_12 : decode cX11_isPattern 12 = .ok (.ifCond .eq 31, 3) := by decide +kernel
theorem dX11_isPattern_15 : decode cX11_isPattern 15 = .ok (.iload_n 1, 1) := by decide +kernel
theorem dX11_isPattern_16 : decode cX11_isPattern 16 = .ok (.iload_n 2, 1) := by decide +kernel
theorem dX11_isPattern_17 : decode cX11_isPattern 17 = .ok (.invokestatic 80, 3) := by decide +kernel
theorem dX11_isPattern_20 : decode cX11_isPattern 20 = .ok (.if_icmp .gt 23, 3) := by decide +kernel
theorem dX11_isPattern_23 : decode cX11_isPattern 23 = .ok (.aload_n 0, 1) := by decide +kernel
theorem dX11_isPattern_24 : decode cX11_isPattern 24 = .ok (.getfield 41, 3) := by decide +kernel
theorem dX11_isPattern_27 : decode cX11_isPattern 27 = .ok (.iconst 4, 1) := by decide +kernel
theorem dX11_isPattern_28 : decode cX11_isPattern 28 = .ok (.iload_n 2, 1) := by decide +kernel
theorem dX11_isPattern_29 : decode cX11_isPattern 29 = .ok (.invokestatic 200, 3) := by decide +kernel
theorem dX11_isPattern_32 : decode cX11_isPattern 32 = .ok (.imul, 1) := by decide +kernel
theorem dX11_isPattern_33 : decode cX11_isPattern 33 = .ok (.iload_n 1, 1) := by decide +kernel
theorem dX11_isPattern_34 : decode cX11_isPattern 34 = .ok (.iadd, 1) := by decide +kernel
theorem dX11_isPattern_35 : decode cX11_isPattern 35 = .ok (.iaload, 1) := by decide +kernel
theorem dX11_isPattern_36 : decode cX11_isPattern 36 = .ok (.ifCond .le 7, 3) := by decide +kernel
theorem dX11_isPattern_39 : decode cX11_isPattern 39 = .ok (.iconst 1, 1) := by decide +kernel
theorem dX11_isPattern_40 : decode cX11_isPattern 40 = .ok (.goto 4, 3) := by decide +kernel
theorem dX11_isPattern_43 : decode cX11_isPattern 43 = .ok (.iconst 0, 1) := by decide +kernel
theorem dX11_isPattern_44 : decode cX11_isPattern 44 = .ok (.ireturn, 1) := by decide +kernel
theorem dX11_rules_0 : decode cX11_rules 0 = .ok (.iload_n 1, 1) := by decide +kernel
theorem dX11_rules_1 : decode cX11_rules 1 = .ok (.i2l, 1) := by decide +kernel
theorem dX11_rules_2 : decode cX11_rules 2 = .ok (.lconst 1, 1) := by decide +kernel
theorem dX11_rules_3 : decode cX11_rules 3 = .ok (.ldc2_w 192, 3) := by decide +kernel
theorem dX11_rules_6 : decode cX11_rules 6 = .ok (.invokestatic 72, 3) := by decide +kernel
theorem dX11_rules_9 : decode cX11_rules 9 = .ok (.ifCond .eq 24, 3) := by decide +kernel
theorem dX11_rules_12 : decode cX11_rules 12 = .ok (.iload_n 2, 1) := by decide +kernel
theorem dX11_rules_13 : decode cX11_rules 13 = .ok (.iconst 3, 1) := by decide +kernel
theorem dX11_rules_14 : decode cX11_rules 14 = .ok (.if_icmp .ge 19, 3) := by decide +kernel
theorem dX11_rules_17 : decode cX11_rules 17 = .ok (.iload_n 3, 1) := by decide +kernel
theorem dX11_rules_18 : decode cX11_rules 18 = .ok (.i2l, 1) := by decide +kernel
theorem dX11_rules_19 : decode cX11_rules 19 = .ok (.lconst 1, 1) := by decide +kernel
theorem dX11_rules_20 : decode cX11_rules 20 = .ok (.ldc2_w 208, 3) := by decide +kernel
theorem dX11_rules_23 : decode cX11_rules 23 = .ok (.invokestatic 72, 3) := by decide +kernel
theorem dX11_rules_26 : decode cX11_rules 26 = .ok (.ifCond .eq 7, 3) := by decide +kernel
theorem dX11_rules_29 : decode cX11_rules 29 = .ok (.iconst 1, 1) := by decide +kernel
theorem dX11_rules_30 : decode cX11_rules 30 = .ok (.goto 4, 3) := by decide +kernel
theorem dX11_rules_33 : decode cX11_rules 33 = .ok (.iconst 0, 1) := by decide +kernel
theorem dX11_rules_34 : decode cX11_rules 34 = .ok (.istore 4, 2) := by decide +kernel
theorem dX11_rules_36 : decode cX11_rules 36 = .ok (.iload 4, 2) := by decide +kernel
theorem dX11_rules_38 : decode cX11_rules 38 = .ok (.ifCond .eq 27, 3) := by decide +kernel
theorem dX11_rules_41 : decode cX11_rules 41 = .ok (.aload_n 0, 1) := by decide +kernel
theorem dX11_rules_42 : decode cX11_rules 42 = .ok (.getfield 19, 3) := by decide +kernel
theorem dX11_rules_45 : decode cX11_rules 45 = .ok (.bipush 13, 2) := by decide +kernel
theorem dX11_rules_47 : decode cX11_rules 47 = .ok (.iload_n 1, 1) := by decide +kernel
theorem dX11_rules_48 : decode cX11_rules 48 = .ok (.iadd, 1) := by decide +kernel
theorem dX11_rules_49 : decode cX11_rules 49 = .ok (.iconst 1, 1) := by decide +kernel
theorem dX11_rules_50 : decode cX11_rules 50 = .ok (.isub, 1) := by decide +kernel
theorem dX11_rules_51 : decode cX11_rules 51 = .ok (.iload_n 2, 1) := by decide +kernel
theorem dX11_rules_52 : decode cX11_rules 52 = .ok (.iastore, 1) := by decide +kernel
theorem dX11_rules_53 : decode cX11_rules 53 = .ok (.aload_n 0, 1) := by decide +kernel
theorem dX11_rules_54 : decode cX11_rules 54 = .ok (.getfield 19, 3) := by decide +kernel
theorem dX11_rules_57 : decode cX11_rules 57 = .ok (.bipush 17, 2) := by decide +kernel
theorem dX11_rules_59 : decode cX11_rules 59 = .ok (.iload_n 1, 1) := by decide +kernel
theorem dX11_rules_60 : decode cX11_rules 60 = .ok (.iadd, 1) := by decide +kernel
theorem dX11_rules_61 : decode cX11_rules 61 = .ok (.iconst 1, 1) := by decide +kernel
theorem dX11_rules_62 : decode cX11_rules 62 = .ok (.isub, 1) := by decide +kernel
theorem dX11_rules_63 : decode cX11_rules 63 = .ok (.iload_n 3, 1) := by decide +kernel
theorem dX11_rules_64 : decode cX11_rules 64 = .ok (.iastore, 1) := by decide +kernel
theorem dX11_rules_65 : decode cX11_rules 65 = .ok (.iload 4, 2) := by decide +kernel
theorem dX11_rules_67 : decode cX11_rules 67 = .ok (.ireturn, 1) := by decide +kernel
theorem dX11_turns_0 : decode cX11_turns 0 = .ok (.iload_n 1, 1) := by decide +kernel
theorem dX11_turns_1 : decode cX11_turns 1 = .ok (.aload_n 0, 1) := by decide +kernel
theorem dX11_turns_2 : decode cX11_turns 2 = .ok (.getfield 19, 3) := by decide +kernel
theorem dX11_turns_5 : decode cX11_turns 5 = .ok (.iconst 0, 1) := by decide +kernel
theorem dX11_turns_6 : decode cX11_turns 6 = .ok (.iaload, 1) := by decide +kernel
theorem dX11_turns_7 : decode cX11_turns 7 = .ok (.if_icmp .ge 24, 3) := by decide +kernel
theorem dX11_turns_10 : decode cX11_turns 10 = .ok (.iload_n 2, 1) := by decide +kernel
theorem dX11_turns_11 : decode cX11_turns 11 = .ok (.aload_n 0, 1) := by decide +kernel
theorem dX11_turns_12 : decode cX11_turns 12 = .ok (.getfield 19, 3) := by decide +kernel
theorem dX11_turns_15 : decode cX11_turns 15 = .ok (.iconst 1, 1) := by decide +kernel
theorem dX11_turns_16 : decode cX11_turns 16 = .ok (.iload_n 1, 1) := by decide +kernel
theorem dX11_turns_17 : decode cX11_turns 17 = .ok (.iadd, 1) := by decide +kernel
theorem dX11_turns_18 : decode cX11_turns 18 = .ok (.iaload, 1) := by decide +kernel
theorem dX11_turns_19 : decode cX11_turns 19 = .ok (.invokestatic 80, 3) := by decide +kernel
theorem dX11_turns_22 : decode cX11_turns 22 = .ok (.iconst 1, 1) := by decide +kernel
theorem dX11_turns_23 : decode cX11_turns 23 = .ok (.isub, 1) := by decide +kernel
theorem dX11_turns_24 : decode cX11_turns 24 = .ok (.if_icmp .ge 7, 3) := by decide +kernel
theorem dX11_turns_27 : decode cX11_turns 27 = .ok (.iconst 1, 1) := by decide +kernel
theorem dX11_turns_28 : decode cX11_turns 28 = .ok (.goto 4, 3) := by decide +kernel
theorem dX11_turns_31 : decode cX11_turns 31 = .ok (.iconst 0, 1) := by decide +kernel
theorem dX11_turns_32 : decode cX11_turns 32 = .ok (.istore_n 3, 1) := by decide +kernel
theorem dX11_turns_33 : decode cX11_turns 33 = .ok (.iload_n 3, 1) := by decide +kernel
theorem dX11_turns_34 : decode cX11_turns 34 = .ok (.ifCond .eq 18, 3) := by decide +kernel
theorem dX11_turns_37 : decode cX11_turns 37 = .ok (.aload_n 0, 1) := by decide +kernel
theorem dX11_turns_38 : decode cX11_turns 38 = .ok (.getfield 19, 3) := by decide +kernel
theorem dX11_turns_41 : decode cX11_turns 41 = .ok (.bipush 7, 2) := by decide +kernel
theorem dX11_turns_43 : decode cX11_turns 43 = .ok (.iload_n 1, 1) := by decide +kernel
theorem dX11_turns_44 : decode cX11_turns 44 = .ok (.iadd, 1) := by decide +kernel
theorem dX11_turns_45 : decode cX11_turns 45 = .ok (.dup2, 1) := by decide +kernel
theorem dX11_turns_46 : decode cX11_turns 46 = .ok (.iaload, 1) := by decide +kernel
theorem dX11_turns_47 : decode cX11_turns 47 = .ok (.iconst 1, 1) := by decide +kernel
theorem dX11_turns_48 : decode cX11_turns 48 = .ok (.iload_n 2, 1) := by decide +kernel
theorem dX11_turns_49 : decode cX11_turns 49 = .ok (.ishl, 1) := by decide +kernel
theorem dX11_turns_50 : decode cX11_turns 50 = .ok (.ixor, 1) := by decide +kernel
theorem dX11_turns_51 : decode cX11_turns 51 = .ok (.iastore, 1) := by decide +kernel
theorem dX11_turns_52 : decode cX11_turns 52 = .ok (.iload_n 3, 1) := by decide +kernel
theorem dX11_turns_53 : decode cX11_turns 53 = .ok (.ireturn, 1) := by decide +kernel
theorem dX11_studies_0 : decode cX11_studies 0 = .ok (.aload_n 0, 1) := by decide +kernel
theorem dX11_studies_1 : decode cX11_studies 1 = .ok (.getfield 19, 3) := by decide +kernel
theorem dX11_studies_4 : decode cX11_studies 4 = .ok (.bipush 21, 2) := by decide +kernel
theorem dX11_studies_6 : decode cX11_studies 6 = .ok (.iaload, 1) := by decide +kernel
theorem dX11_studies_7 : decode cX11_studies 7 = .ok (.iconst 4, 1) := by decide +kernel
theorem dX11_studies_8 : decode cX11_studies 8 = .ok (.if_icmp .ge 7, 3) := by decide +kernel
theorem dX11_studies_11 : decode cX11_studies 11 = .ok (.iconst 1, 1) := by decide +kernel
theorem dX11_studies_12 : decode cX11_studies 12 = .ok (.goto 4, 3) := by decide +kernel
theorem dX11_studies_15 : decode cX11_studies 15 = .ok (.iconst 0, 1) := by decide +kernel
theorem dX11_studies_16 : decode cX11_studies 16 = .ok (.istore_n 1, 1) := by decide +kernel
theorem dX11_studies_17 : decode cX11_studies 17 = .ok (.aload_n 0, 1) := by decide +kernel
theorem dX11_studies_18 : decode cX11_studies 18 = .ok (.getfield 19, 3) := by decide +kernel
theorem dX11_studies_21 : decode cX11_studies 21 = .ok (.bipush 21, 2) := by decide +kernel
theorem dX11_studies_23 : decode cX11_studies 23 = .ok (.dup2, 1) := by decide +kernel
theorem dX11_studies_24 : decode cX11_studies 24 = .ok (.iaload, 1) := by decide +kernel
theorem dX11_studies_25 : decode cX11_studies 25 = .ok (.iload_n 1, 1) := by decide +kernel
theorem dX11_studies_26 : decode cX11_studies 26 = .ok (.ifCond .eq 7, 3) := by decide +kernel
theorem dX11_studies_29 : decode cX11_studies 29 = .ok (.iconst 1, 1) := by decide +kernel
theorem dX11_studies_30 : decode cX11_studies 30 = .ok (.goto 4, 3) := by decide +kernel
theorem dX11_studies_33 : decode cX11_studies 33 = .ok (.iconst 0, 1) := by decide +kernel
theorem dX11_studies_34 : decode cX11_studies 34 = .ok (.iadd, 1) := by decide +kernel
theorem dX11_studies_35 : decode cX11_studies 35 = .ok (.iastore, 1) := by decide +kernel
theorem dX11_studies_36 : decode cX11_studies 36 = .ok (.iload_n 1, 1) := by decide +kernel
theorem dX11_studies_37 : decode cX11_studies 37 = .ok (.ireturn, 1) := by decide +kernel
theorem dX11_does_0 : decode cX11_does 0 = .ok (.iload_n 1, 1) := by decide +kernel
theorem dX11_does_1 : decode cX11_does 1 = .ok (.sipush 10000, 3) := by decide +kernel
theorem dX11_does_4 : decode cX11_does 4 = .ok (.idiv, 1) := by decide +kernel
theorem dX11_does_5 : decode cX11_does 5 = .ok (.istore_n 2, 1) := by decide +kernel
theorem dX11_does_6 : decode cX11_does 6 = .ok (.iload_n 1, 1) := by decide +kernel
theorem dX11_does_7 : decode cX11_does 7 = .ok (.sipush 1000, 3) := by decide +kernel
theorem dX11_does_10 : decode cX11_does 10 = .ok (.idiv, 1) := by decide +kernel
theorem dX11_does_11 : decode cX11_does 11 = .ok (.bipush 10, 2) := by decide +kernel
theorem dX11_does_13 : decode cX11_does 13 = .ok (.irem, 1) := by decide +kernel
theorem dX11_does_14 : decode cX11_does 14 = .ok (.istore_n 3, 1) := by decide +kernel
theorem dX11_does_15 : decode cX11_does 15 = .ok (.iload_n 1, 1) := by decide +kernel
theorem dX11_does_16 : decode cX11_does 16 = .ok (.bipush 100, 2) := by decide +kernel
theorem dX11_does_18 : decode cX11_does 18 = .ok (.idiv, 1) := by decide +kernel
theorem dX11_does_19 : decode cX11_does 19 = .ok (.bipush 10, 2) := by decide +kernel
theorem dX11_does_21 : decode cX11_does 21 = .ok (.irem, 1) := by decide +kernel
theorem dX11_does_22 : decode cX11_does 22 = .ok (.istore 4, 2) := by decide +kernel
theorem dX11_does_24 : decode cX11_does 24 = .ok (.iload_n 1, 1) := by decide +kernel
theorem dX11_does_25 : decode cX11_does 25 = .ok (.bipush 100, 2) := by decide +kernel
theorem dX11_does_27 : decode cX11_does 27 = .ok (.irem, 1) := by decide +kernel
theorem dX11_does_28 : decode cX11_does 28 = .ok (.istore 5, 2) := by decide +kernel
theorem dX11_does_30 : decode cX11_does 30 = .ok (.iload_n 2, 1) := by decide +kernel
theorem dX11_does_31 : decode cX11_does 31 = .ok (.tableswitch 103 1 7 #[41, 62, 72, 103, 103, 103, 92], 41) := by decide +kernel
theorem dX11_does_72 : decode cX11_does 72 = .ok (.iload 5, 2) := by decide +kernel
theorem dX11_does_74 : decode cX11_does 74 = .ok (.ifCond .ne 17, 3) := by decide +kernel
theorem dX11_does_77 : decode cX11_does 77 = .ok (.aload_n 0, 1) := by decide +kernel
theorem dX11_does_78 : decode cX11_does 78 = .ok (.iload_n 3, 1) := by decide +kernel
theorem dX11_does_79 : decode cX11_does 79 = .ok (.iload 4, 2) := by decide +kernel
theorem dX11_does_81 : decode cX11_does 81 = .ok (.invokevirtual 213, 3) := by decide +kernel
theorem dX11_does_84 : decode cX11_does 84 = .ok (.ifCond .eq 7, 3) := by decide +kernel
theorem dX11_does_87 : decode cX11_does 87 = .ok (.iconst 1, 1) := by decide +kernel
theorem dX11_does_88 : decode cX11_does 88 = .ok (.goto 4, 3) := by decide +kernel
theorem dX11_does_91 : decode cX11_does 91 = .ok (.iconst 0, 1) := by decide +kernel
theorem dX11_does_92 : decode cX11_does 92 = .ok (.ireturn, 1) := by decide +kernel
theorem dX11_does_93 : decode cX11_does 93 = .ok (.aload_n 0, 1) := by decide +kernel
theorem dX11_does_94 : decode cX11_does 94 = .ok (.iload_n 3, 1) := by decide +kernel
theorem dX11_does_95 : decode cX11_does 95 = .ok (.iload 4, 2) := by decide +kernel
theorem dX11_does_97 : decode cX11_does 97 = .ok (.iload 5, 2) := by decide +kernel
theorem dX11_does_99 : decode cX11_does 99 = .ok (.invokevirtual 216, 3) := by decide +kernel
theorem dX11_does_102 : decode cX11_does 102 = .ok (.ireturn, 1) := by decide +kernel
theorem dX11_does_103 : decode cX11_does 103 = .ok (.iload_n 1, 1) := by decide +kernel
theorem dX11_does_104 : decode cX11_does 104 = .ok (.sipush 30000, 3) := by decide +kernel
theorem dX11_does_107 : decode cX11_does 107 = .ok (.if_icmp .ne 14, 3) := by decide +kernel
theorem dX11_does_110 : decode cX11_does 110 = .ok (.aload_n 0, 1) := by decide +kernel
theorem dX11_does_111 : decode cX11_does 111 = .ok (.invokevirtual 220, 3) := by decide +kernel
theorem dX11_does_114 : decode cX11_does 114 = .ok (.ifCond .eq 7, 3) := by decide +kernel
theorem dX11_does_117 : decode cX11_does 117 = .ok (.iconst 1, 1) := by decide +kernel
theorem dX11_does_118 : decode cX11_does 118 = .ok (.goto 4, 3) := by decide +kernel
theorem dX11_does_121 : decode cX11_does 121 = .ok (.iconst 0, 1) := by decide +kernel
theorem dX11_does_122 : decode cX11_does 122 = .ok (.ireturn, 1) := by decide +kernel
theorem dX11_does_123 : decode cX11_does 123 = .ok (.aload_n 0, 1) := by decide +kernel
theorem dX11_does_124 : decode cX11_does 124 = .ok (.iload_n 3, 1) := by decide +kernel
theorem dX11_does_125 : decode cX11_does 125 = .ok (.iload_n 1, 1) := by decide +kernel
theorem dX11_does_126 : decode cX11_does 126 = .ok (.sipush 1000, 3) := by decide +kernel
theorem dX11_does_129 : decode cX11_does 129 = .ok (.irem, 1) := by decide +kernel
theorem dX11_does_130 : decode cX11_does 130 = .ok (.invokevirtual 224, 3) := by decide +kernel
theorem dX11_does_133 : decode cX11_does 133 = .ok (.ireturn, 1) := by decide +kernel
theorem dX11_does_134 : decode cX11_does 134 = .ok (.iload_n 2, 1) := by decide +kernel
theorem dX11_does_135 : decode cX11_does 135 = .ok (.i2l, 1) := by decide +kernel
theorem dX11_does_136 : decode cX11_does 136 = .ok (.ldc2_w 192, 3) := by decide +kernel
theorem dX11_does_139 : decode cX11_does 139 = .ok (.ldc2_w 227, 3) := by decide +kernel
theorem dX11_does_142 : decode cX11_does 142 = .ok (.invokestatic 72, 3) := by decide +kernel
theorem dX11_does_145 : decode cX11_does 145 = .ok (.ifCond .eq 20, 3) := by decide +kernel
theorem dX11_does_148 : decode cX11_does 148 = .ok (.aload_n 0, 1) := by decide +kernel
theorem dX11_does_149 : decode cX11_does 149 = .ok (.iload_n 2, 1) := by decide +kernel
theorem dX11_does_150 : decode cX11_does 150 = .ok (.iload_n 3, 1) := by decide +kernel
theorem dX11_does_151 : decode cX11_does 151 = .ok (.iload 4, 2) := by decide +kernel
theorem dX11_does_153 : decode cX11_does 153 = .ok (.iload 5, 2) := by decide +kernel
theorem dX11_does_155 : decode cX11_does 155 = .ok (.invokevirtual 229, 3) := by decide +kernel
theorem dX11_does_158 : decode cX11_does 158 = .ok (.ifCond .eq 7, 3) := by decide +kernel
theorem dX11_does_161 : decode cX11_does 161 = .ok (.iconst 1, 1) := by decide +kernel
theorem dX11_does_162 : decode cX11_does 162 = .ok (.goto 4, 3) := by decide +kernel
theorem dX11_does_165 : decode cX11_does 165 = .ok (.iconst 0, 1) := by decide +kernel
theorem dX11_does_166 : decode cX11_does 166 = .ok (.ireturn, 1) := by decide +kernel
theorem dX11_judge_0 : decode cX11_judge 0 = .ok (.aload_n 0, 1) := by decide +kernel
theorem dX11_judge_1 : decode cX11_judge 1 = .ok (.iconst 0, 1) := by decide +kernel
theorem dX11_judge_2 : decode cX11_judge 2 = .ok (.putfield 68, 3) := by decide +kernel
theorem dX11_judge_5 : decode cX11_judge 5 = .ok (.iload_n 1, 1) := by decide +kernel
theorem dX11_judge_6 : decode cX11_judge 6 = .ok (.i2l, 1) := by decide +kernel
theorem dX11_judge_7 : decode cX11_judge 7 = .ok (.lconst 1, 1) := by decide +kernel
theorem dX11_judge_8 : decode cX11_judge 8 = .ok (.ldc2_w 232, 3) := by decide +kernel
theorem dX11_judge_11 : decode cX11_judge 11 = .ok (.invokestatic 72, 3) := by decide +kernel
theorem dX11_judge_14 : decode cX11_judge 14 = .ok (.ifCond .eq 20, 3) := by decide +kernel
theorem dX11_judge_17 : decode cX11_judge 17 = .ok (.lload_n 2, 1) := by decide +kernel
theorem dX11_judge_18 : decode cX11_judge 18 = .ok (.lconst 0, 1) := by decide +kernel
theorem dX11_judge_19 : decode cX11_judge 19 = .ok (.ldc2_w 234, 3) := by decide +kernel
theorem dX11_judge_22 : decode cX11_judge 22 = .ok (.iload_n 1, 1) := by decide +kernel
theorem dX11_judge_23 : decode cX11_judge 23 = .ok (.invokestatic 236, 3) := by decide +kernel
theorem dX11_judge_26 : decode cX11_judge 26 = .ok (.lconst 1, 1) := by decide +kernel
theorem dX11_judge_27 : decode cX11_judge 27 = .ok (.lsub, 1) := by decide +kernel
theorem dX11_judge_28 : decode cX11_judge 28 = .ok (.invokestatic 72, 3) := by decide +kernel
theorem dX11_judge_31 : decode cX11_judge 31 = .ok (.ifCond .ne 6, 3) := by decide +kernel
theorem dX11_judge_34 : decode cX11_judge 34 = .ok (.bipush (-2), 2) := by decide +kernel
theorem dX11_judge_36 : decode cX11_judge 36 = .ok (.ireturn, 1) := by decide +kernel
theorem dX11_judge_37 : decode cX11_judge 37 = .ok (.aload_n 0, 1) := by decide +kernel
theorem dX11_judge_38 : decode cX11_judge 38 = .ok (.invokevirtual 240, 3) := by decide +kernel
theorem dX11_judge_41 : decode cX11_judge 41 = .ok (.iconst 0, 1) := by decide +kernel
theorem dX11_judge_42 : decode cX11_judge 42 = .ok (.istore 4, 2) := by decide +kernel
theorem dX11_judge_44 : decode cX11_judge 44 = .ok (.iload 4, 2) := by decide +kernel
theorem dX11_judge_46 : decode cX11_judge 46 = .ok (.iload_n 1, 1) := by decide +kernel
theorem dX11_judge_47 : decode cX11_judge 47 = .ok (.if_icmp .ge 38, 3) := by decide +kernel
theorem dX11_judge_50 : decode cX11_judge 50 = .ok (.aload_n 0, 1) := by decide +kernel
theorem dX11_judge_51 : decode cX11_judge 51 = .ok (.lload_n 2, 1) := by decide +kernel
theorem dX11_judge_52 : decode cX11_judge 52 = .ok (.ldc2_w 234, 3) := by decide +kernel
theorem dX11_judge_55 : decode cX11_judge 55 = .ok (.iload_n 1, 1) := by decide +kernel
theorem dX11_judge_56 : decode cX11_judge 56 = .ok (.iconst 1, 1) := by decide +kernel
theorem dX11_judge_57 : decode cX11_judge 57 = .ok (.isub, 1) := by decide +kernel
theorem dX11_judge_58 : decode cX11_judge 58 = .ok (.iload 4, 2) := by decide +kernel
theorem dX11_judge_60 : decode cX11_judge 60 = .ok (.isub, 1) := by decide +kernel
theorem dX11_judge_61 : decode cX11_judge 61 = .ok (.invokestatic 236, 3) := by decide +kernel
theorem dX11_judge_64 : decode cX11_judge 64 = .ok (.ldiv, 1) := by decide +kernel
theorem dX11_judge_65 : decode cX11_judge 65 = .ok (.ldc2_w 234, 3) := by decide +kernel
theorem dX11_judge_68 : decode cX11_judge 68 = .ok (.lrem, 1) := by decide +kernel
theorem dX11_judge_69 : decode cX11_judge 69 = .ok (.l2i, 1) := by decide +kernel
theorem dX11_judge_70 : decode cX11_judge 70 = .ok (.invokevirtual 243, 3) := by decide +kernel
theorem dX11_judge_73 : decode cX11_judge 73 = .ok (.ifCond .ne 6, 3) := by decide +kernel
theorem dX11_judge_76 : decode cX11_judge 76 = .ok (.iload 4, 2) := by decide +kernel
theorem dX11_judge_78 : decode cX11_judge 78 = .ok (.ireturn, 1) := by decide +kernel
theorem dX11_judge_79 : decode cX11_judge 79 = .ok (.iinc 4 1, 3) := by decide +kernel
theorem dX11_judge_82 : decode cX11_judge 82 = .ok (.goto (-38), 3) := by decide +kernel
theorem dX11_judge_85 : decode cX11_judge 85 = .ok (.bipush (-9), 2) := by decide +kernel
theorem dX11_judge_87 : decode cX11_judge 87 = .ok (.ireturn, 1) := by decide +kernel
theorem dX11_orders_0 : decode cX11_orders 0 = .ok (.iconst 1, 1) := by decide +kernel
theorem dX11_orders_1 : decode cX11_orders 1 = .ok (.istore_n 2, 1) := by decide +kernel
theorem dX11_orders_2 : decode cX11_orders 2 = .ok (.iconst 2, 1) := by decide +kernel
theorem dX11_orders_3 : decode cX11_orders 3 = .ok (.istore_n 3, 1) := by decide +kernel
theorem dX11_orders_4 : decode cX11_orders 4 = .ok (.iload_n 3, 1) := by decide +kernel
theorem dX11_orders_5 : decode cX11_orders 5 = .ok (.iload_n 1, 1) := by decide +kernel
theorem dX11_orders_6 : decode cX11_orders 6 = .ok (.if_icmp .gt 13, 3) := by decide +kernel
theorem dX11_orders_9 : decode cX11_orders 9 = .ok (.iload_n 2, 1) := by decide +kernel
theorem dX11_orders_10 : decode cX11_orders 10 = .ok (.iload_n 3, 1) := by decide +kernel
theorem dX11_orders_11 : decode cX11_orders 11 = .ok (.imul, 1) := by decide +kernel
theorem dX11_orders_12 : decode cX11_orders 12 = .ok (.istore_n 2, 1) := by decide +kernel
theorem dX11_orders_13 : decode cX11_orders 13 = .ok (.iinc 3 1, 3) := by decide +kernel
theorem dX11_orders_16 : decode cX11_orders 16 = .ok (.goto (-12), 3) := by decide +kernel
theorem dX11_orders_19 : decode cX11_orders 19 = .ok (.iconst 2, 1) := by decide +kernel
theorem dX11_orders_20 : decode cX11_orders 20 = .ok (.istore_n 3, 1) := by decide +kernel
theorem dX11_orders_21 : decode cX11_orders 21 = .ok (.iload_n 3, 1) := by decide +kernel
theorem dX11_orders_22 : decode cX11_orders 22 = .ok (.iload_n 0, 1) := by decide +kernel
theorem dX11_orders_23 : decode cX11_orders 23 = .ok (.iconst 1, 1) := by decide +kernel
theorem dX11_orders_24 : decode cX11_orders 24 = .ok (.isub, 1) := by decide +kernel
theorem dX11_orders_25 : decode cX11_orders 25 = .ok (.iload_n 1, 1) := by decide +kernel
theorem dX11_orders_26 : decode cX11_orders 26 = .ok (.isub, 1) := by decide +kernel
theorem dX11_orders_27 : decode cX11_orders 27 = .ok (.if_icmp .gt 13, 3) := by decide +kernel
theorem dX11_orders_30 : decode cX11_orders 30 = .ok (.iload_n 2, 1) := by decide +kernel
theorem dX11_orders_31 : decode cX11_orders 31 = .ok (.iload_n 3, 1) := by decide +kernel
theorem dX11_orders_32 : decode cX11_orders 32 = .ok (.imul, 1) := by decide +kernel
theorem dX11_orders_33 : decode cX11_orders 33 = .ok (.istore_n 2, 1) := by decide +kernel
theorem dX11_orders_34 : decode cX11_orders 34 = .ok (.iinc 3 1, 3) := by decide +kernel
theorem dX11_orders_37 : decode cX11_orders 37 = .ok (.goto (-16), 3) := by decide +kernel
theorem dX11_orders_40 : decode cX11_orders 40 = .ok (.iload_n 2, 1) := by decide +kernel
theorem dX11_orders_41 : decode cX11_orders 41 = .ok (.ireturn, 1) := by decide +kernel
theorem dX11_divisor_0 : decode cX11_divisor 0 = .ok (.iload_n 0, 1) := by decide +kernel
theorem dX11_divisor_1 : decode cX11_divisor 1 = .ok (.ifCond .ge 8, 3) := by decide +kernel
theorem dX11_divisor_4 : decode cX11_divisor 4 = .ok (.iload_n 0, 1) := by decide +kernel
theorem dX11_divisor_5 : decode cX11_divisor 5 = .ok (.ineg, 1) := by decide +kernel
theorem dX11_divisor_6 : decode cX11_divisor 6 = .ok (.goto 4, 3) := by decide +kernel
theorem dX11_divisor_9 : decode cX11_divisor 9 = .ok (.iload_n 0, 1) := by decide +kernel
theorem dX11_divisor_10 : decode cX11_divisor 10 = .ok (.istore_n 2, 1) := by decide +kernel
theorem dX11_divisor_11 : decode cX11_divisor 11 = .ok (.iload_n 1, 1) := by decide +kernel
theorem dX11_divisor_12 : decode cX11_divisor 12 = .ok (.istore_n 3, 1) := by decide +kernel
theorem dX11_divisor_13 : decode cX11_divisor 13 = .ok (.iload_n 3, 1) := by decide +kernel
theorem dX11_divisor_14 : decode cX11_divisor 14 = .ok (.ifCond .eq 16, 3) := by decide +kernel
theorem dX11_divisor_17 : decode cX11_divisor 17 = .ok (.iload_n 2, 1) := by decide +kernel
theorem dX11_divisor_18 : decode cX11_divisor 18 = .ok (.iload_n 3, 1) := by decide +kernel
theorem dX11_divisor_19 : decode cX11_divisor 19 = .ok (.irem, 1) := by decide +kernel
theorem dX11_divisor_20 : decode cX11_divisor 20 = .ok (.istore 4, 2) := by decide +kernel
theorem dX11_divisor_22 : decode cX11_divisor 22 = .ok (.iload_n 3, 1) := by decide +kernel
theorem dX11_divisor_23 : decode cX11_divisor 23 = .ok (.istore_n 2, 1) := by decide +kernel
theorem dX11_divisor_24 : decode cX11_divisor 24 = .ok (.iload 4, 2) := by decide +kernel
theorem dX11_divisor_26 : decode cX11_divisor 26 = .ok (.istore_n 3, 1) := by decide +kernel
theorem dX11_divisor_27 : decode cX11_divisor 27 = .ok (.goto (-14), 3) := by decide +kernel
theorem dX11_divisor_30 : decode cX11_divisor 30 = .ok (.iload_n 2, 1) := by decide +kernel
theorem dX11_divisor_31 : decode cX11_divisor 31 = .ok (.ireturn, 1) := by decide +kernel
theorem dX11_fraction_0 : decode cX11_fraction 0 = .ok (.iload_n 0, 1) := by decide +kernel
theorem dX11_fraction_1 : decode cX11_fraction 1 = .ok (.iload_n 1, 1) := by decide +kernel
theorem dX11_fraction_2 : decode cX11_fraction 2 = .ok (.invokestatic 246, 3) := by decide +kernel
theorem dX11_fraction_5 : decode cX11_fraction 5 = .ok (.istore_n 3, 1) := by decide +kernel
theorem dX11_fraction_6 : decode cX11_fraction 6 = .ok (.iload_n 2, 1) := by decide +kernel
theorem dX11_fraction_7 : decode cX11_fraction 7 = .ok (.ifCond .eq 9, 3) := by decide +kernel
theorem dX11_fraction_10 : decode cX11_fraction 10 = .ok (.iload_n 0, 1) := by decide +kernel
theorem dX11_fraction_11 : decode cX11_fraction 11 = .ok (.iload_n 3, 1) := by decide +kernel
theorem dX11_fraction_12 : decode cX11_fraction 12 = .ok (.idiv, 1) := by decide +kernel
theorem dX11_fraction_13 : decode cX11_fraction 13 = .ok (.goto 6, 3) := by decide +kernel
theorem dX11_fraction_16 : decode cX11_fraction 16 = .ok (.iload_n 1, 1) := by decide +kernel
theorem dX11_fraction_17 : decode cX11_fraction 17 = .ok (.iload_n 3, 1) := by decide +kernel
theorem dX11_fraction_18 : decode cX11_fraction 18 = .ok (.idiv, 1) := by decide +kernel
theorem dX11_fraction_19 : decode cX11_fraction 19 = .ok (.ireturn, 1) := by decide +kernel
theorem dX11_layValues_0 : decode cX11_layValues 0 = .ok (.iconst 0, 1) := by decide +kernel
theorem dX11_layValues_1 : decode cX11_layValues 1 = .ok (.istore_n 1, 1) := by decide +kernel
theorem dX11_layValues_2 : decode cX11_layValues 2 = .ok (.iload_n 1, 1) := by decide +kernel
theorem dX11_layValues_3 : decode cX11_layValues 3 = .ok (.iconst 1, 1) := by decide +kernel
theorem dX11_layValues_4 : decode cX11_layValues 4 = .ok (.aload_n 0, 1) := by decide +kernel
theorem dX11_layValues_5 : decode cX11_layValues 5 = .ok (.getfield 16, 3) := by decide +kernel
theorem dX11_layValues_8 : decode cX11_layValues 8 = .ok (.iconst 0, 1) := by decide +kernel
theorem dX11_layValues_9 : decode cX11_layValues 9 = .ok (.iaload, 1) := by decide +kernel
theorem dX11_layValues_10 : decode cX11_layValues 10 = .ok (.ishl, 1) := by decide +kernel
theorem dX11_layValues_11 : decode cX11_layValues 11 = .ok (.if_icmp .ge 32, 3) := by decide +kernel
theorem dX11_layValues_14 : decode cX11_layValues 14 = .ok (.aload_n 0, 1) := by decide +kernel
theorem dX11_layValues_15 : decode cX11_layValues 15 = .ok (.aload_n 0, 1) := by decide +kernel
theorem dX11_layValues_16 : decode cX11_layValues 16 = .ok (.getfield 16, 3) := by decide +kernel
theorem dX11_layValues_19 : decode cX11_layValues 19 = .ok (.iload_n 1, 1) := by decide +kernel
theorem dX11_layValues_20 : decode cX11_layValues 20 = .ok (.invokevirtual 140, 3) := by decide +kernel
theorem dX11_layValues_23 : decode cX11_layValues 23 = .ok (.aload_n 0, 1) := by decide +kernel
theorem dX11_layValues_24 : decode cX11_layValues 24 = .ok (.getfield 65, 3) := by decide +kernel
theorem dX11_layValues_27 : decode cX11_layValues 27 = .ok (.iload_n 1, 1) := by decide +kernel
theorem dX11_layValues_28 : decode cX11_layValues 28 = .ok (.aload_n 0, 1) := by decide +kernel
theorem dX11_layValues_29 : decode cX11_layValues 29 = .ok (.aload_n 0, 1) := by decide +kernel
theorem dX11_layValues_30 : decode cX11_layValues 30 = .ok (.getfield 16, 3) := by decide +kernel
theorem dX11_layValues_33 : decode cX11_layValues 33 = .ok (.invokevirtual 171, 3) := by decide +kernel
theorem dX11_layValues_36 : decode cX11_layValues 36 = .ok (.iastore, 1) := by decide +kernel
theorem dX11_layValues_37 : decode cX11_layValues 37 = .ok (.iinc 1 1, 3) := by decide +kernel
theorem dX11_layValues_40 : decode cX11_layValues 40 = .ok (.goto (-38), 3) := by decide +kernel
theorem dX11_layValues_43 : decode cX11_layValues 43 = .ok (.return_, 1) := by decide +kernel
theorem dX11_share_0 : decode cX11_share 0 = .ok (.aload_n 0, 1) := by decide +kernel
theorem dX11_share_1 : decode cX11_share 1 = .ok (.iconst 0, 1) := by decide +kernel
theorem dX11_share_2 : decode cX11_share 2 = .ok (.putfield 68, 3) := by decide +kernel
theorem dX11_share_5 : decode cX11_share 5 = .ok (.aload_n 0, 1) := by decide +kernel
theorem dX11_share_6 : decode cX11_share 6 = .ok (.iload_n 1, 1) := by decide +kernel
theorem dX11_share_7 : decode cX11_share 7 = .ok (.invokevirtual 76, 3) := by decide +kernel
theorem dX11_share_10 : decode cX11_share 10 = .ok (.ifCond .eq 5, 3) := by decide +kernel
theorem dX11_share_13 : decode cX11_share 13 = .ok (.iconst (-1), 1) := by decide +kernel
theorem dX11_share_14 : decode cX11_share 14 = .ok (.ireturn, 1) := by decide +kernel
theorem dX11_share_15 : decode cX11_share 15 = .ok (.aload_n 0, 1) := by decide +kernel
theorem dX11_share_16 : decode cX11_share 16 = .ok (.getfield 16, 3) := by decide +kernel
theorem dX11_share_19 : decode cX11_share 19 = .ok (.iconst 0, 1) := by decide +kernel
theorem dX11_share_20 : decode cX11_share 20 = .ok (.iaload, 1) := by decide +kernel
theorem dX11_share_21 : decode cX11_share 21 = .ok (.istore_n 3, 1) := by decide +kernel
theorem dX11_share_22 : decode cX11_share 22 = .ok (.aload_n 0, 1) := by decide +kernel
theorem dX11_share_23 : decode cX11_share 23 = .ok (.invokevirtual 249, 3) := by decide +kernel
theorem dX11_share_26 : decode cX11_share 26 = .ok (.iconst 0, 1) := by decide +kernel
theorem dX11_share_27 : decode cX11_share 27 = .ok (.istore 4, 2) := by decide +kernel
theorem dX11_share_29 : decode cX11_share 29 = .ok (.iconst 0, 1) := by decide +kernel
theorem dX11_share_30 : decode cX11_share 30 = .ok (.istore 5, 2) := by decide +kernel
theorem dX11_share_32 : decode cX11_share 32 = .ok (.iconst 0, 1) := by decide +kernel
theorem dX11_share_33 : decode cX11_share 33 = .ok (.istore 6, 2) := by decide +kernel
theorem dX11_share_35 : decode cX11_share 35 = .ok (.iload 6, 2) := by decide +kernel
theorem dX11_share_37 : decode cX11_share 37 = .ok (.iconst 1, 1) := by decide +kernel
theorem dX11_share_38 : decode cX11_share 38 = .ok (.iload_n 3, 1) := by decide +kernel
theorem dX11_share_39 : decode cX11_share 39 = .ok (.ishl, 1) := by decide +kernel
theorem dX11_share_40 : decode cX11_share 40 = .ok (.if_icmp .ge 63, 3) := by decide +kernel
theorem dX11_share_43 : decode cX11_share 43 = .ok (.iload 6, 2) := by decide +kernel
theorem dX11_share_45 : decode cX11_share 45 = .ok (.iload_n 1, 1) := by decide +kernel
theorem dX11_share_46 : decode cX11_share 46 = .ok (.invokestatic 120, 3) := by decide +kernel
theorem dX11_share_49 : decode cX11_share 49 = .ok (.ifCond .ne 48, 3) := by decide +kernel
theorem dX11_share_52 : decode cX11_share 52 = .ok (.iload_n 3, 1) := by decide +kernel
theorem dX11_share_53 : decode cX11_share 53 = .ok (.iload 6, 2) := by decide +kernel
theorem dX11_share_55 : decode cX11_share 55 = .ok (.invokestatic 252, 3) := by decide +kernel
theorem dX11_share_58 : decode cX11_share 58 = .ok (.invokestatic 255, 3) := by decide +kernel
theorem dX11_share_61 : decode cX11_share 61 = .ok (.istore 7, 2) := by decide +kernel
theorem dX11_share_63 : decode cX11_share 63 = .ok (.iload 5, 2) := by decide +kernel
theorem dX11_share_65 : decode cX11_share 65 = .ok (.iload 7, 2) := by decide +kernel
theorem dX11_share_67 : decode cX11_share 67 = .ok (.iadd, 1) := by decide +kernel
theorem dX11_share_68 : decode cX11_share 68 = .ok (.istore 5, 2) := by decide +kernel
theorem dX11_share_70 : decode cX11_share 70 = .ok (.iload 4, 2) := by decide +kernel
theorem dX11_share_72 : decode cX11_share 72 = .ok (.iload 7, 2) := by decide +kernel
theorem dX11_share_74 : decode cX11_share 74 = .ok (.aload_n 0, 1) := by decide +kernel
theorem dX11_share_75 : decode cX11_share 75 = .ok (.getfield 65, 3) := by decide +kernel
theorem dX11_share_78 : decode cX11_share 78 = .ok (.iload 6, 2) := by decide +kernel
theorem dX11_share_80 : decode cX11_share 80 = .ok (.iconst 1, 1) := by decide +kernel
theorem dX11_share_81 : decode cX11_share 81 = .ok (.iload_n 1, 1) := by decide +kernel
theorem dX11_share_82 : decode cX11_share 82 = .ok (.ishl, 1) := by decide +kernel
theorem dX11_share_83 : decode cX11_share 83 = .ok (.ior, 1) := by decide +kernel
theorem dX11_share_84 : decode cX11_share 84 = .ok (.iaload, 1) := by decide +kernel
theorem dX11_share_85 : decode cX11_share 85 = .ok (.aload_n 0, 1) := by decide +kernel
theorem dX11_share_86 : decode cX11_share 86 = .ok (.getfield 65, 3) := by decide +kernel
theorem dX11_share_89 : decode cX11_share 89 = .ok (.iload 6, 2) := by decide +kernel
theorem dX11_share_91 : decode cX11_share 91 = .ok (.iaload, 1) := by decide +kernel
theorem dX11_share_92 : decode cX11_share 92 = .ok (.isub, 1) := by decide +kernel
theorem dX11_share_93 : decode cX11_share 93 = .ok (.imul, 1) := by decide +kernel
theorem dX11_share_94 : decode cX11_share 94 = .ok (.iadd, 1) := by decide +kernel
theorem dX11_share_95 : decode cX11_share 95 = .ok (.istore 4, 2) := by decide +kernel
theorem dX11_share_97 : decode cX11_share 97 = .ok (.iinc 6 1, 3) := by decide +kernel
theorem dX11_share_100 : decode cX11_share 100 = .ok (.goto (-65), 3) := by decide +kernel
theorem dX11_share_103 : decode cX11_share 103 = .ok (.iload 4, 2) := by decide +kernel
theorem dX11_share_105 : decode cX11_share 105 = .ok (.iload 5, 2) := by decide +kernel
theorem dX11_share_107 : decode cX11_share 107 = .ok (.iload_n 2, 1) := by decide +kernel
theorem dX11_share_108 : decode cX11_share 108 = .ok (.invokestatic 258, 3) := by decide +kernel
theorem dX11_share_111 : decode cX11_share 111 = .ok (.ireturn, 1) := by decide +kernel
theorem dX11_see_0 : decode cX11_see 0 = .ok (.aload_n 0, 1) := by decide +kernel
theorem dX11_see_1 : decode cX11_see 1 = .ok (.iconst 0, 1) := by decide +kernel
theorem dX11_see_2 : decode cX11_see 2 = .ok (.putfield 68, 3) := by decide +kernel
theorem dX11_see_5 : decode cX11_see 5 = .ok (.iload_n 1, 1) := by decide +kernel
theorem dX11_see_6 : decode cX11_see 6 = .ok (.i2l, 1) := by decide +kernel
theorem dX11_see_7 : decode cX11_see 7 = .ok (.lconst 0, 1) := by decide +kernel
theorem dX11_see_8 : decode cX11_see 8 = .ok (.lconst 1, 1) := by decide +kernel
theorem dX11_see_9 : decode cX11_see 9 = .ok (.invokestatic 72, 3) := by decide +kernel
theorem dX11_see_12 : decode cX11_see 12 = .ok (.ifCond .eq 25, 3) := by decide +kernel
theorem dX11_see_15 : decode cX11_see 15 = .ok (.iload_n 2, 1) := by decide +kernel
theorem dX11_see_16 : decode cX11_see 16 = .ok (.i2l, 1) := by decide +kernel
theorem dX11_see_17 : decode cX11_see 17 = .ok (.lconst 0, 1) := by decide +kernel
theorem dX11_see_18 : decode cX11_see 18 = .ok (.ldc2_w 192, 3) := by decide +kernel
theorem dX11_see_21 : decode cX11_see 21 = .ok (.invokestatic 72, 3) := by decide +kernel
theorem dX11_see_24 : decode cX11_see 24 = .ok (.ifCond .eq 13, 3) := by decide +kernel
theorem dX11_see_27 : decode cX11_see 27 = .ok (.iload_n 3, 1) := by decide +kernel
theorem dX11_see_28 : decode cX11_see 28 = .ok (.i2l, 1) := by decide +kernel
theorem dX11_see_29 : decode cX11_see 29 = .ok (.lconst 0, 1) := by decide +kernel
theorem dX11_see_30 : decode cX11_see 30 = .ok (.lconst 1, 1) := by decide +kernel
theorem dX11_see_31 : decode cX11_see 31 = .ok (.invokestatic 72, 3) := by decide +kernel
theorem dX11_see_34 : decode cX11_see 34 = .ok (.ifCond .ne 6, 3) := by decide +kernel
theorem dX11_see_37 : decode cX11_see 37 = .ok (.bipush (-2), 2) := by decide +kernel
theorem dX11_see_39 : decode cX11_see 39 = .ok (.ireturn, 1) := by decide +kernel
theorem dX11_see_40 : decode cX11_see 40 = .ok (.aload_n 0, 1) := by decide +kernel
theorem dX11_see_41 : decode cX11_see 41 = .ok (.getfield 186, 3) := by decide +kernel
theorem dX11_see_44 : decode cX11_see 44 = .ok (.bipush 6, 2) := by decide +kernel
theorem dX11_see_46 : decode cX11_see 46 = .ok (.if_icmp .ne 6, 3) := by decide +kernel
theorem dX11_see_49 : decode cX11_see 49 = .ok (.bipush (-4), 2) := by decide +kernel
theorem dX11_see_51 : decode cX11_see 51 = .ok (.ireturn, 1) := by decide +kernel
theorem dX11_see_52 : decode cX11_see 52 = .ok (.aload_n 0, 1) := by decide +kernel
theorem dX11_see_53 : decode cX11_see 53 = .ok (.getfield 32, 3) := by decide +kernel
theorem dX11_see_56 : decode cX11_see 56 = .ok (.aload_n 0, 1) := by decide +kernel
theorem dX11_see_57 : decode cX11_see 57 = .ok (.getfield 186, 3) := by decide +kernel
theorem dX11_see_60 : decode cX11_see 60 = .ok (.iload_n 1, 1) := by decide +kernel
theorem dX11_see_61 : decode cX11_see 61 = .ok (.iastore, 1) := by decide +kernel
theorem dX11_see_62 : decode cX11_see 62 = .ok (.aload_n 0, 1) := by decide +kernel
theorem dX11_see_63 : decode cX11_see 63 = .ok (.getfield 35, 3) := by decide +kernel
theorem dX11_see_66 : decode cX11_see 66 = .ok (.aload_n 0, 1) := by decide +kernel
theorem dX11_see_67 : decode cX11_see 67 = .ok (.getfield 186, 3) := by decide +kernel
theorem dX11_see_70 : decode cX11_see 70 = .ok (.iload_n 2, 1) := by decide +kernel
theorem dX11_see_71 : decode cX11_see 71 = .ok (.iastore, 1) := by decide +kernel
theorem dX11_see_72 : decode cX11_see 72 = .ok (.aload_n 0, 1) := by decide +kernel
theorem dX11_see_73 : decode cX11_see 73 = .ok (.getfield 38, 3) := by decide +kernel
theorem dX11_see_76 : decode cX11_see 76 = .ok (.aload_n 0, 1) := by decide +kernel
theorem dX11_see_77 : decode cX11_see 77 = .ok (.getfield 186, 3) := by decide +kernel
theorem dX11_see_80 : decode cX11_see 80 = .ok (.iload_n 3, 1) := by decide +kernel
theorem dX11_see_81 : decode cX11_see 81 = .ok (.iastore, 1) := by decide +kernel
theorem dX11_see_82 : decode cX11_see 82 = .ok (.aload_n 0, 1) := by decide +kernel
theorem dX11_see_83 : decode cX11_see 83 = .ok (.dup, 1) := by decide +kernel
theorem dX11_see_84 : decode cX11_see 84 = .ok (.getfield 186, 3) := by decide +kernel
theorem dX11_see_87 : decode cX11_see 87 = .ok (.iconst 1, 1) := by decide +kernel
theorem dX11_see_88 : decode cX11_see 88 = .ok (.iadd, 1) := by decide +kernel
theorem dX11_see_89 : decode cX11_see 89 = .ok (.putfield 186, 3) := by decide +kernel
theorem dX11_see_92 : decode cX11_see 92 = .ok (.aload_n 0, 1) := by decide +kernel
theorem dX11_see_93 : decode cX11_see 93 = .ok (.getfield 186, 3) := by decide +kernel
theorem dX11_see_96 : decode cX11_see 96 = .ok (.ireturn, 1) := by decide +kernel
theorem dX11_unsee_0 : decode cX11_unsee 0 = .ok (.aload_n 0, 1) := by decide +kernel
theorem dX11_unsee_1 : decode cX11_unsee 1 = .ok (.iconst 0, 1) := by decide +kernel
theorem dX11_unsee_2 : decode cX11_unsee 2 = .ok (.putfield 68, 3) := by decide +kernel
theorem dX11_unsee_5 : decode cX11_unsee 5 = .ok (.aload_n 0, 1) := by decide +kernel
theorem dX11_unsee_6 : decode cX11_unsee 6 = .ok (.getfield 186, 3) := by decide +kernel
theorem dX11_unsee_9 : decode cX11_unsee 9 = .ok (.istore_n 1, 1) := by decide +kernel
theorem dX11_unsee_10 : decode cX11_unsee 10 = .ok (.aload_n 0, 1) := by decide +kernel
theorem dX11_unsee_11 : decode cX11_unsee 11 = .ok (.iconst 0, 1) := by decide +kernel
theorem dX11_unsee_12 : decode cX11_unsee 12 = .ok (.putfield 186, 3) := by decide +kernel
theorem dX11_unsee_15 : decode cX11_unsee 15 = .ok (.iload_n 1, 1) := by decide +kernel
theorem dX11_unsee_16 : decode cX11_unsee 16 = .ok (.ireturn, 1) := by decide +kernel
theorem dX11_which_0 : decode cX11_which 0 = .ok (.aload_n 0, 1) := by decide +kernel
theorem dX11_which_1 : decode cX11_which 1 = .ok (.iconst 0, 1) := by decide +kernel
theorem dX11_which_2 : decode cX11_which 2 = .ok (.putfield 68, 3) := by decide +kernel
theorem dX11_which_5 : decode cX11_which 5 = .ok (.iload_n 1, 1) := by decide +kernel
theorem dX11_which_6 : decode cX11_which 6 = .ok (.i2l, 1) := by decide +kernel
theorem dX11_which_7 : decode cX11_which 7 = .ok (.lconst 0, 1) := by decide +kernel
theorem dX11_which_8 : decode cX11_which 8 = .ok (.lconst 1, 1) := by decide +kernel
theorem dX11_which_9 : decode cX11_which 9 = .ok (.invokestatic 72, 3) := by decide +kernel
theorem dX11_which_12 : decode cX11_which 12 = .ok (.ifCond .ne 6, 3) := by decide +kernel
theorem dX11_which_15 : decode cX11_which 15 = .ok (.bipush (-2), 2) := by decide +kernel
theorem dX11_which_17 : decode cX11_which 17 = .ok (.ireturn, 1) := by decide +kernel
theorem dX11_which_18 : decode cX11_which 18 = .ok (.aload_n 0, 1) := by decide +kernel
theorem dX11_which_19 : decode cX11_which 19 = .ok (.aload_n 0, 1) := by decide +kernel
theorem dX11_which_20 : decode cX11_which 20 = .ok (.getfield 16, 3) := by decide +kernel
theorem dX11_which_23 : decode cX11_which 23 = .ok (.invokevirtual 161, 3) := by decide +kernel
theorem dX11_which_26 : decode cX11_which 26 = .ok (.aload_n 0, 1) := by decide +kernel
theorem dX11_which_27 : decode cX11_which 27 = .ok (.iconst 0, 1) := by decide +kernel
theorem dX11_which_28 : decode cX11_which 28 = .ok (.putfield 262, 3) := by decide +kernel
theorem dX11_which_31 : decode cX11_which 31 = .ok (.aload_n 0, 1) := by decide +kernel
theorem dX11_which_32 : decode cX11_which 32 = .ok (.bipush (-9), 2) := by decide +kernel
theorem dX11_which_34 : decode cX11_which 34 = .ok (.putfield 265, 3) := by decide +kernel
theorem dX11_which_37 : decode cX11_which 37 = .ok (.iconst 0, 1) := by decide +kernel
theorem dX11_which_38 : decode cX11_which 38 = .ok (.istore_n 2, 1) := by decide +kernel
theorem dX11_which_39 : decode cX11_which 39 = .ok (.iload_n 2, 1) := by decide +kernel
theorem dX11_which_40 : decode cX11_which 40 = .ok (.bipush 125, 2) := by decide +kernel
theorem dX11_which_42 : decode cX11_which 42 = .ok (.if_icmp .ge 162, 3) := by decide +kernel
theorem dX11_which_45 : decode cX11_which 45 = .ok (.bipush 100, 2) := by decide +kernel
theorem dX11_which_47 : decode cX11_which 47 = .ok (.iload_n 2, 1) := by decide +kernel
theorem dX11_which_48 : decode cX11_which 48 = .ok (.bipush 25, 2) := by decide +kernel
theorem dX11_which_50 : decode cX11_which 50 = .ok (.idiv, 1) := by decide +kernel
theorem dX11_which_51 : decode cX11_which 51 = .ok (.iconst 1, 1) := by decide +kernel
theorem dX11_which_52 : decode cX11_which 52 = .ok (.iadd, 1) := by decide +kernel
theorem dX11_which_53 : decode cX11_which 53 = .ok (.imul, 1) := by decide +kernel
theorem dX11_which_54 : decode cX11_which 54 = .ok (.bipush 10, 2) := by decide +kernel
theorem dX11_which_56 : decode cX11_which 56 = .ok (.iload_n 2, 1) := by decide +kernel
theorem dX11_which_57 : decode cX11_which 57 = .ok (.iconst 5, 1) := by decide +kernel
theorem dX11_which_58 : decode cX11_which 58 = .ok (.idiv, 1) := by decide +kernel
theorem dX11_which_59 : decode cX11_which 59 = .ok (.iconst 5, 1) := by decide +kernel
theorem dX11_which_60 : decode cX11_which 60 = .ok (.irem, 1) := by decide +kernel
theorem dX11_which_61 : decode cX11_which 61 = .ok (.iconst 1, 1) := by decide +kernel
theorem dX11_which_62 : decode cX11_which 62 = .ok (.iadd, 1) := by decide +kernel
theorem dX11_which_63 : decode cX11_which 63 = .ok (.imul, 1) := by decide +kernel
theorem dX11_which_64 : decode cX11_which 64 = .ok (.iadd, 1) := by decide +kernel
theorem dX11_which_65 : decode cX11_which 65 = .ok (.iload_n 2, 1) := by decide +kernel
theorem dX11_which_66 : decode cX11_which 66 = .ok (.iconst 5, 1) := by decide +kernel
theorem dX11_which_67 : decode cX11_which 67 = .ok (.irem, 1) := by decide +kernel
theorem dX11_which_68 : decode cX11_which 68 = .ok (.iadd, 1) := by decide +kernel
theorem dX11_which_69 : decode cX11_which 69 = .ok (.iconst 1, 1) := by decide +kernel
theorem dX11_which_70 : decode cX11_which 70 = .ok (.iadd, 1) := by decide +kernel
theorem dX11_which_71 : decode cX11_which 71 = .ok (.istore_n 3, 1) := by decide +kernel
theorem dX11_which_72 : decode cX11_which 72 = .ok (.aload_n 0, 1) := by decide +kernel
theorem dX11_which_73 : decode cX11_which 73 = .ok (.iload_n 3, 1) := by decide +kernel
theorem dX11_which_74 : decode cX11_which 74 = .ok (.invokevirtual 113, 3) := by decide +kernel
theorem dX11_which_77 : decode cX11_which 77 = .ok (.iconst 1, 1) := by decide +kernel
theorem dX11_which_78 : decode cX11_which 78 = .ok (.istore 4, 2) := by decide +kernel
theorem dX11_which_80 : decode cX11_which 80 = .ok (.iconst 0, 1) := by decide +kernel
theorem dX11_which_81 : decode cX11_which 81 = .ok (.istore 5, 2) := by decide +kernel
theorem dX11_which_83 : decode cX11_which 83 = .ok (.iload 5, 2) := by decide +kernel
theorem dX11_which_85 : decode cX11_which 85 = .ok (.aload_n 0, 1) := by decide +kernel
theorem dX11_which_86 : decode cX11_which 86 = .ok (.getfield 186, 3) := by decide +kernel
theorem dX11_which_89 : decode cX11_which 89 = .ok (.if_icmp .ge 66, 3) := by decide +kernel
theorem dX11_which_92 : decode cX11_which 92 = .ok (.iload 4, 2) := by decide +kernel
theorem dX11_which_94 : decode cX11_which 94 = .ok (.ifCond .eq 52, 3) := by decide +kernel
theorem dX11_which_97 : decode cX11_which 97 = .ok (.aload_n 0, 1) := by decide +kernel
theorem dX11_which_98 : decode cX11_which 98 = .ok (.aload_n 0, 1) := by decide +kernel
theorem dX11_which_99 : decode cX11_which 99 = .ok (.getfield 32, 3) := by decide +kernel
theorem dX11_which_102 : decode cX11_which 102 = .ok (.iload 5, 2) := by decide +kernel
theorem dX11_which_104 : decode cX11_which 104 = .ok (.iaload, 1) := by decide +kernel
theorem dX11_which_105 : decode cX11_which 105 = .ok (.invokevirtual 117, 3) := by decide +kernel
theorem dX11_which_108 : decode cX11_which 108 = .ok (.aload_n 0, 1) := by decide +kernel
theorem dX11_which_109 : decode cX11_which 109 = .ok (.getfield 35, 3) := by decide +kernel
theorem dX11_which_112 : decode cX11_which 112 = .ok (.iload 5, 2) := by decide +kernel
theorem dX11_which_114 : decode cX11_which 114 = .ok (.iaload, 1) := by decide +kernel
theorem dX11_which_115 : decode cX11_which 115 = .ok (.if_icmp .ne 7, 3) := by decide +kernel
theorem dX11_which_118 : decode cX11_which 118 = .ok (.iconst 1, 1) := by decide +kernel
theorem dX11_which_119 : decode cX11_which 119 = .ok (.goto 4, 3) := by decide +kernel
theorem dX11_which_122 : decode cX11_which 122 = .ok (.iconst 0, 1) := by decide +kernel
theorem dX11_which_123 : decode cX11_which 123 = .ok (.aload_n 0, 1) := by decide +kernel
theorem dX11_which_124 : decode cX11_which 124 = .ok (.getfield 38, 3) := by decide +kernel
theorem dX11_which_127 : decode cX11_which 127 = .ok (.iload 5, 2) := by decide +kernel
theorem dX11_which_129 : decode cX11_which 129 = .ok (.iaload, 1) := by decide +kernel
theorem dX11_which_130 : decode cX11_which 130 = .ok (.iconst 1, 1) := by decide +kernel
theorem dX11_which_131 : decode cX11_which 131 = .ok (.if_icmp .ne 7, 3) := by decide +kernel
theorem dX11_which_134 : decode cX11_which 134 = .ok (.iconst 1, 1) := by decide +kernel
theorem dX11_which_135 : decode cX11_which 135 = .ok (.goto 4, 3) := by decide +kernel
theorem dX11_which_138 : decode cX11_which 138 = .ok (.iconst 0, 1) := by decide +kernel
theorem dX11_which_139 : decode cX11_which 139 = .ok (.if_icmp .ne 7, 3) := by decide +kernel
theorem dX11_which_142 : decode cX11_which 142 = .ok (.iconst 1, 1) := by decide +kernel
theorem dX11_which_143 : decode cX11_which 143 = .ok (.goto 4, 3) := by decide +kernel
theorem dX11_which_146 : decode cX11_which 146 = .ok (.iconst 0, 1) := by decide +kernel
theorem dX11_which_147 : decode cX11_which 147 = .ok (.istore 4, 2) := by decide +kernel
theorem dX11_which_149 : decode cX11_which 149 = .ok (.iinc 5 1, 3) := by decide +kernel
theorem dX11_which_152 : decode cX11_which 152 = .ok (.goto (-69), 3) := by decide +kernel
theorem dX11_which_155 : decode cX11_which 155 = .ok (.aload_n 0, 1) := by decide +kernel
theorem dX11_which_156 : decode cX11_which 156 = .ok (.iload 4, 2) := by decide +kernel
theorem dX11_which_158 : decode cX11_which 158 = .ok (.ifCond .eq 14, 3) := by decide +kernel
theorem dX11_which_161 : decode cX11_which 161 = .ok (.aload_n 0, 1) := by decide +kernel
theorem dX11_which_162 : decode cX11_which 162 = .ok (.getfield 262, 3) := by decide +kernel
theorem dX11_which_165 : decode cX11_which 165 = .ok (.ifCond .ne 7, 3) := by decide +kernel
theorem dX11_which_168 : decode cX11_which 168 = .ok (.iload_n 3, 1) := by decide +kernel
theorem dX11_which_169 : decode cX11_which 169 = .ok (.goto 7, 3) := by decide +kernel
theorem dX11_which_172 : decode cX11_which 172 = .ok (.aload_n 0, 1) := by decide +kernel
theorem dX11_which_173 : decode cX11_which 173 = .ok (.getfield 265, 3) := by decide +kernel
theorem dX11_which_176 : decode cX11_which 176 = .ok (.putfield 265, 3) := by decide +kernel
theorem dX11_which_179 : decode cX11_which 179 = .ok (.aload_n 0, 1) := by decide +kernel
theorem dX11_which_180 : decode cX11_which 180 = .ok (.dup, 1) := by decide +kernel
theorem dX11_which_181 : decode cX11_which 181 = .ok (.getfield 262, 3) := by decide +kernel
theorem dX11_which_184 : decode cX11_which 184 = .ok (.iload 4, 2) := by decide +kernel
theorem dX11_which_186 : decode cX11_which 186 = .ok (.ifCond .eq 7, 3) := by decide +kernel
theorem dX11_which_189 : decode cX11_which 189 = .ok (.iconst 1, 1) := by decide +kernel
theorem dX11_which_190 : decode cX11_which 190 = .ok (.goto 4, 3) := by decide +kernel
theorem dX11_which_193 : decode cX11_which 193 = .ok (.iconst 0, 1) := by decide +kernel
theorem dX11_which_194 : decode cX11_which 194 = .ok (.iadd, 1) := by decide +kernel
theorem dX11_which_195 : decode cX11_which 195 = .ok (.putfield 262, 3) := by decide +kernel
theorem dX11_which_198 : decode cX11_which 198 = .ok (.iinc 2 1, 3) := by decide +kernel
theorem dX11_which_201 : decode cX11_which 201 = .ok (.goto (-162), 3) := by decide +kernel
theorem dX11_which_204 : decode cX11_which 204 = .ok (.iload_n 1, 1) := by decide +kernel
theorem dX11_which_205 : decode cX11_which 205 = .ok (.ifCond .ne 10, 3) := by decide +kernel
theorem dX11_which_208 : decode cX11_which 208 = .ok (.aload_n 0, 1) := by decide +kernel
theorem dX11_which_209 : decode cX11_which 209 = .ok (.getfield 262, 3) := by decide +kernel
theorem dX11_which_212 : decode cX11_which 212 = .ok (.goto 7, 3) := by decide +kernel
theorem dX11_which_215 : decode cX11_which 215 = .ok (.aload_n 0, 1) := by decide +kernel
theorem dX11_which_216 : decode cX11_which 216 = .ok (.getfield 265, 3) := by decide +kernel
theorem dX11_which_219 : decode cX11_which 219 = .ok (.ireturn, 1) := by decide +kernel
theorem dX11_lost_0 : decode cX11_lost 0 = .ok (.aload_n 0, 1) := by decide +kernel
theorem dX11_lost_1 : decode cX11_lost 1 = .ok (.iconst 0, 1) := by decide +kernel
theorem dX11_lost_2 : decode cX11_lost 2 = .ok (.putfield 68, 3) := by decide +kernel
theorem dX11_lost_5 : decode cX11_lost 5 = .ok (.iload_n 1, 1) := by decide +kernel
theorem dX11_lost_6 : decode cX11_lost 6 = .ok (.i2l, 1) := by decide +kernel
theorem dX11_lost_7 : decode cX11_lost 7 = .ok (.lconst 0, 1) := by decide +kernel
theorem dX11_lost_8 : decode cX11_lost 8 = .ok (.ldc2_w 268, 3) := by decide +kernel
theorem dX11_lost_11 : decode cX11_lost 11 = .ok (.invokestatic 72, 3) := by decide +kernel
theorem dX11_lost_14 : decode cX11_lost 14 = .ok (.ifCond .eq 15, 3) := by decide +kernel
theorem dX11_lost_17 : decode cX11_lost 17 = .ok (.iload_n 2, 1) := by decide +kernel
theorem dX11_lost_18 : decode cX11_lost 18 = .ok (.i2l, 1) := by decide +kernel
theorem dX11_lost_19 : decode cX11_lost 19 = .ok (.lconst 0, 1) := by decide +kernel
theorem dX11_lost_20 : decode cX11_lost 20 = .ok (.ldc2_w 270, 3) := by decide +kernel
theorem dX11_lost_23 : decode cX11_lost 23 = .ok (.invokestatic 72, 3) := by decide +kernel
theorem dX11_lost_26 : decode cX11_lost 26 = .ok (.ifCond .ne 6, 3) := by decide +kernel
theorem dX11_lost_29 : decode cX11_lost 29 = .ok (.bipush (-2), 2) := by decide +kernel
theorem dX11_lost_31 : decode cX11_lost 31 = .ok (.ireturn, 1) := by decide +kernel
theorem dX11_lost_32 : decode cX11_lost 32 = .ok (.aload_n 0, 1) := by decide +kernel
theorem dX11_lost_33 : decode cX11_lost 33 = .ok (.getfield 16, 3) := by decide +kernel
theorem dX11_lost_36 : decode cX11_lost 36 = .ok (.iconst 0, 1) := by decide +kernel
theorem dX11_lost_37 : decode cX11_lost 37 = .ok (.iaload, 1) := by decide +kernel
theorem dX11_lost_38 : decode cX11_lost 38 = .ok (.istore 4, 2) := by decide +kernel
theorem dX11_lost_40 : decode cX11_lost 40 = .ok (.aload_n 0, 1) := by decide +kernel
theorem dX11_lost_41 : decode cX11_lost 41 = .ok (.invokevirtual 249, 3) := by decide +kernel
theorem dX11_lost_44 : decode cX11_lost 44 = .ok (.iconst 0, 1) := by decide +kernel
theorem dX11_lost_45 : decode cX11_lost 45 = .ok (.istore 5, 2) := by decide +kernel
theorem dX11_lost_47 : decode cX11_lost 47 = .ok (.iconst 0, 1) := by decide +kernel
theorem dX11_lost_48 : decode cX11_lost 48 = .ok (.istore 6, 2) := by decide +kernel
theorem dX11_lost_50 : decode cX11_lost 50 = .ok (.iload 6, 2) := by decide +kernel
theorem dX11_lost_52 : decode cX11_lost 52 = .ok (.iconst 1, 1) := by decide +kernel
theorem dX11_lost_53 : decode cX11_lost 53 = .ok (.iload 4, 2) := by decide +kernel
theorem dX11_lost_55 : decode cX11_lost 55 = .ok (.ishl, 1) := by decide +kernel
theorem dX11_lost_56 : decode cX11_lost 56 = .ok (.if_icmp .ge 55, 3) := by decide +kernel
theorem dX11_lost_59 : decode cX11_lost 59 = .ok (.iload 6, 2) := by decide +kernel
theorem dX11_lost_61 : decode cX11_lost 61 = .ok (.invokestatic 252, 3) := by decide +kernel
theorem dX11_lost_64 : decode cX11_lost 64 = .ok (.istore 7, 2) := by decide +kernel
theorem dX11_lost_66 : decode cX11_lost 66 = .ok (.iload 5, 2) := by decide +kernel
theorem dX11_lost_68 : decode cX11_lost 68 = .ok (.aload_n 0, 1) := by decide +kernel
theorem dX11_lost_69 : decode cX11_lost 69 = .ok (.getfield 65, 3) := by decide +kernel
theorem dX11_lost_72 : decode cX11_lost 72 = .ok (.iload 6, 2) := by decide +kernel
theorem dX11_lost_74 : decode cX11_lost 74 = .ok (.iaload, 1) := by decide +kernel
theorem dX11_lost_75 : decode cX11_lost 75 = .ok (.iload_n 1, 1) := by decide +kernel
theorem dX11_lost_76 : decode cX11_lost 76 = .ok (.if_icmp .lt 25, 3) := by decide +kernel
theorem dX11_lost_79 : decode cX11_lost 79 = .ok (.bipush 10, 2) := by decide +kernel
theorem dX11_lost_81 : decode cX11_lost 81 = .ok (.iload_n 2, 1) := by decide +kernel
theorem dX11_lost_82 : decode cX11_lost 82 = .ok (.isub, 1) := by decide +kernel
theorem dX11_lost_83 : decode cX11_lost 83 = .ok (.iload 7, 2) := by decide +kernel
theorem dX11_lost_85 : decode cX11_lost 85 = .ok (.invokestatic 272, 3) := by decide +kernel
theorem dX11_lost_88 : decode cX11_lost 88 = .ok (.iload_n 2, 1) := by decide +kernel
theorem dX11_lost_89 : decode cX11_lost 89 = .ok (.iload 4, 2) := by decide +kernel
theorem dX11_lost_91 : decode cX11_lost 91 = .ok (.iload 7, 2) := by decide +kernel
theorem dX11_lost_93 : decode cX11_lost 93 = .ok (.isub, 1) := by decide +kernel
theorem dX11_lost_94 : decode cX11_lost 94 = .ok (.invokestatic 272, 3) := by decide +kernel
theorem dX11_lost_97 : decode cX11_lost 97 = .ok (.imul, 1) := by decide +kernel
theorem dX11_lost_98 : decode cX11_lost 98 = .ok (.goto 4, 3) := by decide +kernel
theorem dX11_lost_101 : decode cX11_lost 101 = .ok (.iconst 0, 1) := by decide +kernel
theorem dX11_lost_102 : decode cX11_lost 102 = .ok (.iadd, 1) := by decide +kernel
theorem dX11_lost_103 : decode cX11_lost 103 = .ok (.istore 5, 2) := by decide +kernel
theorem dX11_lost_105 : decode cX11_lost 105 = .ok (.iinc 6 1, 3) := by decide +kernel
theorem dX11_lost_108 : decode cX11_lost 108 = .ok (.goto (-58), 3) := by decide +kernel
theorem dX11_lost_111 : decode cX11_lost 111 = .ok (.iload 5, 2) := by decide +kernel
theorem dX11_lost_113 : decode cX11_lost 113 = .ok (.bipush 10, 2) := by decide +kernel
theorem dX11_lost_115 : decode cX11_lost 115 = .ok (.iload 4, 2) := by decide +kernel
theorem dX11_lost_117 : decode cX11_lost 117 = .ok (.invokestatic 272, 3) := by decide +kernel
theorem dX11_lost_120 : decode cX11_lost 120 = .ok (.iload_n 3, 1) := by decide +kernel
theorem dX11_lost_121 : decode cX11_lost 121 = .ok (.invokestatic 258, 3) := by decide +kernel
theorem dX11_lost_124 : decode cX11_lost 124 = .ok (.ireturn, 1) := by decide +kernel
theorem dX11_seed_0 : decode cX11_seed 0 = .ok (.aload_n 0, 1) := by decide +kernel
theorem dX11_seed_1 : decode cX11_seed 1 = .ok (.iconst 0, 1) := by decide +kernel
theorem dX11_seed_2 : decode cX11_seed 2 = .ok (.putfield 68, 3) := by decide +kernel
theorem dX11_seed_5 : decode cX11_seed 5 = .ok (.aload_n 0, 1) := by decide +kernel
theorem dX11_seed_6 : decode cX11_seed 6 = .ok (.getfield 275, 3) := by decide +kernel
theorem dX11_seed_9 : decode cX11_seed 9 = .ok (.lstore_n 3, 1) := by decide +kernel
theorem dX11_seed_10 : decode cX11_seed 10 = .ok (.aload_n 0, 1) := by decide +kernel
theorem dX11_seed_11 : decode cX11_seed 11 = .ok (.lload_n 1, 1) := by decide +kernel
theorem dX11_seed_12 : decode cX11_seed 12 = .ok (.putfield 275, 3) := by decide +kernel
theorem dX11_seed_15 : decode cX11_seed 15 = .ok (.lload_n 3, 1) := by decide +kernel
theorem dX11_seed_16 : decode cX11_seed 16 = .ok (.lreturn, 1) := by decide +kernel
theorem dX11_drawn_0 : decode cX11_drawn 0 = .ok (.aload_n 0, 1) := by decide +kernel
theorem dX11_drawn_1 : decode cX11_drawn 1 = .ok (.iconst 0, 1) := by decide +kernel
theorem dX11_drawn_2 : decode cX11_drawn 2 = .ok (.putfield 68, 3) := by decide +kernel
theorem dX11_drawn_5 : decode cX11_drawn 5 = .ok (.iload_n 1, 1) := by decide +kernel
theorem dX11_drawn_6 : decode cX11_drawn 6 = .ok (.i2l, 1) := by decide +kernel
theorem dX11_drawn_7 : decode cX11_drawn 7 = .ok (.lconst 1, 1) := by decide +kernel
theorem dX11_drawn_8 : decode cX11_drawn 8 = .ok (.ldc2_w 279, 3) := by decide +kernel
theorem dX11_drawn_11 : decode cX11_drawn 11 = .ok (.invokestatic 72, 3) := by decide +kernel
theorem dX11_drawn_14 : decode cX11_drawn 14 = .ok (.ifCond .ne 6, 3) := by decide +kernel
theorem dX11_drawn_17 : decode cX11_drawn 17 = .ok (.bipush (-2), 2) := by decide +kernel
theorem dX11_drawn_19 : decode cX11_drawn 19 = .ok (.ireturn, 1) := by decide +kernel
theorem dX11_drawn_20 : decode cX11_drawn 20 = .ok (.aload_n 0, 1) := by decide +kernel
theorem dX11_drawn_21 : decode cX11_drawn 21 = .ok (.aload_n 0, 1) := by decide +kernel
theorem dX11_drawn_22 : decode cX11_drawn 22 = .ok (.getfield 16, 3) := by decide +kernel
theorem dX11_drawn_25 : decode cX11_drawn 25 = .ok (.invokevirtual 161, 3) := by decide +kernel
theorem dX11_drawn_28 : decode cX11_drawn 28 = .ok (.iconst 0, 1) := by decide +kernel
theorem dX11_drawn_29 : decode cX11_drawn 29 = .ok (.istore_n 2, 1) := by decide +kernel
theorem dX11_drawn_30 : decode cX11_drawn 30 = .ok (.iconst 0, 1) := by decide +kernel
theorem dX11_drawn_31 : decode cX11_drawn 31 = .ok (.istore_n 3, 1) := by decide +kernel
theorem dX11_drawn_32 : decode cX11_drawn 32 = .ok (.iload_n 3, 1) := by decide +kernel
theorem dX11_drawn_33 : decode cX11_drawn 33 = .ok (.iload_n 1, 1) := by decide +kernel
theorem dX11_drawn_34 : decode cX11_drawn 34 = .ok (.if_icmp .ge 110, 3) := by decide +kernel
theorem dX11_drawn_37 : decode cX11_drawn 37 = .ok (.aload_n 0, 1) := by decide +kernel
theorem dX11_drawn_38 : decode cX11_drawn 38 = .ok (.aload_n 0, 1) := by decide +kernel
theorem dX11_drawn_39 : decode cX11_drawn 39 = .ok (.getfield 275, 3) := by decide +kernel
theorem dX11_drawn_42 : decode cX11_drawn 42 = .ok (.ldc2_w 281, 3) := by decide +kernel
theorem dX11_drawn_45 : decode cX11_drawn 45 = .ok (.lmul, 1) := by decide +kernel
theorem dX11_drawn_46 : decode cX11_drawn 46 = .ok (.ldc2_w 283, 3) := by decide +kernel
theorem dX11_drawn_49 : decode cX11_drawn 49 = .ok (.ladd, 1) := by decide +kernel
theorem dX11_drawn_50 : decode cX11_drawn 50 = .ok (.putfield 275, 3) := by decide +kernel
theorem dX11_drawn_53 : decode cX11_drawn 53 = .ok (.aload_n 0, 1) := by decide +kernel
theorem dX11_drawn_54 : decode cX11_drawn 54 = .ok (.getfield 275, 3) := by decide +kernel
theorem dX11_drawn_57 : decode cX11_drawn 57 = .ok (.bipush 33, 2) := by decide +kernel
theorem dX11_drawn_59 : decode cX11_drawn 59 = .ok (.lushr, 1) := by decide +kernel
theorem dX11_drawn_60 : decode cX11_drawn 60 = .ok (.l2i, 1) := by decide +kernel
theorem dX11_drawn_61 : decode cX11_drawn 61 = .ok (.istore 4, 2) := by decide +kernel
theorem dX11_drawn_63 : decode cX11_drawn 63 = .ok (.aload_n 0, 1) := by decide +kernel
theorem dX11_drawn_64 : decode cX11_drawn 64 = .ok (.sipush 1000, 3) := by decide +kernel
theorem dX11_drawn_67 : decode cX11_drawn 67 = .ok (.iload 4, 2) := by decide +kernel
theorem dX11_drawn_69 : decode cX11_drawn 69 = .ok (.iconst 5, 1) := by decide +kernel
theorem dX11_drawn_70 : decode cX11_drawn 70 = .ok (.irem, 1) := by decide +kernel
theorem dX11_drawn_71 : decode cX11_drawn 71 = .ok (.iconst 1, 1) := by decide +kernel
theorem dX11_drawn_72 : decode cX11_drawn 72 = .ok (.iadd, 1) := by decide +kernel
theorem dX11_drawn_73 : decode cX11_drawn 73 = .ok (.imul, 1) := by decide +kernel
theorem dX11_drawn_74 : decode cX11_drawn 74 = .ok (.bipush 100, 2) := by decide +kernel
theorem dX11_drawn_76 : decode cX11_drawn 76 = .ok (.iload 4, 2) := by decide +kernel
theorem dX11_drawn_78 : decode cX11_drawn 78 = .ok (.bipush 8, 2) := by decide +kernel
theorem dX11_drawn_80 : decode cX11_drawn 80 = .ok (.idiv, 1) := by decide +kernel
theorem dX11_drawn_81 : decode cX11_drawn 81 = .ok (.iconst 5, 1) := by decide +kernel
theorem dX11_drawn_82 : decode cX11_drawn 82 = .ok (.irem, 1) := by decide +kernel
theorem dX11_drawn_83 : decode cX11_drawn 83 = .ok (.iconst 1, 1) := by decide +kernel
theorem dX11_drawn_84 : decode cX11_drawn 84 = .ok (.iadd, 1) := by decide +kernel
theorem dX11_drawn_85 : decode cX11_drawn 85 = .ok (.imul, 1) := by decide +kernel
theorem dX11_drawn_86 : decode cX11_drawn 86 = .ok (.iadd, 1) := by decide +kernel
theorem dX11_drawn_87 : decode cX11_drawn 87 = .ok (.bipush 10, 2) := by decide +kernel
theorem dX11_drawn_89 : decode cX11_drawn 89 = .ok (.iload 4, 2) := by decide +kernel
theorem dX11_drawn_91 : decode cX11_drawn 91 = .ok (.bipush 64, 2) := by decide +kernel
theorem dX11_drawn_93 : decode cX11_drawn 93 = .ok (.idiv, 1) := by decide +kernel
theorem dX11_drawn_94 : decode cX11_drawn 94 = .ok (.iconst 5, 1) := by decide +kernel
theorem dX11_drawn_95 : decode cX11_drawn 95 = .ok (.irem, 1) := by decide +kernel
theorem dX11_drawn_96 : decode cX11_drawn 96 = .ok (.iconst 1, 1) := by decide +kernel
theorem dX11_drawn_97 : decode cX11_drawn 97 = .ok (.iadd, 1) := by decide +kernel
theorem dX11_drawn_98 : decode cX11_drawn 98 = .ok (.imul, 1) := by decide +kernel
theorem dX11_drawn_99 : decode cX11_drawn 99 = .ok (.iadd, 1) := by decide +kernel
theorem dX11_drawn_100 : decode cX11_drawn 100 = .ok (.iload 4, 2) := by decide +kernel
theorem dX11_drawn_102 : decode cX11_drawn 102 = .ok (.sipush 512, 3) := by decide +kernel
theorem dX11_drawn_105 : decode cX11_drawn 105 = .ok (.idiv, 1) := by decide +kernel
theorem dX11_drawn_106 : decode cX11_drawn 106 = .ok (.iconst 5, 1) := by decide +kernel
theorem dX11_drawn_107 : decode cX11_drawn 107 = .ok (.irem, 1) := by decide +kernel
theorem dX11_drawn_108 : decode cX11_drawn 108 = .ok (.iadd, 1) := by decide +kernel
theorem dX11_drawn_109 : decode cX11_drawn 109 = .ok (.iconst 1, 1) := by decide +kernel
theorem dX11_drawn_110 : decode cX11_drawn 110 = .ok (.iadd, 1) := by decide +kernel
theorem dX11_drawn_111 : decode cX11_drawn 111 = .ok (.invokevirtual 113, 3) := by decide +kernel
theorem dX11_drawn_114 : decode cX11_drawn 114 = .ok (.iconst 0, 1) := by decide +kernel
theorem dX11_drawn_115 : decode cX11_drawn 115 = .ok (.istore 5, 2) := by decide +kernel
theorem dX11_drawn_117 : decode cX11_drawn 117 = .ok (.iload 5, 2) := by decide +kernel
theorem dX11_drawn_119 : decode cX11_drawn 119 = .ok (.iconst 3, 1) := by decide +kernel
theorem dX11_drawn_120 : decode cX11_drawn 120 = .ok (.if_icmp .ge 18, 3) := by decide +kernel
theorem dX11_drawn_123 : decode cX11_drawn 123 = .ok (.iload_n 2, 1) := by decide +kernel
theorem dX11_drawn_124 : decode cX11_drawn 124 = .ok (.aload_n 0, 1) := by decide +kernel
theorem dX11_drawn_125 : decode cX11_drawn 125 = .ok (.iload 5, 2) := by decide +kernel
theorem dX11_drawn_127 : decode cX11_drawn 127 = .ok (.invokevirtual 117, 3) := by decide +kernel
theorem dX11_drawn_130 : decode cX11_drawn 130 = .ok (.iadd, 1) := by decide +kernel
theorem dX11_drawn_131 : decode cX11_drawn 131 = .ok (.istore_n 2, 1) := by decide +kernel
theorem dX11_drawn_132 : decode cX11_drawn 132 = .ok (.iinc 5 1, 3) := by decide +kernel
theorem dX11_drawn_135 : decode cX11_drawn 135 = .ok (.goto (-18), 3) := by decide +kernel
theorem dX11_drawn_138 : decode cX11_drawn 138 = .ok (.iinc 3 1, 3) := by decide +kernel
theorem dX11_drawn_141 : decode cX11_drawn 141 = .ok (.goto (-109), 3) := by decide +kernel
theorem dX11_drawn_144 : decode cX11_drawn 144 = .ok (.iload_n 2, 1) := by decide +kernel
theorem dX11_drawn_145 : decode cX11_drawn 145 = .ok (.ireturn, 1) := by decide +kernel
theorem dX11_keep_0 : decode cX11_keep 0 = .ok (.aload_n 0, 1) := by decide +kernel
theorem dX11_keep_1 : decode cX11_keep 1 = .ok (.iconst 0, 1) := by decide +kernel
theorem dX11_keep_2 : decode cX11_keep 2 = .ok (.putfield 68, 3) := by decide +kernel
theorem dX11_keep_5 : decode cX11_keep 5 = .ok (.iload_n 1, 1) := by decide +kernel
theorem dX11_keep_6 : decode cX11_keep 6 = .ok (.i2l, 1) := by decide +kernel
theorem dX11_keep_7 : decode cX11_keep 7 = .ok (.lconst 0, 1) := by decide +kernel
theorem dX11_keep_8 : decode cX11_keep 8 = .ok (.lconst 1, 1) := by decide +kernel
theorem dX11_keep_9 : decode cX11_keep 9 = .ok (.invokestatic 72, 3) := by decide +kernel
theorem dX11_keep_12 : decode cX11_keep 12 = .ok (.ifCond .ne 5, 3) := by decide +kernel
theorem dX11_keep_15 : decode cX11_keep 15 = .ok (.iconst (-1), 1) := by decide +kernel
theorem dX11_keep_16 : decode cX11_keep 16 = .ok (.ireturn, 1) := by decide +kernel
theorem dX11_keep_17 : decode cX11_keep 17 = .ok (.aload_n 0, 1) := by decide +kernel
theorem dX11_keep_18 : decode cX11_keep 18 = .ok (.getfield 28, 3) := by decide +kernel
theorem dX11_keep_21 : decode cX11_keep 21 = .ok (.iload_n 1, 1) := by decide +kernel
theorem dX11_keep_22 : decode cX11_keep 22 = .ok (.iconst 1, 1) := by decide +kernel
theorem dX11_keep_23 : decode cX11_keep 23 = .ok (.bastore, 1) := by decide +kernel
theorem dX11_keep_24 : decode cX11_keep 24 = .ok (.iconst 0, 1) := by decide +kernel
theorem dX11_keep_25 : decode cX11_keep 25 = .ok (.istore_n 2, 1) := by decide +kernel
theorem dX11_keep_26 : decode cX11_keep 26 = .ok (.iload_n 2, 1) := by decide +kernel
theorem dX11_keep_27 : decode cX11_keep 27 = .ok (.bipush 22, 2) := by decide +kernel
theorem dX11_keep_29 : decode cX11_keep 29 = .ok (.if_icmp .ge 26, 3) := by decide +kernel
theorem dX11_keep_32 : decode cX11_keep 32 = .ok (.aload_n 0, 1) := by decide +kernel
theorem dX11_keep_33 : decode cX11_keep 33 = .ok (.getfield 25, 3) := by decide +kernel
theorem dX11_keep_36 : decode cX11_keep 36 = .ok (.bipush 22, 2) := by decide +kernel
theorem dX11_keep_38 : decode cX11_keep 38 = .ok (.iload_n 1, 1) := by decide +kernel
theorem dX11_keep_39 : decode cX11_keep 39 = .ok (.imul, 1) := by decide +kernel
theorem dX11_keep_40 : decode cX11_keep 40 = .ok (.iload_n 2, 1) := by decide +kernel
theorem dX11_keep_41 : decode cX11_keep 41 = .ok (.iadd, 1) := by decide +kernel
theorem dX11_keep_42 : decode cX11_keep 42 = .ok (.aload_n 0, 1) := by decide +kernel
theorem dX11_keep_43 : decode cX11_keep 43 = .ok (.getfield 16, 3) := by decide +kernel
theorem dX11_keep_46 : decode cX11_keep 46 = .ok (.iload_n 2, 1) := by decide +kernel
theorem dX11_keep_47 : decode cX11_keep 47 = .ok (.iaload, 1) := by decide +kernel
theorem dX11_keep_48 : decode cX11_keep 48 = .ok (.iastore, 1) := by decide +kernel
theorem dX11_keep_49 : decode cX11_keep 49 = .ok (.iinc 2 1, 3) := by decide +kernel
theorem dX11_keep_52 : decode cX11_keep 52 = .ok (.goto (-26), 3) := by decide +kernel
theorem dX11_keep_55 : decode cX11_keep 55 = .ok (.aload_n 0, 1) := by decide +kernel
theorem dX11_keep_56 : decode cX11_keep 56 = .ok (.getfield 16, 3) := by decide +kernel
theorem dX11_keep_59 : decode cX11_keep 59 = .ok (.iconst 0, 1) := by decide +kernel
theorem dX11_keep_60 : decode cX11_keep 60 = .ok (.iaload, 1) := by decide +kernel
theorem dX11_keep_61 : decode cX11_keep 61 = .ok (.ireturn, 1) := by decide +kernel
theorem dX11_again_0 : decode cX11_again 0 = .ok (.aload_n 0, 1) := by decide +kernel
theorem dX11_again_1 : decode cX11_again 1 = .ok (.iconst 0, 1) := by decide +kernel
theorem dX11_again_2 : decode cX11_again 2 = .ok (.putfield 68, 3) := by decide +kernel
theorem dX11_again_5 : decode cX11_again 5 = .ok (.iload_n 1, 1) := by decide +kernel
theorem dX11_again_6 : decode cX11_again 6 = .ok (.i2l, 1) := by decide +kernel
theorem dX11_again_7 : decode cX11_again 7 = .ok (.lconst 0, 1) := by decide +kernel
theorem dX11_again_8 : decode cX11_again 8 = .ok (.lconst 1, 1) := by decide +kernel
theorem dX11_again_9 : decode cX11_again 9 = .ok (.invokestatic 72, 3) := by decide +kernel
theorem dX11_again_12 : decode cX11_again 12 = .ok (.ifCond .ne 5, 3) := by decide +kernel
theorem dX11_again_15 : decode cX11_again 15 = .ok (.iconst (-1), 1) := by decide +kernel
theorem dX11_again_16 : decode cX11_again 16 = .ok (.ireturn, 1) := by decide +kernel
theorem dX11_again_17 : decode cX11_again 17 = .ok (.aload_n 0, 1) := by decide +kernel
theorem dX11_again_18 : decode cX11_again 18 = .ok (.getfield 28, 3) := by decide +kernel
theorem dX11_again_21 : decode cX11_again 21 = .ok (.iload_n 1, 1) := by decide +kernel
theorem dX11_again_22 : decode cX11_again 22 = .ok (.baload, 1) := by decide +kernel
theorem dX11_again_23 : decode cX11_again 23 = .ok (.ifCond .ne 6, 3) := by decide +kernel
theorem dX11_again_26 : decode cX11_again 26 = .ok (.bipush (-3), 2) := by decide +kernel
theorem dX11_again_28 : decode cX11_again 28 = .ok (.ireturn, 1) := by decide +kernel
theorem dX11_again_29 : decode cX11_again 29 = .ok (.iconst 0, 1) := by decide +kernel
theorem dX11_again_30 : decode cX11_again 30 = .ok (.istore_n 2, 1) := by decide +kernel
theorem dX11_again_31 : decode cX11_again 31 = .ok (.iload_n 2, 1) := by decide +kernel
theorem dX11_again_32 : decode cX11_again 32 = .ok (.bipush 22, 2) := by decide +kernel
theorem dX11_again_34 : decode cX11_again 34 = .ok (.if_icmp .ge 26, 3) := by decide +kernel
theorem dX11_again_37 : decode cX11_again 37 = .ok (.aload_n 0, 1) := by decide +kernel
theorem dX11_again_38 : decode cX11_again 38 = .ok (.getfield 16, 3) := by decide +kernel
theorem dX11_again_41 : decode cX11_again 41 = .ok (.iload_n 2, 1) := by decide +kernel
theorem dX11_again_42 : decode cX11_again 42 = .ok (.aload_n 0, 1) := by decide +kernel
theorem dX11_again_43 : decode cX11_again 43 = .ok (.getfield 25, 3) := by decide +kernel
theorem dX11_again_46 : decode cX11_again 46 = .ok (.bipush 22, 2) := by decide +kernel
theorem dX11_again_48 : decode cX11_again 48 = .ok (.iload_n 1, 1) := by decide +kernel
theorem dX11_again_49 : decode cX11_again 49 = .ok (.imul, 1) := by decide +kernel
theorem dX11_again_50 : decode cX11_again 50 = .ok (.iload_n 2, 1) := by decide +kernel
theorem dX11_again_51 : decode cX11_again 51 = .ok (.iadd, 1) := by decide +kernel
theorem dX11_again_52 : decode cX11_again 52 = .ok (.iaload, 1) := by decide +kernel
theorem dX11_again_53 : decode cX11_again 53 = .ok (.iastore, 1) := by decide +kernel
theorem dX11_again_54 : decode cX11_again 54 = .ok (.iinc 2 1, 3) := by decide +kernel
theorem dX11_again_57 : decode cX11_again 57 = .ok (.goto (-26), 3) := by decide +kernel
theorem dX11_again_60 : decode cX11_again 60 = .ok (.aload_n 0, 1) := by decide +kernel
theorem dX11_again_61 : decode cX11_again 61 = .ok (.iconst 0, 1) := by decide +kernel
theorem dX11_again_62 : decode cX11_again 62 = .ok (.putfield 99, 3) := by decide +kernel
theorem dX11_again_65 : decode cX11_again 65 = .ok (.aload_n 0, 1) := by decide +kernel
theorem dX11_again_66 : decode cX11_again 66 = .ok (.getfield 16, 3) := by decide +kernel
theorem dX11_again_69 : decode cX11_again 69 = .ok (.iconst 0, 1) := by decide +kernel
theorem dX11_again_70 : decode cX11_again 70 = .ok (.iaload, 1) := by decide +kernel
theorem dX11_again_71 : decode cX11_again 71 = .ok (.ireturn, 1) := by decide +kernel
