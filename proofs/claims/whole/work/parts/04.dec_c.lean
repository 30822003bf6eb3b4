theorem dX10_init_0 : decode cX10_init 0 = .ok (.aload_n 0, 1) := by decide +kernel
theorem dX10_init_1 : decode cX10_init 1 = .ok (.invokespecial 1, 3) := by decide +kernel
theorem dX10_init_4 : decode cX10_init 4 = .ok (.aload_n 0, 1) := by decide +kernel
theorem dX10_init_5 : decode cX10_init 5 = .ok (.bipush 75, 2) := by decide +kernel
theorem dX10_init_7 : decode cX10_init 7 = .ok (.newarray .int, 2) := by decide +kernel
theorem dX10_init_9 : decode cX10_init 9 = .ok (.putfield 7, 3) := by decide +kernel
theorem dX10_init_12 : decode cX10_init 12 = .ok (.aload_n 0, 1) := by decide +kernel
theorem dX10_init_13 : decode cX10_init 13 = .ok (.bipush 75, 2) := by decide +kernel
theorem dX10_init_15 : decode cX10_init 15 = .ok (.newarray .int, 2) := by decide +kernel
theorem dX10_init_17 : decode cX10_init 17 = .ok (.putfield 13, 3) := by decide +kernel
theorem dX10_init_20 : decode cX10_init 20 = .ok (.aload_n 0, 1) := by decide +kernel
theorem dX10_init_21 : decode cX10_init 21 = .ok (.bipush 48, 2) := by decide +kernel
theorem dX10_init_23 : decode cX10_init 23 = .ok (.newarray .int, 2) := by decide +kernel
theorem dX10_init_25 : decode cX10_init 25 = .ok (.putfield 16, 3) := by decide +kernel
theorem dX10_init_28 : decode cX10_init 28 = .ok (.aload_n 0, 1) := by decide +kernel
theorem dX10_init_29 : decode cX10_init 29 = .ok (.sipush 20001, 3) := by decide +kernel
theorem dX10_init_32 : decode cX10_init 32 = .ok (.newarray .long, 2) := by decide +kernel
theorem dX10_init_34 : decode cX10_init 34 = .ok (.putfield 19, 3) := by decide +kernel
theorem dX10_init_37 : decode cX10_init 37 = .ok (.aload_n 0, 1) := by decide +kernel
theorem dX10_init_38 : decode cX10_init 38 = .ok (.ldc 23, 2) := by decide +kernel
theorem dX10_init_40 : decode cX10_init 40 = .ok (.newarray .int, 2) := by decide +kernel
theorem dX10_init_42 : decode cX10_init 42 = .ok (.putfield 24, 3) := by decide +kernel
theorem dX10_init_45 : decode cX10_init 45 = .ok (.aload_n 0, 1) := by decide +kernel
theorem dX10_init_46 : decode cX10_init 46 = .ok (.sipush 20001, 3) := by decide +kernel
theorem dX10_init_49 : decode cX10_init 49 = .ok (.newarray .int, 2) := by decide +kernel
theorem dX10_init_51 : decode cX10_init 51 = .ok (.putfield 27, 3) := by decide +kernel
theorem dX10_init_54 : decode cX10_init 54 = .ok (.aload_n 0, 1) := by decide +kernel
theorem dX10_init_55 : decode cX10_init 55 = .ok (.sipush 20001, 3) := by decide +kernel
theorem dX10_init_58 : decode cX10_init 58 = .ok (.newarray .int, 2) := by decide +kernel
theorem dX10_init_60 : decode cX10_init 60 = .ok (.putfield 30, 3) := by decide +kernel
theorem dX10_init_63 : decode cX10_init 63 = .ok (.aload_n 0, 1) := by decide +kernel
theorem dX10_init_64 : decode cX10_init 64 = .ok (.sipush 20001, 3) := by decide +kernel
theorem dX10_init_67 : decode cX10_init 67 = .ok (.newarray .int, 2) := by decide +kernel
theorem dX10_init_69 : decode cX10_init 69 = .ok (.putfield 33, 3) := by decide +kernel
theorem dX10_init_72 : decode cX10_init 72 = .ok (.aload_n 0, 1) := by decide +kernel
theorem dX10_init_73 : decode cX10_init 73 = .ok (.bipush 75, 2) := by decide +kernel
theorem dX10_init_75 : decode cX10_init 75 = .ok (.newarray .long, 2) := by decide +kernel
theorem dX10_init_77 : decode cX10_init 77 = .ok (.putfield 36, 3) := by decide +kernel
theorem dX10_init_80 : decode cX10_init 80 = .ok (.aload_n 0, 1) := by decide +kernel
theorem dX10_init_81 : decode cX10_init 81 = .ok (.bipush 75, 2) := by decide +kernel
theorem dX10_init_83 : decode cX10_init 83 = .ok (.newarray .long, 2) := by decide +kernel
theorem dX10_init_85 : decode cX10_init 85 = .ok (.putfield 39, 3) := by decide +kernel
theorem dX10_init_88 : decode cX10_init 88 = .ok (.aload_n 0, 1) := by decide +kernel
theorem dX10_init_89 : decode cX10_init 89 = .ok (.bipush 75, 2) := by decide +kernel
theorem dX10_init_91 : decode cX10_init 91 = .ok (.newarray .int, 2) := by decide +kernel
theorem dX10_init_93 : decode cX10_init 93 = .ok (.putfield 42, 3) := by decide +kernel
theorem dX10_init_96 : decode cX10_init 96 = .ok (.aload_n 0, 1) := by decide +kernel
theorem dX10_init_97 : decode cX10_init 97 = .ok (.bipush 8, 2) := by decide +kernel
theorem dX10_init_99 : decode cX10_init 99 = .ok (.newarray .long, 2) := by decide +kernel
theorem dX10_init_101 : decode cX10_init 101 = .ok (.putfield 45, 3) := by decide +kernel
theorem dX10_init_104 : decode cX10_init 104 = .ok (.aload_n 0, 1) := by decide +kernel
theorem dX10_init_105 : decode cX10_init 105 = .ok (.bipush 8, 2) := by decide +kernel
theorem dX10_init_107 : decode cX10_init 107 = .ok (.newarray .int, 2) := by decide +kernel
theorem dX10_init_109 : decode cX10_init 109 = .ok (.putfield 48, 3) := by decide +kernel
theorem dX10_init_112 : decode cX10_init 112 = .ok (.aload_n 0, 1) := by decide +kernel
theorem dX10_init_113 : decode cX10_init 113 = .ok (.bipush 96, 2) := by decide +kernel
theorem dX10_init_115 : decode cX10_init 115 = .ok (.newarray .int, 2) := by decide +kernel
theorem dX10_init_117 : decode cX10_init 117 = .ok (.putfield 51, 3) := by decide +kernel
theorem dX10_init_120 : decode cX10_init 120 = .ok (.aload_n 0, 1) := by decide +kernel
theorem dX10_init_121 : decode cX10_init 121 = .ok (.bipush 8, 2) := by decide +kernel
theorem dX10_init_123 : decode cX10_init 123 = .ok (.newarray .int, 2) := by decide +kernel
theorem dX10_init_125 : decode cX10_init 125 = .ok (.putfield 54, 3) := by decide +kernel
theorem dX10_init_128 : decode cX10_init 128 = .ok (.aload_n 0, 1) := by decide +kernel
theorem dX10_init_129 : decode cX10_init 129 = .ok (.bipush 18, 2) := by decide +kernel
theorem dX10_init_131 : decode cX10_init 131 = .ok (.newarray .long, 2) := by decide +kernel
theorem dX10_init_133 : decode cX10_init 133 = .ok (.putfield 57, 3) := by decide +kernel
theorem dX10_init_136 : decode cX10_init 136 = .ok (.aload_n 0, 1) := by decide +kernel
theorem dX10_init_137 : decode cX10_init 137 = .ok (.sipush 240, 3) := by decide +kernel
theorem dX10_init_140 : decode cX10_init 140 = .ok (.newarray .int, 2) := by decide +kernel
theorem dX10_init_142 : decode cX10_init 142 = .ok (.putfield 60, 3) := by decide +kernel
theorem dX10_init_145 : decode cX10_init 145 = .ok (.aload_n 0, 1) := by decide +kernel
theorem dX10_init_146 : decode cX10_init 146 = .ok (.iconst 2, 1) := by decide +kernel
theorem dX10_init_147 : decode cX10_init 147 = .ok (.newarray .boolean, 2) := by decide +kernel
theorem dX10_init_149 : decode cX10_init 149 = .ok (.putfield 63, 3) := by decide +kernel
theorem dX10_init_152 : decode cX10_init 152 = .ok (.aload_n 0, 1) := by decide +kernel
theorem dX10_init_153 : decode cX10_init 153 = .ok (.ldc2_w 67, 3) := by decide +kernel
theorem dX10_init_156 : decode cX10_init 156 = .ok (.putfield 69, 3) := by decide +kernel
theorem dX10_init_159 : decode cX10_init 159 = .ok (.aload_n 0, 1) := by decide +kernel
theorem dX10_init_160 : decode cX10_init 160 = .ok (.aload_n 0, 1) := by decide +kernel
theorem dX10_init_161 : decode cX10_init 161 = .ok (.getfield 69, 3) := by decide +kernel
theorem dX10_init_164 : decode cX10_init 164 = .ok (.iconst 0, 1) := by decide +kernel
theorem dX10_init_165 : decode cX10_init 165 = .ok (.iconst 0, 1) := by decide +kernel
theorem dX10_init_166 : decode cX10_init 166 = .ok (.iconst 0, 1) := by decide +kernel
theorem dX10_init_167 : decode cX10_init 167 = .ok (.invokestatic 73, 3) := by decide +kernel
theorem dX10_init_170 : decode cX10_init 170 = .ok (.putfield 69, 3) := by decide +kernel
theorem dX10_init_173 : decode cX10_init 173 = .ok (.aload_n 0, 1) := by decide +kernel
theorem dX10_init_174 : decode cX10_init 174 = .ok (.aload_n 0, 1) := by decide +kernel
theorem dX10_init_175 : decode cX10_init 175 = .ok (.getfield 69, 3) := by decide +kernel
theorem dX10_init_178 : decode cX10_init 178 = .ok (.iconst 3, 1) := by decide +kernel
theorem dX10_init_179 : decode cX10_init 179 = .ok (.bipush 24, 2) := by decide +kernel
theorem dX10_init_181 : decode cX10_init 181 = .ok (.iconst 0, 1) := by decide +kernel
theorem dX10_init_182 : decode cX10_init 182 = .ok (.invokestatic 73, 3) := by decide +kernel
theorem dX10_init_185 : decode cX10_init 185 = .ok (.putfield 69, 3) := by decide +kernel
theorem dX10_init_188 : decode cX10_init 188 = .ok (.aload_n 0, 1) := by decide +kernel
theorem dX10_init_189 : decode cX10_init 189 = .ok (.iconst 2, 1) := by decide +kernel
theorem dX10_init_190 : decode cX10_init 190 = .ok (.putfield 77, 3) := by decide +kernel
theorem dX10_init_193 : decode cX10_init 193 = .ok (.aload_n 0, 1) := by decide +kernel
theorem dX10_init_194 : decode cX10_init 194 = .ok (.iconst 5, 1) := by decide +kernel
theorem dX10_init_195 : decode cX10_init 195 = .ok (.putfield 81, 3) := by decide +kernel
theorem dX10_init_198 : decode cX10_init 198 = .ok (.aload_n 0, 1) := by decide +kernel
theorem dX10_init_199 : decode cX10_init 199 = .ok (.bipush 8, 2) := by decide +kernel
theorem dX10_init_201 : decode cX10_init 201 = .ok (.putfield 84, 3) := by decide +kernel
theorem dX10_init_204 : decode cX10_init 204 = .ok (.return_, 1) := by decide +kernel
theorem dX10_in_0 : decode cX10_in 0 = .ok (.lload_n 0, 1) := by decide +kernel
theorem dX10_in_1 : decode cX10_in 1 = .ok (.lload_n 2, 1) := by decide +kernel
theorem dX10_in_2 : decode cX10_in 2 = .ok (.lcmp, 1) := by decide +kernel
theorem dX10_in_3 : decode cX10_in 3 = .ok (.ifCond .lt 14, 3) := by decide +kernel
theorem dX10_in_6 : decode cX10_in 6 = .ok (.lload_n 0, 1) := by decide +kernel
theorem dX10_in_7 : decode cX10_in 7 = .ok (.lload 4, 2) := by decide +kernel
theorem dX10_in_9 : decode cX10_in 9 = .ok (.lcmp, 1) := by decide +kernel
theorem dX10_in_10 : decode cX10_in 10 = .ok (.ifCond .gt 7, 3) := by decide +kernel
theorem dX10_in_13 : decode cX10_in 13 = .ok (.iconst 1, 1) := by decide +kernel
theorem dX10_in_14 : decode cX10_in 14 = .ok (.goto 4, 3) := by decide +kernel
theorem dX10_in_17 : decode cX10_in 17 = .ok (.iconst 0, 1) := by decide +kernel
theorem dX10_in_18 : decode cX10_in 18 = .ok (.ireturn, 1) := by decide +kernel
theorem dX10_size_0 : decode cX10_size 0 = .ok (.iload_n 0, 1) := by decide +kernel
theorem dX10_size_1 : decode cX10_size 1 = .ok (.ifCond .ge 8, 3) := by decide +kernel
theorem dX10_size_4 : decode cX10_size 4 = .ok (.iload_n 0, 1) := by decide +kernel
theorem dX10_size_5 : decode cX10_size 5 = .ok (.ineg, 1) := by decide +kernel
theorem dX10_size_6 : decode cX10_size 6 = .ok (.goto 4, 3) := by decide +kernel
theorem dX10_size_9 : decode cX10_size 9 = .ok (.iload_n 0, 1) := by decide +kernel
theorem dX10_size_10 : decode cX10_size 10 = .ok (.ireturn, 1) := by decide +kernel
theorem dX10_cellOf_0 : decode cX10_cellOf 0 = .ok (.lload_n 0, 1) := by decide +kernel
theorem dX10_cellOf_1 : decode cX10_cellOf 1 = .ok (.bipush 9, 2) := by decide +kernel
theorem dX10_cellOf_3 : decode cX10_cellOf 3 = .ok (.iload_n 2, 1) := by decide +kernel
theorem dX10_cellOf_4 : decode cX10_cellOf 4 = .ok (.imul, 1) := by decide +kernel
theorem dX10_cellOf_5 : decode cX10_cellOf 5 = .ok (.lshr, 1) := by decide +kernel
theorem dX10_cellOf_6 : decode cX10_cellOf 6 = .ok (.l2i, 1) := by decide +kernel
theorem dX10_cellOf_7 : decode cX10_cellOf 7 = .ok (.bipush 31, 2) := by decide +kernel
theorem dX10_cellOf_9 : decode cX10_cellOf 9 = .ok (.iand, 1) := by decide +kernel
theorem dX10_cellOf_10 : decode cX10_cellOf 10 = .ok (.ireturn, 1) := by decide +kernel
theorem dX10_ageOf_0 : decode cX10_ageOf 0 = .ok (.lload_n 0, 1) := by decide +kernel
theorem dX10_ageOf_1 : decode cX10_ageOf 1 = .ok (.bipush 9, 2) := by decide +kernel
theorem dX10_ageOf_3 : decode cX10_ageOf 3 = .ok (.iload_n 2, 1) := by decide +kernel
theorem dX10_ageOf_4 : decode cX10_ageOf 4 = .ok (.imul, 1) := by decide +kernel
theorem dX10_ageOf_5 : decode cX10_ageOf 5 = .ok (.iconst 5, 1) := by decide +kernel
theorem dX10_ageOf_6 : decode cX10_ageOf 6 = .ok (.iadd, 1) := by decide +kernel
theorem dX10_ageOf_7 : decode cX10_ageOf 7 = .ok (.lshr, 1) := by decide +kernel
theorem dX10_ageOf_8 : decode cX10_ageOf 8 = .ok (.l2i, 1) := by decide +kernel
theorem dX10_ageOf_9 : decode cX10_ageOf 9 = .ok (.bipush 15, 2) := by decide +kernel
theorem dX10_ageOf_11 : decode cX10_ageOf 11 = .ok (.iand, 1) := by decide +kernel
theorem dX10_ageOf_12 : decode cX10_ageOf 12 = .ok (.ireturn, 1) := by decide +kernel
theorem dX10_turnOf_0 : decode cX10_turnOf 0 = .ok (.lload_n 0, 1) := by decide +kernel
theorem dX10_turnOf_1 : decode cX10_turnOf 1 = .ok (.bipush 54, 2) := by decide +kernel
theorem dX10_turnOf_3 : decode cX10_turnOf 3 = .ok (.lshr, 1) := by decide +kernel
theorem dX10_turnOf_4 : decode cX10_turnOf 4 = .ok (.l2i, 1) := by decide +kernel
theorem dX10_turnOf_5 : decode cX10_turnOf 5 = .ok (.iconst 1, 1) := by decide +kernel
theorem dX10_turnOf_6 : decode cX10_turnOf 6 = .ok (.iand, 1) := by decide +kernel
theorem dX10_turnOf_7 : decode cX10_turnOf 7 = .ok (.ireturn, 1) := by decide +kernel
theorem dX10_put_0 : decode cX10_put 0 = .ok (.lload_n 0, 1) := by decide +kernel
theorem dX10_put_1 : decode cX10_put 1 = .ok (.ldc2_w 87, 3) := by decide +kernel
theorem dX10_put_4 : decode cX10_put 4 = .ok (.bipush 9, 2) := by decide +kernel
theorem dX10_put_6 : decode cX10_put 6 = .ok (.iload_n 2, 1) := by decide +kernel
theorem dX10_put_7 : decode cX10_put 7 = .ok (.imul, 1) := by decide +kernel
theorem dX10_put_8 : decode cX10_put 8 = .ok (.lshl, 1) := by decide +kernel
theorem dX10_put_9 : decode cX10_put 9 = .ok (.ldc2_w 89, 3) := by decide +kernel
theorem dX10_put_12 : decode cX10_put 12 = .ok (.lxor, 1) := by decide +kernel
theorem dX10_put_13 : decode cX10_put 13 = .ok (.land, 1) := by decide +kernel
theorem dX10_put_14 : decode cX10_put 14 = .ok (.iload_n 3, 1) := by decide +kernel
theorem dX10_put_15 : decode cX10_put 15 = .ok (.iload 4, 2) := by decide +kernel
theorem dX10_put_17 : decode cX10_put 17 = .ok (.iconst 5, 1) := by decide +kernel
theorem dX10_put_18 : decode cX10_put 18 = .ok (.ishl, 1) := by decide +kernel
theorem dX10_put_19 : decode cX10_put 19 = .ok (.ior, 1) := by decide +kernel
theorem dX10_put_20 : decode cX10_put 20 = .ok (.i2l, 1) := by decide +kernel
theorem dX10_put_21 : decode cX10_put 21 = .ok (.bipush 9, 2) := by decide +kernel
theorem dX10_put_23 : decode cX10_put 23 = .ok (.iload_n 2, 1) := by decide +kernel
theorem dX10_put_24 : decode cX10_put 24 = .ok (.imul, 1) := by decide +kernel
theorem dX10_put_25 : decode cX10_put 25 = .ok (.lshl, 1) := by decide +kernel
theorem dX10_put_26 : decode cX10_put 26 = .ok (.lor, 1) := by decide +kernel
theorem dX10_put_27 : decode cX10_put 27 = .ok (.lreturn, 1) := by decide +kernel
theorem dX10_manOn_0 : decode cX10_manOn 0 = .ok (.iconst 0, 1) := by decide +kernel
theorem dX10_manOn_1 : decode cX10_manOn 1 = .ok (.istore_n 3, 1) := by decide +kernel
theorem dX10_manOn_2 : decode cX10_manOn 2 = .ok (.iload_n 3, 1) := by decide +kernel
theorem dX10_manOn_3 : decode cX10_manOn 3 = .ok (.bipush 6, 2) := by decide +kernel
theorem dX10_manOn_5 : decode cX10_manOn 5 = .ok (.if_icmp .ge 20, 3) := by decide +kernel
theorem dX10_manOn_8 : decode cX10_manOn 8 = .ok (.lload_n 0, 1) := by decide +kernel
theorem dX10_manOn_9 : decode cX10_manOn 9 = .ok (.iload_n 3, 1) := by decide +kernel
theorem dX10_manOn_10 : decode cX10_manOn 10 = .ok (.invokestatic 91, 3) := by decide +kernel
theorem dX10_manOn_13 : decode cX10_manOn 13 = .ok (.iload_n 2, 1) := by decide +kernel
theorem dX10_manOn_14 : decode cX10_manOn 14 = .ok (.if_icmp .ne 5, 3) := by decide +kernel
theorem dX10_manOn_17 : decode cX10_manOn 17 = .ok (.iload_n 3, 1) := by decide +kernel
theorem dX10_manOn_18 : decode cX10_manOn 18 = .ok (.ireturn, 1) := by decide +kernel
theorem dX10_manOn_19 : decode cX10_manOn 19 = .ok (.iinc 3 1, 3) := by decide +kernel
theorem dX10_manOn_22 : decode cX10_manOn 22 = .ok (.goto (-20), 3) := by decide +kernel
theorem dX10_manOn_25 : decode cX10_manOn 25 = .ok (.bipush (-6), 2) := by decide +kernel
theorem dX10_manOn_27 : decode cX10_manOn 27 = .ok (.ireturn, 1) := by decide +kernel
theorem dX10_kindOf_0 : decode cX10_kindOf 0 = .ok (.iload_n 1, 1) := by decide +kernel
theorem dX10_kindOf_1 : decode cX10_kindOf 1 = .ok (.aload_n 0, 1) := by decide +kernel
theorem dX10_kindOf_2 : decode cX10_kindOf 2 = .ok (.getfield 77, 3) := by decide +kernel
theorem dX10_kindOf_5 : decode cX10_kindOf 5 = .ok (.if_icmp .ge 7, 3) := by decide +kernel
theorem dX10_kindOf_8 : decode cX10_kindOf 8 = .ok (.iconst 0, 1) := by decide +kernel
theorem dX10_kindOf_9 : decode cX10_kindOf 9 = .ok (.goto 28, 3) := by decide +kernel
theorem dX10_kindOf_12 : decode cX10_kindOf 12 = .ok (.iload_n 1, 1) := by decide +kernel
theorem dX10_kindOf_13 : decode cX10_kindOf 13 = .ok (.aload_n 0, 1) := by decide +kernel
theorem dX10_kindOf_14 : decode cX10_kindOf 14 = .ok (.getfield 81, 3) := by decide +kernel
theorem dX10_kindOf_17 : decode cX10_kindOf 17 = .ok (.if_icmp .ge 7, 3) := by decide +kernel
theorem dX10_kindOf_20 : decode cX10_kindOf 20 = .ok (.iconst 1, 1) := by decide +kernel
theorem dX10_kindOf_21 : decode cX10_kindOf 21 = .ok (.goto 16, 3) := by decide +kernel
theorem dX10_kindOf_24 : decode cX10_kindOf 24 = .ok (.iload_n 1, 1) := by decide +kernel
theorem dX10_kindOf_25 : decode cX10_kindOf 25 = .ok (.aload_n 0, 1) := by decide +kernel
theorem dX10_kindOf_26 : decode cX10_kindOf 26 = .ok (.getfield 84, 3) := by decide +kernel
theorem dX10_kindOf_29 : decode cX10_kindOf 29 = .ok (.if_icmp .ge 7, 3) := by decide +kernel
theorem dX10_kindOf_32 : decode cX10_kindOf 32 = .ok (.iconst 2, 1) := by decide +kernel
theorem dX10_kindOf_33 : decode cX10_kindOf 33 = .ok (.goto 4, 3) := by decide +kernel
theorem dX10_kindOf_36 : decode cX10_kindOf 36 = .ok (.iconst 3, 1) := by decide +kernel
theorem dX10_kindOf_37 : decode cX10_kindOf 37 = .ok (.ireturn, 1) := by decide +kernel
theorem dX10_whyNot_0 : decode cX10_whyNot 0 = .ok (.lload_n 1, 1) := by decide +kernel
theorem dX10_whyNot_1 : decode cX10_whyNot 1 = .ok (.iload_n 3, 1) := by decide +kernel
theorem dX10_whyNot_2 : decode cX10_whyNot 2 = .ok (.invokestatic 91, 3) := by decide +kernel
theorem dX10_whyNot_5 : decode cX10_whyNot 5 = .ok (.istore 5, 2) := by decide +kernel
theorem dX10_whyNot_7 : decode cX10_whyNot 7 = .ok (.aload_n 0, 1) := by decide +kernel
theorem dX10_whyNot_8 : decode cX10_whyNot 8 = .ok (.lload_n 1, 1) := by decide +kernel
theorem dX10_whyNot_9 : decode cX10_whyNot 9 = .ok (.iload_n 3, 1) := by decide +kernel
theorem dX10_whyNot_10 : decode cX10_whyNot 10 = .ok (.invokestatic 95, 3) := by decide +kernel
theorem dX10_whyNot_13 : decode cX10_whyNot 13 = .ok (.invokevirtual 98, 3) := by decide +kernel
theorem dX10_whyNot_16 : decode cX10_whyNot 16 = .ok (.istore 6, 2) := by decide +kernel
theorem dX10_whyNot_18 : decode cX10_whyNot 18 = .ok (.iload 4, 2) := by decide +kernel
theorem dX10_whyNot_20 : decode cX10_whyNot 20 = .ok (.iconst 5, 1) := by decide +kernel
theorem dX10_whyNot_21 : decode cX10_whyNot 21 = .ok (.irem, 1) := by decide +kernel
theorem dX10_whyNot_22 : decode cX10_whyNot 22 = .ok (.iload 5, 2) := by decide +kernel
theorem dX10_whyNot_24 : decode cX10_whyNot 24 = .ok (.iconst 5, 1) := by decide +kernel
theorem dX10_whyNot_25 : decode cX10_whyNot 25 = .ok (.irem, 1) := by decide +kernel
theorem dX10_whyNot_26 : decode cX10_whyNot 26 = .ok (.isub, 1) := by decide +kernel
theorem dX10_whyNot_27 : decode cX10_whyNot 27 = .ok (.invokestatic 102, 3) := by decide +kernel
theorem dX10_whyNot_30 : decode cX10_whyNot 30 = .ok (.istore 7, 2) := by decide +kernel
theorem dX10_whyNot_32 : decode cX10_whyNot 32 = .ok (.iload 4, 2) := by decide +kernel
theorem dX10_whyNot_34 : decode cX10_whyNot 34 = .ok (.iconst 5, 1) := by decide +kernel
theorem dX10_whyNot_35 : decode cX10_whyNot 35 = .ok (.idiv, 1) := by decide +kernel
theorem dX10_whyNot_36 : decode cX10_whyNot 36 = .ok (.iload 5, 2) := by decide +kernel
theorem dX10_whyNot_38 : decode cX10_whyNot 38 = .ok (.iconst 5, 1) := by decide +kernel
theorem dX10_whyNot_39 : decode cX10_whyNot 39 = .ok (.idiv, 1) := by decide +kernel
theorem dX10_whyNot_40 : decode cX10_whyNot 40 = .ok (.isub, 1) := by decide +kernel
theorem dX10_whyNot_41 : decode cX10_whyNot 41 = .ok (.invokestatic 102, 3) := by decide +kernel
theorem dX10_whyNot_44 : decode cX10_whyNot 44 = .ok (.istore 8, 2) := by decide +kernel
theorem dX10_whyNot_46 : decode cX10_whyNot 46 = .ok (.iload 6, 2) := by decide +kernel
theorem dX10_whyNot_48 : decode cX10_whyNot 48 = .ok (.iconst 3, 1) := by decide +kernel
theorem dX10_whyNot_49 : decode cX10_whyNot 49 = .ok (.if_icmp .ne 5, 3) := by decide +kernel
theorem dX10_whyNot_52 : decode cX10_whyNot 52 = .ok (.iconst 3, 1) := by decide +kernel
theorem dX10_whyNot_53 : decode cX10_whyNot 53 = .ok (.ireturn, 1) := by decide +kernel
theorem dX10_whyNot_54 : decode cX10_whyNot 54 = .ok (.iload 6, 2) := by decide +kernel
theorem dX10_whyNot_56 : decode cX10_whyNot 56 = .ok (.ifCond .ne 20, 3) := by decide +kernel
theorem dX10_whyNot_59 : decode cX10_whyNot 59 = .ok (.iload 7, 2) := by decide +kernel
theorem dX10_whyNot_61 : decode cX10_whyNot 61 = .ok (.iload 8, 2) := by decide +kernel
theorem dX10_whyNot_63 : decode cX10_whyNot 63 = .ok (.imul, 1) := by decide +kernel
theorem dX10_whyNot_64 : decode cX10_whyNot 64 = .ok (.iconst 2, 1) := by decide +kernel
theorem dX10_whyNot_65 : decode cX10_whyNot 65 = .ok (.if_icmp .ne 7, 3) := by decide +kernel
theorem dX10_whyNot_68 : decode cX10_whyNot 68 = .ok (.iconst 1, 1) := by decide +kernel
theorem dX10_whyNot_69 : decode cX10_whyNot 69 = .ok (.goto 69, 3) := by decide +kernel
theorem dX10_whyNot_72 : decode cX10_whyNot 72 = .ok (.iconst 0, 1) := by decide +kernel
theorem dX10_whyNot_73 : decode cX10_whyNot 73 = .ok (.goto 65, 3) := by decide +kernel
theorem dX10_whyNot_76 : decode cX10_whyNot 76 = .ok (.iload 6, 2) := by decide +kernel
theorem dX10_whyNot_78 : decode cX10_whyNot 78 = .ok (.iconst 1, 1) := by decide +kernel
theorem dX10_whyNot_79 : decode cX10_whyNot 79 = .ok (.if_icmp .ne 34, 3) := by decide +kernel
theorem dX10_whyNot_82 : decode cX10_whyNot 82 = .ok (.iload 7, 2) := by decide +kernel
theorem dX10_whyNot_84 : decode cX10_whyNot 84 = .ok (.ifCond .ne 7, 3) := by decide +kernel
theorem dX10_whyNot_87 : decode cX10_whyNot 87 = .ok (.iconst 1, 1) := by decide +kernel
theorem dX10_whyNot_88 : decode cX10_whyNot 88 = .ok (.goto 4, 3) := by decide +kernel
theorem dX10_whyNot_91 : decode cX10_whyNot 91 = .ok (.iconst 0, 1) := by decide +kernel
theorem dX10_whyNot_92 : decode cX10_whyNot 92 = .ok (.iload 8, 2) := by decide +kernel
theorem dX10_whyNot_94 : decode cX10_whyNot 94 = .ok (.ifCond .ne 7, 3) := by decide +kernel
theorem dX10_whyNot_97 : decode cX10_whyNot 97 = .ok (.iconst 1, 1) := by decide +kernel
theorem dX10_whyNot_98 : decode cX10_whyNot 98 = .ok (.goto 4, 3) := by decide +kernel
theorem dX10_whyNot_101 : decode cX10_whyNot 101 = .ok (.iconst 0, 1) := by decide +kernel
theorem dX10_whyNot_102 : decode cX10_whyNot 102 = .ok (.if_icmp .eq 7, 3) := by decide +kernel
theorem dX10_whyNot_105 : decode cX10_whyNot 105 = .ok (.iconst 1, 1) := by decide +kernel
theorem dX10_whyNot_106 : decode cX10_whyNot 106 = .ok (.goto 32, 3) := by decide +kernel
theorem dX10_whyNot_109 : decode cX10_whyNot 109 = .ok (.iconst 0, 1) := by decide +kernel
theorem dX10_whyNot_110 : decode cX10_whyNot 110 = .ok (.goto 28, 3) := by decide +kernel
theorem dX10_whyNot_113 : decode cX10_whyNot 113 = .ok (.iload 7, 2) := by decide +kernel
theorem dX10_whyNot_115 : decode cX10_whyNot 115 = .ok (.iconst 2, 1) := by decide +kernel
theorem dX10_whyNot_116 : decode cX10_whyNot 116 = .ok (.if_icmp .ge 21, 3) := by decide +kernel
theorem dX10_whyNot_119 : decode cX10_whyNot 119 = .ok (.iload 8, 2) := by decide +kernel
theorem dX10_whyNot_121 : decode cX10_whyNot 121 = .ok (.iconst 2, 1) := by decide +kernel
theorem dX10_whyNot_122 : decode cX10_whyNot 122 = .ok (.if_icmp .ge 15, 3) := by decide +kernel
theorem dX10_whyNot_125 : decode cX10_whyNot 125 = .ok (.iload 7, 2) := by decide +kernel
theorem dX10_whyNot_127 : decode cX10_whyNot 127 = .ok (.iload 8, 2) := by decide +kernel
theorem dX10_whyNot_129 : decode cX10_whyNot 129 = .ok (.iadd, 1) := by decide +kernel
theorem dX10_whyNot_130 : decode cX10_whyNot 130 = .ok (.ifCond .le 7, 3) := by decide +kernel
theorem dX10_whyNot_133 : decode cX10_whyNot 133 = .ok (.iconst 1, 1) := by decide +kernel
theorem dX10_whyNot_134 : decode cX10_whyNot 134 = .ok (.goto 4, 3) := by decide +kernel
theorem dX10_whyNot_137 : decode cX10_whyNot 137 = .ok (.iconst 0, 1) := by decide +kernel
theorem dX10_whyNot_138 : decode cX10_whyNot 138 = .ok (.istore 9, 2) := by decide +kernel
theorem dX10_whyNot_140 : decode cX10_whyNot 140 = .ok (.iload 9, 2) := by decide +kernel
theorem dX10_whyNot_142 : decode cX10_whyNot 142 = .ok (.ifCond .ne 5, 3) := by decide +kernel
theorem dX10_whyNot_145 : decode cX10_whyNot 145 = .ok (.iconst 4, 1) := by decide +kernel
theorem dX10_whyNot_146 : decode cX10_whyNot 146 = .ok (.ireturn, 1) := by decide +kernel
theorem dX10_whyNot_147 : decode cX10_whyNot 147 = .ok (.iload 6, 2) := by decide +kernel
theorem dX10_whyNot_149 : decode cX10_whyNot 149 = .ok (.iconst 1, 1) := by decide +kernel
theorem dX10_whyNot_150 : decode cX10_whyNot 150 = .ok (.if_icmp .ne 16, 3) := by decide +kernel
theorem dX10_whyNot_153 : decode cX10_whyNot 153 = .ok (.lload_n 1, 1) := by decide +kernel
theorem dX10_whyNot_154 : decode cX10_whyNot 154 = .ok (.iload 5, 2) := by decide +kernel
theorem dX10_whyNot_156 : decode cX10_whyNot 156 = .ok (.iload 4, 2) := by decide +kernel
theorem dX10_whyNot_158 : decode cX10_whyNot 158 = .ok (.invokestatic 105, 3) := by decide +kernel
theorem dX10_whyNot_161 : decode cX10_whyNot 161 = .ok (.ifCond .eq 5, 3) := by decide +kernel
theorem dX10_whyNot_164 : decode cX10_whyNot 164 = .ok (.iconst 5, 1) := by decide +kernel
theorem dX10_whyNot_165 : decode cX10_whyNot 165 = .ok (.ireturn, 1) := by decide +kernel
theorem dX10_whyNot_166 : decode cX10_whyNot 166 = .ok (.lload_n 1, 1) := by decide +kernel
theorem dX10_whyNot_167 : decode cX10_whyNot 167 = .ok (.iload 4, 2) := by decide +kernel
theorem dX10_whyNot_169 : decode cX10_whyNot 169 = .ok (.invokestatic 109, 3) := by decide +kernel
theorem dX10_whyNot_172 : decode cX10_whyNot 172 = .ok (.istore 10, 2) := by decide +kernel
theorem dX10_whyNot_174 : decode cX10_whyNot 174 = .ok (.iload 10, 2) := by decide +kernel
theorem dX10_whyNot_176 : decode cX10_whyNot 176 = .ok (.ifCond .lt 18, 3) := by decide +kernel
theorem dX10_whyNot_179 : decode cX10_whyNot 179 = .ok (.iload 10, 2) := by decide +kernel
theorem dX10_whyNot_181 : decode cX10_whyNot 181 = .ok (.iconst 3, 1) := by decide +kernel
theorem dX10_whyNot_182 : decode cX10_whyNot 182 = .ok (.idiv, 1) := by decide +kernel
theorem dX10_whyNot_183 : decode cX10_whyNot 183 = .ok (.iload_n 3, 1) := by decide +kernel
theorem dX10_whyNot_184 : decode cX10_whyNot 184 = .ok (.iconst 3, 1) := by decide +kernel
theorem dX10_whyNot_185 : decode cX10_whyNot 185 = .ok (.idiv, 1) := by decide +kernel
theorem dX10_whyNot_186 : decode cX10_whyNot 186 = .ok (.if_icmp .ne 8, 3) := by decide +kernel
theorem dX10_whyNot_189 : decode cX10_whyNot 189 = .ok (.bipush 6, 2) := by decide +kernel
theorem dX10_whyNot_191 : decode cX10_whyNot 191 = .ok (.goto 5, 3) := by decide +kernel
theorem dX10_whyNot_194 : decode cX10_whyNot 194 = .ok (.bipush (-6), 2) := by decide +kernel
theorem dX10_whyNot_196 : decode cX10_whyNot 196 = .ok (.ireturn, 1) := by decide +kernel
theorem dX10_isBetween_0 : decode cX10_isBetween 0 = .ok (.iload_n 2, 1) := by decide +kernel
theorem dX10_isBetween_1 : decode cX10_isBetween 1 = .ok (.iconst 5, 1) := by decide +kernel
theorem dX10_isBetween_2 : decode cX10_isBetween 2 = .ok (.irem, 1) := by decide +kernel
theorem dX10_isBetween_3 : decode cX10_isBetween 3 = .ok (.iload_n 3, 1) := by decide +kernel
theorem dX10_isBetween_4 : decode cX10_isBetween 4 = .ok (.iconst 5, 1) := by decide +kernel
theorem dX10_isBetween_5 : decode cX10_isBetween 5 = .ok (.irem, 1) := by decide +kernel
theorem dX10_isBetween_6 : decode cX10_isBetween 6 = .ok (.if_icmp .ne 7, 3) := by decide +kernel
theorem dX10_isBetween_9 : decode cX10_isBetween 9 = .ok (.iconst 5, 1) := by decide +kernel
theorem dX10_isBetween_10 : decode cX10_isBetween 10 = .ok (.goto 4, 3) := by decide +kernel
theorem dX10_isBetween_13 : decode cX10_isBetween 13 = .ok (.iconst 1, 1) := by decide +kernel
theorem dX10_isBetween_14 : decode cX10_isBetween 14 = .ok (.istore 4, 2) := by decide +kernel
theorem dX10_isBetween_16 : decode cX10_isBetween 16 = .ok (.iload_n 2, 1) := by decide +kernel
theorem dX10_isBetween_17 : decode cX10_isBetween 17 = .ok (.iload_n 3, 1) := by decide +kernel
theorem dX10_isBetween_18 : decode cX10_isBetween 18 = .ok (.if_icmp .ge 7, 3) := by decide +kernel
theorem dX10_isBetween_21 : decode cX10_isBetween 21 = .ok (.iload_n 2, 1) := by decide +kernel
theorem dX10_isBetween_22 : decode cX10_isBetween 22 = .ok (.goto 4, 3) := by decide +kernel
theorem dX10_isBetween_25 : decode cX10_isBetween 25 = .ok (.iload_n 3, 1) := by decide +kernel
theorem dX10_isBetween_26 : decode cX10_isBetween 26 = .ok (.istore 5, 2) := by decide +kernel
theorem dX10_isBetween_28 : decode cX10_isBetween 28 = .ok (.iload_n 2, 1) := by decide +kernel
theorem dX10_isBetween_29 : decode cX10_isBetween 29 = .ok (.iload_n 3, 1) := by decide +kernel
theorem dX10_isBetween_30 : decode cX10_isBetween 30 = .ok (.if_icmp .ge 7, 3) := by decide +kernel
theorem dX10_isBetween_33 : decode cX10_isBetween 33 = .ok (.iload_n 3, 1) := by decide +kernel
theorem dX10_isBetween_34 : decode cX10_isBetween 34 = .ok (.goto 4, 3) := by decide +kernel
theorem dX10_isBetween_37 : decode cX10_isBetween 37 = .ok (.iload_n 2, 1) := by decide +kernel
theorem dX10_isBetween_38 : decode cX10_isBetween 38 = .ok (.istore 6, 2) := by decide +kernel
theorem dX10_isBetween_40 : decode cX10_isBetween 40 = .ok (.iload 5, 2) := by decide +kernel
theorem dX10_isBetween_42 : decode cX10_isBetween 42 = .ok (.iload 4, 2) := by decide +kernel
theorem dX10_isBetween_44 : decode cX10_isBetween 44 = .ok (.iadd, 1) := by decide +kernel
theorem dX10_isBetween_45 : decode cX10_isBetween 45 = .ok (.istore 7, 2) := by decide +kernel
theorem dX10_isBetween_47 : decode cX10_isBetween 47 = .ok (.iload 7, 2) := by decide +kernel
theorem dX10_isBetween_49 : decode cX10_isBetween 49 = .ok (.iload 6, 2) := by decide +kernel
theorem dX10_isBetween_51 : decode cX10_isBetween 51 = .ok (.if_icmp .ge 24, 3) := by decide +kernel
theorem dX10_isBetween_54 : decode cX10_isBetween 54 = .ok (.lload_n 0, 1) := by decide +kernel
theorem dX10_isBetween_55 : decode cX10_isBetween 55 = .ok (.iload 7, 2) := by decide +kernel
theorem dX10_isBetween_57 : decode cX10_isBetween 57 = .ok (.invokestatic 109, 3) := by decide +kernel
theorem dX10_isBetween_60 : decode cX10_isBetween 60 = .ok (.ifCond .lt 5, 3) := by decide +kernel
theorem dX10_isBetween_63 : decode cX10_isBetween 63 = .ok (.iconst 1, 1) := by decide +kernel
theorem dX10_isBetween_64 : decode cX10_isBetween 64 = .ok (.ireturn, 1) := by decide +kernel
theorem dX10_isBetween_65 : decode cX10_isBetween 65 = .ok (.iload 7, 2) := by decide +kernel
theorem dX10_isBetween_67 : decode cX10_isBetween 67 = .ok (.iload 4, 2) := by decide +kernel
theorem dX10_isBetween_69 : decode cX10_isBetween 69 = .ok (.iadd, 1) := by decide +kernel
theorem dX10_isBetween_70 : decode cX10_isBetween 70 = .ok (.istore 7, 2) := by decide +kernel
theorem dX10_isBetween_72 : decode cX10_isBetween 72 = .ok (.goto (-25), 3) := by decide +kernel
theorem dX10_isBetween_75 : decode cX10_isBetween 75 = .ok (.iconst 0, 1) := by decide +kernel
theorem dX10_isBetween_76 : decode cX10_isBetween 76 = .ok (.ireturn, 1) := by decide +kernel
theorem dX10_canGo_0 : decode cX10_canGo 0 = .ok (.lload_n 1, 1) := by decide +kernel
theorem dX10_canGo_1 : decode cX10_canGo 1 = .ok (.iload_n 3, 1) := by decide +kernel
theorem dX10_canGo_2 : decode cX10_canGo 2 = .ok (.invokestatic 91, 3) := by decide +kernel
theorem dX10_canGo_5 : decode cX10_canGo 5 = .ok (.bipush 31, 2) := by decide +kernel
theorem dX10_canGo_7 : decode cX10_canGo 7 = .ok (.if_icmp .eq 20, 3) := by decide +kernel
theorem dX10_canGo_10 : decode cX10_canGo 10 = .ok (.aload_n 0, 1) := by decide +kernel
theorem dX10_canGo_11 : decode cX10_canGo 11 = .ok (.lload_n 1, 1) := by decide +kernel
theorem dX10_canGo_12 : decode cX10_canGo 12 = .ok (.iload_n 3, 1) := by decide +kernel
theorem dX10_canGo_13 : decode cX10_canGo 13 = .ok (.iload 4, 2) := by decide +kernel
theorem dX10_canGo_15 : decode cX10_canGo 15 = .ok (.invokevirtual 112, 3) := by decide +kernel
theorem dX10_canGo_18 : decode cX10_canGo 18 = .ok (.bipush (-6), 2) := by decide +kernel
theorem dX10_canGo_20 : decode cX10_canGo 20 = .ok (.if_icmp .ne 7, 3) := by decide +kernel
theorem dX10_canGo_23 : decode cX10_canGo 23 = .ok (.iconst 1, 1) := by decide +kernel
theorem dX10_canGo_24 : decode cX10_canGo 24 = .ok (.goto 4, 3) := by decide +kernel
theorem dX10_canGo_27 : decode cX10_canGo 27 = .ok (.iconst 0, 1) := by decide +kernel
theorem dX10_canGo_28 : decode cX10_canGo 28 = .ok (.ireturn, 1) := by decide +kernel
theorem dX10_manMoves_0 : decode cX10_manMoves 0 = .ok (.iconst 0, 1) := by decide +kernel
theorem dX10_manMoves_1 : decode cX10_manMoves 1 = .ok (.istore 4, 2) := by decide +kernel
theorem dX10_manMoves_3 : decode cX10_manMoves 3 = .ok (.iload 4, 2) := by decide +kernel
theorem dX10_manMoves_5 : decode cX10_manMoves 5 = .ok (.bipush 25, 2) := by decide +kernel
theorem dX10_manMoves_7 : decode cX10_manMoves 7 = .ok (.if_icmp .ge 22, 3) := by decide +kernel
theorem dX10_manMoves_10 : decode cX10_manMoves 10 = .ok (.aload_n 0, 1) := by decide +kernel
theorem dX10_manMoves_11 : decode cX10_manMoves 11 = .ok (.lload_n 1, 1) := by decide +kernel
theorem dX10_manMoves_12 : decode cX10_manMoves 12 = .ok (.iload_n 3, 1) := by decide +kernel
theorem dX10_manMoves_13 : decode cX10_manMoves 13 = .ok (.iload 4, 2) := by decide +kernel
theorem dX10_manMoves_15 : decode cX10_manMoves 15 = .ok (.invokevirtual 116, 3) := by decide +kernel
theorem dX10_manMoves_18 : decode cX10_manMoves 18 = .ok (.ifCond .eq 5, 3) := by decide +kernel
theorem dX10_manMoves_21 : decode cX10_manMoves 21 = .ok (.iconst 1, 1) := by decide +kernel
theorem dX10_manMoves_22 : decode cX10_manMoves 22 = .ok (.ireturn, 1) := by decide +kernel
theorem dX10_manMoves_23 : decode cX10_manMoves 23 = .ok (.iinc 4 1, 3) := by decide +kernel
theorem dX10_manMoves_26 : decode cX10_manMoves 26 = .ok (.goto (-23), 3) := by decide +kernel
theorem dX10_manMoves_29 : decode cX10_manMoves 29 = .ok (.iconst 0, 1) := by decide +kernel
theorem dX10_manMoves_30 : decode cX10_manMoves 30 = .ok (.ireturn, 1) := by decide +kernel
theorem dX10_sideMoves_0 : decode cX10_sideMoves 0 = .ok (.aload_n 0, 1) := by decide +kernel
theorem dX10_sideMoves_1 : decode cX10_sideMoves 1 = .ok (.lload_n 1, 1) := by decide +kernel
theorem dX10_sideMoves_2 : decode cX10_sideMoves 2 = .ok (.iconst 3, 1) := by decide +kernel
theorem dX10_sideMoves_3 : decode cX10_sideMoves 3 = .ok (.iload_n 3, 1) := by decide +kernel
theorem dX10_sideMoves_4 : decode cX10_sideMoves 4 = .ok (.imul, 1) := by decide +kernel
theorem dX10_sideMoves_5 : decode cX10_sideMoves 5 = .ok (.invokevirtual 119, 3) := by decide +kernel
theorem dX10_sideMoves_8 : decode cX10_sideMoves 8 = .ok (.ifCond .ne 29, 3) := by decide +kernel
theorem dX10_sideMoves_11 : decode cX10_sideMoves 11 = .ok (.aload_n 0, 1) := by decide +kernel
theorem dX10_sideMoves_12 : decode cX10_sideMoves 12 = .ok (.lload_n 1, 1) := by decide +kernel
theorem dX10_sideMoves_13 : decode cX10_sideMoves 13 = .ok (.iconst 3, 1) := by decide +kernel
theorem dX10_sideMoves_14 : decode cX10_sideMoves 14 = .ok (.iload_n 3, 1) := by decide +kernel
theorem dX10_sideMoves_15 : decode cX10_sideMoves 15 = .ok (.imul, 1) := by decide +kernel
theorem dX10_sideMoves_16 : decode cX10_sideMoves 16 = .ok (.iconst 1, 1) := by decide +kernel
theorem dX10_sideMoves_17 : decode cX10_sideMoves 17 = .ok (.iadd, 1) := by decide +kernel
theorem dX10_sideMoves_18 : decode cX10_sideMoves 18 = .ok (.invokevirtual 119, 3) := by decide +kernel
theorem dX10_sideMoves_21 : decode cX10_sideMoves 21 = .ok (.ifCond .ne 16, 3) := by decide +kernel
theorem dX10_sideMoves_24 : decode cX10_sideMoves 24 = .ok (.aload_n 0, 1) := by decide +kernel
theorem dX10_sideMoves_25 : decode cX10_sideMoves 25 = .ok (.lload_n 1, 1) := by decide +kernel
theorem dX10_sideMoves_26 : decode cX10_sideMoves 26 = .ok (.iconst 3, 1) := by decide +kernel
theorem dX10_sideMoves_27 : decode cX10_sideMoves 27 = .ok (.iload_n 3, 1) := by decide +kernel
theorem dX10_sideMoves_28 : decode cX10_sideMoves 28 = .ok (.imul, 1) := by decide +kernel
theorem dX10_sideMoves_29 : decode cX10_sideMoves 29 = .ok (.iconst 2, 1) := by decide +kernel
theorem dX10_sideMoves_30 : decode cX10_sideMoves 30 = .ok (.iadd, 1) := by decide +kernel
theorem dX10_sideMoves_31 : decode cX10_sideMoves 31 = .ok (.invokevirtual 119, 3) := by decide +kernel
theorem dX10_sideMoves_34 : decode cX10_sideMoves 34 = .ok (.ifCond .eq 7, 3) := by decide +kernel
theorem dX10_sideMoves_37 : decode cX10_sideMoves 37 = .ok (.iconst 1, 1) := by decide +kernel
theorem dX10_sideMoves_38 : decode cX10_sideMoves 38 = .ok (.goto 4, 3) := by decide +kernel
theorem dX10_sideMoves_41 : decode cX10_sideMoves 41 = .ok (.iconst 0, 1) := by decide +kernel
theorem dX10_sideMoves_42 : decode cX10_sideMoves 42 = .ok (.ireturn, 1) := by decide +kernel
theorem dX10_broughtBy_0 : decode cX10_broughtBy 0 = .ok (.lload_n 1, 1) := by decide +kernel
theorem dX10_broughtBy_1 : decode cX10_broughtBy 1 = .ok (.iconst 0, 1) := by decide +kernel
theorem dX10_broughtBy_2 : decode cX10_broughtBy 2 = .ok (.invokestatic 91, 3) := by decide +kernel
theorem dX10_broughtBy_5 : decode cX10_broughtBy 5 = .ok (.bipush 31, 2) := by decide +kernel
theorem dX10_broughtBy_7 : decode cX10_broughtBy 7 = .ok (.if_icmp .ne 5, 3) := by decide +kernel
theorem dX10_broughtBy_10 : decode cX10_broughtBy 10 = .ok (.iconst 2, 1) := by decide +kernel
theorem dX10_broughtBy_11 : decode cX10_broughtBy 11 = .ok (.ireturn, 1) := by decide +kernel
theorem dX10_broughtBy_12 : decode cX10_broughtBy 12 = .ok (.lload_n 1, 1) := by decide +kernel
theorem dX10_broughtBy_13 : decode cX10_broughtBy 13 = .ok (.iconst 3, 1) := by decide +kernel
theorem dX10_broughtBy_14 : decode cX10_broughtBy 14 = .ok (.invokestatic 91, 3) := by decide +kernel
theorem dX10_broughtBy_17 : decode cX10_broughtBy 17 = .ok (.bipush 31, 2) := by decide +kernel
theorem dX10_broughtBy_19 : decode cX10_broughtBy 19 = .ok (.if_icmp .ne 5, 3) := by decide +kernel
theorem dX10_broughtBy_22 : decode cX10_broughtBy 22 = .ok (.iconst 1, 1) := by decide +kernel
theorem dX10_broughtBy_23 : decode cX10_broughtBy 23 = .ok (.ireturn, 1) := by decide +kernel
theorem dX10_broughtBy_24 : decode cX10_broughtBy 24 = .ok (.lload_n 1, 1) := by decide +kernel
theorem dX10_broughtBy_25 : decode cX10_broughtBy 25 = .ok (.invokestatic 123, 3) := by decide +kernel
theorem dX10_broughtBy_28 : decode cX10_broughtBy 28 = .ok (.istore_n 3, 1) := by decide +kernel
theorem dX10_broughtBy_29 : decode cX10_broughtBy 29 = .ok (.aload_n 0, 1) := by decide +kernel
theorem dX10_broughtBy_30 : decode cX10_broughtBy 30 = .ok (.lload_n 1, 1) := by decide +kernel
theorem dX10_broughtBy_31 : decode cX10_broughtBy 31 = .ok (.iload_n 3, 1) := by decide +kernel
theorem dX10_broughtBy_32 : decode cX10_broughtBy 32 = .ok (.invokevirtual 127, 3) := by decide +kernel
theorem dX10_broughtBy_35 : decode cX10_broughtBy 35 = .ok (.ifCond .eq 5, 3) := by decide +kernel
theorem dX10_broughtBy_38 : decode cX10_broughtBy 38 = .ok (.iconst 0, 1) := by decide +kernel
theorem dX10_broughtBy_39 : decode cX10_broughtBy 39 = .ok (.ireturn, 1) := by decide +kernel
theorem dX10_broughtBy_40 : decode cX10_broughtBy 40 = .ok (.aload_n 0, 1) := by decide +kernel
theorem dX10_broughtBy_41 : decode cX10_broughtBy 41 = .ok (.lload_n 1, 1) := by decide +kernel
theorem dX10_broughtBy_42 : decode cX10_broughtBy 42 = .ok (.iconst 1, 1) := by decide +kernel
theorem dX10_broughtBy_43 : decode cX10_broughtBy 43 = .ok (.iload_n 3, 1) := by decide +kernel
theorem dX10_broughtBy_44 : decode cX10_broughtBy 44 = .ok (.isub, 1) := by decide +kernel
theorem dX10_broughtBy_45 : decode cX10_broughtBy 45 = .ok (.invokevirtual 127, 3) := by decide +kernel
theorem dX10_broughtBy_48 : decode cX10_broughtBy 48 = .ok (.ifCond .ne 7, 3) := by decide +kernel
theorem dX10_broughtBy_51 : decode cX10_broughtBy 51 = .ok (.iconst 3, 1) := by decide +kernel
theorem dX10_broughtBy_52 : decode cX10_broughtBy 52 = .ok (.goto 12, 3) := by decide +kernel
theorem dX10_broughtBy_55 : decode cX10_broughtBy 55 = .ok (.iload_n 3, 1) := by decide +kernel
theorem dX10_broughtBy_56 : decode cX10_broughtBy 56 = .ok (.ifCond .ne 7, 3) := by decide +kernel
theorem dX10_broughtBy_59 : decode cX10_broughtBy 59 = .ok (.iconst 2, 1) := by decide +kernel
theorem dX10_broughtBy_60 : decode cX10_broughtBy 60 = .ok (.goto 4, 3) := by decide +kernel
theorem dX10_broughtBy_63 : decode cX10_broughtBy 63 = .ok (.iconst 1, 1) := by decide +kernel
theorem dX10_broughtBy_64 : decode cX10_broughtBy 64 = .ok (.ireturn, 1) := by decide +kernel
theorem dX10_gone_0 : decode cX10_gone 0 = .ok (.lload_n 0, 1) := by decide +kernel
theorem dX10_gone_1 : decode cX10_gone 1 = .ok (.iload_n 3, 1) := by decide +kernel
theorem dX10_gone_2 : decode cX10_gone 2 = .ok (.invokestatic 109, 3) := by decide +kernel
theorem dX10_gone_5 : decode cX10_gone 5 = .ok (.istore 4, 2) := by decide +kernel
theorem dX10_gone_7 : decode cX10_gone 7 = .ok (.iload 4, 2) := by decide +kernel
theorem dX10_gone_9 : decode cX10_gone 9 = .ok (.ifCond .lt 15, 3) := by decide +kernel
theorem dX10_gone_12 : decode cX10_gone 12 = .ok (.lload_n 0, 1) := by decide +kernel
theorem dX10_gone_13 : decode cX10_gone 13 = .ok (.iload 4, 2) := by decide +kernel
theorem dX10_gone_15 : decode cX10_gone 15 = .ok (.bipush 31, 2) := by decide +kernel
theorem dX10_gone_17 : decode cX10_gone 17 = .ok (.iconst 0, 1) := by decide +kernel
theorem dX10_gone_18 : decode cX10_gone 18 = .ok (.invokestatic 73, 3) := by decide +kernel
theorem dX10_gone_21 : decode cX10_gone 21 = .ok (.goto 4, 3) := by decide +kernel
theorem dX10_gone_24 : decode cX10_gone 24 = .ok (.lload_n 0, 1) := by decide +kernel
theorem dX10_gone_25 : decode cX10_gone 25 = .ok (.lstore 5, 2) := by decide +kernel
theorem dX10_gone_27 : decode cX10_gone 27 = .ok (.lload_n 0, 1) := by decide +kernel
theorem dX10_gone_28 : decode cX10_gone 28 = .ok (.iload_n 2, 1) := by decide +kernel
theorem dX10_gone_29 : decode cX10_gone 29 = .ok (.invokestatic 95, 3) := by decide +kernel
theorem dX10_gone_32 : decode cX10_gone 32 = .ok (.istore 7, 2) := by decide +kernel
theorem dX10_gone_34 : decode cX10_gone 34 = .ok (.lload 5, 2) := by decide +kernel
theorem dX10_gone_36 : decode cX10_gone 36 = .ok (.iload_n 2, 1) := by decide +kernel
theorem dX10_gone_37 : decode cX10_gone 37 = .ok (.iload_n 3, 1) := by decide +kernel
theorem dX10_gone_38 : decode cX10_gone 38 = .ok (.iload 7, 2) := by decide +kernel
theorem dX10_gone_40 : decode cX10_gone 40 = .ok (.bipush 9, 2) := by decide +kernel
theorem dX10_gone_42 : decode cX10_gone 42 = .ok (.if_icmp .ge 10, 3) := by decide +kernel
theorem dX10_gone_45 : decode cX10_gone 45 = .ok (.iload 7, 2) := by decide +kernel
theorem dX10_gone_47 : decode cX10_gone 47 = .ok (.iconst 1, 1) := by decide +kernel
theorem dX10_gone_48 : decode cX10_gone 48 = .ok (.iadd, 1) := by decide +kernel
theorem dX10_gone_49 : decode cX10_gone 49 = .ok (.goto 5, 3) := by decide +kernel
theorem dX10_gone_52 : decode cX10_gone 52 = .ok (.bipush 9, 2) := by decide +kernel
theorem dX10_gone_54 : decode cX10_gone 54 = .ok (.invokestatic 73, 3) := by decide +kernel
theorem dX10_gone_57 : decode cX10_gone 57 = .ok (.ldc2_w 130, 3) := by decide +kernel
theorem dX10_gone_60 : decode cX10_gone 60 = .ok (.lxor, 1) := by decide +kernel
theorem dX10_gone_61 : decode cX10_gone 61 = .ok (.lreturn, 1) := by decide +kernel
theorem dX10_findMoves_0 : decode cX10_findMoves 0 = .ok (.aload_n 0, 1) := by decide +kernel
theorem dX10_findMoves_1 : decode cX10_findMoves 1 = .ok (.iconst 0, 1) := by decide +kernel
theorem dX10_findMoves_2 : decode cX10_findMoves 2 = .ok (.putfield 132, 3) := by decide +kernel
theorem dX10_findMoves_5 : decode cX10_findMoves 5 = .ok (.aload_n 0, 1) := by decide +kernel
theorem dX10_findMoves_6 : decode cX10_findMoves 6 = .ok (.lload_n 1, 1) := by decide +kernel
theorem dX10_findMoves_7 : decode cX10_findMoves 7 = .ok (.invokevirtual 135, 3) := by decide +kernel
theorem dX10_findMoves_10 : decode cX10_findMoves 10 = .ok (.ifCond .eq 4, 3) := by decide +kernel
theorem dX10_findMoves_13 : decode cX10_findMoves 13 = .ok (.return_, 1) := by decide +kernel
theorem dX10_findMoves_14 : decode cX10_findMoves 14 = .ok (.iconst 3, 1) := by decide +kernel
theorem dX10_findMoves_15 : decode cX10_findMoves 15 = .ok (.lload_n 1, 1) := by decide +kernel
theorem dX10_findMoves_16 : decode cX10_findMoves 16 = .ok (.invokestatic 123, 3) := by decide +kernel
theorem dX10_findMoves_19 : decode cX10_findMoves 19 = .ok (.imul, 1) := by decide +kernel
theorem dX10_findMoves_20 : decode cX10_findMoves 20 = .ok (.istore_n 3, 1) := by decide +kernel
theorem dX10_findMoves_21 : decode cX10_findMoves 21 = .ok (.iload_n 3, 1) := by decide +kernel
theorem dX10_findMoves_22 : decode cX10_findMoves 22 = .ok (.istore 4, 2) := by decide +kernel
theorem dX10_findMoves_24 : decode cX10_findMoves 24 = .ok (.iload 4, 2) := by decide +kernel
theorem dX10_findMoves_26 : decode cX10_findMoves 26 = .ok (.iload_n 3, 1) := by decide +kernel
theorem dX10_findMoves_27 : decode cX10_findMoves 27 = .ok (.iconst 3, 1) := by decide +kernel
theorem dX10_findMoves_28 : decode cX10_findMoves 28 = .ok (.iadd, 1) := by decide +kernel
theorem dX10_findMoves_29 : decode cX10_findMoves 29 = .ok (.if_icmp .ge 69, 3) := by decide +kernel
theorem dX10_findMoves_32 : decode cX10_findMoves 32 = .ok (.iconst 0, 1) := by decide +kernel
theorem dX10_findMoves_33 : decode cX10_findMoves 33 = .ok (.istore 5, 2) := by decide +kernel
theorem dX10_findMoves_35 : decode cX10_findMoves 35 = .ok (.iload 5, 2) := by decide +kernel
theorem dX10_findMoves_37 : decode cX10_findMoves 37 = .ok (.bipush 25, 2) := by decide +kernel
theorem dX10_findMoves_39 : decode cX10_findMoves 39 = .ok (.if_icmp .ge 53, 3) := by decide +kernel
theorem dX10_findMoves_42 : decode cX10_findMoves 42 = .ok (.aload_n 0, 1) := by decide +kernel
theorem dX10_findMoves_43 : decode cX10_findMoves 43 = .ok (.lload_n 1, 1) := by decide +kernel
theorem dX10_findMoves_44 : decode cX10_findMoves 44 = .ok (.iload 4, 2) := by decide +kernel
theorem dX10_findMoves_46 : decode cX10_findMoves 46 = .ok (.iload 5, 2) := by decide +kernel
theorem dX10_findMoves_48 : decode cX10_findMoves 48 = .ok (.invokevirtual 116, 3) := by decide +kernel
theorem dX10_findMoves_51 : decode cX10_findMoves 51 = .ok (.ifCond .eq 35, 3) := by decide +kernel
theorem dX10_findMoves_54 : decode cX10_findMoves 54 = .ok (.aload_n 0, 1) := by decide +kernel
theorem dX10_findMoves_55 : decode cX10_findMoves 55 = .ok (.getfield 7, 3) := by decide +kernel
theorem dX10_findMoves_58 : decode cX10_findMoves 58 = .ok (.aload_n 0, 1) := by decide +kernel
theorem dX10_findMoves_59 : decode cX10_findMoves 59 = .ok (.getfield 132, 3) := by decide +kernel
theorem dX10_findMoves_62 : decode cX10_findMoves 62 = .ok (.iload 4, 2) := by decide +kernel
theorem dX10_findMoves_64 : decode cX10_findMoves 64 = .ok (.iastore, 1) := by decide +kernel
theorem dX10_findMoves_65 : decode cX10_findMoves 65 = .ok (.aload_n 0, 1) := by decide +kernel
theorem dX10_findMoves_66 : decode cX10_findMoves 66 = .ok (.getfield 13, 3) := by decide +kernel
theorem dX10_findMoves_69 : decode cX10_findMoves 69 = .ok (.aload_n 0, 1) := by decide +kernel
theorem dX10_findMoves_70 : decode cX10_findMoves 70 = .ok (.getfield 132, 3) := by decide +kernel
theorem dX10_findMoves_73 : decode cX10_findMoves 73 = .ok (.iload 5, 2) := by decide +kernel
theorem dX10_findMoves_75 : decode cX10_findMoves 75 = .ok (.iastore, 1) := by decide +kernel
theorem dX10_findMoves_76 : decode cX10_findMoves 76 = .ok (.aload_n 0, 1) := by decide +kernel
theorem dX10_findMoves_77 : decode cX10_findMoves 77 = .ok (.dup, 1) := by decide +kernel
theorem dX10_findMoves_78 : decode cX10_findMoves 78 = .ok (.getfield 132, 3) := by decide +kernel
theorem dX10_findMoves_81 : decode cX10_findMoves 81 = .ok (.iconst 1, 1) := by decide +kernel
theorem dX10_findMoves_82 : decode cX10_findMoves 82 = .ok (.iadd, 1) := by decide +kernel
theorem dX10_findMoves_83 : decode cX10_findMoves 83 = .ok (.putfield 132, 3) := by decide +kernel
theorem dX10_findMoves_86 : decode cX10_findMoves 86 = .ok (.iinc 5 1, 3) := by decide +kernel
theorem dX10_findMoves_89 : decode cX10_findMoves 89 = .ok (.goto (-54), 3) := by decide +kernel
theorem dX10_findMoves_92 : decode cX10_findMoves 92 = .ok (.iinc 4 1, 3) := by decide +kernel
theorem dX10_findMoves_95 : decode cX10_findMoves 95 = .ok (.goto (-71), 3) := by decide +kernel
theorem dX10_findMoves_98 : decode cX10_findMoves 98 = .ok (.return_, 1) := by decide +kernel
theorem dX10_say_0 : decode cX10_say 0 = .ok (.iload_n 1, 1) := by decide +kernel
theorem dX10_say_1 : decode cX10_say 1 = .ok (.i2l, 1) := by decide +kernel
theorem dX10_say_2 : decode cX10_say 2 = .ok (.ldc2_w 138, 3) := by decide +kernel
theorem dX10_say_5 : decode cX10_say 5 = .ok (.ldc2_w 140, 3) := by decide +kernel
theorem dX10_say_8 : decode cX10_say 8 = .ok (.invokestatic 142, 3) := by decide +kernel
theorem dX10_say_11 : decode cX10_say 11 = .ok (.ifCond .ne 6, 3) := by decide +kernel
theorem dX10_say_14 : decode cX10_say 14 = .ok (.bipush (-2), 2) := by decide +kernel
theorem dX10_say_16 : decode cX10_say 16 = .ok (.ireturn, 1) := by decide +kernel
theorem dX10_say_17 : decode cX10_say 17 = .ok (.aload_n 0, 1) := by decide +kernel
theorem dX10_say_18 : decode cX10_say 18 = .ok (.getfield 146, 3) := by decide +kernel
theorem dX10_say_21 : decode cX10_say 21 = .ok (.bipush 48, 2) := by decide +kernel
theorem dX10_say_23 : decode cX10_say 23 = .ok (.if_icmp .ne 6, 3) := by decide +kernel
theorem dX10_say_26 : decode cX10_say 26 = .ok (.bipush (-4), 2) := by decide +kernel
theorem dX10_say_28 : decode cX10_say 28 = .ok (.ireturn, 1) := by decide +kernel
theorem dX10_say_29 : decode cX10_say 29 = .ok (.aload_n 0, 1) := by decide +kernel
theorem dX10_say_30 : decode cX10_say 30 = .ok (.getfield 16, 3) := by decide +kernel
theorem dX10_say_33 : decode cX10_say 33 = .ok (.aload_n 0, 1) := by decide +kernel
theorem dX10_say_34 : decode cX10_say 34 = .ok (.getfield 146, 3) := by decide +kernel
theorem dX10_say_37 : decode cX10_say 37 = .ok (.iload_n 1, 1) := by decide +kernel
theorem dX10_say_38 : decode cX10_say 38 = .ok (.iastore, 1) := by decide +kernel
theorem dX10_say_39 : decode cX10_say 39 = .ok (.aload_n 0, 1) := by decide +kernel
theorem dX10_say_40 : decode cX10_say 40 = .ok (.dup, 1) := by decide +kernel
theorem dX10_say_41 : decode cX10_say 41 = .ok (.getfield 146, 3) := by decide +kernel
theorem dX10_say_44 : decode cX10_say 44 = .ok (.iconst 1, 1) := by decide +kernel
theorem dX10_say_45 : decode cX10_say 45 = .ok (.iadd, 1) := by decide +kernel
theorem dX10_say_46 : decode cX10_say 46 = .ok (.putfield 146, 3) := by decide +kernel
theorem dX10_say_49 : decode cX10_say 49 = .ok (.aload_n 0, 1) := by decide +kernel
theorem dX10_say_50 : decode cX10_say 50 = .ok (.getfield 146, 3) := by decide +kernel
theorem dX10_say_53 : decode cX10_say 53 = .ok (.ireturn, 1) := by decide +kernel
theorem dX10_wipe_0 : decode cX10_wipe 0 = .ok (.aload_n 0, 1) := by decide +kernel
theorem dX10_wipe_1 : decode cX10_wipe 1 = .ok (.getfield 146, 3) := by decide +kernel
theorem dX10_wipe_4 : decode cX10_wipe 4 = .ok (.istore_n 1, 1) := by decide +kernel
theorem dX10_wipe_5 : decode cX10_wipe 5 = .ok (.aload_n 0, 1) := by decide +kernel
theorem dX10_wipe_6 : decode cX10_wipe 6 = .ok (.iconst 0, 1) := by decide +kernel
theorem dX10_wipe_7 : decode cX10_wipe 7 = .ok (.putfield 146, 3) := by decide +kernel
theorem dX10_wipe_10 : decode cX10_wipe 10 = .ok (.iload_n 1, 1) := by decide +kernel
theorem dX10_wipe_11 : decode cX10_wipe 11 = .ok (.ireturn, 1) := by decide +kernel
theorem dX10_faultOfBoard_0 : decode cX10_faultOfBoard 0 = .ok (.aload_n 0, 1) := by decide +kernel
theorem dX10_faultOfBoard_1 : decode cX10_faultOfBoard 1 = .ok (.ldc2_w 67, 3) := by decide +kernel
theorem dX10_faultOfBoard_4 : decode cX10_faultOfBoard 4 = .ok (.putfield 149, 3) := by decide +kernel
theorem dX10_faultOfBoard_7 : decode cX10_faultOfBoard 7 = .ok (.iconst 0, 1) := by decide +kernel
theorem dX10_faultOfBoard_8 : decode cX10_faultOfBoard 8 = .ok (.istore_n 1, 1) := by decide +kernel
theorem dX10_faultOfBoard_9 : decode cX10_faultOfBoard 9 = .ok (.iconst 0, 1) := by decide +kernel
theorem dX10_faultOfBoard_10 : decode cX10_faultOfBoard 10 = .ok (.istore_n 2, 1) := by decide +kernel
theorem dX10_faultOfBoard_11 : decode cX10_faultOfBoard 11 = .ok (.iconst 0, 1) := by decide +kernel
theorem dX10_faultOfBoard_12 : decode cX10_faultOfBoard 12 = .ok (.istore_n 3, 1) := by decide +kernel
theorem dX10_faultOfBoard_13 : decode cX10_faultOfBoard 13 = .ok (.iconst 0, 1) := by decide +kernel
theorem dX10_faultOfBoard_14 : decode cX10_faultOfBoard 14 = .ok (.istore 4, 2) := by decide +kernel
theorem dX10_faultOfBoard_16 : decode cX10_faultOfBoard 16 = .ok (.iload 4, 2) := by decide +kernel
theorem dX10_faultOfBoard_18 : decode cX10_faultOfBoard 18 = .ok (.aload_n 0, 1) := by decide +kernel
theorem dX10_faultOfBoard_19 : decode cX10_faultOfBoard 19 = .ok (.getfield 146, 3) := by decide +kernel
theorem dX10_faultOfBoard_22 : decode cX10_faultOfBoard 22 = .ok (.if_icmp .ge 241, 3) := by decide +kernel
theorem dX10_faultOfBoard_25 : decode cX10_faultOfBoard 25 = .ok (.aload_n 0, 1) := by decide +kernel
theorem dX10_faultOfBoard_26 : decode cX10_faultOfBoard 26 = .ok (.getfield 16, 3) := by decide +kernel
theorem dX10_faultOfBoard_29 : decode cX10_faultOfBoard 29 = .ok (.iload 4, 2) := by decide +kernel
theorem dX10_faultOfBoard_31 : decode cX10_faultOfBoard 31 = .ok (.iaload, 1) := by decide +kernel
theorem dX10_faultOfBoard_32 : decode cX10_faultOfBoard 32 = .ok (.istore 5, 2) := by decide +kernel
theorem dX10_faultOfBoard_34 : decode cX10_faultOfBoard 34 = .ok (.iconst 0, 1) := by decide +kernel
theorem dX10_faultOfBoard_35 : decode cX10_faultOfBoard 35 = .ok (.istore 6, 2) := by decide +kernel
theorem dX10_faultOfBoard_37 : decode cX10_faultOfBoard 37 = .ok (.aload_n 0, 1) := by decide +kernel
theorem dX10_faultOfBoard_38 : decode cX10_faultOfBoard 38 = .ok (.getfield 149, 3) := by decide +kernel
theorem dX10_faultOfBoard_41 : decode cX10_faultOfBoard 41 = .ok (.invokestatic 123, 3) := by decide +kernel
theorem dX10_faultOfBoard_44 : decode cX10_faultOfBoard 44 = .ok (.iconst 1, 1) := by decide +kernel
theorem dX10_faultOfBoard_45 : decode cX10_faultOfBoard 45 = .ok (.if_icmp .ne 6, 3) := by decide +kernel
theorem dX10_faultOfBoard_48 : decode cX10_faultOfBoard 48 = .ok (.iload 4, 2) := by decide +kernel
theorem dX10_faultOfBoard_50 : decode cX10_faultOfBoard 50 = .ok (.ireturn, 1) := by decide +kernel
theorem dX10_faultOfBoard_51 : decode cX10_faultOfBoard 51 = .ok (.iload_n 1, 1) := by decide +kernel
theorem dX10_faultOfBoard_52 : decode cX10_faultOfBoard 52 = .ok (.ifCond .ne 68, 3) := by decide +kernel
theorem dX10_faultOfBoard_55 : decode cX10_faultOfBoard 55 = .ok (.iload 5, 2) := by decide +kernel
theorem dX10_faultOfBoard_57 : decode cX10_faultOfBoard 57 = .ok (.bipush 48, 2) := by decide +kernel
theorem dX10_faultOfBoard_59 : decode cX10_faultOfBoard 59 = .ok (.isub, 1) := by decide +kernel
theorem dX10_faultOfBoard_60 : decode cX10_faultOfBoard 60 = .ok (.istore_n 2, 1) := by decide +kernel
theorem dX10_faultOfBoard_61 : decode cX10_faultOfBoard 61 = .ok (.iload_n 2, 1) := by decide +kernel
theorem dX10_faultOfBoard_62 : decode cX10_faultOfBoard 62 = .ok (.i2l, 1) := by decide +kernel
theorem dX10_faultOfBoard_63 : decode cX10_faultOfBoard 63 = .ok (.lconst 0, 1) := by decide +kernel
theorem dX10_faultOfBoard_64 : decode cX10_faultOfBoard 64 = .ok (.ldc2_w 152, 3) := by decide +kernel
theorem dX10_faultOfBoard_67 : decode cX10_faultOfBoard 67 = .ok (.invokestatic 142, 3) := by decide +kernel
theorem dX10_faultOfBoard_70 : decode cX10_faultOfBoard 70 = .ok (.ifCond .eq 20, 3) := by decide +kernel
theorem dX10_faultOfBoard_73 : decode cX10_faultOfBoard 73 = .ok (.aload_n 0, 1) := by decide +kernel
theorem dX10_faultOfBoard_74 : decode cX10_faultOfBoard 74 = .ok (.getfield 149, 3) := by decide +kernel
theorem dX10_faultOfBoard_77 : decode cX10_faultOfBoard 77 = .ok (.iload_n 2, 1) := by decide +kernel
theorem dX10_faultOfBoard_78 : decode cX10_faultOfBoard 78 = .ok (.invokestatic 91, 3) := by decide +kernel
theorem dX10_faultOfBoard_81 : decode cX10_faultOfBoard 81 = .ok (.bipush 31, 2) := by decide +kernel
theorem dX10_faultOfBoard_83 : decode cX10_faultOfBoard 83 = .ok (.if_icmp .ne 7, 3) := by decide +kernel
theorem dX10_faultOfBoard_86 : decode cX10_faultOfBoard 86 = .ok (.iconst 1, 1) := by decide +kernel
theorem dX10_faultOfBoard_87 : decode cX10_faultOfBoard 87 = .ok (.goto 4, 3) := by decide +kernel
theorem dX10_faultOfBoard_90 : decode cX10_faultOfBoard 90 = .ok (.iconst 0, 1) := by decide +kernel
theorem dX10_faultOfBoard_91 : decode cX10_faultOfBoard 91 = .ok (.istore 6, 2) := by decide +kernel
theorem dX10_faultOfBoard_93 : decode cX10_faultOfBoard 93 = .ok (.iload 5, 2) := by decide +kernel
theorem dX10_faultOfBoard_95 : decode cX10_faultOfBoard 95 = .ok (.bipush 33, 2) := by decide +kernel
theorem dX10_faultOfBoard_97 : decode cX10_faultOfBoard 97 = .ok (.if_icmp .ne 146, 3) := by decide +kernel
theorem dX10_faultOfBoard_100 : decode cX10_faultOfBoard 100 = .ok (.aload_n 0, 1) := by decide +kernel
theorem dX10_faultOfBoard_101 : decode cX10_faultOfBoard 101 = .ok (.dup, 1) := by decide +kernel
theorem dX10_faultOfBoard_102 : decode cX10_faultOfBoard 102 = .ok (.getfield 149, 3) := by decide +kernel
theorem dX10_faultOfBoard_105 : decode cX10_faultOfBoard 105 = .ok (.ldc2_w 130, 3) := by decide +kernel
theorem dX10_faultOfBoard_108 : decode cX10_faultOfBoard 108 = .ok (.lor, 1) := by decide +kernel
theorem dX10_faultOfBoard_109 : decode cX10_faultOfBoard 109 = .ok (.putfield 149, 3) := by decide +kernel
theorem dX10_faultOfBoard_112 : decode cX10_faultOfBoard 112 = .ok (.iconst 1, 1) := by decide +kernel
theorem dX10_faultOfBoard_113 : decode cX10_faultOfBoard 113 = .ok (.istore 6, 2) := by decide +kernel
theorem dX10_faultOfBoard_115 : decode cX10_faultOfBoard 115 = .ok (.iconst 3, 1) := by decide +kernel
theorem dX10_faultOfBoard_116 : decode cX10_faultOfBoard 116 = .ok (.istore_n 1, 1) := by decide +kernel
theorem dX10_faultOfBoard_117 : decode cX10_faultOfBoard 117 = .ok (.goto 126, 3) := by decide +kernel
theorem dX10_faultOfBoard_120 : decode cX10_faultOfBoard 120 = .ok (.iload_n 1, 1) := by decide +kernel
theorem dX10_faultOfBoard_121 : decode cX10_faultOfBoard 121 = .ok (.iconst 1, 1) := by decide +kernel
theorem dX10_faultOfBoard_122 : decode cX10_faultOfBoard 122 = .ok (.if_icmp .ne 26, 3) := by decide +kernel
theorem dX10_faultOfBoard_125 : decode cX10_faultOfBoard 125 = .ok (.iload 5, 2) := by decide +kernel
theorem dX10_faultOfBoard_127 : decode cX10_faultOfBoard 127 = .ok (.bipush 97, 2) := by decide +kernel
theorem dX10_faultOfBoard_129 : decode cX10_faultOfBoard 129 = .ok (.isub, 1) := by decide +kernel
theorem dX10_faultOfBoard_130 : decode cX10_faultOfBoard 130 = .ok (.istore_n 3, 1) := by decide +kernel
theorem dX10_faultOfBoard_131 : decode cX10_faultOfBoard 131 = .ok (.iload 5, 2) := by decide +kernel
theorem dX10_faultOfBoard_133 : decode cX10_faultOfBoard 133 = .ok (.i2l, 1) := by decide +kernel
theorem dX10_faultOfBoard_134 : decode cX10_faultOfBoard 134 = .ok (.ldc2_w 154, 3) := by decide +kernel
theorem dX10_faultOfBoard_137 : decode cX10_faultOfBoard 137 = .ok (.ldc2_w 156, 3) := by decide +kernel
theorem dX10_faultOfBoard_140 : decode cX10_faultOfBoard 140 = .ok (.invokestatic 142, 3) := by decide +kernel
theorem dX10_faultOfBoard_143 : decode cX10_faultOfBoard 143 = .ok (.istore 6, 2) := by decide +kernel
theorem dX10_faultOfBoard_145 : decode cX10_faultOfBoard 145 = .ok (.goto 98, 3) := by decide +kernel
theorem dX10_faultOfBoard_148 : decode cX10_faultOfBoard 148 = .ok (.iload_n 1, 1) := by decide +kernel
theorem dX10_faultOfBoard_149 : decode cX10_faultOfBoard 149 = .ok (.iconst 2, 1) := by decide +kernel
theorem dX10_faultOfBoard_150 : decode cX10_faultOfBoard 150 = .ok (.if_icmp .ne 49, 3) := by decide +kernel
theorem dX10_faultOfBoard_153 : decode cX10_faultOfBoard 153 = .ok (.iload_n 3, 1) := by decide +kernel
theorem dX10_faultOfBoard_154 : decode cX10_faultOfBoard 154 = .ok (.iconst 5, 1) := by decide +kernel
theorem dX10_faultOfBoard_155 : decode cX10_faultOfBoard 155 = .ok (.iload 5, 2) := by decide +kernel
theorem dX10_faultOfBoard_157 : decode cX10_faultOfBoard 157 = .ok (.bipush 49, 2) := by decide +kernel
theorem dX10_faultOfBoard_159 : decode cX10_faultOfBoard 159 = .ok (.isub, 1) := by decide +kernel
theorem dX10_faultOfBoard_160 : decode cX10_faultOfBoard 160 = .ok (.imul, 1) := by decide +kernel
theorem dX10_faultOfBoard_161 : decode cX10_faultOfBoard 161 = .ok (.iadd, 1) := by decide +kernel
theorem dX10_faultOfBoard_162 : decode cX10_faultOfBoard 162 = .ok (.istore_n 3, 1) := by decide +kernel
theorem dX10_faultOfBoard_163 : decode cX10_faultOfBoard 163 = .ok (.iload 5, 2) := by decide +kernel
theorem dX10_faultOfBoard_165 : decode cX10_faultOfBoard 165 = .ok (.i2l, 1) := by decide +kernel
theorem dX10_faultOfBoard_166 : decode cX10_faultOfBoard 166 = .ok (.ldc2_w 158, 3) := by decide +kernel
theorem dX10_faultOfBoard_169 : decode cX10_faultOfBoard 169 = .ok (.ldc2_w 160, 3) := by decide +kernel
theorem dX10_faultOfBoard_172 : decode cX10_faultOfBoard 172 = .ok (.invokestatic 142, 3) := by decide +kernel
theorem dX10_faultOfBoard_175 : decode cX10_faultOfBoard 175 = .ok (.ifCond .eq 18, 3) := by decide +kernel
theorem dX10_faultOfBoard_178 : decode cX10_faultOfBoard 178 = .ok (.aload_n 0, 1) := by decide +kernel
theorem dX10_faultOfBoard_179 : decode cX10_faultOfBoard 179 = .ok (.getfield 149, 3) := by decide +kernel
theorem dX10_faultOfBoard_182 : decode cX10_faultOfBoard 182 = .ok (.iload_n 3, 1) := by decide +kernel
theorem dX10_faultOfBoard_183 : decode cX10_faultOfBoard 183 = .ok (.invokestatic 109, 3) := by decide +kernel
theorem dX10_faultOfBoard_186 : decode cX10_faultOfBoard 186 = .ok (.ifCond .ge 7, 3) := by decide +kernel
theorem dX10_faultOfBoard_189 : decode cX10_faultOfBoard 189 = .ok (.iconst 1, 1) := by decide +kernel
theorem dX10_faultOfBoard_190 : decode cX10_faultOfBoard 190 = .ok (.goto 4, 3) := by decide +kernel
theorem dX10_faultOfBoard_193 : decode cX10_faultOfBoard 193 = .ok (.iconst 0, 1) := by decide +kernel
theorem dX10_faultOfBoard_194 : decode cX10_faultOfBoard 194 = .ok (.istore 6, 2) := by decide +kernel
theorem dX10_faultOfBoard_196 : decode cX10_faultOfBoard 196 = .ok (.goto 47, 3) := by decide +kernel
theorem dX10_faultOfBoard_199 : decode cX10_faultOfBoard 199 = .ok (.iload 5, 2) := by decide +kernel
theorem dX10_faultOfBoard_201 : decode cX10_faultOfBoard 201 = .ok (.i2l, 1) := by decide +kernel
theorem dX10_faultOfBoard_202 : decode cX10_faultOfBoard 202 = .ok (.ldc2_w 162, 3) := by decide +kernel
theorem dX10_faultOfBoard_205 : decode cX10_faultOfBoard 205 = .ok (.ldc2_w 164, 3) := by decide +kernel
theorem dX10_faultOfBoard_208 : decode cX10_faultOfBoard 208 = .ok (.invokestatic 142, 3) := by decide +kernel
theorem dX10_faultOfBoard_211 : decode cX10_faultOfBoard 211 = .ok (.istore 6, 2) := by decide +kernel
theorem dX10_faultOfBoard_213 : decode cX10_faultOfBoard 213 = .ok (.aload_n 0, 1) := by decide +kernel
theorem dX10_faultOfBoard_214 : decode cX10_faultOfBoard 214 = .ok (.iload 6, 2) := by decide +kernel
theorem dX10_faultOfBoard_216 : decode cX10_faultOfBoard 216 = .ok (.ifCond .eq 20, 3) := by decide +kernel
theorem dX10_faultOfBoard_219 : decode cX10_faultOfBoard 219 = .ok (.aload_n 0, 1) := by decide +kernel
theorem dX10_faultOfBoard_220 : decode cX10_faultOfBoard 220 = .ok (.getfield 149, 3) := by decide +kernel
theorem dX10_faultOfBoard_223 : decode cX10_faultOfBoard 223 = .ok (.iload_n 2, 1) := by decide +kernel
theorem dX10_faultOfBoard_224 : decode cX10_faultOfBoard 224 = .ok (.iload_n 3, 1) := by decide +kernel
theorem dX10_faultOfBoard_225 : decode cX10_faultOfBoard 225 = .ok (.iload 5, 2) := by decide +kernel
theorem dX10_faultOfBoard_227 : decode cX10_faultOfBoard 227 = .ok (.bipush 48, 2) := by decide +kernel
theorem dX10_faultOfBoard_229 : decode cX10_faultOfBoard 229 = .ok (.isub, 1) := by decide +kernel
theorem dX10_faultOfBoard_230 : decode cX10_faultOfBoard 230 = .ok (.invokestatic 73, 3) := by decide +kernel
theorem dX10_faultOfBoard_233 : decode cX10_faultOfBoard 233 = .ok (.goto 7, 3) := by decide +kernel
theorem dX10_faultOfBoard_236 : decode cX10_faultOfBoard 236 = .ok (.aload_n 0, 1) := by decide +kernel
theorem dX10_faultOfBoard_237 : decode cX10_faultOfBoard 237 = .ok (.getfield 149, 3) := by decide +kernel
theorem dX10_faultOfBoard_240 : decode cX10_faultOfBoard 240 = .ok (.putfield 149, 3) := by decide +kernel
theorem dX10_faultOfBoard_243 : decode cX10_faultOfBoard 243 = .ok (.iload 6, 2) := by decide +kernel
theorem dX10_faultOfBoard_245 : decode cX10_faultOfBoard 245 = .ok (.ifCond .ne 6, 3) := by decide +kernel
theorem dX10_faultOfBoard_248 : decode cX10_faultOfBoard 248 = .ok (.iload 4, 2) := by decide +kernel
theorem dX10_faultOfBoard_250 : decode cX10_faultOfBoard 250 = .ok (.ireturn, 1) := by decide +kernel
theorem dX10_faultOfBoard_251 : decode cX10_faultOfBoard 251 = .ok (.iload_n 1, 1) := by decide +kernel
theorem dX10_faultOfBoard_252 : decode cX10_faultOfBoard 252 = .ok (.iconst 1, 1) := by decide +kernel
theorem dX10_faultOfBoard_253 : decode cX10_faultOfBoard 253 = .ok (.iadd, 1) := by decide +kernel
theorem dX10_faultOfBoard_254 : decode cX10_faultOfBoard 254 = .ok (.iconst 4, 1) := by decide +kernel
theorem dX10_faultOfBoard_255 : decode cX10_faultOfBoard 255 = .ok (.irem, 1) := by decide +kernel
theorem dX10_faultOfBoard_256 : decode cX10_faultOfBoard 256 = .ok (.istore_n 1, 1) := by decide +kernel
theorem dX10_faultOfBoard_257 : decode cX10_faultOfBoard 257 = .ok (.iinc 4 1, 3) := by decide +kernel
theorem dX10_faultOfBoard_260 : decode cX10_faultOfBoard 260 = .ok (.goto (-244), 3) := by decide +kernel
theorem dX10_faultOfBoard_263 : decode cX10_faultOfBoard 263 = .ok (.iload_n 1, 1) := by decide +kernel
theorem dX10_faultOfBoard_264 : decode cX10_faultOfBoard 264 = .ok (.ifCond .ne 29, 3) := by decide +kernel
theorem dX10_faultOfBoard_267 : decode cX10_faultOfBoard 267 = .ok (.aload_n 0, 1) := by decide +kernel
theorem dX10_faultOfBoard_268 : decode cX10_faultOfBoard 268 = .ok (.getfield 149, 3) := by decide +kernel
theorem dX10_faultOfBoard_271 : decode cX10_faultOfBoard 271 = .ok (.iconst 0, 1) := by decide +kernel
theorem dX10_faultOfBoard_272 : decode cX10_faultOfBoard 272 = .ok (.invokestatic 91, 3) := by decide +kernel
theorem dX10_faultOfBoard_275 : decode cX10_faultOfBoard 275 = .ok (.bipush 31, 2) := by decide +kernel
theorem dX10_faultOfBoard_277 : decode cX10_faultOfBoard 277 = .ok (.if_icmp .eq 16, 3) := by decide +kernel
theorem dX10_faultOfBoard_280 : decode cX10_faultOfBoard 280 = .ok (.aload_n 0, 1) := by decide +kernel
theorem dX10_faultOfBoard_281 : decode cX10_faultOfBoard 281 = .ok (.getfield 149, 3) := by decide +kernel
theorem dX10_faultOfBoard_284 : decode cX10_faultOfBoard 284 = .ok (.iconst 3, 1) := by decide +kernel
theorem dX10_faultOfBoard_285 : decode cX10_faultOfBoard 285 = .ok (.invokestatic 91, 3) := by decide +kernel
theorem dX10_faultOfBoard_288 : decode cX10_faultOfBoard 288 = .ok (.bipush 31, 2) := by decide +kernel
theorem dX10_faultOfBoard_290 : decode cX10_faultOfBoard 290 = .ok (.if_icmp .ne 10, 3) := by decide +kernel
theorem dX10_faultOfBoard_293 : decode cX10_faultOfBoard 293 = .ok (.aload_n 0, 1) := by decide +kernel
theorem dX10_faultOfBoard_294 : decode cX10_faultOfBoard 294 = .ok (.getfield 146, 3) := by decide +kernel
theorem dX10_faultOfBoard_297 : decode cX10_faultOfBoard 297 = .ok (.goto 5, 3) := by decide +kernel
theorem dX10_faultOfBoard_300 : decode cX10_faultOfBoard 300 = .ok (.bipush (-6), 2) := by decide +kernel
theorem dX10_faultOfBoard_302 : decode cX10_faultOfBoard 302 = .ok (.ireturn, 1) := by decide +kernel
theorem dX10_faultOfGame_0 : decode cX10_faultOfGame 0 = .ok (.iconst 0, 1) := by decide +kernel
theorem dX10_faultOfGame_1 : decode cX10_faultOfGame 1 = .ok (.istore_n 1, 1) := by decide +kernel
theorem dX10_faultOfGame_2 : decode cX10_faultOfGame 2 = .ok (.iload_n 1, 1) := by decide +kernel
theorem dX10_faultOfGame_3 : decode cX10_faultOfGame 3 = .ok (.aload_n 0, 1) := by decide +kernel
theorem dX10_faultOfGame_4 : decode cX10_faultOfGame 4 = .ok (.getfield 146, 3) := by decide +kernel
theorem dX10_faultOfGame_7 : decode cX10_faultOfGame 7 = .ok (.if_icmp .ge 74, 3) := by decide +kernel
theorem dX10_faultOfGame_10 : decode cX10_faultOfGame 10 = .ok (.iload_n 1, 1) := by decide +kernel
theorem dX10_faultOfGame_11 : decode cX10_faultOfGame 11 = .ok (.bipush 48, 2) := by decide +kernel
theorem dX10_faultOfGame_13 : decode cX10_faultOfGame 13 = .ok (.if_icmp .ge 54, 3) := by decide +kernel
theorem dX10_faultOfGame_16 : decode cX10_faultOfGame 16 = .ok (.iload_n 1, 1) := by decide +kernel
theorem dX10_faultOfGame_17 : decode cX10_faultOfGame 17 = .ok (.iconst 2, 1) := by decide +kernel
theorem dX10_faultOfGame_18 : decode cX10_faultOfGame 18 = .ok (.irem, 1) := by decide +kernel
theorem dX10_faultOfGame_19 : decode cX10_faultOfGame 19 = .ok (.ifCond .ne 25, 3) := by decide +kernel
theorem dX10_faultOfGame_22 : decode cX10_faultOfGame 22 = .ok (.aload_n 0, 1) := by decide +kernel
theorem dX10_faultOfGame_23 : decode cX10_faultOfGame 23 = .ok (.getfield 16, 3) := by decide +kernel
theorem dX10_faultOfGame_26 : decode cX10_faultOfGame 26 = .ok (.iload_n 1, 1) := by decide +kernel
theorem dX10_faultOfGame_27 : decode cX10_faultOfGame 27 = .ok (.iaload, 1) := by decide +kernel
theorem dX10_faultOfGame_28 : decode cX10_faultOfGame 28 = .ok (.i2l, 1) := by decide +kernel
theorem dX10_faultOfGame_29 : decode cX10_faultOfGame 29 = .ok (.ldc2_w 154, 3) := by decide +kernel
theorem dX10_faultOfGame_32 : decode cX10_faultOfGame 32 = .ok (.ldc2_w 156, 3) := by decide +kernel
theorem dX10_faultOfGame_35 : decode cX10_faultOfGame 35 = .ok (.invokestatic 142, 3) := by decide +kernel
theorem dX10_faultOfGame_38 : decode cX10_faultOfGame 38 = .ok (.ifCond .eq 29, 3) := by decide +kernel
theorem dX10_faultOfGame_41 : decode cX10_faultOfGame 41 = .ok (.goto 22, 3) := by decide +kernel
theorem dX10_faultOfGame_44 : decode cX10_faultOfGame 44 = .ok (.aload_n 0, 1) := by decide +kernel
theorem dX10_faultOfGame_45 : decode cX10_faultOfGame 45 = .ok (.getfield 16, 3) := by decide +kernel
theorem dX10_faultOfGame_48 : decode cX10_faultOfGame 48 = .ok (.iload_n 1, 1) := by decide +kernel
theorem dX10_faultOfGame_49 : decode cX10_faultOfGame 49 = .ok (.iaload, 1) := by decide +kernel
theorem dX10_faultOfGame_50 : decode cX10_faultOfGame 50 = .ok (.i2l, 1) := by decide +kernel
theorem dX10_faultOfGame_51 : decode cX10_faultOfGame 51 = .ok (.ldc2_w 158, 3) := by decide +kernel
theorem dX10_faultOfGame_54 : decode cX10_faultOfGame 54 = .ok (.ldc2_w 160, 3) := by decide +kernel
theorem dX10_faultOfGame_57 : decode cX10_faultOfGame 57 = .ok (.invokestatic 142, 3) := by decide +kernel
theorem dX10_faultOfGame_60 : decode cX10_faultOfGame 60 = .ok (.ifCond .eq 7, 3) := by decide +kernel
theorem dX10_faultOfGame_63 : decode cX10_faultOfGame 63 = .ok (.iconst 1, 1) := by decide +kernel
theorem dX10_faultOfGame_64 : decode cX10_faultOfGame 64 = .ok (.goto 4, 3) := by decide +kernel
theorem dX10_faultOfGame_67 : decode cX10_faultOfGame 67 = .ok (.iconst 0, 1) := by decide +kernel
theorem dX10_faultOfGame_68 : decode cX10_faultOfGame 68 = .ok (.istore_n 2, 1) := by decide +kernel
theorem dX10_faultOfGame_69 : decode cX10_faultOfGame 69 = .ok (.iload_n 2, 1) := by decide +kernel
theorem dX10_faultOfGame_70 : decode cX10_faultOfGame 70 = .ok (.ifCond .ne 5, 3) := by decide +kernel
theorem dX10_faultOfGame_73 : decode cX10_faultOfGame 73 = .ok (.iload_n 1, 1) := by decide +kernel
theorem dX10_faultOfGame_74 : decode cX10_faultOfGame 74 = .ok (.ireturn, 1) := by decide +kernel
theorem dX10_faultOfGame_75 : decode cX10_faultOfGame 75 = .ok (.iinc 1 1, 3) := by decide +kernel
theorem dX10_faultOfGame_78 : decode cX10_faultOfGame 78 = .ok (.goto (-76), 3) := by decide +kernel
theorem dX10_faultOfGame_81 : decode cX10_faultOfGame 81 = .ok (.aload_n 0, 1) := by decide +kernel
theorem dX10_faultOfGame_82 : decode cX10_faultOfGame 82 = .ok (.getfield 146, 3) := by decide +kernel
theorem dX10_faultOfGame_85 : decode cX10_faultOfGame 85 = .ok (.iconst 4, 1) := by decide +kernel
theorem dX10_faultOfGame_86 : decode cX10_faultOfGame 86 = .ok (.irem, 1) := by decide +kernel
theorem dX10_faultOfGame_87 : decode cX10_faultOfGame 87 = .ok (.ifCond .ne 8, 3) := by decide +kernel
theorem dX10_faultOfGame_90 : decode cX10_faultOfGame 90 = .ok (.bipush (-6), 2) := by decide +kernel
theorem dX10_faultOfGame_92 : decode cX10_faultOfGame 92 = .ok (.goto 7, 3) := by decide +kernel
theorem dX10_faultOfGame_95 : decode cX10_faultOfGame 95 = .ok (.aload_n 0, 1) := by decide +kernel
theorem dX10_faultOfGame_96 : decode cX10_faultOfGame 96 = .ok (.getfield 146, 3) := by decide +kernel
theorem dX10_faultOfGame_99 : decode cX10_faultOfGame 99 = .ok (.ireturn, 1) := by decide +kernel
theorem dX10_fault_0 : decode cX10_fault 0 = .ok (.iload_n 1, 1) := by decide +kernel
theorem dX10_fault_1 : decode cX10_fault 1 = .ok (.ifCond .ne 10, 3) := by decide +kernel
theorem dX10_fault_4 : decode cX10_fault 4 = .ok (.aload_n 0, 1) := by decide +kernel
theorem dX10_fault_5 : decode cX10_fault 5 = .ok (.invokevirtual 166, 3) := by decide +kernel
theorem dX10_fault_8 : decode cX10_fault 8 = .ok (.goto 17, 3) := by decide +kernel
theorem dX10_fault_11 : decode cX10_fault 11 = .ok (.iload_n 1, 1) := by decide +kernel
theorem dX10_fault_12 : decode cX10_fault 12 = .ok (.iconst 1, 1) := by decide +kernel
theorem dX10_fault_13 : decode cX10_fault 13 = .ok (.if_icmp .ne 10, 3) := by decide +kernel
theorem dX10_fault_16 : decode cX10_fault 16 = .ok (.aload_n 0, 1) := by decide +kernel
theorem dX10_fault_17 : decode cX10_fault 17 = .ok (.invokevirtual 170, 3) := by decide +kernel
theorem dX10_fault_20 : decode cX10_fault 20 = .ok (.goto 5, 3) := by decide +kernel
theorem dX10_fault_23 : decode cX10_fault 23 = .ok (.bipush (-2), 2) := by decide +kernel
theorem dX10_fault_25 : decode cX10_fault 25 = .ok (.ireturn, 1) := by decide +kernel
theorem dX10_standing_0 : decode cX10_standing 0 = .ok (.iconst 0, 1) := by decide +kernel
theorem dX10_standing_1 : decode cX10_standing 1 = .ok (.istore_n 2, 1) := by decide +kernel
theorem dX10_standing_2 : decode cX10_standing 2 = .ok (.iconst 0, 1) := by decide +kernel
theorem dX10_standing_3 : decode cX10_standing 3 = .ok (.istore_n 3, 1) := by decide +kernel
theorem dX10_standing_4 : decode cX10_standing 4 = .ok (.iload_n 3, 1) := by decide +kernel
theorem dX10_standing_5 : decode cX10_standing 5 = .ok (.bipush 6, 2) := by decide +kernel
theorem dX10_standing_7 : decode cX10_standing 7 = .ok (.if_icmp .ge 27, 3) := by decide +kernel
theorem dX10_standing_10 : decode cX10_standing 10 = .ok (.iload_n 2, 1) := by decide +kernel
theorem dX10_standing_11 : decode cX10_standing 11 = .ok (.lload_n 0, 1) := by decide +kernel
theorem dX10_standing_12 : decode cX10_standing 12 = .ok (.iload_n 3, 1) := by decide +kernel
theorem dX10_standing_13 : decode cX10_standing 13 = .ok (.invokestatic 91, 3) := by decide +kernel
theorem dX10_standing_16 : decode cX10_standing 16 = .ok (.bipush 31, 2) := by decide +kernel
theorem dX10_standing_18 : decode cX10_standing 18 = .ok (.if_icmp .ne 7, 3) := by decide +kernel
theorem dX10_standing_21 : decode cX10_standing 21 = .ok (.iconst 0, 1) := by decide +kernel
theorem dX10_standing_22 : decode cX10_standing 22 = .ok (.goto 4, 3) := by decide +kernel
theorem dX10_standing_25 : decode cX10_standing 25 = .ok (.iconst 1, 1) := by decide +kernel
theorem dX10_standing_26 : decode cX10_standing 26 = .ok (.iadd, 1) := by decide +kernel
theorem dX10_standing_27 : decode cX10_standing 27 = .ok (.istore_n 2, 1) := by decide +kernel
theorem dX10_standing_28 : decode cX10_standing 28 = .ok (.iinc 3 1, 3) := by decide +kernel
theorem dX10_standing_31 : decode cX10_standing 31 = .ok (.goto (-27), 3) := by decide +kernel
theorem dX10_standing_34 : decode cX10_standing 34 = .ok (.iload_n 2, 1) := by decide +kernel
theorem dX10_standing_35 : decode cX10_standing 35 = .ok (.ireturn, 1) := by decide +kernel
theorem dX10_lay_0 : decode cX10_lay 0 = .ok (.aload_n 0, 1) := by decide +kernel
theorem dX10_lay_1 : decode cX10_lay 1 = .ok (.invokevirtual 166, 3) := by decide +kernel
theorem dX10_lay_4 : decode cX10_lay 4 = .ok (.ifCond .lt 6, 3) := by decide +kernel
theorem dX10_lay_7 : decode cX10_lay 7 = .ok (.bipush (-5), 2) := by decide +kernel
theorem dX10_lay_9 : decode cX10_lay 9 = .ok (.ireturn, 1) := by decide +kernel
theorem dX10_lay_10 : decode cX10_lay 10 = .ok (.aload_n 0, 1) := by decide +kernel
theorem dX10_lay_11 : decode cX10_lay 11 = .ok (.aload_n 0, 1) := by decide +kernel
theorem dX10_lay_12 : decode cX10_lay 12 = .ok (.getfield 149, 3) := by decide +kernel
theorem dX10_lay_15 : decode cX10_lay 15 = .ok (.putfield 69, 3) := by decide +kernel
theorem dX10_lay_18 : decode cX10_lay 18 = .ok (.aload_n 0, 1) := by decide +kernel
theorem dX10_lay_19 : decode cX10_lay 19 = .ok (.iconst 0, 1) := by decide +kernel
theorem dX10_lay_20 : decode cX10_lay 20 = .ok (.putfield 146, 3) := by decide +kernel
theorem dX10_lay_23 : decode cX10_lay 23 = .ok (.aload_n 0, 1) := by decide +kernel
theorem dX10_lay_24 : decode cX10_lay 24 = .ok (.getfield 69, 3) := by decide +kernel
theorem dX10_lay_27 : decode cX10_lay 27 = .ok (.invokestatic 173, 3) := by decide +kernel
theorem dX10_lay_30 : decode cX10_lay 30 = .ok (.ireturn, 1) := by decide +kernel
theorem dX10_law_0 : decode cX10_law 0 = .ok (.iload_n 1, 1) := by decide +kernel
theorem dX10_law_1 : decode cX10_law 1 = .ok (.i2l, 1) := by decide +kernel
theorem dX10_law_2 : decode cX10_law 2 = .ok (.lconst 0, 1) := by decide +kernel
theorem dX10_law_3 : decode cX10_law 3 = .ok (.ldc2_w 176, 3) := by decide +kernel
theorem dX10_law_6 : decode cX10_law 6 = .ok (.invokestatic 142, 3) := by decide +kernel
theorem dX10_law_9 : decode cX10_law 9 = .ok (.ifCond .eq 29, 3) := by decide +kernel
theorem dX10_law_12 : decode cX10_law 12 = .ok (.iload_n 2, 1) := by decide +kernel
theorem dX10_law_13 : decode cX10_law 13 = .ok (.i2l, 1) := by decide +kernel
theorem dX10_law_14 : decode cX10_law 14 = .ok (.iload_n 1, 1) := by decide +kernel
theorem dX10_law_15 : decode cX10_law 15 = .ok (.i2l, 1) := by decide +kernel
theorem dX10_law_16 : decode cX10_law 16 = .ok (.ldc2_w 176, 3) := by decide +kernel
theorem dX10_law_19 : decode cX10_law 19 = .ok (.invokestatic 142, 3) := by decide +kernel
theorem dX10_law_22 : decode cX10_law 22 = .ok (.ifCond .eq 16, 3) := by decide +kernel
theorem dX10_law_25 : decode cX10_law 25 = .ok (.iload_n 3, 1) := by decide +kernel
theorem dX10_law_26 : decode cX10_law 26 = .ok (.i2l, 1) := by decide +kernel
theorem dX10_law_27 : decode cX10_law 27 = .ok (.iload_n 2, 1) := by decide +kernel
theorem dX10_law_28 : decode cX10_law 28 = .ok (.i2l, 1) := by decide +kernel
theorem dX10_law_29 : decode cX10_law 29 = .ok (.ldc2_w 176, 3) := by decide +kernel
theorem dX10_law_32 : decode cX10_law 32 = .ok (.invokestatic 142, 3) := by decide +kernel
theorem dX10_law_35 : decode cX10_law 35 = .ok (.ifCond .ne 6, 3) := by decide +kernel
theorem dX10_law_38 : decode cX10_law 38 = .ok (.bipush (-2), 2) := by decide +kernel
theorem dX10_law_40 : decode cX10_law 40 = .ok (.ireturn, 1) := by decide +kernel
theorem dX10_law_41 : decode cX10_law 41 = .ok (.bipush 100, 2) := by decide +kernel
theorem dX10_law_43 : decode cX10_law 43 = .ok (.aload_n 0, 1) := by decide +kernel
theorem dX10_law_44 : decode cX10_law 44 = .ok (.getfield 77, 3) := by decide +kernel
theorem dX10_law_47 : decode cX10_law 47 = .ok (.imul, 1) := by decide +kernel
theorem dX10_law_48 : decode cX10_law 48 = .ok (.bipush 10, 2) := by decide +kernel
theorem dX10_law_50 : decode cX10_law 50 = .ok (.aload_n 0, 1) := by decide +kernel
theorem dX10_law_51 : decode cX10_law 51 = .ok (.getfield 81, 3) := by decide +kernel
theorem dX10_law_54 : decode cX10_law 54 = .ok (.imul, 1) := by decide +kernel
theorem dX10_law_55 : decode cX10_law 55 = .ok (.iadd, 1) := by decide +kernel
theorem dX10_law_56 : decode cX10_law 56 = .ok (.aload_n 0, 1) := by decide +kernel
theorem dX10_law_57 : decode cX10_law 57 = .ok (.getfield 84, 3) := by decide +kernel
theorem dX10_law_60 : decode cX10_law 60 = .ok (.iadd, 1) := by decide +kernel
theorem dX10_law_61 : decode cX10_law 61 = .ok (.istore 4, 2) := by decide +kernel
theorem dX10_law_63 : decode cX10_law 63 = .ok (.aload_n 0, 1) := by decide +kernel
theorem dX10_law_64 : decode cX10_law 64 = .ok (.iload_n 1, 1) := by decide +kernel
theorem dX10_law_65 : decode cX10_law 65 = .ok (.putfield 77, 3) := by decide +kernel
theorem dX10_law_68 : decode cX10_law 68 = .ok (.aload_n 0, 1) := by decide +kernel
theorem dX10_law_69 : decode cX10_law 69 = .ok (.iload_n 2, 1) := by decide +kernel
theorem dX10_law_70 : decode cX10_law 70 = .ok (.putfield 81, 3) := by decide +kernel
theorem dX10_law_73 : decode cX10_law 73 = .ok (.aload_n 0, 1) := by decide +kernel
theorem dX10_law_74 : decode cX10_law 74 = .ok (.iload_n 3, 1) := by decide +kernel
theorem dX10_law_75 : decode cX10_law 75 = .ok (.putfield 84, 3) := by decide +kernel
theorem dX10_law_78 : decode cX10_law 78 = .ok (.iload 4, 2) := by decide +kernel
theorem dX10_law_80 : decode cX10_law 80 = .ok (.ireturn, 1) := by decide +kernel
theorem dX10_isMan_0 : decode cX10_isMan 0 = .ok (.iload_n 0, 1) := by decide +kernel
theorem dX10_isMan_1 : decode cX10_isMan 1 = .ok (.i2l, 1) := by decide +kernel
theorem dX10_isMan_2 : decode cX10_isMan 2 = .ok (.lconst 0, 1) := by decide +kernel
theorem dX10_isMan_3 : decode cX10_isMan 3 = .ok (.ldc2_w 152, 3) := by decide +kernel
theorem dX10_isMan_6 : decode cX10_isMan 6 = .ok (.invokestatic 142, 3) := by decide +kernel
theorem dX10_isMan_9 : decode cX10_isMan 9 = .ok (.ireturn, 1) := by decide +kernel
theorem dX10_cellNow_0 : decode cX10_cellNow 0 = .ok (.aload_n 0, 1) := by decide +kernel
theorem dX10_cellNow_1 : decode cX10_cellNow 1 = .ok (.getfield 69, 3) := by decide +kernel
theorem dX10_cellNow_4 : decode cX10_cellNow 4 = .ok (.iload_n 1, 1) := by decide +kernel
theorem dX10_cellNow_5 : decode cX10_cellNow 5 = .ok (.invokestatic 91, 3) := by decide +kernel
theorem dX10_cellNow_8 : decode cX10_cellNow 8 = .ok (.istore_n 2, 1) := by decide +kernel
theorem dX10_cellNow_9 : decode cX10_cellNow 9 = .ok (.iload_n 2, 1) := by decide +kernel
theorem dX10_cellNow_10 : decode cX10_cellNow 10 = .ok (.bipush 31, 2) := by decide +kernel
theorem dX10_cellNow_12 : decode cX10_cellNow 12 = .ok (.if_icmp .ne 8, 3) := by decide +kernel
theorem dX10_cellNow_15 : decode cX10_cellNow 15 = .ok (.bipush (-6), 2) := by decide +kernel
theorem dX10_cellNow_17 : decode cX10_cellNow 17 = .ok (.goto 4, 3) := by decide +kernel
theorem dX10_cellNow_20 : decode cX10_cellNow 20 = .ok (.iload_n 2, 1) := by decide +kernel
theorem dX10_cellNow_21 : decode cX10_cellNow 21 = .ok (.ireturn, 1) := by decide +kernel
theorem dX10_man_0 : decode cX10_man 0 = .ok (.iload_n 1, 1) := by decide +kernel
theorem dX10_man_1 : decode cX10_man 1 = .ok (.invokestatic 178, 3) := by decide +kernel
theorem dX10_man_4 : decode cX10_man 4 = .ok (.ifCond .ne 5, 3) := by decide +kernel
theorem dX10_man_7 : decode cX10_man 7 = .ok (.iconst (-1), 1) := by decide +kernel
theorem dX10_man_8 : decode cX10_man 8 = .ok (.ireturn, 1) := by decide +kernel
theorem dX10_man_9 : decode cX10_man 9 = .ok (.iload_n 2, 1) := by decide +kernel
theorem dX10_man_10 : decode cX10_man 10 = .ok (.tableswitch 54 0 2 #[26, 32, 41], 26) := by decide +kernel
theorem dX10_man_36 : decode cX10_man 36 = .ok (.aload_n 0, 1) := by decide +kernel
theorem dX10_man_37 : decode cX10_man 37 = .ok (.iload_n 1, 1) := by decide +kernel
theorem dX10_man_38 : decode cX10_man 38 = .ok (.invokevirtual 182, 3) := by decide +kernel
theorem dX10_man_41 : decode cX10_man 41 = .ok (.ireturn, 1) := by decide +kernel
theorem dX10_man_42 : decode cX10_man 42 = .ok (.aload_n 0, 1) := by decide +kernel
theorem dX10_man_43 : decode cX10_man 43 = .ok (.getfield 69, 3) := by decide +kernel
theorem dX10_man_46 : decode cX10_man 46 = .ok (.iload_n 1, 1) := by decide +kernel
theorem dX10_man_47 : decode cX10_man 47 = .ok (.invokestatic 95, 3) := by decide +kernel
theorem dX10_man_50 : decode cX10_man 50 = .ok (.ireturn, 1) := by decide +kernel
theorem dX10_man_51 : decode cX10_man 51 = .ok (.aload_n 0, 1) := by decide +kernel
theorem dX10_man_52 : decode cX10_man 52 = .ok (.aload_n 0, 1) := by decide +kernel
theorem dX10_man_53 : decode cX10_man 53 = .ok (.getfield 69, 3) := by decide +kernel
theorem dX10_man_56 : decode cX10_man 56 = .ok (.iload_n 1, 1) := by decide +kernel
theorem dX10_man_57 : decode cX10_man 57 = .ok (.invokestatic 95, 3) := by decide +kernel
theorem dX10_man_60 : decode cX10_man 60 = .ok (.invokevirtual 98, 3) := by decide +kernel
theorem dX10_man_63 : decode cX10_man 63 = .ok (.ireturn, 1) := by decide +kernel
theorem dX10_man_64 : decode cX10_man 64 = .ok (.bipush (-2), 2) := by decide +kernel
theorem dX10_man_66 : decode cX10_man 66 = .ok (.ireturn, 1) := by decide +kernel
theorem dX10_on_0 : decode cX10_on 0 = .ok (.iload_n 1, 1) := by decide +kernel
theorem dX10_on_1 : decode cX10_on 1 = .ok (.i2l, 1) := by decide +kernel
theorem dX10_on_2 : decode cX10_on 2 = .ok (.lconst 0, 1) := by decide +kernel
theorem dX10_on_3 : decode cX10_on 3 = .ok (.ldc2_w 185, 3) := by decide +kernel
theorem dX10_on_6 : decode cX10_on 6 = .ok (.invokestatic 142, 3) := by decide +kernel
theorem dX10_on_9 : decode cX10_on 9 = .ok (.ifCond .eq 14, 3) := by decide +kernel
theorem dX10_on_12 : decode cX10_on 12 = .ok (.aload_n 0, 1) := by decide +kernel
theorem dX10_on_13 : decode cX10_on 13 = .ok (.getfield 69, 3) := by decide +kernel
theorem dX10_on_16 : decode cX10_on 16 = .ok (.iload_n 1, 1) := by decide +kernel
theorem dX10_on_17 : decode cX10_on 17 = .ok (.invokestatic 109, 3) := by decide +kernel
theorem dX10_on_20 : decode cX10_on 20 = .ok (.goto 4, 3) := by decide +kernel
theorem dX10_on_23 : decode cX10_on 23 = .ok (.iconst (-1), 1) := by decide +kernel
theorem dX10_on_24 : decode cX10_on 24 = .ok (.ireturn, 1) := by decide +kernel
theorem dX10_state_0 : decode cX10_state 0 = .ok (.iload_n 1, 1) := by decide +kernel
theorem dX10_state_1 : decode cX10_state 1 = .ok (.ifCond .ne 13, 3) := by decide +kernel
theorem dX10_state_4 : decode cX10_state 4 = .ok (.aload_n 0, 1) := by decide +kernel
theorem dX10_state_5 : decode cX10_state 5 = .ok (.getfield 69, 3) := by decide +kernel
theorem dX10_state_8 : decode cX10_state 8 = .ok (.invokestatic 123, 3) := by decide +kernel
theorem dX10_state_11 : decode cX10_state 11 = .ok (.goto 21, 3) := by decide +kernel
theorem dX10_state_14 : decode cX10_state 14 = .ok (.iload_n 1, 1) := by decide +kernel
theorem dX10_state_15 : decode cX10_state 15 = .ok (.iconst 1, 1) := by decide +kernel
theorem dX10_state_16 : decode cX10_state 16 = .ok (.if_icmp .ne 14, 3) := by decide +kernel
theorem dX10_state_19 : decode cX10_state 19 = .ok (.aload_n 0, 1) := by decide +kernel
theorem dX10_state_20 : decode cX10_state 20 = .ok (.aload_n 0, 1) := by decide +kernel
theorem dX10_state_21 : decode cX10_state 21 = .ok (.getfield 69, 3) := by decide +kernel
theorem dX10_state_24 : decode cX10_state 24 = .ok (.invokevirtual 135, 3) := by decide +kernel
theorem dX10_state_27 : decode cX10_state 27 = .ok (.goto 5, 3) := by decide +kernel
theorem dX10_state_30 : decode cX10_state 30 = .ok (.bipush (-2), 2) := by decide +kernel
theorem dX10_state_32 : decode cX10_state 32 = .ok (.ireturn, 1) := by decide +kernel
theorem dX10_fromAt_0 : decode cX10_fromAt 0 = .ok (.aload_n 0, 1) := by decide +kernel
theorem dX10_fromAt_1 : decode cX10_fromAt 1 = .ok (.getfield 16, 3) := by decide +kernel
theorem dX10_fromAt_4 : decode cX10_fromAt 4 = .ok (.iconst 4, 1) := by decide +kernel
theorem dX10_fromAt_5 : decode cX10_fromAt 5 = .ok (.iload_n 1, 1) := by decide +kernel
theorem dX10_fromAt_6 : decode cX10_fromAt 6 = .ok (.imul, 1) := by decide +kernel
theorem dX10_fromAt_7 : decode cX10_fromAt 7 = .ok (.iaload, 1) := by decide +kernel
theorem dX10_fromAt_8 : decode cX10_fromAt 8 = .ok (.bipush 97, 2) := by decide +kernel
theorem dX10_fromAt_10 : decode cX10_fromAt 10 = .ok (.isub, 1) := by decide +kernel
theorem dX10_fromAt_11 : decode cX10_fromAt 11 = .ok (.iconst 5, 1) := by decide +kernel
theorem dX10_fromAt_12 : decode cX10_fromAt 12 = .ok (.aload_n 0, 1) := by decide +kernel
theorem dX10_fromAt_13 : decode cX10_fromAt 13 = .ok (.getfield 16, 3) := by decide +kernel
theorem dX10_fromAt_16 : decode cX10_fromAt 16 = .ok (.iconst 4, 1) := by decide +kernel
theorem dX10_fromAt_17 : decode cX10_fromAt 17 = .ok (.iload_n 1, 1) := by decide +kernel
theorem dX10_fromAt_18 : decode cX10_fromAt 18 = .ok (.imul, 1) := by decide +kernel
theorem dX10_fromAt_19 : decode cX10_fromAt 19 = .ok (.iconst 1, 1) := by decide +kernel
theorem dX10_fromAt_20 : decode cX10_fromAt 20 = .ok (.iadd, 1) := by decide +kernel
theorem dX10_fromAt_21 : decode cX10_fromAt 21 = .ok (.iaload, 1) := by decide +kernel
theorem dX10_fromAt_22 : decode cX10_fromAt 22 = .ok (.bipush 49, 2) := by decide +kernel
theorem dX10_fromAt_24 : decode cX10_fromAt 24 = .ok (.isub, 1) := by decide +kernel
theorem dX10_fromAt_25 : decode cX10_fromAt 25 = .ok (.imul, 1) := by decide +kernel
theorem dX10_fromAt_26 : decode cX10_fromAt 26 = .ok (.iadd, 1) := by decide +kernel
theorem dX10_fromAt_27 : decode cX10_fromAt 27 = .ok (.ireturn, 1) := by decide +kernel
theorem dX10_toAt_0 : decode cX10_toAt 0 = .ok (.aload_n 0, 1) := by decide +kernel
theorem dX10_toAt_1 : decode cX10_toAt 1 = .ok (.getfield 16, 3) := by decide +kernel
theorem dX10_toAt_4 : decode cX10_toAt 4 = .ok (.iconst 4, 1) := by decide +kernel
theorem dX10_toAt_5 : decode cX10_toAt 5 = .ok (.iload_n 1, 1) := by decide +kernel
theorem dX10_toAt_6 : decode cX10_toAt 6 = .ok (.imul, 1) := by decide +kernel
theorem dX10_toAt_7 : decode cX10_toAt 7 = .ok (.iconst 2, 1) := by decide +kernel
theorem dX10_toAt_8 : decode cX10_toAt 8 = .ok (.iadd, 1) := by decide +kernel
theorem dX10_toAt_9 : decode cX10_toAt 9 = .ok (.iaload, 1) := by decide +kernel
theorem dX10_toAt_10 : decode cX10_toAt 10 = .ok (.bipush 97, 2) := by decide +kernel
theorem dX10_toAt_12 : decode cX10_toAt 12 = .ok (.isub, 1) := by decide +kernel
theorem dX10_toAt_13 : decode cX10_toAt 13 = .ok (.iconst 5, 1) := by decide +kernel
theorem dX10_toAt_14 : decode cX10_toAt 14 = .ok (.aload_n 0, 1) := by decide +kernel
theorem dX10_toAt_15 : decode cX10_toAt 15 = .ok (.getfield 16, 3) := by decide +kernel
theorem dX10_toAt_18 : decode cX10_toAt 18 = .ok (.iconst 4, 1) := by decide +kernel
theorem dX10_toAt_19 : decode cX10_toAt 19 = .ok (.iload_n 1, 1) := by decide +kernel
theorem dX10_toAt_20 : decode cX10_toAt 20 = .ok (.imul, 1) := by decide +kernel
theorem dX10_toAt_21 : decode cX10_toAt 21 = .ok (.iconst 3, 1) := by decide +kernel
theorem dX10_toAt_22 : decode cX10_toAt 22 = .ok (.iadd, 1) := by decide +kernel
theorem dX10_toAt_23 : decode cX10_toAt 23 = .ok (.iaload, 1) := by decide +kernel
theorem dX10_toAt_24 : decode cX10_toAt 24 = .ok (.bipush 49, 2) := by decide +kernel
theorem dX10_toAt_26 : decode cX10_toAt 26 = .ok (.isub, 1) := by decide +kernel
theorem dX10_toAt_27 : decode cX10_toAt 27 = .ok (.imul, 1) := by decide +kernel
theorem dX10_toAt_28 : decode cX10_toAt 28 = .ok (.iadd, 1) := by decide +kernel
theorem dX10_toAt_29 : decode cX10_toAt 29 = .ok (.ireturn, 1) := by decide +kernel
theorem dX10_whyAt_0 : decode cX10_whyAt 0 = .ok (.aload_n 0, 1) := by decide +kernel
theorem dX10_whyAt_1 : decode cX10_whyAt 1 = .ok (.aload_n 0, 1) := by decide +kernel
theorem dX10_whyAt_2 : decode cX10_whyAt 2 = .ok (.getfield 187, 3) := by decide +kernel
theorem dX10_whyAt_5 : decode cX10_whyAt 5 = .ok (.invokevirtual 135, 3) := by decide +kernel
theorem dX10_whyAt_8 : decode cX10_whyAt 8 = .ok (.ifCond .eq 5, 3) := by decide +kernel
theorem dX10_whyAt_11 : decode cX10_whyAt 11 = .ok (.iconst 1, 1) := by decide +kernel
theorem dX10_whyAt_12 : decode cX10_whyAt 12 = .ok (.ireturn, 1) := by decide +kernel
theorem dX10_whyAt_13 : decode cX10_whyAt 13 = .ok (.aload_n 0, 1) := by decide +kernel
theorem dX10_whyAt_14 : decode cX10_whyAt 14 = .ok (.getfield 187, 3) := by decide +kernel
theorem dX10_whyAt_17 : decode cX10_whyAt 17 = .ok (.aload_n 0, 1) := by decide +kernel
theorem dX10_whyAt_18 : decode cX10_whyAt 18 = .ok (.iload_n 1, 1) := by decide +kernel
theorem dX10_whyAt_19 : decode cX10_whyAt 19 = .ok (.invokevirtual 190, 3) := by decide +kernel
theorem dX10_whyAt_22 : decode cX10_whyAt 22 = .ok (.invokestatic 109, 3) := by decide +kernel
theorem dX10_whyAt_25 : decode cX10_whyAt 25 = .ok (.istore_n 2, 1) := by decide +kernel
theorem dX10_whyAt_26 : decode cX10_whyAt 26 = .ok (.iload_n 2, 1) := by decide +kernel
theorem dX10_whyAt_27 : decode cX10_whyAt 27 = .ok (.ifCond .lt 16, 3) := by decide +kernel
theorem dX10_whyAt_30 : decode cX10_whyAt 30 = .ok (.iload_n 2, 1) := by decide +kernel
theorem dX10_whyAt_31 : decode cX10_whyAt 31 = .ok (.iconst 3, 1) := by decide +kernel
theorem dX10_whyAt_32 : decode cX10_whyAt 32 = .ok (.idiv, 1) := by decide +kernel
theorem dX10_whyAt_33 : decode cX10_whyAt 33 = .ok (.aload_n 0, 1) := by decide +kernel
theorem dX10_whyAt_34 : decode cX10_whyAt 34 = .ok (.getfield 187, 3) := by decide +kernel
theorem dX10_whyAt_37 : decode cX10_whyAt 37 = .ok (.invokestatic 123, 3) := by decide +kernel
theorem dX10_whyAt_40 : decode cX10_whyAt 40 = .ok (.if_icmp .eq 7, 3) := by decide +kernel
theorem dX10_whyAt_43 : decode cX10_whyAt 43 = .ok (.iconst 2, 1) := by decide +kernel
theorem dX10_whyAt_44 : decode cX10_whyAt 44 = .ok (.goto 17, 3) := by decide +kernel
theorem dX10_whyAt_47 : decode cX10_whyAt 47 = .ok (.aload_n 0, 1) := by decide +kernel
theorem dX10_whyAt_48 : decode cX10_whyAt 48 = .ok (.aload_n 0, 1) := by decide +kernel
theorem dX10_whyAt_49 : decode cX10_whyAt 49 = .ok (.getfield 187, 3) := by decide +kernel
theorem dX10_whyAt_52 : decode cX10_whyAt 52 = .ok (.iload_n 2, 1) := by decide +kernel
theorem dX10_whyAt_53 : decode cX10_whyAt 53 = .ok (.aload_n 0, 1) := by decide +kernel
theorem dX10_whyAt_54 : decode cX10_whyAt 54 = .ok (.iload_n 1, 1) := by decide +kernel
theorem dX10_whyAt_55 : decode cX10_whyAt 55 = .ok (.invokevirtual 193, 3) := by decide +kernel
theorem dX10_whyAt_58 : decode cX10_whyAt 58 = .ok (.invokevirtual 112, 3) := by decide +kernel
theorem dX10_whyAt_61 : decode cX10_whyAt 61 = .ok (.ireturn, 1) := by decide +kernel
theorem dX10_goGame_0 : decode cX10_goGame 0 = .ok (.aload_n 0, 1) := by decide +kernel
theorem dX10_goGame_1 : decode cX10_goGame 1 = .ok (.aload_n 0, 1) := by decide +kernel
theorem dX10_goGame_2 : decode cX10_goGame 2 = .ok (.getfield 69, 3) := by decide +kernel
theorem dX10_goGame_5 : decode cX10_goGame 5 = .ok (.putfield 187, 3) := by decide +kernel
theorem dX10_goGame_8 : decode cX10_goGame 8 = .ok (.aload_n 0, 1) := by decide +kernel
theorem dX10_goGame_9 : decode cX10_goGame 9 = .ok (.bipush (-6), 2) := by decide +kernel
theorem dX10_goGame_11 : decode cX10_goGame 11 = .ok (.putfield 196, 3) := by decide +kernel
theorem dX10_goGame_14 : decode cX10_goGame 14 = .ok (.aload_n 0, 1) := by decide +kernel
theorem dX10_goGame_15 : decode cX10_goGame 15 = .ok (.bipush (-6), 2) := by decide +kernel
theorem dX10_goGame_17 : decode cX10_goGame 17 = .ok (.putfield 199, 3) := by decide +kernel
theorem dX10_goGame_20 : decode cX10_goGame 20 = .ok (.iconst 0, 1) := by decide +kernel
theorem dX10_goGame_21 : decode cX10_goGame 21 = .ok (.istore_n 1, 1) := by decide +kernel
theorem dX10_goGame_22 : decode cX10_goGame 22 = .ok (.iconst 4, 1) := by decide +kernel
theorem dX10_goGame_23 : decode cX10_goGame 23 = .ok (.iload_n 1, 1) := by decide +kernel
theorem dX10_goGame_24 : decode cX10_goGame 24 = .ok (.imul, 1) := by decide +kernel
theorem dX10_goGame_25 : decode cX10_goGame 25 = .ok (.aload_n 0, 1) := by decide +kernel
theorem dX10_goGame_26 : decode cX10_goGame 26 = .ok (.getfield 146, 3) := by decide +kernel
theorem dX10_goGame_29 : decode cX10_goGame 29 = .ok (.if_icmp .ge 59, 3) := by decide +kernel
theorem dX10_goGame_32 : decode cX10_goGame 32 = .ok (.aload_n 0, 1) := by decide +kernel
theorem dX10_goGame_33 : decode cX10_goGame 33 = .ok (.iload_n 1, 1) := by decide +kernel
theorem dX10_goGame_34 : decode cX10_goGame 34 = .ok (.invokevirtual 202, 3) := by decide +kernel
theorem dX10_goGame_37 : decode cX10_goGame 37 = .ok (.istore_n 2, 1) := by decide +kernel
theorem dX10_goGame_38 : decode cX10_goGame 38 = .ok (.iload_n 2, 1) := by decide +kernel
theorem dX10_goGame_39 : decode cX10_goGame 39 = .ok (.ifCond .lt 15, 3) := by decide +kernel
theorem dX10_goGame_42 : decode cX10_goGame 42 = .ok (.aload_n 0, 1) := by decide +kernel
theorem dX10_goGame_43 : decode cX10_goGame 43 = .ok (.iload_n 1, 1) := by decide +kernel
theorem dX10_goGame_44 : decode cX10_goGame 44 = .ok (.putfield 196, 3) := by decide +kernel
theorem dX10_goGame_47 : decode cX10_goGame 47 = .ok (.aload_n 0, 1) := by decide +kernel
theorem dX10_goGame_48 : decode cX10_goGame 48 = .ok (.iload_n 2, 1) := by decide +kernel
theorem dX10_goGame_49 : decode cX10_goGame 49 = .ok (.putfield 199, 3) := by decide +kernel
theorem dX10_goGame_52 : decode cX10_goGame 52 = .ok (.iconst 0, 1) := by decide +kernel
theorem dX10_goGame_53 : decode cX10_goGame 53 = .ok (.ireturn, 1) := by decide +kernel
theorem dX10_goGame_54 : decode cX10_goGame 54 = .ok (.aload_n 0, 1) := by decide +kernel
theorem dX10_goGame_55 : decode cX10_goGame 55 = .ok (.aload_n 0, 1) := by decide +kernel
theorem dX10_goGame_56 : decode cX10_goGame 56 = .ok (.getfield 187, 3) := by decide +kernel
theorem dX10_goGame_59 : decode cX10_goGame 59 = .ok (.aload_n 0, 1) := by decide +kernel
theorem dX10_goGame_60 : decode cX10_goGame 60 = .ok (.getfield 187, 3) := by decide +kernel
theorem dX10_goGame_63 : decode cX10_goGame 63 = .ok (.aload_n 0, 1) := by decide +kernel
theorem dX10_goGame_64 : decode cX10_goGame 64 = .ok (.iload_n 1, 1) := by decide +kernel
theorem dX10_goGame_65 : decode cX10_goGame 65 = .ok (.invokevirtual 190, 3) := by decide +kernel
theorem dX10_goGame_68 : decode cX10_goGame 68 = .ok (.invokestatic 109, 3) := by decide +kernel
theorem dX10_goGame_71 : decode cX10_goGame 71 = .ok (.aload_n 0, 1) := by decide +kernel
theorem dX10_goGame_72 : decode cX10_goGame 72 = .ok (.iload_n 1, 1) := by decide +kernel
theorem dX10_goGame_73 : decode cX10_goGame 73 = .ok (.invokevirtual 193, 3) := by decide +kernel
theorem dX10_goGame_76 : decode cX10_goGame 76 = .ok (.invokestatic 205, 3) := by decide +kernel
theorem dX10_goGame_79 : decode cX10_goGame 79 = .ok (.putfield 187, 3) := by decide +kernel
theorem dX10_goGame_82 : decode cX10_goGame 82 = .ok (.iinc 1 1, 3) := by decide +kernel
theorem dX10_goGame_85 : decode cX10_goGame 85 = .ok (.goto (-63), 3) := by decide +kernel
theorem dX10_goGame_88 : decode cX10_goGame 88 = .ok (.iconst 1, 1) := by decide +kernel
theorem dX10_goGame_89 : decode cX10_goGame 89 = .ok (.ireturn, 1) := by decide +kernel
theorem dX10_judge_0 : decode cX10_judge 0 = .ok (.iload_n 1, 1) := by decide +kernel
theorem dX10_judge_1 : decode cX10_judge 1 = .ok (.i2l, 1) := by decide +kernel
theorem dX10_judge_2 : decode cX10_judge 2 = .ok (.lconst 0, 1) := by decide +kernel
theorem dX10_judge_3 : decode cX10_judge 3 = .ok (.lconst 1, 1) := by decide +kernel
theorem dX10_judge_4 : decode cX10_judge 4 = .ok (.invokestatic 142, 3) := by decide +kernel
theorem dX10_judge_7 : decode cX10_judge 7 = .ok (.ifCond .ne 6, 3) := by decide +kernel
theorem dX10_judge_10 : decode cX10_judge 10 = .ok (.bipush (-2), 2) := by decide +kernel
theorem dX10_judge_12 : decode cX10_judge 12 = .ok (.ireturn, 1) := by decide +kernel
theorem dX10_judge_13 : decode cX10_judge 13 = .ok (.aload_n 0, 1) := by decide +kernel
theorem dX10_judge_14 : decode cX10_judge 14 = .ok (.invokevirtual 170, 3) := by decide +kernel
theorem dX10_judge_17 : decode cX10_judge 17 = .ok (.ifCond .lt 6, 3) := by decide +kernel
theorem dX10_judge_20 : decode cX10_judge 20 = .ok (.bipush (-5), 2) := by decide +kernel
theorem dX10_judge_22 : decode cX10_judge 22 = .ok (.ireturn, 1) := by decide +kernel
theorem dX10_judge_23 : decode cX10_judge 23 = .ok (.aload_n 0, 1) := by decide +kernel
theorem dX10_judge_24 : decode cX10_judge 24 = .ok (.invokevirtual 209, 3) := by decide +kernel
theorem dX10_judge_27 : decode cX10_judge 27 = .ok (.pop, 1) := by decide +kernel
theorem dX10_judge_28 : decode cX10_judge 28 = .ok (.iload_n 1, 1) := by decide +kernel
theorem dX10_judge_29 : decode cX10_judge 29 = .ok (.ifCond .ne 10, 3) := by decide +kernel
theorem dX10_judge_32 : decode cX10_judge 32 = .ok (.aload_n 0, 1) := by decide +kernel
theorem dX10_judge_33 : decode cX10_judge 33 = .ok (.getfield 196, 3) := by decide +kernel
theorem dX10_judge_36 : decode cX10_judge 36 = .ok (.goto 7, 3) := by decide +kernel
theorem dX10_judge_39 : decode cX10_judge 39 = .ok (.aload_n 0, 1) := by decide +kernel
theorem dX10_judge_40 : decode cX10_judge 40 = .ok (.getfield 199, 3) := by decide +kernel
theorem dX10_judge_43 : decode cX10_judge 43 = .ok (.ireturn, 1) := by decide +kernel
theorem dX10_play_0 : decode cX10_play 0 = .ok (.aload_n 0, 1) := by decide +kernel
theorem dX10_play_1 : decode cX10_play 1 = .ok (.invokevirtual 170, 3) := by decide +kernel
theorem dX10_play_4 : decode cX10_play 4 = .ok (.ifCond .ge 10, 3) := by decide +kernel
theorem dX10_play_7 : decode cX10_play 7 = .ok (.aload_n 0, 1) := by decide +kernel
theorem dX10_play_8 : decode cX10_play 8 = .ok (.invokevirtual 209, 3) := by decide +kernel
theorem dX10_play_11 : decode cX10_play 11 = .ok (.ifCond .ne 6, 3) := by decide +kernel
theorem dX10_play_14 : decode cX10_play 14 = .ok (.bipush (-5), 2) := by decide +kernel
theorem dX10_play_16 : decode cX10_play 16 = .ok (.ireturn, 1) := by decide +kernel
theorem dX10_play_17 : decode cX10_play 17 = .ok (.aload_n 0, 1) := by decide +kernel
theorem dX10_play_18 : decode cX10_play 18 = .ok (.getfield 146, 3) := by decide +kernel
theorem dX10_play_21 : decode cX10_play 21 = .ok (.iconst 4, 1) := by decide +kernel
theorem dX10_play_22 : decode cX10_play 22 = .ok (.idiv, 1) := by decide +kernel
theorem dX10_play_23 : decode cX10_play 23 = .ok (.istore_n 1, 1) := by decide +kernel
theorem dX10_play_24 : decode cX10_play 24 = .ok (.aload_n 0, 1) := by decide +kernel
theorem dX10_play_25 : decode cX10_play 25 = .ok (.aload_n 0, 1) := by decide +kernel
theorem dX10_play_26 : decode cX10_play 26 = .ok (.getfield 187, 3) := by decide +kernel
theorem dX10_play_29 : decode cX10_play 29 = .ok (.putfield 69, 3) := by decide +kernel
theorem dX10_play_32 : decode cX10_play 32 = .ok (.aload_n 0, 1) := by decide +kernel
theorem dX10_play_33 : decode cX10_play 33 = .ok (.iconst 0, 1) := by decide +kernel
theorem dX10_play_34 : decode cX10_play 34 = .ok (.putfield 146, 3) := by decide +kernel
theorem dX10_play_37 : decode cX10_play 37 = .ok (.iload_n 1, 1) := by decide +kernel
theorem dX10_play_38 : decode cX10_play 38 = .ok (.ireturn, 1) := by decide +kernel
theorem dX10_moveNumber_0 : decode cX10_moveNumber 0 = .ok (.bipush 100, 2) := by decide +kernel
theorem dX10_moveNumber_2 : decode cX10_moveNumber 2 = .ok (.lload_n 1, 1) := by decide +kernel
theorem dX10_moveNumber_3 : decode cX10_moveNumber 3 = .ok (.aload_n 0, 1) := by decide +kernel
theorem dX10_moveNumber_4 : decode cX10_moveNumber 4 = .ok (.getfield 7, 3) := by decide +kernel
theorem dX10_moveNumber_7 : decode cX10_moveNumber 7 = .ok (.iload_n 3, 1) := by decide +kernel
theorem dX10_moveNumber_8 : decode cX10_moveNumber 8 = .ok (.iaload, 1) := by decide +kernel
theorem dX10_moveNumber_9 : decode cX10_moveNumber 9 = .ok (.invokestatic 91, 3) := by decide +kernel
theorem dX10_moveNumber_12 : decode cX10_moveNumber 12 = .ok (.imul, 1) := by decide +kernel
theorem dX10_moveNumber_13 : decode cX10_moveNumber 13 = .ok (.aload_n 0, 1) := by decide +kernel
theorem dX10_moveNumber_14 : decode cX10_moveNumber 14 = .ok (.getfield 13, 3) := by decide +kernel
theorem dX10_moveNumber_17 : decode cX10_moveNumber 17 = .ok (.iload_n 3, 1) := by decide +kernel
theorem dX10_moveNumber_18 : decode cX10_moveNumber 18 = .ok (.iaload, 1) := by decide +kernel
theorem dX10_moveNumber_19 : decode cX10_moveNumber 19 = .ok (.iadd, 1) := by decide +kernel
theorem dX10_moveNumber_20 : decode cX10_moveNumber 20 = .ok (.ireturn, 1) := by decide +kernel
theorem dX10_moves_0 : decode cX10_moves 0 = .ok (.aload_n 0, 1) := by decide +kernel
theorem dX10_moves_1 : decode cX10_moves 1 = .ok (.aload_n 0, 1) := by decide +kernel
theorem dX10_moves_2 : decode cX10_moves 2 = .ok (.getfield 69, 3) := by decide +kernel
theorem dX10_moves_5 : decode cX10_moves 5 = .ok (.invokevirtual 213, 3) := by decide +kernel
theorem dX10_moves_8 : decode cX10_moves 8 = .ok (.iload_n 1, 1) := by decide +kernel
theorem dX10_moves_9 : decode cX10_moves 9 = .ok (.iconst (-1), 1) := by decide +kernel
theorem dX10_moves_10 : decode cX10_moves 10 = .ok (.if_icmp .ne 10, 3) := by decide +kernel
theorem dX10_moves_13 : decode cX10_moves 13 = .ok (.aload_n 0, 1) := by decide +kernel
theorem dX10_moves_14 : decode cX10_moves 14 = .ok (.getfield 132, 3) := by decide +kernel
theorem dX10_moves_17 : decode cX10_moves 17 = .ok (.goto 33, 3) := by decide +kernel
theorem dX10_moves_20 : decode cX10_moves 20 = .ok (.iload_n 1, 1) := by decide +kernel
theorem dX10_moves_21 : decode cX10_moves 21 = .ok (.i2l, 1) := by decide +kernel
theorem dX10_moves_22 : decode cX10_moves 22 = .ok (.lconst 0, 1) := by decide +kernel
theorem dX10_moves_23 : decode cX10_moves 23 = .ok (.aload_n 0, 1) := by decide +kernel
theorem dX10_moves_24 : decode cX10_moves 24 = .ok (.getfield 132, 3) := by decide +kernel
theorem dX10_moves_27 : decode cX10_moves 27 = .ok (.iconst 1, 1) := by decide +kernel
theorem dX10_moves_28 : decode cX10_moves 28 = .ok (.isub, 1) := by decide +kernel
theorem dX10_moves_29 : decode cX10_moves 29 = .ok (.i2l, 1) := by decide +kernel
theorem dX10_moves_30 : decode cX10_moves 30 = .ok (.invokestatic 142, 3) := by decide +kernel
theorem dX10_moves_33 : decode cX10_moves 33 = .ok (.ifCond .eq 15, 3) := by decide +kernel
theorem dX10_moves_36 : decode cX10_moves 36 = .ok (.aload_n 0, 1) := by decide +kernel
theorem dX10_moves_37 : decode cX10_moves 37 = .ok (.aload_n 0, 1) := by decide +kernel
theorem dX10_moves_38 : decode cX10_moves 38 = .ok (.getfield 69, 3) := by decide +kernel
theorem dX10_moves_41 : decode cX10_moves 41 = .ok (.iload_n 1, 1) := by decide +kernel
theorem dX10_moves_42 : decode cX10_moves 42 = .ok (.invokevirtual 217, 3) := by decide +kernel
theorem dX10_moves_45 : decode cX10_moves 45 = .ok (.goto 5, 3) := by decide +kernel
theorem dX10_moves_48 : decode cX10_moves 48 = .ok (.bipush (-6), 2) := by decide +kernel
theorem dX10_moves_50 : decode cX10_moves 50 = .ok (.ireturn, 1) := by decide +kernel
theorem dX10_reach_0 : decode cX10_reach 0 = .ok (.iload_n 1, 1) := by decide +kernel
theorem dX10_reach_1 : decode cX10_reach 1 = .ok (.i2l, 1) := by decide +kernel
theorem dX10_reach_2 : decode cX10_reach 2 = .ok (.lconst 0, 1) := by decide +kernel
theorem dX10_reach_3 : decode cX10_reach 3 = .ok (.lconst 1, 1) := by decide +kernel
theorem dX10_reach_4 : decode cX10_reach 4 = .ok (.invokestatic 142, 3) := by decide +kernel
theorem dX10_reach_7 : decode cX10_reach 7 = .ok (.ifCond .ne 6, 3) := by decide +kernel
theorem dX10_reach_10 : decode cX10_reach 10 = .ok (.bipush (-2), 2) := by decide +kernel
theorem dX10_reach_12 : decode cX10_reach 12 = .ok (.ireturn, 1) := by decide +kernel
theorem dX10_reach_13 : decode cX10_reach 13 = .ok (.iconst 0, 1) := by decide +kernel
theorem dX10_reach_14 : decode cX10_reach 14 = .ok (.istore_n 2, 1) := by decide +kernel
theorem dX10_reach_15 : decode cX10_reach 15 = .ok (.iconst 3, 1) := by decide +kernel
theorem dX10_reach_16 : decode cX10_reach 16 = .ok (.iload_n 1, 1) := by decide +kernel
theorem dX10_reach_17 : decode cX10_reach 17 = .ok (.imul, 1) := by decide +kernel
theorem dX10_reach_18 : decode cX10_reach 18 = .ok (.istore_n 3, 1) := by decide +kernel
theorem dX10_reach_19 : decode cX10_reach 19 = .ok (.iload_n 3, 1) := by decide +kernel
theorem dX10_reach_20 : decode cX10_reach 20 = .ok (.iconst 3, 1) := by decide +kernel
theorem dX10_reach_21 : decode cX10_reach 21 = .ok (.iload_n 1, 1) := by decide +kernel
theorem dX10_reach_22 : decode cX10_reach 22 = .ok (.imul, 1) := by decide +kernel
theorem dX10_reach_23 : decode cX10_reach 23 = .ok (.iconst 3, 1) := by decide +kernel
theorem dX10_reach_24 : decode cX10_reach 24 = .ok (.iadd, 1) := by decide +kernel
theorem dX10_reach_25 : decode cX10_reach 25 = .ok (.if_icmp .ge 50, 3) := by decide +kernel
theorem dX10_reach_28 : decode cX10_reach 28 = .ok (.iconst 0, 1) := by decide +kernel
theorem dX10_reach_29 : decode cX10_reach 29 = .ok (.istore 4, 2) := by decide +kernel
theorem dX10_reach_31 : decode cX10_reach 31 = .ok (.iload 4, 2) := by decide +kernel
theorem dX10_reach_33 : decode cX10_reach 33 = .ok (.bipush 25, 2) := by decide +kernel
theorem dX10_reach_35 : decode cX10_reach 35 = .ok (.if_icmp .ge 34, 3) := by decide +kernel
theorem dX10_reach_38 : decode cX10_reach 38 = .ok (.iload_n 2, 1) := by decide +kernel
theorem dX10_reach_39 : decode cX10_reach 39 = .ok (.aload_n 0, 1) := by decide +kernel
theorem dX10_reach_40 : decode cX10_reach 40 = .ok (.aload_n 0, 1) := by decide +kernel
theorem dX10_reach_41 : decode cX10_reach 41 = .ok (.getfield 69, 3) := by decide +kernel
theorem dX10_reach_44 : decode cX10_reach 44 = .ok (.iload_n 3, 1) := by decide +kernel
theorem dX10_reach_45 : decode cX10_reach 45 = .ok (.iload 4, 2) := by decide +kernel
theorem dX10_reach_47 : decode cX10_reach 47 = .ok (.invokevirtual 116, 3) := by decide +kernel
theorem dX10_reach_50 : decode cX10_reach 50 = .ok (.ifCond .eq 10, 3) := by decide +kernel
theorem dX10_reach_53 : decode cX10_reach 53 = .ok (.iconst 1, 1) := by decide +kernel
theorem dX10_reach_54 : decode cX10_reach 54 = .ok (.iload 4, 2) := by decide +kernel
theorem dX10_reach_56 : decode cX10_reach 56 = .ok (.ishl, 1) := by decide +kernel
theorem dX10_reach_57 : decode cX10_reach 57 = .ok (.goto 4, 3) := by decide +kernel
theorem dX10_reach_60 : decode cX10_reach 60 = .ok (.iconst 0, 1) := by decide +kernel
theorem dX10_reach_61 : decode cX10_reach 61 = .ok (.ior, 1) := by decide +kernel
theorem dX10_reach_62 : decode cX10_reach 62 = .ok (.istore_n 2, 1) := by decide +kernel
theorem dX10_reach_63 : decode cX10_reach 63 = .ok (.iinc 4 1, 3) := by decide +kernel
theorem dX10_reach_66 : decode cX10_reach 66 = .ok (.goto (-35), 3) := by decide +kernel
theorem dX10_reach_69 : decode cX10_reach 69 = .ok (.iinc 3 1, 3) := by decide +kernel
theorem dX10_reach_72 : decode cX10_reach 72 = .ok (.goto (-53), 3) := by decide +kernel
theorem dX10_reach_75 : decode cX10_reach 75 = .ok (.iload_n 2, 1) := by decide +kernel
theorem dX10_reach_76 : decode cX10_reach 76 = .ok (.ireturn, 1) := by decide +kernel
theorem dX10_youth_0 : decode cX10_youth 0 = .ok (.iload_n 1, 1) := by decide +kernel
theorem dX10_youth_1 : decode cX10_youth 1 = .ok (.i2l, 1) := by decide +kernel
theorem dX10_youth_2 : decode cX10_youth 2 = .ok (.lconst 0, 1) := by decide +kernel
theorem dX10_youth_3 : decode cX10_youth 3 = .ok (.lconst 1, 1) := by decide +kernel
theorem dX10_youth_4 : decode cX10_youth 4 = .ok (.invokestatic 142, 3) := by decide +kernel
theorem dX10_youth_7 : decode cX10_youth 7 = .ok (.ifCond .eq 13, 3) := by decide +kernel
theorem dX10_youth_10 : decode cX10_youth 10 = .ok (.iload_n 2, 1) := by decide +kernel
theorem dX10_youth_11 : decode cX10_youth 11 = .ok (.i2l, 1) := by decide +kernel
theorem dX10_youth_12 : decode cX10_youth 12 = .ok (.lconst 0, 1) := by decide +kernel
theorem dX10_youth_13 : decode cX10_youth 13 = .ok (.lconst 1, 1) := by decide +kernel
theorem dX10_youth_14 : decode cX10_youth 14 = .ok (.invokestatic 142, 3) := by decide +kernel
theorem dX10_youth_17 : decode cX10_youth 17 = .ok (.ifCond .ne 6, 3) := by decide +kernel
theorem dX10_youth_20 : decode cX10_youth 20 = .ok (.bipush (-2), 2) := by decide +kernel
theorem dX10_youth_22 : decode cX10_youth 22 = .ok (.ireturn, 1) := by decide +kernel
theorem dX10_youth_23 : decode cX10_youth 23 = .ok (.iconst 0, 1) := by decide +kernel
theorem dX10_youth_24 : decode cX10_youth 24 = .ok (.istore_n 3, 1) := by decide +kernel
theorem dX10_youth_25 : decode cX10_youth 25 = .ok (.iconst 0, 1) := by decide +kernel
theorem dX10_youth_26 : decode cX10_youth 26 = .ok (.istore 4, 2) := by decide +kernel
theorem dX10_youth_28 : decode cX10_youth 28 = .ok (.iconst 3, 1) := by decide +kernel
theorem dX10_youth_29 : decode cX10_youth 29 = .ok (.iload_n 1, 1) := by decide +kernel
theorem dX10_youth_30 : decode cX10_youth 30 = .ok (.imul, 1) := by decide +kernel
theorem dX10_youth_31 : decode cX10_youth 31 = .ok (.istore 5, 2) := by decide +kernel
theorem dX10_youth_33 : decode cX10_youth 33 = .ok (.iload 5, 2) := by decide +kernel
theorem dX10_youth_35 : decode cX10_youth 35 = .ok (.iconst 3, 1) := by decide +kernel
theorem dX10_youth_36 : decode cX10_youth 36 = .ok (.iload_n 1, 1) := by decide +kernel
theorem dX10_youth_37 : decode cX10_youth 37 = .ok (.imul, 1) := by decide +kernel
theorem dX10_youth_38 : decode cX10_youth 38 = .ok (.iconst 3, 1) := by decide +kernel
theorem dX10_youth_39 : decode cX10_youth 39 = .ok (.iadd, 1) := by decide +kernel
theorem dX10_youth_40 : decode cX10_youth 40 = .ok (.if_icmp .ge 80, 3) := by decide +kernel
theorem dX10_youth_43 : decode cX10_youth 43 = .ok (.aload_n 0, 1) := by decide +kernel
theorem dX10_youth_44 : decode cX10_youth 44 = .ok (.getfield 69, 3) := by decide +kernel
theorem dX10_youth_47 : decode cX10_youth 47 = .ok (.iload 5, 2) := by decide +kernel
theorem dX10_youth_49 : decode cX10_youth 49 = .ok (.invokestatic 91, 3) := by decide +kernel
theorem dX10_youth_52 : decode cX10_youth 52 = .ok (.bipush 31, 2) := by decide +kernel
theorem dX10_youth_54 : decode cX10_youth 54 = .ok (.if_icmp .eq 60, 3) := by decide +kernel
theorem dX10_youth_57 : decode cX10_youth 57 = .ok (.aload_n 0, 1) := by decide +kernel
theorem dX10_youth_58 : decode cX10_youth 58 = .ok (.getfield 69, 3) := by decide +kernel
theorem dX10_youth_61 : decode cX10_youth 61 = .ok (.iload 5, 2) := by decide +kernel
theorem dX10_youth_63 : decode cX10_youth 63 = .ok (.invokestatic 95, 3) := by decide +kernel
theorem dX10_youth_66 : decode cX10_youth 66 = .ok (.istore 6, 2) := by decide +kernel
theorem dX10_youth_68 : decode cX10_youth 68 = .ok (.iload_n 3, 1) := by decide +kernel
theorem dX10_youth_69 : decode cX10_youth 69 = .ok (.iload 6, 2) := by decide +kernel
theorem dX10_youth_71 : decode cX10_youth 71 = .ok (.aload_n 0, 1) := by decide +kernel
theorem dX10_youth_72 : decode cX10_youth 72 = .ok (.getfield 84, 3) := by decide +kernel
theorem dX10_youth_75 : decode cX10_youth 75 = .ok (.if_icmp .ge 13, 3) := by decide +kernel
theorem dX10_youth_78 : decode cX10_youth 78 = .ok (.aload_n 0, 1) := by decide +kernel
theorem dX10_youth_79 : decode cX10_youth 79 = .ok (.getfield 84, 3) := by decide +kernel
theorem dX10_youth_82 : decode cX10_youth 82 = .ok (.iload 6, 2) := by decide +kernel
theorem dX10_youth_84 : decode cX10_youth 84 = .ok (.isub, 1) := by decide +kernel
theorem dX10_youth_85 : decode cX10_youth 85 = .ok (.goto 4, 3) := by decide +kernel
theorem dX10_youth_88 : decode cX10_youth 88 = .ok (.iconst 0, 1) := by decide +kernel
theorem dX10_youth_89 : decode cX10_youth 89 = .ok (.iadd, 1) := by decide +kernel
theorem dX10_youth_90 : decode cX10_youth 90 = .ok (.istore_n 3, 1) := by decide +kernel
theorem dX10_youth_91 : decode cX10_youth 91 = .ok (.iload 4, 2) := by decide +kernel
theorem dX10_youth_93 : decode cX10_youth 93 = .ok (.aload_n 0, 1) := by decide +kernel
theorem dX10_youth_94 : decode cX10_youth 94 = .ok (.aload_n 0, 1) := by decide +kernel
theorem dX10_youth_95 : decode cX10_youth 95 = .ok (.getfield 69, 3) := by decide +kernel
theorem dX10_youth_98 : decode cX10_youth 98 = .ok (.iload 5, 2) := by decide +kernel
theorem dX10_youth_100 : decode cX10_youth 100 = .ok (.invokevirtual 119, 3) := by decide +kernel
theorem dX10_youth_103 : decode cX10_youth 103 = .ok (.ifCond .eq 7, 3) := by decide +kernel
theorem dX10_youth_106 : decode cX10_youth 106 = .ok (.iconst 0, 1) := by decide +kernel
theorem dX10_youth_107 : decode cX10_youth 107 = .ok (.goto 4, 3) := by decide +kernel
theorem dX10_youth_110 : decode cX10_youth 110 = .ok (.iconst 1, 1) := by decide +kernel
theorem dX10_youth_111 : decode cX10_youth 111 = .ok (.iadd, 1) := by decide +kernel
theorem dX10_youth_112 : decode cX10_youth 112 = .ok (.istore 4, 2) := by decide +kernel
theorem dX10_youth_114 : decode cX10_youth 114 = .ok (.iinc 5 1, 3) := by decide +kernel
theorem dX10_youth_117 : decode cX10_youth 117 = .ok (.goto (-84), 3) := by decide +kernel
theorem dX10_youth_120 : decode cX10_youth 120 = .ok (.iload_n 2, 1) := by decide +kernel
theorem dX10_youth_121 : decode cX10_youth 121 = .ok (.ifCond .ne 7, 3) := by decide +kernel
theorem dX10_youth_124 : decode cX10_youth 124 = .ok (.iload_n 3, 1) := by decide +kernel
theorem dX10_youth_125 : decode cX10_youth 125 = .ok (.goto 5, 3) := by decide +kernel
theorem dX10_youth_128 : decode cX10_youth 128 = .ok (.iload 4, 2) := by decide +kernel
theorem dX10_youth_130 : decode cX10_youth 130 = .ok (.ireturn, 1) := by decide +kernel
theorem dX10_placeOf_0 : decode cX10_placeOf 0 = .ok (.lload_n 1, 1) := by decide +kernel
theorem dX10_placeOf_1 : decode cX10_placeOf 1 = .ok (.ldc2_w 220, 3) := by decide +kernel
theorem dX10_placeOf_4 : decode cX10_placeOf 4 = .ok (.lmul, 1) := by decide +kernel
theorem dX10_placeOf_5 : decode cX10_placeOf 5 = .ok (.bipush 40, 2) := by decide +kernel
theorem dX10_placeOf_7 : decode cX10_placeOf 7 = .ok (.lshr, 1) := by decide +kernel
theorem dX10_placeOf_8 : decode cX10_placeOf 8 = .ok (.l2i, 1) := by decide +kernel
theorem dX10_placeOf_9 : decode cX10_placeOf 9 = .ok (.ldc 222, 2) := by decide +kernel
theorem dX10_placeOf_11 : decode cX10_placeOf 11 = .ok (.iand, 1) := by decide +kernel
theorem dX10_placeOf_12 : decode cX10_placeOf 12 = .ok (.istore_n 3, 1) := by decide +kernel
theorem dX10_placeOf_13 : decode cX10_placeOf 13 = .ok (.aload_n 0, 1) := by decide +kernel
theorem dX10_placeOf_14 : decode cX10_placeOf 14 = .ok (.getfield 24, 3) := by decide +kernel
theorem dX10_placeOf_17 : decode cX10_placeOf 17 = .ok (.iload_n 3, 1) := by decide +kernel
theorem dX10_placeOf_18 : decode cX10_placeOf 18 = .ok (.iaload, 1) := by decide +kernel
theorem dX10_placeOf_19 : decode cX10_placeOf 19 = .ok (.ifCond .eq 31, 3) := by decide +kernel
theorem dX10_placeOf_22 : decode cX10_placeOf 22 = .ok (.aload_n 0, 1) := by decide +kernel
theorem dX10_placeOf_23 : decode cX10_placeOf 23 = .ok (.getfield 19, 3) := by decide +kernel
theorem dX10_placeOf_26 : decode cX10_placeOf 26 = .ok (.aload_n 0, 1) := by decide +kernel
theorem dX10_placeOf_27 : decode cX10_placeOf 27 = .ok (.getfield 24, 3) := by decide +kernel
theorem dX10_placeOf_30 : decode cX10_placeOf 30 = .ok (.iload_n 3, 1) := by decide +kernel
theorem dX10_placeOf_31 : decode cX10_placeOf 31 = .ok (.iaload, 1) := by decide +kernel
theorem dX10_placeOf_32 : decode cX10_placeOf 32 = .ok (.iconst 1, 1) := by decide +kernel
theorem dX10_placeOf_33 : decode cX10_placeOf 33 = .ok (.isub, 1) := by decide +kernel
theorem dX10_placeOf_34 : decode cX10_placeOf 34 = .ok (.laload, 1) := by decide +kernel
theorem dX10_placeOf_35 : decode cX10_placeOf 35 = .ok (.lload_n 1, 1) := by decide +kernel
theorem dX10_placeOf_36 : decode cX10_placeOf 36 = .ok (.lcmp, 1) := by decide +kernel
theorem dX10_placeOf_37 : decode cX10_placeOf 37 = .ok (.ifCond .eq 13, 3) := by decide +kernel
theorem dX10_placeOf_40 : decode cX10_placeOf 40 = .ok (.iload_n 3, 1) := by decide +kernel
theorem dX10_placeOf_41 : decode cX10_placeOf 41 = .ok (.iconst 1, 1) := by decide +kernel
theorem dX10_placeOf_42 : decode cX10_placeOf 42 = .ok (.iadd, 1) := by decide +kernel
theorem dX10_placeOf_43 : decode cX10_placeOf 43 = .ok (.ldc 23, 2) := by decide +kernel
theorem dX10_placeOf_45 : decode cX10_placeOf 45 = .ok (.irem, 1) := by decide +kernel
theorem dX10_placeOf_46 : decode cX10_placeOf 46 = .ok (.istore_n 3, 1) := by decide +kernel
theorem dX10_placeOf_47 : decode cX10_placeOf 47 = .ok (.goto (-34), 3) := by decide +kernel
theorem dX10_placeOf_50 : decode cX10_placeOf 50 = .ok (.iload_n 3, 1) := by decide +kernel
theorem dX10_placeOf_51 : decode cX10_placeOf 51 = .ok (.ireturn, 1) := by decide +kernel
theorem dX10_addStand_0 : decode cX10_addStand 0 = .ok (.aload_n 0, 1) := by decide +kernel
theorem dX10_addStand_1 : decode cX10_addStand 1 = .ok (.lload_n 1, 1) := by decide +kernel
theorem dX10_addStand_2 : decode cX10_addStand 2 = .ok (.invokevirtual 223, 3) := by decide +kernel
theorem dX10_addStand_5 : decode cX10_addStand 5 = .ok (.istore_n 3, 1) := by decide +kernel
theorem dX10_addStand_6 : decode cX10_addStand 6 = .ok (.aload_n 0, 1) := by decide +kernel
theorem dX10_addStand_7 : decode cX10_addStand 7 = .ok (.getfield 24, 3) := by decide +kernel
theorem dX10_addStand_10 : decode cX10_addStand 10 = .ok (.iload_n 3, 1) := by decide +kernel
theorem dX10_addStand_11 : decode cX10_addStand 11 = .ok (.iaload, 1) := by decide +kernel
theorem dX10_addStand_12 : decode cX10_addStand 12 = .ok (.ifCond .ne 43, 3) := by decide +kernel
theorem dX10_addStand_15 : decode cX10_addStand 15 = .ok (.aload_n 0, 1) := by decide +kernel
theorem dX10_addStand_16 : decode cX10_addStand 16 = .ok (.getfield 226, 3) := by decide +kernel
theorem dX10_addStand_19 : decode cX10_addStand 19 = .ok (.sipush 20000, 3) := by decide +kernel
theorem dX10_addStand_22 : decode cX10_addStand 22 = .ok (.if_icmp .gt 33, 3) := by decide +kernel
theorem dX10_addStand_25 : decode cX10_addStand 25 = .ok (.aload_n 0, 1) := by decide +kernel
theorem dX10_addStand_26 : decode cX10_addStand 26 = .ok (.getfield 19, 3) := by decide +kernel
theorem dX10_addStand_29 : decode cX10_addStand 29 = .ok (.aload_n 0, 1) := by decide +kernel
theorem dX10_addStand_30 : decode cX10_addStand 30 = .ok (.getfield 226, 3) := by decide +kernel
theorem dX10_addStand_33 : decode cX10_addStand 33 = .ok (.lload_n 1, 1) := by decide +kernel
theorem dX10_addStand_34 : decode cX10_addStand 34 = .ok (.lastore, 1) := by decide +kernel
theorem dX10_addStand_35 : decode cX10_addStand 35 = .ok (.aload_n 0, 1) := by decide +kernel
theorem dX10_addStand_36 : decode cX10_addStand 36 = .ok (.dup, 1) := by decide +kernel
theorem dX10_addStand_37 : decode cX10_addStand 37 = .ok (.getfield 226, 3) := by decide +kernel
theorem dX10_addStand_40 : decode cX10_addStand 40 = .ok (.iconst 1, 1) := by decide +kernel
theorem dX10_addStand_41 : decode cX10_addStand 41 = .ok (.iadd, 1) := by decide +kernel
theorem dX10_addStand_42 : decode cX10_addStand 42 = .ok (.putfield 226, 3) := by decide +kernel
theorem dX10_addStand_45 : decode cX10_addStand 45 = .ok (.aload_n 0, 1) := by decide +kernel
theorem dX10_addStand_46 : decode cX10_addStand 46 = .ok (.getfield 24, 3) := by decide +kernel
theorem dX10_addStand_49 : decode cX10_addStand 49 = .ok (.iload_n 3, 1) := by decide +kernel
theorem dX10_addStand_50 : decode cX10_addStand 50 = .ok (.aload_n 0, 1) := by decide +kernel
theorem dX10_addStand_51 : decode cX10_addStand 51 = .ok (.getfield 226, 3) := by decide +kernel
theorem dX10_addStand_54 : decode cX10_addStand 54 = .ok (.iastore, 1) := by decide +kernel
theorem dX10_addStand_55 : decode cX10_addStand 55 = .ok (.return_, 1) := by decide +kernel
theorem dX10_findStands_0 : decode cX10_findStands 0 = .ok (.iconst 0, 1) := by decide +kernel
theorem dX10_findStands_1 : decode cX10_findStands 1 = .ok (.istore_n 3, 1) := by decide +kernel
theorem dX10_findStands_2 : decode cX10_findStands 2 = .ok (.iload_n 3, 1) := by decide +kernel
theorem dX10_findStands_3 : decode cX10_findStands 3 = .ok (.ldc 23, 2) := by decide +kernel
theorem dX10_findStands_5 : decode cX10_findStands 5 = .ok (.if_icmp .ge 16, 3) := by decide +kernel
theorem dX10_findStands_8 : decode cX10_findStands 8 = .ok (.aload_n 0, 1) := by decide +kernel
theorem dX10_findStands_9 : decode cX10_findStands 9 = .ok (.getfield 24, 3) := by decide +kernel
theorem dX10_findStands_12 : decode cX10_findStands 12 = .ok (.iload_n 3, 1) := by decide +kernel
theorem dX10_findStands_13 : decode cX10_findStands 13 = .ok (.iconst 0, 1) := by decide +kernel
theorem dX10_findStands_14 : decode cX10_findStands 14 = .ok (.iastore, 1) := by decide +kernel
theorem dX10_findStands_15 : decode cX10_findStands 15 = .ok (.iinc 3 1, 3) := by decide +kernel
theorem dX10_findStands_18 : decode cX10_findStands 18 = .ok (.goto (-16), 3) := by decide +kernel
theorem dX10_findStands_21 : decode cX10_findStands 21 = .ok (.aload_n 0, 1) := by decide +kernel
theorem dX10_findStands_22 : decode cX10_findStands 22 = .ok (.iconst 0, 1) := by decide +kernel
theorem dX10_findStands_23 : decode cX10_findStands 23 = .ok (.putfield 226, 3) := by decide +kernel
theorem dX10_findStands_26 : decode cX10_findStands 26 = .ok (.aload_n 0, 1) := by decide +kernel
theorem dX10_findStands_27 : decode cX10_findStands 27 = .ok (.lload_n 1, 1) := by decide +kernel
theorem dX10_findStands_28 : decode cX10_findStands 28 = .ok (.invokevirtual 229, 3) := by decide +kernel
theorem dX10_findStands_31 : decode cX10_findStands 31 = .ok (.iconst 0, 1) := by decide +kernel
theorem dX10_findStands_32 : decode cX10_findStands 32 = .ok (.istore_n 3, 1) := by decide +kernel
theorem dX10_findStands_33 : decode cX10_findStands 33 = .ok (.iload_n 3, 1) := by decide +kernel
theorem dX10_findStands_34 : decode cX10_findStands 34 = .ok (.aload_n 0, 1) := by decide +kernel
theorem dX10_findStands_35 : decode cX10_findStands 35 = .ok (.getfield 226, 3) := by decide +kernel
theorem dX10_findStands_38 : decode cX10_findStands 38 = .ok (.if_icmp .ge 74, 3) := by decide +kernel
theorem dX10_findStands_41 : decode cX10_findStands 41 = .ok (.aload_n 0, 1) := by decide +kernel
theorem dX10_findStands_42 : decode cX10_findStands 42 = .ok (.getfield 226, 3) := by decide +kernel
theorem dX10_findStands_45 : decode cX10_findStands 45 = .ok (.sipush 20000, 3) := by decide +kernel
theorem dX10_findStands_48 : decode cX10_findStands 48 = .ok (.if_icmp .gt 64, 3) := by decide +kernel
theorem dX10_findStands_51 : decode cX10_findStands 51 = .ok (.aload_n 0, 1) := by decide +kernel
theorem dX10_findStands_52 : decode cX10_findStands 52 = .ok (.aload_n 0, 1) := by decide +kernel
theorem dX10_findStands_53 : decode cX10_findStands 53 = .ok (.getfield 19, 3) := by decide +kernel
theorem dX10_findStands_56 : decode cX10_findStands 56 = .ok (.iload_n 3, 1) := by decide +kernel
theorem dX10_findStands_57 : decode cX10_findStands 57 = .ok (.laload, 1) := by decide +kernel
theorem dX10_findStands_58 : decode cX10_findStands 58 = .ok (.invokevirtual 213, 3) := by decide +kernel
theorem dX10_findStands_61 : decode cX10_findStands 61 = .ok (.iconst 0, 1) := by decide +kernel
theorem dX10_findStands_62 : decode cX10_findStands 62 = .ok (.istore 4, 2) := by decide +kernel
theorem dX10_findStands_64 : decode cX10_findStands 64 = .ok (.iload 4, 2) := by decide +kernel
theorem dX10_findStands_66 : decode cX10_findStands 66 = .ok (.aload_n 0, 1) := by decide +kernel
theorem dX10_findStands_67 : decode cX10_findStands 67 = .ok (.getfield 132, 3) := by decide +kernel
theorem dX10_findStands_70 : decode cX10_findStands 70 = .ok (.if_icmp .ge 36, 3) := by decide +kernel
theorem dX10_findStands_73 : decode cX10_findStands 73 = .ok (.aload_n 0, 1) := by decide +kernel
theorem dX10_findStands_74 : decode cX10_findStands 74 = .ok (.aload_n 0, 1) := by decide +kernel
theorem dX10_findStands_75 : decode cX10_findStands 75 = .ok (.getfield 19, 3) := by decide +kernel
theorem dX10_findStands_78 : decode cX10_findStands 78 = .ok (.iload_n 3, 1) := by decide +kernel
theorem dX10_findStands_79 : decode cX10_findStands 79 = .ok (.laload, 1) := by decide +kernel
theorem dX10_findStands_80 : decode cX10_findStands 80 = .ok (.aload_n 0, 1) := by decide +kernel
theorem dX10_findStands_81 : decode cX10_findStands 81 = .ok (.getfield 7, 3) := by decide +kernel
theorem dX10_findStands_84 : decode cX10_findStands 84 = .ok (.iload 4, 2) := by decide +kernel
theorem dX10_findStands_86 : decode cX10_findStands 86 = .ok (.iaload, 1) := by decide +kernel
theorem dX10_findStands_87 : decode cX10_findStands 87 = .ok (.aload_n 0, 1) := by decide +kernel
theorem dX10_findStands_88 : decode cX10_findStands 88 = .ok (.getfield 13, 3) := by decide +kernel
theorem dX10_findStands_91 : decode cX10_findStands 91 = .ok (.iload 4, 2) := by decide +kernel
theorem dX10_findStands_93 : decode cX10_findStands 93 = .ok (.iaload, 1) := by decide +kernel
theorem dX10_findStands_94 : decode cX10_findStands 94 = .ok (.invokestatic 205, 3) := by decide +kernel
theorem dX10_findStands_97 : decode cX10_findStands 97 = .ok (.invokevirtual 229, 3) := by decide +kernel
theorem dX10_findStands_100 : decode cX10_findStands 100 = .ok (.iinc 4 1, 3) := by decide +kernel
theorem dX10_findStands_103 : decode cX10_findStands 103 = .ok (.goto (-39), 3) := by decide +kernel
theorem dX10_findStands_106 : decode cX10_findStands 106 = .ok (.iinc 3 1, 3) := by decide +kernel
theorem dX10_findStands_109 : decode cX10_findStands 109 = .ok (.goto (-76), 3) := by decide +kernel
theorem dX10_findStands_112 : decode cX10_findStands 112 = .ok (.aload_n 0, 1) := by decide +kernel
theorem dX10_findStands_113 : decode cX10_findStands 113 = .ok (.getfield 226, 3) := by decide +kernel
theorem dX10_findStands_116 : decode cX10_findStands 116 = .ok (.sipush 20000, 3) := by decide +kernel
theorem dX10_findStands_119 : decode cX10_findStands 119 = .ok (.if_icmp .gt 7, 3) := by decide +kernel
theorem dX10_findStands_122 : decode cX10_findStands 122 = .ok (.iconst 1, 1) := by decide +kernel
theorem dX10_findStands_123 : decode cX10_findStands 123 = .ok (.goto 4, 3) := by decide +kernel
theorem dX10_findStands_126 : decode cX10_findStands 126 = .ok (.iconst 0, 1) := by decide +kernel
theorem dX10_findStands_127 : decode cX10_findStands 127 = .ok (.ireturn, 1) := by decide +kernel
theorem dX10_stands_0 : decode cX10_stands 0 = .ok (.aload_n 0, 1) := by decide +kernel
theorem dX10_stands_1 : decode cX10_stands 1 = .ok (.aload_n 0, 1) := by decide +kernel
theorem dX10_stands_2 : decode cX10_stands 2 = .ok (.getfield 69, 3) := by decide +kernel
theorem dX10_stands_5 : decode cX10_stands 5 = .ok (.invokevirtual 232, 3) := by decide +kernel
theorem dX10_stands_8 : decode cX10_stands 8 = .ok (.ifCond .eq 10, 3) := by decide +kernel
theorem dX10_stands_11 : decode cX10_stands 11 = .ok (.aload_n 0, 1) := by decide +kernel
theorem dX10_stands_12 : decode cX10_stands 12 = .ok (.getfield 226, 3) := by decide +kernel
theorem dX10_stands_15 : decode cX10_stands 15 = .ok (.goto 5, 3) := by decide +kernel
theorem dX10_stands_18 : decode cX10_stands 18 = .ok (.bipush (-4), 2) := by decide +kernel
theorem dX10_stands_20 : decode cX10_stands 20 = .ok (.ireturn, 1) := by decide +kernel
theorem dX10_oldness_0 : decode cX10_oldness 0 = .ok (.iconst 0, 1) := by decide +kernel
theorem dX10_oldness_1 : decode cX10_oldness 1 = .ok (.istore_n 2, 1) := by decide +kernel
theorem dX10_oldness_2 : decode cX10_oldness 2 = .ok (.iconst 0, 1) := by decide +kernel
theorem dX10_oldness_3 : decode cX10_oldness 3 = .ok (.istore_n 3, 1) := by decide +kernel
theorem dX10_oldness_4 : decode cX10_oldness 4 = .ok (.iload_n 3, 1) := by decide +kernel
theorem dX10_oldness_5 : decode cX10_oldness 5 = .ok (.bipush 6, 2) := by decide +kernel
theorem dX10_oldness_7 : decode cX10_oldness 7 = .ok (.if_icmp .ge 32, 3) := by decide +kernel
theorem dX10_oldness_10 : decode cX10_oldness 10 = .ok (.iload_n 2, 1) := by decide +kernel
theorem dX10_oldness_11 : decode cX10_oldness 11 = .ok (.lload_n 0, 1) := by decide +kernel
theorem dX10_oldness_12 : decode cX10_oldness 12 = .ok (.iload_n 3, 1) := by decide +kernel
theorem dX10_oldness_13 : decode cX10_oldness 13 = .ok (.invokestatic 91, 3) := by decide +kernel
theorem dX10_oldness_16 : decode cX10_oldness 16 = .ok (.bipush 31, 2) := by decide +kernel
theorem dX10_oldness_18 : decode cX10_oldness 18 = .ok (.if_icmp .ne 8, 3) := by decide +kernel
theorem dX10_oldness_21 : decode cX10_oldness 21 = .ok (.bipush 10, 2) := by decide +kernel
theorem dX10_oldness_23 : decode cX10_oldness 23 = .ok (.goto 8, 3) := by decide +kernel
theorem dX10_oldness_26 : decode cX10_oldness 26 = .ok (.lload_n 0, 1) := by decide +kernel
theorem dX10_oldness_27 : decode cX10_oldness 27 = .ok (.iload_n 3, 1) := by decide +kernel
theorem dX10_oldness_28 : decode cX10_oldness 28 = .ok (.invokestatic 95, 3) := by decide +kernel
theorem dX10_oldness_31 : decode cX10_oldness 31 = .ok (.iadd, 1) := by decide +kernel
theorem dX10_oldness_32 : decode cX10_oldness 32 = .ok (.istore_n 2, 1) := by decide +kernel
theorem dX10_oldness_33 : decode cX10_oldness 33 = .ok (.iinc 3 1, 3) := by decide +kernel
theorem dX10_oldness_36 : decode cX10_oldness 36 = .ok (.goto (-32), 3) := by decide +kernel
theorem dX10_oldness_39 : decode cX10_oldness 39 = .ok (.iload_n 2, 1) := by decide +kernel
theorem dX10_oldness_40 : decode cX10_oldness 40 = .ok (.ireturn, 1) := by decide +kernel
theorem dX10_solveAll_0 : decode cX10_solveAll 0 = .ok (.aload_n 0, 1) := by decide +kernel
theorem dX10_solveAll_1 : decode cX10_solveAll 1 = .ok (.lload_n 1, 1) := by decide +kernel
theorem dX10_solveAll_2 : decode cX10_solveAll 2 = .ok (.invokevirtual 232, 3) := by decide +kernel
theorem dX10_solveAll_5 : decode cX10_solveAll 5 = .ok (.ifCond .ne 5, 3) := by decide +kernel
theorem dX10_solveAll_8 : decode cX10_solveAll 8 = .ok (.iconst 0, 1) := by decide +kernel
theorem dX10_solveAll_9 : decode cX10_solveAll 9 = .ok (.ireturn, 1) := by decide +kernel
theorem dX10_solveAll_10 : decode cX10_solveAll 10 = .ok (.bipush 60, 2) := by decide +kernel
theorem dX10_solveAll_12 : decode cX10_solveAll 12 = .ok (.istore_n 3, 1) := by decide +kernel
theorem dX10_solveAll_13 : decode cX10_solveAll 13 = .ok (.iload_n 3, 1) := by decide +kernel
theorem dX10_solveAll_14 : decode cX10_solveAll 14 = .ok (.ifCond .lt 47, 3) := by decide +kernel
theorem dX10_solveAll_17 : decode cX10_solveAll 17 = .ok (.iconst 0, 1) := by decide +kernel
theorem dX10_solveAll_18 : decode cX10_solveAll 18 = .ok (.istore 4, 2) := by decide +kernel
theorem dX10_solveAll_20 : decode cX10_solveAll 20 = .ok (.iload 4, 2) := by decide +kernel
theorem dX10_solveAll_22 : decode cX10_solveAll 22 = .ok (.aload_n 0, 1) := by decide +kernel
theorem dX10_solveAll_23 : decode cX10_solveAll 23 = .ok (.getfield 226, 3) := by decide +kernel
theorem dX10_solveAll_26 : decode cX10_solveAll 26 = .ok (.if_icmp .ge 29, 3) := by decide +kernel
theorem dX10_solveAll_29 : decode cX10_solveAll 29 = .ok (.aload_n 0, 1) := by decide +kernel
theorem dX10_solveAll_30 : decode cX10_solveAll 30 = .ok (.getfield 19, 3) := by decide +kernel
theorem dX10_solveAll_33 : decode cX10_solveAll 33 = .ok (.iload 4, 2) := by decide +kernel
theorem dX10_solveAll_35 : decode cX10_solveAll 35 = .ok (.laload, 1) := by decide +kernel
theorem dX10_solveAll_36 : decode cX10_solveAll 36 = .ok (.invokestatic 236, 3) := by decide +kernel
theorem dX10_solveAll_39 : decode cX10_solveAll 39 = .ok (.iload_n 3, 1) := by decide +kernel
theorem dX10_solveAll_40 : decode cX10_solveAll 40 = .ok (.if_icmp .ne 9, 3) := by decide +kernel
theorem dX10_solveAll_43 : decode cX10_solveAll 43 = .ok (.aload_n 0, 1) := by decide +kernel
theorem dX10_solveAll_44 : decode cX10_solveAll 44 = .ok (.iload 4, 2) := by decide +kernel
theorem dX10_solveAll_46 : decode cX10_solveAll 46 = .ok (.invokevirtual 239, 3) := by decide +kernel
theorem dX10_solveAll_49 : decode cX10_solveAll 49 = .ok (.iinc 4 1, 3) := by decide +kernel
theorem dX10_solveAll_52 : decode cX10_solveAll 52 = .ok (.goto (-32), 3) := by decide +kernel
theorem dX10_solveAll_55 : decode cX10_solveAll 55 = .ok (.iinc 3 (-1), 3) := by decide +kernel
theorem dX10_solveAll_58 : decode cX10_solveAll 58 = .ok (.goto (-45), 3) := by decide +kernel
theorem dX10_solveAll_61 : decode cX10_solveAll 61 = .ok (.iconst 1, 1) := by decide +kernel
theorem dX10_solveAll_62 : decode cX10_solveAll 62 = .ok (.ireturn, 1) := by decide +kernel
theorem dX10_isBetter_0 : decode cX10_isBetter 0 = .ok (.iload_n 0, 1) := by decide +kernel
theorem dX10_isBetter_1 : decode cX10_isBetter 1 = .ok (.iload_n 2, 1) := by decide +kernel
theorem dX10_isBetter_2 : decode cX10_isBetter 2 = .ok (.if_icmp .eq 23, 3) := by decide +kernel
theorem dX10_isBetter_5 : decode cX10_isBetter 5 = .ok (.iload_n 0, 1) := by decide +kernel
theorem dX10_isBetter_6 : decode cX10_isBetter 6 = .ok (.iconst 1, 1) := by decide +kernel
theorem dX10_isBetter_7 : decode cX10_isBetter 7 = .ok (.if_icmp .eq 12, 3) := by decide +kernel
theorem dX10_isBetter_10 : decode cX10_isBetter 10 = .ok (.iload_n 0, 1) := by decide +kernel
theorem dX10_isBetter_11 : decode cX10_isBetter 11 = .ok (.ifCond .ne 12, 3) := by decide +kernel
theorem dX10_isBetter_14 : decode cX10_isBetter 14 = .ok (.iload_n 2, 1) := by decide +kernel
theorem dX10_isBetter_15 : decode cX10_isBetter 15 = .ok (.iconst 2, 1) := by decide +kernel
theorem dX10_isBetter_16 : decode cX10_isBetter 16 = .ok (.if_icmp .ne 7, 3) := by decide +kernel
theorem dX10_isBetter_19 : decode cX10_isBetter 19 = .ok (.iconst 1, 1) := by decide +kernel
theorem dX10_isBetter_20 : decode cX10_isBetter 20 = .ok (.goto 4, 3) := by decide +kernel
theorem dX10_isBetter_23 : decode cX10_isBetter 23 = .ok (.iconst 0, 1) := by decide +kernel
theorem dX10_isBetter_24 : decode cX10_isBetter 24 = .ok (.ireturn, 1) := by decide +kernel
theorem dX10_isBetter_25 : decode cX10_isBetter 25 = .ok (.iload_n 0, 1) := by decide +kernel
theorem dX10_isBetter_26 : decode cX10_isBetter 26 = .ok (.iconst 1, 1) := by decide +kernel
theorem dX10_isBetter_27 : decode cX10_isBetter 27 = .ok (.if_icmp .ne 16, 3) := by decide +kernel
theorem dX10_isBetter_30 : decode cX10_isBetter 30 = .ok (.iload_n 1, 1) := by decide +kernel
theorem dX10_isBetter_31 : decode cX10_isBetter 31 = .ok (.iload_n 3, 1) := by decide +kernel
theorem dX10_isBetter_32 : decode cX10_isBetter 32 = .ok (.if_icmp .ge 7, 3) := by decide +kernel
theorem dX10_isBetter_35 : decode cX10_isBetter 35 = .ok (.iconst 1, 1) := by decide +kernel
theorem dX10_isBetter_36 : decode cX10_isBetter 36 = .ok (.goto 17, 3) := by decide +kernel
theorem dX10_isBetter_39 : decode cX10_isBetter 39 = .ok (.iconst 0, 1) := by decide +kernel
theorem dX10_isBetter_40 : decode cX10_isBetter 40 = .ok (.goto 13, 3) := by decide +kernel
theorem dX10_isBetter_43 : decode cX10_isBetter 43 = .ok (.iload_n 1, 1) := by decide +kernel
theorem dX10_isBetter_44 : decode cX10_isBetter 44 = .ok (.iload_n 3, 1) := by decide +kernel
theorem dX10_isBetter_45 : decode cX10_isBetter 45 = .ok (.if_icmp .le 7, 3) := by decide +kernel
theorem dX10_isBetter_48 : decode cX10_isBetter 48 = .ok (.iconst 1, 1) := by decide +kernel
theorem dX10_isBetter_49 : decode cX10_isBetter 49 = .ok (.goto 4, 3) := by decide +kernel
theorem dX10_isBetter_52 : decode cX10_isBetter 52 = .ok (.iconst 0, 1) := by decide +kernel
theorem dX10_isBetter_53 : decode cX10_isBetter 53 = .ok (.ireturn, 1) := by decide +kernel
theorem dX10_solveOne_0 : decode cX10_solveOne 0 = .ok (.aload_n 0, 1) := by decide +kernel
theorem dX10_solveOne_1 : decode cX10_solveOne 1 = .ok (.aload_n 0, 1) := by decide +kernel
theorem dX10_solveOne_2 : decode cX10_solveOne 2 = .ok (.getfield 19, 3) := by decide +kernel
theorem dX10_solveOne_5 : decode cX10_solveOne 5 = .ok (.iload_n 1, 1) := by decide +kernel
theorem dX10_solveOne_6 : decode cX10_solveOne 6 = .ok (.laload, 1) := by decide +kernel
theorem dX10_solveOne_7 : decode cX10_solveOne 7 = .ok (.invokevirtual 135, 3) := by decide +kernel
theorem dX10_solveOne_10 : decode cX10_solveOne 10 = .ok (.istore_n 2, 1) := by decide +kernel
theorem dX10_solveOne_11 : decode cX10_solveOne 11 = .ok (.iload_n 2, 1) := by decide +kernel
theorem dX10_solveOne_12 : decode cX10_solveOne 12 = .ok (.ifCond .eq 54, 3) := by decide +kernel
theorem dX10_solveOne_15 : decode cX10_solveOne 15 = .ok (.aload_n 0, 1) := by decide +kernel
theorem dX10_solveOne_16 : decode cX10_solveOne 16 = .ok (.getfield 27, 3) := by decide +kernel
theorem dX10_solveOne_19 : decode cX10_solveOne 19 = .ok (.iload_n 1, 1) := by decide +kernel
theorem dX10_solveOne_20 : decode cX10_solveOne 20 = .ok (.iload_n 2, 1) := by decide +kernel
theorem dX10_solveOne_21 : decode cX10_solveOne 21 = .ok (.iconst 3, 1) := by decide +kernel
theorem dX10_solveOne_22 : decode cX10_solveOne 22 = .ok (.if_icmp .ne 7, 3) := by decide +kernel
theorem dX10_solveOne_25 : decode cX10_solveOne 25 = .ok (.iconst 0, 1) := by decide +kernel
theorem dX10_solveOne_26 : decode cX10_solveOne 26 = .ok (.goto 23, 3) := by decide +kernel
theorem dX10_solveOne_29 : decode cX10_solveOne 29 = .ok (.iload_n 2, 1) := by decide +kernel
theorem dX10_solveOne_30 : decode cX10_solveOne 30 = .ok (.iconst 1, 1) := by decide +kernel
theorem dX10_solveOne_31 : decode cX10_solveOne 31 = .ok (.aload_n 0, 1) := by decide +kernel
theorem dX10_solveOne_32 : decode cX10_solveOne 32 = .ok (.getfield 19, 3) := by decide +kernel
theorem dX10_solveOne_35 : decode cX10_solveOne 35 = .ok (.iload_n 1, 1) := by decide +kernel
theorem dX10_solveOne_36 : decode cX10_solveOne 36 = .ok (.laload, 1) := by decide +kernel
theorem dX10_solveOne_37 : decode cX10_solveOne 37 = .ok (.invokestatic 123, 3) := by decide +kernel
theorem dX10_solveOne_40 : decode cX10_solveOne 40 = .ok (.iadd, 1) := by decide +kernel
theorem dX10_solveOne_41 : decode cX10_solveOne 41 = .ok (.if_icmp .ne 7, 3) := by decide +kernel
theorem dX10_solveOne_44 : decode cX10_solveOne 44 = .ok (.iconst 1, 1) := by decide +kernel
theorem dX10_solveOne_45 : decode cX10_solveOne 45 = .ok (.goto 4, 3) := by decide +kernel
theorem dX10_solveOne_48 : decode cX10_solveOne 48 = .ok (.iconst 2, 1) := by decide +kernel
theorem dX10_solveOne_49 : decode cX10_solveOne 49 = .ok (.iastore, 1) := by decide +kernel
theorem dX10_solveOne_50 : decode cX10_solveOne 50 = .ok (.aload_n 0, 1) := by decide +kernel
theorem dX10_solveOne_51 : decode cX10_solveOne 51 = .ok (.getfield 30, 3) := by decide +kernel
theorem dX10_solveOne_54 : decode cX10_solveOne 54 = .ok (.iload_n 1, 1) := by decide +kernel
theorem dX10_solveOne_55 : decode cX10_solveOne 55 = .ok (.iconst 0, 1) := by decide +kernel
theorem dX10_solveOne_56 : decode cX10_solveOne 56 = .ok (.iastore, 1) := by decide +kernel
theorem dX10_solveOne_57 : decode cX10_solveOne 57 = .ok (.aload_n 0, 1) := by decide +kernel
theorem dX10_solveOne_58 : decode cX10_solveOne 58 = .ok (.getfield 33, 3) := by decide +kernel
theorem dX10_solveOne_61 : decode cX10_solveOne 61 = .ok (.iload_n 1, 1) := by decide +kernel
theorem dX10_solveOne_62 : decode cX10_solveOne 62 = .ok (.bipush (-6), 2) := by decide +kernel
theorem dX10_solveOne_64 : decode cX10_solveOne 64 = .ok (.iastore, 1) := by decide +kernel
theorem dX10_solveOne_65 : decode cX10_solveOne 65 = .ok (.return_, 1) := by decide +kernel
theorem dX10_solveOne_66 : decode cX10_solveOne 66 = .ok (.aload_n 0, 1) := by decide +kernel
theorem dX10_solveOne_67 : decode cX10_solveOne 67 = .ok (.aload_n 0, 1) := by decide +kernel
theorem dX10_solveOne_68 : decode cX10_solveOne 68 = .ok (.getfield 19, 3) := by decide +kernel
theorem dX10_solveOne_71 : decode cX10_solveOne 71 = .ok (.iload_n 1, 1) := by decide +kernel
theorem dX10_solveOne_72 : decode cX10_solveOne 72 = .ok (.laload, 1) := by decide +kernel
theorem dX10_solveOne_73 : decode cX10_solveOne 73 = .ok (.invokevirtual 213, 3) := by decide +kernel
theorem dX10_solveOne_76 : decode cX10_solveOne 76 = .ok (.aload_n 0, 1) := by decide +kernel
theorem dX10_solveOne_77 : decode cX10_solveOne 77 = .ok (.getfield 33, 3) := by decide +kernel
theorem dX10_solveOne_80 : decode cX10_solveOne 80 = .ok (.iload_n 1, 1) := by decide +kernel
theorem dX10_solveOne_81 : decode cX10_solveOne 81 = .ok (.bipush (-6), 2) := by decide +kernel
theorem dX10_solveOne_83 : decode cX10_solveOne 83 = .ok (.iastore, 1) := by decide +kernel
theorem dX10_solveOne_84 : decode cX10_solveOne 84 = .ok (.iconst 0, 1) := by decide +kernel
theorem dX10_solveOne_85 : decode cX10_solveOne 85 = .ok (.istore_n 3, 1) := by decide +kernel
theorem dX10_solveOne_86 : decode cX10_solveOne 86 = .ok (.iload_n 3, 1) := by decide +kernel
theorem dX10_solveOne_87 : decode cX10_solveOne 87 = .ok (.aload_n 0, 1) := by decide +kernel
theorem dX10_solveOne_88 : decode cX10_solveOne 88 = .ok (.getfield 132, 3) := by decide +kernel
theorem dX10_solveOne_91 : decode cX10_solveOne 91 = .ok (.if_icmp .ge 143, 3) := by decide +kernel
theorem dX10_solveOne_94 : decode cX10_solveOne 94 = .ok (.aload_n 0, 1) := by decide +kernel
theorem dX10_solveOne_95 : decode cX10_solveOne 95 = .ok (.getfield 24, 3) := by decide +kernel
theorem dX10_solveOne_98 : decode cX10_solveOne 98 = .ok (.aload_n 0, 1) := by decide +kernel
theorem dX10_solveOne_99 : decode cX10_solveOne 99 = .ok (.aload_n 0, 1) := by decide +kernel
theorem dX10_solveOne_100 : decode cX10_solveOne 100 = .ok (.getfield 19, 3) := by decide +kernel
theorem dX10_solveOne_103 : decode cX10_solveOne 103 = .ok (.iload_n 1, 1) := by decide +kernel
theorem dX10_solveOne_104 : decode cX10_solveOne 104 = .ok (.laload, 1) := by decide +kernel
theorem dX10_solveOne_105 : decode cX10_solveOne 105 = .ok (.aload_n 0, 1) := by decide +kernel
theorem dX10_solveOne_106 : decode cX10_solveOne 106 = .ok (.getfield 7, 3) := by decide +kernel
theorem dX10_solveOne_109 : decode cX10_solveOne 109 = .ok (.iload_n 3, 1) := by decide +kernel
theorem dX10_solveOne_110 : decode cX10_solveOne 110 = .ok (.iaload, 1) := by decide +kernel
theorem dX10_solveOne_111 : decode cX10_solveOne 111 = .ok (.aload_n 0, 1) := by decide +kernel
theorem dX10_solveOne_112 : decode cX10_solveOne 112 = .ok (.getfield 13, 3) := by decide +kernel
theorem dX10_solveOne_115 : decode cX10_solveOne 115 = .ok (.iload_n 3, 1) := by decide +kernel
theorem dX10_solveOne_116 : decode cX10_solveOne 116 = .ok (.iaload, 1) := by decide +kernel
theorem dX10_solveOne_117 : decode cX10_solveOne 117 = .ok (.invokestatic 205, 3) := by decide +kernel
theorem dX10_solveOne_120 : decode cX10_solveOne 120 = .ok (.invokevirtual 223, 3) := by decide +kernel
theorem dX10_solveOne_123 : decode cX10_solveOne 123 = .ok (.iaload, 1) := by decide +kernel
theorem dX10_solveOne_124 : decode cX10_solveOne 124 = .ok (.iconst 1, 1) := by decide +kernel
theorem dX10_solveOne_125 : decode cX10_solveOne 125 = .ok (.isub, 1) := by decide +kernel
theorem dX10_solveOne_126 : decode cX10_solveOne 126 = .ok (.istore 4, 2) := by decide +kernel
theorem dX10_solveOne_128 : decode cX10_solveOne 128 = .ok (.aload_n 0, 1) := by decide +kernel
theorem dX10_solveOne_129 : decode cX10_solveOne 129 = .ok (.getfield 27, 3) := by decide +kernel
theorem dX10_solveOne_132 : decode cX10_solveOne 132 = .ok (.iload 4, 2) := by decide +kernel
theorem dX10_solveOne_134 : decode cX10_solveOne 134 = .ok (.iaload, 1) := by decide +kernel
theorem dX10_solveOne_135 : decode cX10_solveOne 135 = .ok (.ifCond .ne 7, 3) := by decide +kernel
theorem dX10_solveOne_138 : decode cX10_solveOne 138 = .ok (.iconst 0, 1) := by decide +kernel
theorem dX10_solveOne_139 : decode cX10_solveOne 139 = .ok (.goto 12, 3) := by decide +kernel
theorem dX10_solveOne_142 : decode cX10_solveOne 142 = .ok (.iconst 3, 1) := by decide +kernel
theorem dX10_solveOne_143 : decode cX10_solveOne 143 = .ok (.aload_n 0, 1) := by decide +kernel
theorem dX10_solveOne_144 : decode cX10_solveOne 144 = .ok (.getfield 27, 3) := by decide +kernel
theorem dX10_solveOne_147 : decode cX10_solveOne 147 = .ok (.iload 4, 2) := by decide +kernel
theorem dX10_solveOne_149 : decode cX10_solveOne 149 = .ok (.iaload, 1) := by decide +kernel
theorem dX10_solveOne_150 : decode cX10_solveOne 150 = .ok (.isub, 1) := by decide +kernel
theorem dX10_solveOne_151 : decode cX10_solveOne 151 = .ok (.istore 5, 2) := by decide +kernel
theorem dX10_solveOne_153 : decode cX10_solveOne 153 = .ok (.aload_n 0, 1) := by decide +kernel
theorem dX10_solveOne_154 : decode cX10_solveOne 154 = .ok (.getfield 30, 3) := by decide +kernel
theorem dX10_solveOne_157 : decode cX10_solveOne 157 = .ok (.iload 4, 2) := by decide +kernel
theorem dX10_solveOne_159 : decode cX10_solveOne 159 = .ok (.iaload, 1) := by decide +kernel
theorem dX10_solveOne_160 : decode cX10_solveOne 160 = .ok (.iconst 1, 1) := by decide +kernel
theorem dX10_solveOne_161 : decode cX10_solveOne 161 = .ok (.iadd, 1) := by decide +kernel
theorem dX10_solveOne_162 : decode cX10_solveOne 162 = .ok (.istore 6, 2) := by decide +kernel
theorem dX10_solveOne_164 : decode cX10_solveOne 164 = .ok (.aload_n 0, 1) := by decide +kernel
theorem dX10_solveOne_165 : decode cX10_solveOne 165 = .ok (.getfield 33, 3) := by decide +kernel
theorem dX10_solveOne_168 : decode cX10_solveOne 168 = .ok (.iload_n 1, 1) := by decide +kernel
theorem dX10_solveOne_169 : decode cX10_solveOne 169 = .ok (.iaload, 1) := by decide +kernel
theorem dX10_solveOne_170 : decode cX10_solveOne 170 = .ok (.ifCond .lt 25, 3) := by decide +kernel
theorem dX10_solveOne_173 : decode cX10_solveOne 173 = .ok (.iload 5, 2) := by decide +kernel
theorem dX10_solveOne_175 : decode cX10_solveOne 175 = .ok (.iload 6, 2) := by decide +kernel
theorem dX10_solveOne_177 : decode cX10_solveOne 177 = .ok (.aload_n 0, 1) := by decide +kernel
theorem dX10_solveOne_178 : decode cX10_solveOne 178 = .ok (.getfield 27, 3) := by decide +kernel
theorem dX10_solveOne_181 : decode cX10_solveOne 181 = .ok (.iload_n 1, 1) := by decide +kernel
theorem dX10_solveOne_182 : decode cX10_solveOne 182 = .ok (.iaload, 1) := by decide +kernel
theorem dX10_solveOne_183 : decode cX10_solveOne 183 = .ok (.aload_n 0, 1) := by decide +kernel
theorem dX10_solveOne_184 : decode cX10_solveOne 184 = .ok (.getfield 30, 3) := by decide +kernel
theorem dX10_solveOne_187 : decode cX10_solveOne 187 = .ok (.iload_n 1, 1) := by decide +kernel
theorem dX10_solveOne_188 : decode cX10_solveOne 188 = .ok (.iaload, 1) := by decide +kernel
theorem dX10_solveOne_189 : decode cX10_solveOne 189 = .ok (.invokestatic 243, 3) := by decide +kernel
theorem dX10_solveOne_192 : decode cX10_solveOne 192 = .ok (.ifCond .eq 36, 3) := by decide +kernel
theorem dX10_solveOne_195 : decode cX10_solveOne 195 = .ok (.aload_n 0, 1) := by decide +kernel
theorem dX10_solveOne_196 : decode cX10_solveOne 196 = .ok (.getfield 27, 3) := by decide +kernel
theorem dX10_solveOne_199 : decode cX10_solveOne 199 = .ok (.iload_n 1, 1) := by decide +kernel
theorem dX10_solveOne_200 : decode cX10_solveOne 200 = .ok (.iload 5, 2) := by decide +kernel
theorem dX10_solveOne_202 : decode cX10_solveOne 202 = .ok (.iastore, 1) := by decide +kernel
theorem dX10_solveOne_203 : decode cX10_solveOne 203 = .ok (.aload_n 0, 1) := by decide +kernel
theorem dX10_solveOne_204 : decode cX10_solveOne 204 = .ok (.getfield 30, 3) := by decide +kernel
theorem dX10_solveOne_207 : decode cX10_solveOne 207 = .ok (.iload_n 1, 1) := by decide +kernel
theorem dX10_solveOne_208 : decode cX10_solveOne 208 = .ok (.iload 6, 2) := by decide +kernel
theorem dX10_solveOne_210 : decode cX10_solveOne 210 = .ok (.iastore, 1) := by decide +kernel
theorem dX10_solveOne_211 : decode cX10_solveOne 211 = .ok (.aload_n 0, 1) := by decide +kernel
theorem dX10_solveOne_212 : decode cX10_solveOne 212 = .ok (.getfield 33, 3) := by decide +kernel
theorem dX10_solveOne_215 : decode cX10_solveOne 215 = .ok (.iload_n 1, 1) := by decide +kernel
theorem dX10_solveOne_216 : decode cX10_solveOne 216 = .ok (.aload_n 0, 1) := by decide +kernel
theorem dX10_solveOne_217 : decode cX10_solveOne 217 = .ok (.aload_n 0, 1) := by decide +kernel
theorem dX10_solveOne_218 : decode cX10_solveOne 218 = .ok (.getfield 19, 3) := by decide +kernel
theorem dX10_solveOne_221 : decode cX10_solveOne 221 = .ok (.iload_n 1, 1) := by decide +kernel
theorem dX10_solveOne_222 : decode cX10_solveOne 222 = .ok (.laload, 1) := by decide +kernel
theorem dX10_solveOne_223 : decode cX10_solveOne 223 = .ok (.iload_n 3, 1) := by decide +kernel
theorem dX10_solveOne_224 : decode cX10_solveOne 224 = .ok (.invokevirtual 217, 3) := by decide +kernel
theorem dX10_solveOne_227 : decode cX10_solveOne 227 = .ok (.iastore, 1) := by decide +kernel
theorem dX10_solveOne_228 : decode cX10_solveOne 228 = .ok (.iinc 3 1, 3) := by decide +kernel
theorem dX10_solveOne_231 : decode cX10_solveOne 231 = .ok (.goto (-145), 3) := by decide +kernel
theorem dX10_solveOne_234 : decode cX10_solveOne 234 = .ok (.return_, 1) := by decide +kernel
theorem dX10_solve_0 : decode cX10_solve 0 = .ok (.iload_n 1, 1) := by decide +kernel
theorem dX10_solve_1 : decode cX10_solve 1 = .ok (.i2l, 1) := by decide +kernel
theorem dX10_solve_2 : decode cX10_solve 2 = .ok (.lconst 0, 1) := by decide +kernel
theorem dX10_solve_3 : decode cX10_solve 3 = .ok (.ldc2_w 247, 3) := by decide +kernel
theorem dX10_solve_6 : decode cX10_solve 6 = .ok (.invokestatic 142, 3) := by decide +kernel
theorem dX10_solve_9 : decode cX10_solve 9 = .ok (.ifCond .ne 6, 3) := by decide +kernel
theorem dX10_solve_12 : decode cX10_solve 12 = .ok (.bipush (-2), 2) := by decide +kernel
theorem dX10_solve_14 : decode cX10_solve 14 = .ok (.ireturn, 1) := by decide +kernel
theorem dX10_solve_15 : decode cX10_solve 15 = .ok (.aload_n 0, 1) := by decide +kernel
theorem dX10_solve_16 : decode cX10_solve 16 = .ok (.aload_n 0, 1) := by decide +kernel
theorem dX10_solve_17 : decode cX10_solve 17 = .ok (.getfield 69, 3) := by decide +kernel
theorem dX10_solve_20 : decode cX10_solve 20 = .ok (.invokevirtual 249, 3) := by decide +kernel
theorem dX10_solve_23 : decode cX10_solve 23 = .ok (.ifCond .ne 6, 3) := by decide +kernel
theorem dX10_solve_26 : decode cX10_solve 26 = .ok (.bipush (-4), 2) := by decide +kernel
theorem dX10_solve_28 : decode cX10_solve 28 = .ok (.ireturn, 1) := by decide +kernel
theorem dX10_solve_29 : decode cX10_solve 29 = .ok (.iload_n 1, 1) := by decide +kernel
theorem dX10_solve_30 : decode cX10_solve 30 = .ok (.ifCond .ne 12, 3) := by decide +kernel
theorem dX10_solve_33 : decode cX10_solve 33 = .ok (.aload_n 0, 1) := by decide +kernel
theorem dX10_solve_34 : decode cX10_solve 34 = .ok (.getfield 27, 3) := by decide +kernel
theorem dX10_solve_37 : decode cX10_solve 37 = .ok (.iconst 0, 1) := by decide +kernel
theorem dX10_solve_38 : decode cX10_solve 38 = .ok (.iaload, 1) := by decide +kernel
theorem dX10_solve_39 : decode cX10_solve 39 = .ok (.goto 23, 3) := by decide +kernel
theorem dX10_solve_42 : decode cX10_solve 42 = .ok (.iload_n 1, 1) := by decide +kernel
theorem dX10_solve_43 : decode cX10_solve 43 = .ok (.iconst 1, 1) := by decide +kernel
theorem dX10_solve_44 : decode cX10_solve 44 = .ok (.if_icmp .ne 12, 3) := by decide +kernel
theorem dX10_solve_47 : decode cX10_solve 47 = .ok (.aload_n 0, 1) := by decide +kernel
theorem dX10_solve_48 : decode cX10_solve 48 = .ok (.getfield 30, 3) := by decide +kernel
theorem dX10_solve_51 : decode cX10_solve 51 = .ok (.iconst 0, 1) := by decide +kernel
theorem dX10_solve_52 : decode cX10_solve 52 = .ok (.iaload, 1) := by decide +kernel
theorem dX10_solve_53 : decode cX10_solve 53 = .ok (.goto 9, 3) := by decide +kernel
theorem dX10_solve_56 : decode cX10_solve 56 = .ok (.aload_n 0, 1) := by decide +kernel
theorem dX10_solve_57 : decode cX10_solve 57 = .ok (.getfield 33, 3) := by decide +kernel
theorem dX10_solve_60 : decode cX10_solve 60 = .ok (.iconst 0, 1) := by decide +kernel
theorem dX10_solve_61 : decode cX10_solve 61 = .ok (.iaload, 1) := by decide +kernel
theorem dX10_solve_62 : decode cX10_solve 62 = .ok (.ireturn, 1) := by decide +kernel
theorem dX10_winsAtOnce_0 : decode cX10_winsAtOnce 0 = .ok (.aload_n 0, 1) := by decide +kernel
theorem dX10_winsAtOnce_1 : decode cX10_winsAtOnce 1 = .ok (.lload_n 1, 1) := by decide +kernel
theorem dX10_winsAtOnce_2 : decode cX10_winsAtOnce 2 = .ok (.invokevirtual 213, 3) := by decide +kernel
theorem dX10_winsAtOnce_5 : decode cX10_winsAtOnce 5 = .ok (.aload_n 0, 1) := by decide +kernel
theorem dX10_winsAtOnce_6 : decode cX10_winsAtOnce 6 = .ok (.getfield 132, 3) := by decide +kernel
theorem dX10_winsAtOnce_9 : decode cX10_winsAtOnce 9 = .ok (.istore_n 3, 1) := by decide +kernel
theorem dX10_winsAtOnce_10 : decode cX10_winsAtOnce 10 = .ok (.iconst 0, 1) := by decide +kernel
theorem dX10_winsAtOnce_11 : decode cX10_winsAtOnce 11 = .ok (.istore 4, 2) := by decide +kernel
theorem dX10_winsAtOnce_13 : decode cX10_winsAtOnce 13 = .ok (.iload 4, 2) := by decide +kernel
theorem dX10_winsAtOnce_15 : decode cX10_winsAtOnce 15 = .ok (.iload_n 3, 1) := by decide +kernel
theorem dX10_winsAtOnce_16 : decode cX10_winsAtOnce 16 = .ok (.if_icmp .ge 42, 3) := by decide +kernel
theorem dX10_winsAtOnce_19 : decode cX10_winsAtOnce 19 = .ok (.aload_n 0, 1) := by decide +kernel
theorem dX10_winsAtOnce_20 : decode cX10_winsAtOnce 20 = .ok (.lload_n 1, 1) := by decide +kernel
theorem dX10_winsAtOnce_21 : decode cX10_winsAtOnce 21 = .ok (.aload_n 0, 1) := by decide +kernel
theorem dX10_winsAtOnce_22 : decode cX10_winsAtOnce 22 = .ok (.getfield 7, 3) := by decide +kernel
theorem dX10_winsAtOnce_25 : decode cX10_winsAtOnce 25 = .ok (.iload 4, 2) := by decide +kernel
theorem dX10_winsAtOnce_27 : decode cX10_winsAtOnce 27 = .ok (.iaload, 1) := by decide +kernel
theorem dX10_winsAtOnce_28 : decode cX10_winsAtOnce 28 = .ok (.aload_n 0, 1) := by decide +kernel
theorem dX10_winsAtOnce_29 : decode cX10_winsAtOnce 29 = .ok (.getfield 13, 3) := by decide +kernel
theorem dX10_winsAtOnce_32 : decode cX10_winsAtOnce 32 = .ok (.iload 4, 2) := by decide +kernel
theorem dX10_winsAtOnce_34 : decode cX10_winsAtOnce 34 = .ok (.iaload, 1) := by decide +kernel
theorem dX10_winsAtOnce_35 : decode cX10_winsAtOnce 35 = .ok (.invokestatic 205, 3) := by decide +kernel
theorem dX10_winsAtOnce_38 : decode cX10_winsAtOnce 38 = .ok (.invokevirtual 135, 3) := by decide +kernel
theorem dX10_winsAtOnce_41 : decode cX10_winsAtOnce 41 = .ok (.iconst 1, 1) := by decide +kernel
theorem dX10_winsAtOnce_42 : decode cX10_winsAtOnce 42 = .ok (.lload_n 1, 1) := by decide +kernel
theorem dX10_winsAtOnce_43 : decode cX10_winsAtOnce 43 = .ok (.invokestatic 123, 3) := by decide +kernel
theorem dX10_winsAtOnce_46 : decode cX10_winsAtOnce 46 = .ok (.iadd, 1) := by decide +kernel
theorem dX10_winsAtOnce_47 : decode cX10_winsAtOnce 47 = .ok (.if_icmp .ne 5, 3) := by decide +kernel
theorem dX10_winsAtOnce_50 : decode cX10_winsAtOnce 50 = .ok (.iconst 1, 1) := by decide +kernel
theorem dX10_winsAtOnce_51 : decode cX10_winsAtOnce 51 = .ok (.ireturn, 1) := by decide +kernel
theorem dX10_winsAtOnce_52 : decode cX10_winsAtOnce 52 = .ok (.iinc 4 1, 3) := by decide +kernel
theorem dX10_winsAtOnce_55 : decode cX10_winsAtOnce 55 = .ok (.goto (-42), 3) := by decide +kernel
theorem dX10_winsAtOnce_58 : decode cX10_winsAtOnce 58 = .ok (.iconst 0, 1) := by decide +kernel
theorem dX10_winsAtOnce_59 : decode cX10_winsAtOnce 59 = .ok (.ireturn, 1) := by decide +kernel
theorem dX10_isKey_0 : decode cX10_isKey 0 = .ok (.aload_n 0, 1) := by decide +kernel
theorem dX10_isKey_1 : decode cX10_isKey 1 = .ok (.lload_n 1, 1) := by decide +kernel
theorem dX10_isKey_2 : decode cX10_isKey 2 = .ok (.invokevirtual 135, 3) := by decide +kernel
theorem dX10_isKey_5 : decode cX10_isKey 5 = .ok (.istore 5, 2) := by decide +kernel
theorem dX10_isKey_7 : decode cX10_isKey 7 = .ok (.iload 5, 2) := by decide +kernel
theorem dX10_isKey_9 : decode cX10_isKey 9 = .ok (.ifCond .eq 17, 3) := by decide +kernel
theorem dX10_isKey_12 : decode cX10_isKey 12 = .ok (.iload 5, 2) := by decide +kernel
theorem dX10_isKey_14 : decode cX10_isKey 14 = .ok (.iconst 1, 1) := by decide +kernel
theorem dX10_isKey_15 : decode cX10_isKey 15 = .ok (.iload_n 3, 1) := by decide +kernel
theorem dX10_isKey_16 : decode cX10_isKey 16 = .ok (.iadd, 1) := by decide +kernel
theorem dX10_isKey_17 : decode cX10_isKey 17 = .ok (.if_icmp .ne 7, 3) := by decide +kernel
theorem dX10_isKey_20 : decode cX10_isKey 20 = .ok (.iconst 1, 1) := by decide +kernel
theorem dX10_isKey_21 : decode cX10_isKey 21 = .ok (.goto 4, 3) := by decide +kernel
theorem dX10_isKey_24 : decode cX10_isKey 24 = .ok (.iconst 0, 1) := by decide +kernel
theorem dX10_isKey_25 : decode cX10_isKey 25 = .ok (.ireturn, 1) := by decide +kernel
theorem dX10_isKey_26 : decode cX10_isKey 26 = .ok (.iload 4, 2) := by decide +kernel
theorem dX10_isKey_28 : decode cX10_isKey 28 = .ok (.iconst 1, 1) := by decide +kernel
theorem dX10_isKey_29 : decode cX10_isKey 29 = .ok (.if_icmp .ne 5, 3) := by decide +kernel
theorem dX10_isKey_32 : decode cX10_isKey 32 = .ok (.iconst 0, 1) := by decide +kernel
theorem dX10_isKey_33 : decode cX10_isKey 33 = .ok (.ireturn, 1) := by decide +kernel
theorem dX10_isKey_34 : decode cX10_isKey 34 = .ok (.aload_n 0, 1) := by decide +kernel
theorem dX10_isKey_35 : decode cX10_isKey 35 = .ok (.lload_n 1, 1) := by decide +kernel
theorem dX10_isKey_36 : decode cX10_isKey 36 = .ok (.invokevirtual 213, 3) := by decide +kernel
theorem dX10_isKey_39 : decode cX10_isKey 39 = .ok (.aload_n 0, 1) := by decide +kernel
theorem dX10_isKey_40 : decode cX10_isKey 40 = .ok (.getfield 132, 3) := by decide +kernel
theorem dX10_isKey_43 : decode cX10_isKey 43 = .ok (.istore 6, 2) := by decide +kernel
theorem dX10_isKey_45 : decode cX10_isKey 45 = .ok (.iconst 0, 1) := by decide +kernel
theorem dX10_isKey_46 : decode cX10_isKey 46 = .ok (.istore 7, 2) := by decide +kernel
theorem dX10_isKey_48 : decode cX10_isKey 48 = .ok (.iload 7, 2) := by decide +kernel
theorem dX10_isKey_50 : decode cX10_isKey 50 = .ok (.iload 6, 2) := by decide +kernel
theorem dX10_isKey_52 : decode cX10_isKey 52 = .ok (.if_icmp .ge 34, 3) := by decide +kernel
theorem dX10_isKey_55 : decode cX10_isKey 55 = .ok (.aload_n 0, 1) := by decide +kernel
theorem dX10_isKey_56 : decode cX10_isKey 56 = .ok (.getfield 36, 3) := by decide +kernel
theorem dX10_isKey_59 : decode cX10_isKey 59 = .ok (.iload 7, 2) := by decide +kernel
theorem dX10_isKey_61 : decode cX10_isKey 61 = .ok (.lload_n 1, 1) := by decide +kernel
theorem dX10_isKey_62 : decode cX10_isKey 62 = .ok (.aload_n 0, 1) := by decide +kernel
theorem dX10_isKey_63 : decode cX10_isKey 63 = .ok (.getfield 7, 3) := by decide +kernel
theorem dX10_isKey_66 : decode cX10_isKey 66 = .ok (.iload 7, 2) := by decide +kernel
theorem dX10_isKey_68 : decode cX10_isKey 68 = .ok (.iaload, 1) := by decide +kernel
theorem dX10_isKey_69 : decode cX10_isKey 69 = .ok (.aload_n 0, 1) := by decide +kernel
theorem dX10_isKey_70 : decode cX10_isKey 70 = .ok (.getfield 13, 3) := by decide +kernel
theorem dX10_isKey_73 : decode cX10_isKey 73 = .ok (.iload 7, 2) := by decide +kernel
theorem dX10_isKey_75 : decode cX10_isKey 75 = .ok (.iaload, 1) := by decide +kernel
theorem dX10_isKey_76 : decode cX10_isKey 76 = .ok (.invokestatic 205, 3) := by decide +kernel
theorem dX10_isKey_79 : decode cX10_isKey 79 = .ok (.lastore, 1) := by decide +kernel
theorem dX10_isKey_80 : decode cX10_isKey 80 = .ok (.iinc 7 1, 3) := by decide +kernel
theorem dX10_isKey_83 : decode cX10_isKey 83 = .ok (.goto (-35), 3) := by decide +kernel
theorem dX10_isKey_86 : decode cX10_isKey 86 = .ok (.iconst 0, 1) := by decide +kernel
theorem dX10_isKey_87 : decode cX10_isKey 87 = .ok (.istore 7, 2) := by decide +kernel
theorem dX10_isKey_89 : decode cX10_isKey 89 = .ok (.iload 7, 2) := by decide +kernel
theorem dX10_isKey_91 : decode cX10_isKey 91 = .ok (.iload 6, 2) := by decide +kernel
theorem dX10_isKey_93 : decode cX10_isKey 93 = .ok (.if_icmp .ge 59, 3) := by decide +kernel
theorem dX10_isKey_96 : decode cX10_isKey 96 = .ok (.aload_n 0, 1) := by decide +kernel
theorem dX10_isKey_97 : decode cX10_isKey 97 = .ok (.aload_n 0, 1) := by decide +kernel
theorem dX10_isKey_98 : decode cX10_isKey 98 = .ok (.getfield 36, 3) := by decide +kernel
theorem dX10_isKey_101 : decode cX10_isKey 101 = .ok (.iload 7, 2) := by decide +kernel
theorem dX10_isKey_103 : decode cX10_isKey 103 = .ok (.laload, 1) := by decide +kernel
theorem dX10_isKey_104 : decode cX10_isKey 104 = .ok (.invokevirtual 135, 3) := by decide +kernel
theorem dX10_isKey_107 : decode cX10_isKey 107 = .ok (.ifCond .eq 23, 3) := by decide +kernel
theorem dX10_isKey_110 : decode cX10_isKey 110 = .ok (.aload_n 0, 1) := by decide +kernel
theorem dX10_isKey_111 : decode cX10_isKey 111 = .ok (.aload_n 0, 1) := by decide +kernel
theorem dX10_isKey_112 : decode cX10_isKey 112 = .ok (.getfield 36, 3) := by decide +kernel
theorem dX10_isKey_115 : decode cX10_isKey 115 = .ok (.iload 7, 2) := by decide +kernel
theorem dX10_isKey_117 : decode cX10_isKey 117 = .ok (.laload, 1) := by decide +kernel
theorem dX10_isKey_118 : decode cX10_isKey 118 = .ok (.invokevirtual 135, 3) := by decide +kernel
theorem dX10_isKey_121 : decode cX10_isKey 121 = .ok (.iconst 1, 1) := by decide +kernel
theorem dX10_isKey_122 : decode cX10_isKey 122 = .ok (.iload_n 3, 1) := by decide +kernel
theorem dX10_isKey_123 : decode cX10_isKey 123 = .ok (.iadd, 1) := by decide +kernel
theorem dX10_isKey_124 : decode cX10_isKey 124 = .ok (.if_icmp .eq 22, 3) := by decide +kernel
theorem dX10_isKey_127 : decode cX10_isKey 127 = .ok (.goto 17, 3) := by decide +kernel
theorem dX10_isKey_130 : decode cX10_isKey 130 = .ok (.aload_n 0, 1) := by decide +kernel
theorem dX10_isKey_131 : decode cX10_isKey 131 = .ok (.aload_n 0, 1) := by decide +kernel
theorem dX10_isKey_132 : decode cX10_isKey 132 = .ok (.getfield 36, 3) := by decide +kernel
theorem dX10_isKey_135 : decode cX10_isKey 135 = .ok (.iload 7, 2) := by decide +kernel
theorem dX10_isKey_137 : decode cX10_isKey 137 = .ok (.laload, 1) := by decide +kernel
theorem dX10_isKey_138 : decode cX10_isKey 138 = .ok (.invokevirtual 252, 3) := by decide +kernel
theorem dX10_isKey_141 : decode cX10_isKey 141 = .ok (.ifCond .ne 5, 3) := by decide +kernel
theorem dX10_isKey_144 : decode cX10_isKey 144 = .ok (.iconst 0, 1) := by decide +kernel
theorem dX10_isKey_145 : decode cX10_isKey 145 = .ok (.ireturn, 1) := by decide +kernel
theorem dX10_isKey_146 : decode cX10_isKey 146 = .ok (.iinc 7 1, 3) := by decide +kernel
theorem dX10_isKey_149 : decode cX10_isKey 149 = .ok (.goto (-60), 3) := by decide +kernel
theorem dX10_isKey_152 : decode cX10_isKey 152 = .ok (.iconst 1, 1) := by decide +kernel
theorem dX10_isKey_153 : decode cX10_isKey 153 = .ok (.ireturn, 1) := by decide +kernel
theorem dX10_keys_0 : decode cX10_keys 0 = .ok (.iload_n 1, 1) := by decide +kernel
theorem dX10_keys_1 : decode cX10_keys 1 = .ok (.i2l, 1) := by decide +kernel
theorem dX10_keys_2 : decode cX10_keys 2 = .ok (.lconst 1, 1) := by decide +kernel
theorem dX10_keys_3 : decode cX10_keys 3 = .ok (.ldc2_w 247, 3) := by decide +kernel
theorem dX10_keys_6 : decode cX10_keys 6 = .ok (.invokestatic 142, 3) := by decide +kernel
theorem dX10_keys_9 : decode cX10_keys 9 = .ok (.ifCond .ne 6, 3) := by decide +kernel
theorem dX10_keys_12 : decode cX10_keys 12 = .ok (.bipush (-2), 2) := by decide +kernel
theorem dX10_keys_14 : decode cX10_keys 14 = .ok (.ireturn, 1) := by decide +kernel
theorem dX10_keys_15 : decode cX10_keys 15 = .ok (.aload_n 0, 1) := by decide +kernel
theorem dX10_keys_16 : decode cX10_keys 16 = .ok (.aload_n 0, 1) := by decide +kernel
theorem dX10_keys_17 : decode cX10_keys 17 = .ok (.getfield 69, 3) := by decide +kernel
theorem dX10_keys_20 : decode cX10_keys 20 = .ok (.invokevirtual 213, 3) := by decide +kernel
theorem dX10_keys_23 : decode cX10_keys 23 = .ok (.aload_n 0, 1) := by decide +kernel
theorem dX10_keys_24 : decode cX10_keys 24 = .ok (.getfield 132, 3) := by decide +kernel
theorem dX10_keys_27 : decode cX10_keys 27 = .ok (.istore_n 3, 1) := by decide +kernel
theorem dX10_keys_28 : decode cX10_keys 28 = .ok (.iconst 0, 1) := by decide +kernel
theorem dX10_keys_29 : decode cX10_keys 29 = .ok (.istore 4, 2) := by decide +kernel
theorem dX10_keys_31 : decode cX10_keys 31 = .ok (.iload 4, 2) := by decide +kernel
theorem dX10_keys_33 : decode cX10_keys 33 = .ok (.iload_n 3, 1) := by decide +kernel
theorem dX10_keys_34 : decode cX10_keys 34 = .ok (.if_icmp .ge 54, 3) := by decide +kernel
theorem dX10_keys_37 : decode cX10_keys 37 = .ok (.aload_n 0, 1) := by decide +kernel
theorem dX10_keys_38 : decode cX10_keys 38 = .ok (.getfield 39, 3) := by decide +kernel
theorem dX10_keys_41 : decode cX10_keys 41 = .ok (.iload 4, 2) := by decide +kernel
theorem dX10_keys_43 : decode cX10_keys 43 = .ok (.aload_n 0, 1) := by decide +kernel
theorem dX10_keys_44 : decode cX10_keys 44 = .ok (.getfield 69, 3) := by decide +kernel
theorem dX10_keys_47 : decode cX10_keys 47 = .ok (.aload_n 0, 1) := by decide +kernel
theorem dX10_keys_48 : decode cX10_keys 48 = .ok (.getfield 7, 3) := by decide +kernel
theorem dX10_keys_51 : decode cX10_keys 51 = .ok (.iload 4, 2) := by decide +kernel
theorem dX10_keys_53 : decode cX10_keys 53 = .ok (.iaload, 1) := by decide +kernel
theorem dX10_keys_54 : decode cX10_keys 54 = .ok (.aload_n 0, 1) := by decide +kernel
theorem dX10_keys_55 : decode cX10_keys 55 = .ok (.getfield 13, 3) := by decide +kernel
theorem dX10_keys_58 : decode cX10_keys 58 = .ok (.iload 4, 2) := by decide +kernel
theorem dX10_keys_60 : decode cX10_keys 60 = .ok (.iaload, 1) := by decide +kernel
theorem dX10_keys_61 : decode cX10_keys 61 = .ok (.invokestatic 205, 3) := by decide +kernel
theorem dX10_keys_64 : decode cX10_keys 64 = .ok (.lastore, 1) := by decide +kernel
theorem dX10_keys_65 : decode cX10_keys 65 = .ok (.aload_n 0, 1) := by decide +kernel
theorem dX10_keys_66 : decode cX10_keys 66 = .ok (.getfield 42, 3) := by decide +kernel
theorem dX10_keys_69 : decode cX10_keys 69 = .ok (.iload 4, 2) := by decide +kernel
theorem dX10_keys_71 : decode cX10_keys 71 = .ok (.aload_n 0, 1) := by decide +kernel
theorem dX10_keys_72 : decode cX10_keys 72 = .ok (.aload_n 0, 1) := by decide +kernel
theorem dX10_keys_73 : decode cX10_keys 73 = .ok (.getfield 69, 3) := by decide +kernel
theorem dX10_keys_76 : decode cX10_keys 76 = .ok (.iload 4, 2) := by decide +kernel
theorem dX10_keys_78 : decode cX10_keys 78 = .ok (.invokevirtual 217, 3) := by decide +kernel
theorem dX10_keys_81 : decode cX10_keys 81 = .ok (.iastore, 1) := by decide +kernel
theorem dX10_keys_82 : decode cX10_keys 82 = .ok (.iinc 4 1, 3) := by decide +kernel
theorem dX10_keys_85 : decode cX10_keys 85 = .ok (.goto (-54), 3) := by decide +kernel
theorem dX10_keys_88 : decode cX10_keys 88 = .ok (.iconst 0, 1) := by decide +kernel
theorem dX10_keys_89 : decode cX10_keys 89 = .ok (.istore 4, 2) := by decide +kernel
theorem dX10_keys_91 : decode cX10_keys 91 = .ok (.iconst 0, 1) := by decide +kernel
theorem dX10_keys_92 : decode cX10_keys 92 = .ok (.istore 5, 2) := by decide +kernel
theorem dX10_keys_94 : decode cX10_keys 94 = .ok (.iload 5, 2) := by decide +kernel
theorem dX10_keys_96 : decode cX10_keys 96 = .ok (.iload_n 3, 1) := by decide +kernel
theorem dX10_keys_97 : decode cX10_keys 97 = .ok (.if_icmp .ge 48, 3) := by decide +kernel
theorem dX10_keys_100 : decode cX10_keys 100 = .ok (.aload_n 0, 1) := by decide +kernel
theorem dX10_keys_101 : decode cX10_keys 101 = .ok (.aload_n 0, 1) := by decide +kernel
theorem dX10_keys_102 : decode cX10_keys 102 = .ok (.getfield 39, 3) := by decide +kernel
theorem dX10_keys_105 : decode cX10_keys 105 = .ok (.iload 5, 2) := by decide +kernel
theorem dX10_keys_107 : decode cX10_keys 107 = .ok (.laload, 1) := by decide +kernel
theorem dX10_keys_108 : decode cX10_keys 108 = .ok (.aload_n 0, 1) := by decide +kernel
theorem dX10_keys_109 : decode cX10_keys 109 = .ok (.getfield 69, 3) := by decide +kernel
theorem dX10_keys_112 : decode cX10_keys 112 = .ok (.invokestatic 123, 3) := by decide +kernel
theorem dX10_keys_115 : decode cX10_keys 115 = .ok (.iload_n 1, 1) := by decide +kernel
theorem dX10_keys_116 : decode cX10_keys 116 = .ok (.invokevirtual 255, 3) := by decide +kernel
theorem dX10_keys_119 : decode cX10_keys 119 = .ok (.ifCond .eq 20, 3) := by decide +kernel
theorem dX10_keys_122 : decode cX10_keys 122 = .ok (.iload 4, 2) := by decide +kernel
theorem dX10_keys_124 : decode cX10_keys 124 = .ok (.iload_n 2, 1) := by decide +kernel
theorem dX10_keys_125 : decode cX10_keys 125 = .ok (.if_icmp .ne 11, 3) := by decide +kernel
theorem dX10_keys_128 : decode cX10_keys 128 = .ok (.aload_n 0, 1) := by decide +kernel
theorem dX10_keys_129 : decode cX10_keys 129 = .ok (.getfield 42, 3) := by decide +kernel
theorem dX10_keys_132 : decode cX10_keys 132 = .ok (.iload 5, 2) := by decide +kernel
theorem dX10_keys_134 : decode cX10_keys 134 = .ok (.iaload, 1) := by decide +kernel
theorem dX10_keys_135 : decode cX10_keys 135 = .ok (.ireturn, 1) := by decide +kernel
theorem dX10_keys_136 : decode cX10_keys 136 = .ok (.iinc 4 1, 3) := by decide +kernel
theorem dX10_keys_139 : decode cX10_keys 139 = .ok (.iinc 5 1, 3) := by decide +kernel
theorem dX10_keys_142 : decode cX10_keys 142 = .ok (.goto (-48), 3) := by decide +kernel
theorem dX10_keys_145 : decode cX10_keys 145 = .ok (.iload_n 2, 1) := by decide +kernel
theorem dX10_keys_146 : decode cX10_keys 146 = .ok (.iconst (-1), 1) := by decide +kernel
theorem dX10_keys_147 : decode cX10_keys 147 = .ok (.if_icmp .ne 8, 3) := by decide +kernel
theorem dX10_keys_150 : decode cX10_keys 150 = .ok (.iload 4, 2) := by decide +kernel
theorem dX10_keys_152 : decode cX10_keys 152 = .ok (.goto 5, 3) := by decide +kernel
theorem dX10_keys_155 : decode cX10_keys 155 = .ok (.bipush (-6), 2) := by decide +kernel
theorem dX10_keys_157 : decode cX10_keys 157 = .ok (.ireturn, 1) := by decide +kernel
theorem dX10_even_0 : decode cX10_even 0 = .ok (.iload_n 1, 1) := by decide +kernel
theorem dX10_even_1 : decode cX10_even 1 = .ok (.invokestatic 178, 3) := by decide +kernel
theorem dX10_even_4 : decode cX10_even 4 = .ok (.ifCond .eq 16, 3) := by decide +kernel
theorem dX10_even_7 : decode cX10_even 7 = .ok (.aload_n 0, 1) := by decide +kernel
theorem dX10_even_8 : decode cX10_even 8 = .ok (.getfield 69, 3) := by decide +kernel
theorem dX10_even_11 : decode cX10_even 11 = .ok (.iload_n 1, 1) := by decide +kernel
theorem dX10_even_12 : decode cX10_even 12 = .ok (.invokestatic 91, 3) := by decide +kernel
theorem dX10_even_15 : decode cX10_even 15 = .ok (.bipush 31, 2) := by decide +kernel
theorem dX10_even_17 : decode cX10_even 17 = .ok (.if_icmp .ne 5, 3) := by decide +kernel
theorem dX10_even_20 : decode cX10_even 20 = .ok (.iconst (-1), 1) := by decide +kernel
theorem dX10_even_21 : decode cX10_even 21 = .ok (.ireturn, 1) := by decide +kernel
theorem dX10_even_22 : decode cX10_even 22 = .ok (.iconst 0, 1) := by decide +kernel
theorem dX10_even_23 : decode cX10_even 23 = .ok (.istore_n 2, 1) := by decide +kernel
theorem dX10_even_24 : decode cX10_even 24 = .ok (.iconst 0, 1) := by decide +kernel
theorem dX10_even_25 : decode cX10_even 25 = .ok (.istore_n 3, 1) := by decide +kernel
theorem dX10_even_26 : decode cX10_even 26 = .ok (.iload_n 3, 1) := by decide +kernel
theorem dX10_even_27 : decode cX10_even 27 = .ok (.bipush 10, 2) := by decide +kernel
theorem dX10_even_29 : decode cX10_even 29 = .ok (.if_icmp .ge 64, 3) := by decide +kernel
theorem dX10_even_32 : decode cX10_even 32 = .ok (.aload_n 0, 1) := by decide +kernel
theorem dX10_even_33 : decode cX10_even 33 = .ok (.aload_n 0, 1) := by decide +kernel
theorem dX10_even_34 : decode cX10_even 34 = .ok (.getfield 69, 3) := by decide +kernel
theorem dX10_even_37 : decode cX10_even 37 = .ok (.iload_n 1, 1) := by decide +kernel
theorem dX10_even_38 : decode cX10_even 38 = .ok (.aload_n 0, 1) := by decide +kernel
theorem dX10_even_39 : decode cX10_even 39 = .ok (.getfield 69, 3) := by decide +kernel
theorem dX10_even_42 : decode cX10_even 42 = .ok (.iload_n 1, 1) := by decide +kernel
theorem dX10_even_43 : decode cX10_even 43 = .ok (.invokestatic 91, 3) := by decide +kernel
theorem dX10_even_46 : decode cX10_even 46 = .ok (.iload_n 3, 1) := by decide +kernel
theorem dX10_even_47 : decode cX10_even 47 = .ok (.invokestatic 73, 3) := by decide +kernel
theorem dX10_even_50 : decode cX10_even 50 = .ok (.invokevirtual 249, 3) := by decide +kernel
theorem dX10_even_53 : decode cX10_even 53 = .ok (.ifCond .eq 16, 3) := by decide +kernel
theorem dX10_even_56 : decode cX10_even 56 = .ok (.aload_n 0, 1) := by decide +kernel
theorem dX10_even_57 : decode cX10_even 57 = .ok (.getfield 27, 3) := by decide +kernel
theorem dX10_even_60 : decode cX10_even 60 = .ok (.iconst 0, 1) := by decide +kernel
theorem dX10_even_61 : decode cX10_even 61 = .ok (.iaload, 1) := by decide +kernel
theorem dX10_even_62 : decode cX10_even 62 = .ok (.ifCond .ne 7, 3) := by decide +kernel
theorem dX10_even_65 : decode cX10_even 65 = .ok (.iconst 1, 1) := by decide +kernel
theorem dX10_even_66 : decode cX10_even 66 = .ok (.goto 4, 3) := by decide +kernel
theorem dX10_even_69 : decode cX10_even 69 = .ok (.iconst 0, 1) := by decide +kernel
theorem dX10_even_70 : decode cX10_even 70 = .ok (.istore 4, 2) := by decide +kernel
theorem dX10_even_72 : decode cX10_even 72 = .ok (.iload_n 2, 1) := by decide +kernel
theorem dX10_even_73 : decode cX10_even 73 = .ok (.iload 4, 2) := by decide +kernel
theorem dX10_even_75 : decode cX10_even 75 = .ok (.ifCond .eq 9, 3) := by decide +kernel
theorem dX10_even_78 : decode cX10_even 78 = .ok (.iconst 1, 1) := by decide +kernel
theorem dX10_even_79 : decode cX10_even 79 = .ok (.iload_n 3, 1) := by decide +kernel
theorem dX10_even_80 : decode cX10_even 80 = .ok (.ishl, 1) := by decide +kernel
theorem dX10_even_81 : decode cX10_even 81 = .ok (.goto 4, 3) := by decide +kernel
theorem dX10_even_84 : decode cX10_even 84 = .ok (.iconst 0, 1) := by decide +kernel
theorem dX10_even_85 : decode cX10_even 85 = .ok (.ior, 1) := by decide +kernel
theorem dX10_even_86 : decode cX10_even 86 = .ok (.istore_n 2, 1) := by decide +kernel
theorem dX10_even_87 : decode cX10_even 87 = .ok (.iinc 3 1, 3) := by decide +kernel
theorem dX10_even_90 : decode cX10_even 90 = .ok (.goto (-64), 3) := by decide +kernel
theorem dX10_even_93 : decode cX10_even 93 = .ok (.iload_n 2, 1) := by decide +kernel
theorem dX10_even_94 : decode cX10_even 94 = .ok (.ireturn, 1) := by decide +kernel
theorem dX10_numberAt_0 : decode cX10_numberAt 0 = .ok (.bipush 100, 2) := by decide +kernel
theorem dX10_numberAt_2 : decode cX10_numberAt 2 = .ok (.aload_n 0, 1) := by decide +kernel
theorem dX10_numberAt_3 : decode cX10_numberAt 3 = .ok (.iload_n 1, 1) := by decide +kernel
theorem dX10_numberAt_4 : decode cX10_numberAt 4 = .ok (.invokevirtual 190, 3) := by decide +kernel
theorem dX10_numberAt_7 : decode cX10_numberAt 7 = .ok (.imul, 1) := by decide +kernel
theorem dX10_numberAt_8 : decode cX10_numberAt 8 = .ok (.aload_n 0, 1) := by decide +kernel
theorem dX10_numberAt_9 : decode cX10_numberAt 9 = .ok (.iload_n 1, 1) := by decide +kernel
theorem dX10_numberAt_10 : decode cX10_numberAt 10 = .ok (.invokevirtual 193, 3) := by decide +kernel
theorem dX10_numberAt_13 : decode cX10_numberAt 13 = .ok (.iadd, 1) := by decide +kernel
theorem dX10_numberAt_14 : decode cX10_numberAt 14 = .ok (.ireturn, 1) := by decide +kernel
theorem dX10_book_0 : decode cX10_book 0 = .ok (.aload_n 0, 1) := by decide +kernel
theorem dX10_book_1 : decode cX10_book 1 = .ok (.invokevirtual 170, 3) := by decide +kernel
theorem dX10_book_4 : decode cX10_book 4 = .ok (.ifCond .ge 10, 3) := by decide +kernel
theorem dX10_book_7 : decode cX10_book 7 = .ok (.aload_n 0, 1) := by decide +kernel
theorem dX10_book_8 : decode cX10_book 8 = .ok (.invokevirtual 209, 3) := by decide +kernel
theorem dX10_book_11 : decode cX10_book 11 = .ok (.ifCond .ne 6, 3) := by decide +kernel
theorem dX10_book_14 : decode cX10_book 14 = .ok (.bipush (-5), 2) := by decide +kernel
theorem dX10_book_16 : decode cX10_book 16 = .ok (.ireturn, 1) := by decide +kernel
theorem dX10_book_17 : decode cX10_book 17 = .ok (.aload_n 0, 1) := by decide +kernel
theorem dX10_book_18 : decode cX10_book 18 = .ok (.getfield 258, 3) := by decide +kernel
theorem dX10_book_21 : decode cX10_book 21 = .ok (.bipush 8, 2) := by decide +kernel
theorem dX10_book_23 : decode cX10_book 23 = .ok (.if_icmp .ne 6, 3) := by decide +kernel
theorem dX10_book_26 : decode cX10_book 26 = .ok (.bipush (-4), 2) := by decide +kernel
theorem dX10_book_28 : decode cX10_book 28 = .ok (.ireturn, 1) := by decide +kernel
theorem dX10_book_29 : decode cX10_book 29 = .ok (.aload_n 0, 1) := by decide +kernel
theorem dX10_book_30 : decode cX10_book 30 = .ok (.getfield 45, 3) := by decide +kernel
theorem dX10_book_33 : decode cX10_book 33 = .ok (.aload_n 0, 1) := by decide +kernel
theorem dX10_book_34 : decode cX10_book 34 = .ok (.getfield 258, 3) := by decide +kernel
theorem dX10_book_37 : decode cX10_book 37 = .ok (.aload_n 0, 1) := by decide +kernel
theorem dX10_book_38 : decode cX10_book 38 = .ok (.getfield 69, 3) := by decide +kernel
theorem dX10_book_41 : decode cX10_book 41 = .ok (.lastore, 1) := by decide +kernel
theorem dX10_book_42 : decode cX10_book 42 = .ok (.aload_n 0, 1) := by decide +kernel
theorem dX10_book_43 : decode cX10_book 43 = .ok (.getfield 48, 3) := by decide +kernel
theorem dX10_book_46 : decode cX10_book 46 = .ok (.aload_n 0, 1) := by decide +kernel
theorem dX10_book_47 : decode cX10_book 47 = .ok (.getfield 258, 3) := by decide +kernel
theorem dX10_book_50 : decode cX10_book 50 = .ok (.aload_n 0, 1) := by decide +kernel
theorem dX10_book_51 : decode cX10_book 51 = .ok (.getfield 146, 3) := by decide +kernel
theorem dX10_book_54 : decode cX10_book 54 = .ok (.iconst 4, 1) := by decide +kernel
theorem dX10_book_55 : decode cX10_book 55 = .ok (.idiv, 1) := by decide +kernel
theorem dX10_book_56 : decode cX10_book 56 = .ok (.iastore, 1) := by decide +kernel
theorem dX10_book_57 : decode cX10_book 57 = .ok (.aload_n 0, 1) := by decide +kernel
theorem dX10_book_58 : decode cX10_book 58 = .ok (.getfield 54, 3) := by decide +kernel
theorem dX10_book_61 : decode cX10_book 61 = .ok (.aload_n 0, 1) := by decide +kernel
theorem dX10_book_62 : decode cX10_book 62 = .ok (.getfield 258, 3) := by decide +kernel
theorem dX10_book_65 : decode cX10_book 65 = .ok (.aload_n 0, 1) := by decide +kernel
theorem dX10_book_66 : decode cX10_book 66 = .ok (.aload_n 0, 1) := by decide +kernel
theorem dX10_book_67 : decode cX10_book 67 = .ok (.getfield 187, 3) := by decide +kernel
theorem dX10_book_70 : decode cX10_book 70 = .ok (.invokevirtual 135, 3) := by decide +kernel
theorem dX10_book_73 : decode cX10_book 73 = .ok (.iastore, 1) := by decide +kernel
theorem dX10_book_74 : decode cX10_book 74 = .ok (.iconst 0, 1) := by decide +kernel
theorem dX10_book_75 : decode cX10_book 75 = .ok (.istore_n 1, 1) := by decide +kernel
theorem dX10_book_76 : decode cX10_book 76 = .ok (.iload_n 1, 1) := by decide +kernel
theorem dX10_book_77 : decode cX10_book 77 = .ok (.aload_n 0, 1) := by decide +kernel
theorem dX10_book_78 : decode cX10_book 78 = .ok (.getfield 146, 3) := by decide +kernel
theorem dX10_book_81 : decode cX10_book 81 = .ok (.iconst 4, 1) := by decide +kernel
theorem dX10_book_82 : decode cX10_book 82 = .ok (.idiv, 1) := by decide +kernel
theorem dX10_book_83 : decode cX10_book 83 = .ok (.if_icmp .ge 28, 3) := by decide +kernel
theorem dX10_book_86 : decode cX10_book 86 = .ok (.aload_n 0, 1) := by decide +kernel
theorem dX10_book_87 : decode cX10_book 87 = .ok (.getfield 51, 3) := by decide +kernel
theorem dX10_book_90 : decode cX10_book 90 = .ok (.bipush 12, 2) := by decide +kernel
theorem dX10_book_92 : decode cX10_book 92 = .ok (.aload_n 0, 1) := by decide +kernel
theorem dX10_book_93 : decode cX10_book 93 = .ok (.getfield 258, 3) := by decide +kernel
theorem dX10_book_96 : decode cX10_book 96 = .ok (.imul, 1) := by decide +kernel
theorem dX10_book_97 : decode cX10_book 97 = .ok (.iload_n 1, 1) := by decide +kernel
theorem dX10_book_98 : decode cX10_book 98 = .ok (.iadd, 1) := by decide +kernel
theorem dX10_book_99 : decode cX10_book 99 = .ok (.aload_n 0, 1) := by decide +kernel
theorem dX10_book_100 : decode cX10_book 100 = .ok (.iload_n 1, 1) := by decide +kernel
theorem dX10_book_101 : decode cX10_book 101 = .ok (.invokevirtual 261, 3) := by decide +kernel
theorem dX10_book_104 : decode cX10_book 104 = .ok (.iastore, 1) := by decide +kernel
theorem dX10_book_105 : decode cX10_book 105 = .ok (.iinc 1 1, 3) := by decide +kernel
theorem dX10_book_108 : decode cX10_book 108 = .ok (.goto (-32), 3) := by decide +kernel
theorem dX10_book_111 : decode cX10_book 111 = .ok (.aload_n 0, 1) := by decide +kernel
theorem dX10_book_112 : decode cX10_book 112 = .ok (.iconst 0, 1) := by decide +kernel
theorem dX10_book_113 : decode cX10_book 113 = .ok (.putfield 146, 3) := by decide +kernel
theorem dX10_book_116 : decode cX10_book 116 = .ok (.aload_n 0, 1) := by decide +kernel
theorem dX10_book_117 : decode cX10_book 117 = .ok (.dup, 1) := by decide +kernel
theorem dX10_book_118 : decode cX10_book 118 = .ok (.getfield 258, 3) := by decide +kernel
theorem dX10_book_121 : decode cX10_book 121 = .ok (.iconst 1, 1) := by decide +kernel
theorem dX10_book_122 : decode cX10_book 122 = .ok (.iadd, 1) := by decide +kernel
theorem dX10_book_123 : decode cX10_book 123 = .ok (.putfield 258, 3) := by decide +kernel
theorem dX10_book_126 : decode cX10_book 126 = .ok (.aload_n 0, 1) := by decide +kernel
theorem dX10_book_127 : decode cX10_book 127 = .ok (.getfield 258, 3) := by decide +kernel
theorem dX10_book_130 : decode cX10_book 130 = .ok (.iconst 1, 1) := by decide +kernel
theorem dX10_book_131 : decode cX10_book 131 = .ok (.isub, 1) := by decide +kernel
theorem dX10_book_132 : decode cX10_book 132 = .ok (.ireturn, 1) := by decide +kernel
theorem dX10_booked_0 : decode cX10_booked 0 = .ok (.iload_n 1, 1) := by decide +kernel
theorem dX10_booked_1 : decode cX10_booked 1 = .ok (.i2l, 1) := by decide +kernel
theorem dX10_booked_2 : decode cX10_booked 2 = .ok (.lconst 0, 1) := by decide +kernel
theorem dX10_booked_3 : decode cX10_booked 3 = .ok (.aload_n 0, 1) := by decide +kernel
theorem dX10_booked_4 : decode cX10_booked 4 = .ok (.getfield 258, 3) := by decide +kernel
theorem dX10_booked_7 : decode cX10_booked 7 = .ok (.iconst 1, 1) := by decide +kernel
theorem dX10_booked_8 : decode cX10_booked 8 = .ok (.isub, 1) := by decide +kernel
theorem dX10_booked_9 : decode cX10_booked 9 = .ok (.i2l, 1) := by decide +kernel
theorem dX10_booked_10 : decode cX10_booked 10 = .ok (.invokestatic 142, 3) := by decide +kernel
theorem dX10_booked_13 : decode cX10_booked 13 = .ok (.ifCond .ne 5, 3) := by decide +kernel
theorem dX10_booked_16 : decode cX10_booked 16 = .ok (.iconst (-1), 1) := by decide +kernel
theorem dX10_booked_17 : decode cX10_booked 17 = .ok (.ireturn, 1) := by decide +kernel
theorem dX10_booked_18 : decode cX10_booked 18 = .ok (.iload_n 2, 1) := by decide +kernel
theorem dX10_booked_19 : decode cX10_booked 19 = .ok (.i2l, 1) := by decide +kernel
theorem dX10_booked_20 : decode cX10_booked 20 = .ok (.ldc2_w 264, 3) := by decide +kernel
theorem dX10_booked_23 : decode cX10_booked 23 = .ok (.ldc2_w 266, 3) := by decide +kernel
theorem dX10_booked_26 : decode cX10_booked 26 = .ok (.invokestatic 142, 3) := by decide +kernel
theorem dX10_booked_29 : decode cX10_booked 29 = .ok (.ifCond .eq 36, 3) := by decide +kernel
theorem dX10_booked_32 : decode cX10_booked 32 = .ok (.iload_n 2, 1) := by decide +kernel
theorem dX10_booked_33 : decode cX10_booked 33 = .ok (.bipush 10, 2) := by decide +kernel
theorem dX10_booked_35 : decode cX10_booked 35 = .ok (.isub, 1) := by decide +kernel
theorem dX10_booked_36 : decode cX10_booked 36 = .ok (.aload_n 0, 1) := by decide +kernel
theorem dX10_booked_37 : decode cX10_booked 37 = .ok (.getfield 48, 3) := by decide +kernel
theorem dX10_booked_40 : decode cX10_booked 40 = .ok (.iload_n 1, 1) := by decide +kernel
theorem dX10_booked_41 : decode cX10_booked 41 = .ok (.iaload, 1) := by decide +kernel
theorem dX10_booked_42 : decode cX10_booked 42 = .ok (.if_icmp .ge 20, 3) := by decide +kernel
theorem dX10_booked_45 : decode cX10_booked 45 = .ok (.aload_n 0, 1) := by decide +kernel
theorem dX10_booked_46 : decode cX10_booked 46 = .ok (.getfield 51, 3) := by decide +kernel
theorem dX10_booked_49 : decode cX10_booked 49 = .ok (.bipush 12, 2) := by decide +kernel
theorem dX10_booked_51 : decode cX10_booked 51 = .ok (.iload_n 1, 1) := by decide +kernel
theorem dX10_booked_52 : decode cX10_booked 52 = .ok (.imul, 1) := by decide +kernel
theorem dX10_booked_53 : decode cX10_booked 53 = .ok (.iload_n 2, 1) := by decide +kernel
theorem dX10_booked_54 : decode cX10_booked 54 = .ok (.iadd, 1) := by decide +kernel
theorem dX10_booked_55 : decode cX10_booked 55 = .ok (.bipush 10, 2) := by decide +kernel
theorem dX10_booked_57 : decode cX10_booked 57 = .ok (.isub, 1) := by decide +kernel
theorem dX10_booked_58 : decode cX10_booked 58 = .ok (.iaload, 1) := by decide +kernel
theorem dX10_booked_59 : decode cX10_booked 59 = .ok (.goto 5, 3) := by decide +kernel
theorem dX10_booked_62 : decode cX10_booked 62 = .ok (.bipush (-6), 2) := by decide +kernel
theorem dX10_booked_64 : decode cX10_booked 64 = .ok (.ireturn, 1) := by decide +kernel
theorem dX10_booked_65 : decode cX10_booked 65 = .ok (.iload_n 2, 1) := by decide +kernel
theorem dX10_booked_66 : decode cX10_booked 66 = .ok (.ifCond .ne 12, 3) := by decide +kernel
theorem dX10_booked_69 : decode cX10_booked 69 = .ok (.aload_n 0, 1) := by decide +kernel
theorem dX10_booked_70 : decode cX10_booked 70 = .ok (.getfield 48, 3) := by decide +kernel
theorem dX10_booked_73 : decode cX10_booked 73 = .ok (.iload_n 1, 1) := by decide +kernel
theorem dX10_booked_74 : decode cX10_booked 74 = .ok (.iaload, 1) := by decide +kernel
theorem dX10_booked_75 : decode cX10_booked 75 = .ok (.goto 19, 3) := by decide +kernel
theorem dX10_booked_78 : decode cX10_booked 78 = .ok (.iload_n 2, 1) := by decide +kernel
theorem dX10_booked_79 : decode cX10_booked 79 = .ok (.iconst 1, 1) := by decide +kernel
theorem dX10_booked_80 : decode cX10_booked 80 = .ok (.if_icmp .ne 12, 3) := by decide +kernel
theorem dX10_booked_83 : decode cX10_booked 83 = .ok (.aload_n 0, 1) := by decide +kernel
theorem dX10_booked_84 : decode cX10_booked 84 = .ok (.getfield 54, 3) := by decide +kernel
theorem dX10_booked_87 : decode cX10_booked 87 = .ok (.iload_n 1, 1) := by decide +kernel
theorem dX10_booked_88 : decode cX10_booked 88 = .ok (.iaload, 1) := by decide +kernel
theorem dX10_booked_89 : decode cX10_booked 89 = .ok (.goto 5, 3) := by decide +kernel
theorem dX10_booked_92 : decode cX10_booked 92 = .ok (.bipush (-2), 2) := by decide +kernel
theorem dX10_booked_94 : decode cX10_booked 94 = .ok (.ireturn, 1) := by decide +kernel
theorem dX10_beginsSo_0 : decode cX10_beginsSo 0 = .ok (.aload_n 0, 1) := by decide +kernel
theorem dX10_beginsSo_1 : decode cX10_beginsSo 1 = .ok (.getfield 146, 3) := by decide +kernel
theorem dX10_beginsSo_4 : decode cX10_beginsSo 4 = .ok (.iconst 4, 1) := by decide +kernel
theorem dX10_beginsSo_5 : decode cX10_beginsSo 5 = .ok (.idiv, 1) := by decide +kernel
theorem dX10_beginsSo_6 : decode cX10_beginsSo 6 = .ok (.istore_n 2, 1) := by decide +kernel
theorem dX10_beginsSo_7 : decode cX10_beginsSo 7 = .ok (.aload_n 0, 1) := by decide +kernel
theorem dX10_beginsSo_8 : decode cX10_beginsSo 8 = .ok (.getfield 45, 3) := by decide +kernel
theorem dX10_beginsSo_11 : decode cX10_beginsSo 11 = .ok (.iload_n 1, 1) := by decide +kernel
theorem dX10_beginsSo_12 : decode cX10_beginsSo 12 = .ok (.laload, 1) := by decide +kernel
theorem dX10_beginsSo_13 : decode cX10_beginsSo 13 = .ok (.aload_n 0, 1) := by decide +kernel
theorem dX10_beginsSo_14 : decode cX10_beginsSo 14 = .ok (.getfield 69, 3) := by decide +kernel
theorem dX10_beginsSo_17 : decode cX10_beginsSo 17 = .ok (.lcmp, 1) := by decide +kernel
theorem dX10_beginsSo_18 : decode cX10_beginsSo 18 = .ok (.ifCond .ne 17, 3) := by decide +kernel
theorem dX10_beginsSo_21 : decode cX10_beginsSo 21 = .ok (.aload_n 0, 1) := by decide +kernel
theorem dX10_beginsSo_22 : decode cX10_beginsSo 22 = .ok (.getfield 48, 3) := by decide +kernel
theorem dX10_beginsSo_25 : decode cX10_beginsSo 25 = .ok (.iload_n 1, 1) := by decide +kernel
theorem dX10_beginsSo_26 : decode cX10_beginsSo 26 = .ok (.iaload, 1) := by decide +kernel
theorem dX10_beginsSo_27 : decode cX10_beginsSo 27 = .ok (.iload_n 2, 1) := by decide +kernel
theorem dX10_beginsSo_28 : decode cX10_beginsSo 28 = .ok (.if_icmp .lt 7, 3) := by decide +kernel
theorem dX10_beginsSo_31 : decode cX10_beginsSo 31 = .ok (.iconst 1, 1) := by decide +kernel
theorem dX10_beginsSo_32 : decode cX10_beginsSo 32 = .ok (.goto 4, 3) := by decide +kernel
theorem dX10_beginsSo_35 : decode cX10_beginsSo 35 = .ok (.iconst 0, 1) := by decide +kernel
theorem dX10_beginsSo_36 : decode cX10_beginsSo 36 = .ok (.istore_n 3, 1) := by decide +kernel
theorem dX10_beginsSo_37 : decode cX10_beginsSo 37 = .ok (.iconst 0, 1) := by decide +kernel
theorem dX10_beginsSo_38 : decode cX10_beginsSo 38 = .ok (.istore 4, 2) := by decide +kernel
theorem dX10_beginsSo_40 : decode cX10_beginsSo 40 = .ok (.iload 4, 2) := by decide +kernel
theorem dX10_beginsSo_42 : decode cX10_beginsSo 42 = .ok (.iload_n 2, 1) := by decide +kernel
theorem dX10_beginsSo_43 : decode cX10_beginsSo 43 = .ok (.if_icmp .ge 40, 3) := by decide +kernel
theorem dX10_beginsSo_46 : decode cX10_beginsSo 46 = .ok (.iload_n 3, 1) := by decide +kernel
theorem dX10_beginsSo_47 : decode cX10_beginsSo 47 = .ok (.ifCond .eq 36, 3) := by decide +kernel
theorem dX10_beginsSo_50 : decode cX10_beginsSo 50 = .ok (.aload_n 0, 1) := by decide +kernel
theorem dX10_beginsSo_51 : decode cX10_beginsSo 51 = .ok (.getfield 51, 3) := by decide +kernel
theorem dX10_beginsSo_54 : decode cX10_beginsSo 54 = .ok (.bipush 12, 2) := by decide +kernel
theorem dX10_beginsSo_56 : decode cX10_beginsSo 56 = .ok (.iload_n 1, 1) := by decide +kernel
theorem dX10_beginsSo_57 : decode cX10_beginsSo 57 = .ok (.imul, 1) := by decide +kernel
theorem dX10_beginsSo_58 : decode cX10_beginsSo 58 = .ok (.iload 4, 2) := by decide +kernel
theorem dX10_beginsSo_60 : decode cX10_beginsSo 60 = .ok (.iadd, 1) := by decide +kernel
theorem dX10_beginsSo_61 : decode cX10_beginsSo 61 = .ok (.iaload, 1) := by decide +kernel
theorem dX10_beginsSo_62 : decode cX10_beginsSo 62 = .ok (.aload_n 0, 1) := by decide +kernel
theorem dX10_beginsSo_63 : decode cX10_beginsSo 63 = .ok (.iload 4, 2) := by decide +kernel
theorem dX10_beginsSo_65 : decode cX10_beginsSo 65 = .ok (.invokevirtual 261, 3) := by decide +kernel
theorem dX10_beginsSo_68 : decode cX10_beginsSo 68 = .ok (.if_icmp .ne 7, 3) := by decide +kernel
theorem dX10_beginsSo_71 : decode cX10_beginsSo 71 = .ok (.iconst 1, 1) := by decide +kernel
theorem dX10_beginsSo_72 : decode cX10_beginsSo 72 = .ok (.goto 4, 3) := by decide +kernel
theorem dX10_beginsSo_75 : decode cX10_beginsSo 75 = .ok (.iconst 0, 1) := by decide +kernel
theorem dX10_beginsSo_76 : decode cX10_beginsSo 76 = .ok (.istore_n 3, 1) := by decide +kernel
theorem dX10_beginsSo_77 : decode cX10_beginsSo 77 = .ok (.iinc 4 1, 3) := by decide +kernel
theorem dX10_beginsSo_80 : decode cX10_beginsSo 80 = .ok (.goto (-40), 3) := by decide +kernel
theorem dX10_beginsSo_83 : decode cX10_beginsSo 83 = .ok (.iload_n 3, 1) := by decide +kernel
theorem dX10_beginsSo_84 : decode cX10_beginsSo 84 = .ok (.ireturn, 1) := by decide +kernel
theorem dX10_goOnWith_0 : decode cX10_goOnWith 0 = .ok (.iconst 0, 1) := by decide +kernel
theorem dX10_goOnWith_1 : decode cX10_goOnWith 1 = .ok (.istore_n 2, 1) := by decide +kernel
theorem dX10_goOnWith_2 : decode cX10_goOnWith 2 = .ok (.iconst 0, 1) := by decide +kernel
theorem dX10_goOnWith_3 : decode cX10_goOnWith 3 = .ok (.istore_n 3, 1) := by decide +kernel
theorem dX10_goOnWith_4 : decode cX10_goOnWith 4 = .ok (.iload_n 3, 1) := by decide +kernel
theorem dX10_goOnWith_5 : decode cX10_goOnWith 5 = .ok (.aload_n 0, 1) := by decide +kernel
theorem dX10_goOnWith_6 : decode cX10_goOnWith 6 = .ok (.getfield 258, 3) := by decide +kernel
theorem dX10_goOnWith_9 : decode cX10_goOnWith 9 = .ok (.if_icmp .ge 60, 3) := by decide +kernel
theorem dX10_goOnWith_12 : decode cX10_goOnWith 12 = .ok (.iload_n 2, 1) := by decide +kernel
theorem dX10_goOnWith_13 : decode cX10_goOnWith 13 = .ok (.aload_n 0, 1) := by decide +kernel
theorem dX10_goOnWith_14 : decode cX10_goOnWith 14 = .ok (.iload_n 3, 1) := by decide +kernel
theorem dX10_goOnWith_15 : decode cX10_goOnWith 15 = .ok (.invokevirtual 268, 3) := by decide +kernel
theorem dX10_goOnWith_18 : decode cX10_goOnWith 18 = .ok (.ifCond .eq 42, 3) := by decide +kernel
theorem dX10_goOnWith_21 : decode cX10_goOnWith 21 = .ok (.aload_n 0, 1) := by decide +kernel
theorem dX10_goOnWith_22 : decode cX10_goOnWith 22 = .ok (.getfield 48, 3) := by decide +kernel
theorem dX10_goOnWith_25 : decode cX10_goOnWith 25 = .ok (.iload_n 3, 1) := by decide +kernel
theorem dX10_goOnWith_26 : decode cX10_goOnWith 26 = .ok (.iaload, 1) := by decide +kernel
theorem dX10_goOnWith_27 : decode cX10_goOnWith 27 = .ok (.aload_n 0, 1) := by decide +kernel
theorem dX10_goOnWith_28 : decode cX10_goOnWith 28 = .ok (.getfield 146, 3) := by decide +kernel
theorem dX10_goOnWith_31 : decode cX10_goOnWith 31 = .ok (.iconst 4, 1) := by decide +kernel
theorem dX10_goOnWith_32 : decode cX10_goOnWith 32 = .ok (.idiv, 1) := by decide +kernel
theorem dX10_goOnWith_33 : decode cX10_goOnWith 33 = .ok (.if_icmp .le 27, 3) := by decide +kernel
theorem dX10_goOnWith_36 : decode cX10_goOnWith 36 = .ok (.aload_n 0, 1) := by decide +kernel
theorem dX10_goOnWith_37 : decode cX10_goOnWith 37 = .ok (.getfield 51, 3) := by decide +kernel
theorem dX10_goOnWith_40 : decode cX10_goOnWith 40 = .ok (.bipush 12, 2) := by decide +kernel
theorem dX10_goOnWith_42 : decode cX10_goOnWith 42 = .ok (.iload_n 3, 1) := by decide +kernel
theorem dX10_goOnWith_43 : decode cX10_goOnWith 43 = .ok (.imul, 1) := by decide +kernel
theorem dX10_goOnWith_44 : decode cX10_goOnWith 44 = .ok (.aload_n 0, 1) := by decide +kernel
theorem dX10_goOnWith_45 : decode cX10_goOnWith 45 = .ok (.getfield 146, 3) := by decide +kernel
theorem dX10_goOnWith_48 : decode cX10_goOnWith 48 = .ok (.iconst 4, 1) := by decide +kernel
theorem dX10_goOnWith_49 : decode cX10_goOnWith 49 = .ok (.idiv, 1) := by decide +kernel
theorem dX10_goOnWith_50 : decode cX10_goOnWith 50 = .ok (.iadd, 1) := by decide +kernel
theorem dX10_goOnWith_51 : decode cX10_goOnWith 51 = .ok (.iaload, 1) := by decide +kernel
theorem dX10_goOnWith_52 : decode cX10_goOnWith 52 = .ok (.iload_n 1, 1) := by decide +kernel
theorem dX10_goOnWith_53 : decode cX10_goOnWith 53 = .ok (.if_icmp .ne 7, 3) := by decide +kernel
theorem dX10_goOnWith_56 : decode cX10_goOnWith 56 = .ok (.iconst 1, 1) := by decide +kernel
theorem dX10_goOnWith_57 : decode cX10_goOnWith 57 = .ok (.goto 4, 3) := by decide +kernel
theorem dX10_goOnWith_60 : decode cX10_goOnWith 60 = .ok (.iconst 0, 1) := by decide +kernel
theorem dX10_goOnWith_61 : decode cX10_goOnWith 61 = .ok (.iadd, 1) := by decide +kernel
theorem dX10_goOnWith_62 : decode cX10_goOnWith 62 = .ok (.istore_n 2, 1) := by decide +kernel
theorem dX10_goOnWith_63 : decode cX10_goOnWith 63 = .ok (.iinc 3 1, 3) := by decide +kernel
theorem dX10_goOnWith_66 : decode cX10_goOnWith 66 = .ok (.goto (-62), 3) := by decide +kernel
theorem dX10_goOnWith_69 : decode cX10_goOnWith 69 = .ok (.iload_n 2, 1) := by decide +kernel
theorem dX10_goOnWith_70 : decode cX10_goOnWith 70 = .ok (.ireturn, 1) := by decide +kernel
theorem dX10_next_0 : decode cX10_next 0 = .ok (.iload_n 1, 1) := by decide +kernel
theorem dX10_next_1 : decode cX10_next 1 = .ok (.i2l, 1) := by decide +kernel
theorem dX10_next_2 : decode cX10_next 2 = .ok (.lconst 0, 1) := by decide +kernel
theorem dX10_next_3 : decode cX10_next 3 = .ok (.ldc2_w 271, 3) := by decide +kernel
theorem dX10_next_6 : decode cX10_next 6 = .ok (.invokestatic 142, 3) := by decide +kernel
theorem dX10_next_9 : decode cX10_next 9 = .ok (.ifCond .ne 6, 3) := by decide +kernel
theorem dX10_next_12 : decode cX10_next 12 = .ok (.bipush (-2), 2) := by decide +kernel
theorem dX10_next_14 : decode cX10_next 14 = .ok (.ireturn, 1) := by decide +kernel
theorem dX10_next_15 : decode cX10_next 15 = .ok (.aload_n 0, 1) := by decide +kernel
theorem dX10_next_16 : decode cX10_next 16 = .ok (.invokevirtual 170, 3) := by decide +kernel
theorem dX10_next_19 : decode cX10_next 19 = .ok (.ifCond .lt 6, 3) := by decide +kernel
theorem dX10_next_22 : decode cX10_next 22 = .ok (.bipush (-5), 2) := by decide +kernel
theorem dX10_next_24 : decode cX10_next 24 = .ok (.ireturn, 1) := by decide +kernel
theorem dX10_next_25 : decode cX10_next 25 = .ok (.iconst 0, 1) := by decide +kernel
theorem dX10_next_26 : decode cX10_next 26 = .ok (.istore_n 2, 1) := by decide +kernel
theorem dX10_next_27 : decode cX10_next 27 = .ok (.iconst 0, 1) := by decide +kernel
theorem dX10_next_28 : decode cX10_next 28 = .ok (.istore_n 3, 1) := by decide +kernel
theorem dX10_next_29 : decode cX10_next 29 = .ok (.iconst 0, 1) := by decide +kernel
theorem dX10_next_30 : decode cX10_next 30 = .ok (.istore 4, 2) := by decide +kernel
theorem dX10_next_32 : decode cX10_next 32 = .ok (.iconst 0, 1) := by decide +kernel
theorem dX10_next_33 : decode cX10_next 33 = .ok (.istore 5, 2) := by decide +kernel
theorem dX10_next_35 : decode cX10_next 35 = .ok (.iload 5, 2) := by decide +kernel
theorem dX10_next_37 : decode cX10_next 37 = .ok (.aload_n 0, 1) := by decide +kernel
theorem dX10_next_38 : decode cX10_next 38 = .ok (.getfield 258, 3) := by decide +kernel
theorem dX10_next_41 : decode cX10_next 41 = .ok (.if_icmp .ge 80, 3) := by decide +kernel
theorem dX10_next_44 : decode cX10_next 44 = .ok (.aload_n 0, 1) := by decide +kernel
theorem dX10_next_45 : decode cX10_next 45 = .ok (.iload 5, 2) := by decide +kernel
theorem dX10_next_47 : decode cX10_next 47 = .ok (.invokevirtual 268, 3) := by decide +kernel
theorem dX10_next_50 : decode cX10_next 50 = .ok (.istore 6, 2) := by decide +kernel
theorem dX10_next_52 : decode cX10_next 52 = .ok (.iload_n 2, 1) := by decide +kernel
theorem dX10_next_53 : decode cX10_next 53 = .ok (.iload 6, 2) := by decide +kernel
theorem dX10_next_55 : decode cX10_next 55 = .ok (.ifCond .eq 7, 3) := by decide +kernel
theorem dX10_next_58 : decode cX10_next 58 = .ok (.iconst 1, 1) := by decide +kernel
theorem dX10_next_59 : decode cX10_next 59 = .ok (.goto 4, 3) := by decide +kernel
theorem dX10_next_62 : decode cX10_next 62 = .ok (.iconst 0, 1) := by decide +kernel
theorem dX10_next_63 : decode cX10_next 63 = .ok (.iadd, 1) := by decide +kernel
theorem dX10_next_64 : decode cX10_next 64 = .ok (.istore_n 2, 1) := by decide +kernel
theorem dX10_next_65 : decode cX10_next 65 = .ok (.iload_n 3, 1) := by decide +kernel
theorem dX10_next_66 : decode cX10_next 66 = .ok (.iload 6, 2) := by decide +kernel
theorem dX10_next_68 : decode cX10_next 68 = .ok (.ifCond .eq 18, 3) := by decide +kernel
theorem dX10_next_71 : decode cX10_next 71 = .ok (.aload_n 0, 1) := by decide +kernel
theorem dX10_next_72 : decode cX10_next 72 = .ok (.getfield 54, 3) := by decide +kernel
theorem dX10_next_75 : decode cX10_next 75 = .ok (.iload 5, 2) := by decide +kernel
theorem dX10_next_77 : decode cX10_next 77 = .ok (.iaload, 1) := by decide +kernel
theorem dX10_next_78 : decode cX10_next 78 = .ok (.iconst 1, 1) := by decide +kernel
theorem dX10_next_79 : decode cX10_next 79 = .ok (.if_icmp .ne 7, 3) := by decide +kernel
theorem dX10_next_82 : decode cX10_next 82 = .ok (.iconst 1, 1) := by decide +kernel
theorem dX10_next_83 : decode cX10_next 83 = .ok (.goto 4, 3) := by decide +kernel
theorem dX10_next_86 : decode cX10_next 86 = .ok (.iconst 0, 1) := by decide +kernel
theorem dX10_next_87 : decode cX10_next 87 = .ok (.iadd, 1) := by decide +kernel
theorem dX10_next_88 : decode cX10_next 88 = .ok (.istore_n 3, 1) := by decide +kernel
theorem dX10_next_89 : decode cX10_next 89 = .ok (.iload 4, 2) := by decide +kernel
theorem dX10_next_91 : decode cX10_next 91 = .ok (.iload 6, 2) := by decide +kernel
theorem dX10_next_93 : decode cX10_next 93 = .ok (.ifCond .eq 18, 3) := by decide +kernel
theorem dX10_next_96 : decode cX10_next 96 = .ok (.aload_n 0, 1) := by decide +kernel
theorem dX10_next_97 : decode cX10_next 97 = .ok (.getfield 54, 3) := by decide +kernel
theorem dX10_next_100 : decode cX10_next 100 = .ok (.iload 5, 2) := by decide +kernel
theorem dX10_next_102 : decode cX10_next 102 = .ok (.iaload, 1) := by decide +kernel
theorem dX10_next_103 : decode cX10_next 103 = .ok (.iconst 2, 1) := by decide +kernel
theorem dX10_next_104 : decode cX10_next 104 = .ok (.if_icmp .ne 7, 3) := by decide +kernel
theorem dX10_next_107 : decode cX10_next 107 = .ok (.iconst 1, 1) := by decide +kernel
theorem dX10_next_108 : decode cX10_next 108 = .ok (.goto 4, 3) := by decide +kernel
theorem dX10_next_111 : decode cX10_next 111 = .ok (.iconst 0, 1) := by decide +kernel
theorem dX10_next_112 : decode cX10_next 112 = .ok (.iadd, 1) := by decide +kernel
theorem dX10_next_113 : decode cX10_next 113 = .ok (.istore 4, 2) := by decide +kernel
theorem dX10_next_115 : decode cX10_next 115 = .ok (.iinc 5 1, 3) := by decide +kernel
theorem dX10_next_118 : decode cX10_next 118 = .ok (.goto (-83), 3) := by decide +kernel
theorem dX10_next_121 : decode cX10_next 121 = .ok (.bipush (-6), 2) := by decide +kernel
theorem dX10_next_123 : decode cX10_next 123 = .ok (.istore 5, 2) := by decide +kernel
theorem dX10_next_125 : decode cX10_next 125 = .ok (.iconst 0, 1) := by decide +kernel
theorem dX10_next_126 : decode cX10_next 126 = .ok (.istore 6, 2) := by decide +kernel
theorem dX10_next_128 : decode cX10_next 128 = .ok (.iconst 0, 1) := by decide +kernel
theorem dX10_next_129 : decode cX10_next 129 = .ok (.istore 7, 2) := by decide +kernel
theorem dX10_next_131 : decode cX10_next 131 = .ok (.iload 7, 2) := by decide +kernel
theorem dX10_next_133 : decode cX10_next 133 = .ok (.sipush 2500, 3) := by decide +kernel
theorem dX10_next_136 : decode cX10_next 136 = .ok (.if_icmp .ge 32, 3) := by decide +kernel
theorem dX10_next_139 : decode cX10_next 139 = .ok (.aload_n 0, 1) := by decide +kernel
theorem dX10_next_140 : decode cX10_next 140 = .ok (.iload 7, 2) := by decide +kernel
theorem dX10_next_142 : decode cX10_next 142 = .ok (.invokevirtual 273, 3) := by decide +kernel
theorem dX10_next_145 : decode cX10_next 145 = .ok (.istore 8, 2) := by decide +kernel
theorem dX10_next_147 : decode cX10_next 147 = .ok (.iload 8, 2) := by decide +kernel
theorem dX10_next_149 : decode cX10_next 149 = .ok (.iload 6, 2) := by decide +kernel
theorem dX10_next_151 : decode cX10_next 151 = .ok (.if_icmp .le 11, 3) := by decide +kernel
theorem dX10_next_154 : decode cX10_next 154 = .ok (.iload 7, 2) := by decide +kernel
theorem dX10_next_156 : decode cX10_next 156 = .ok (.istore 5, 2) := by decide +kernel
theorem dX10_next_158 : decode cX10_next 158 = .ok (.iload 8, 2) := by decide +kernel
theorem dX10_next_160 : decode cX10_next 160 = .ok (.istore 6, 2) := by decide +kernel
theorem dX10_next_162 : decode cX10_next 162 = .ok (.iinc 7 1, 3) := by decide +kernel
theorem dX10_next_165 : decode cX10_next 165 = .ok (.goto (-34), 3) := by decide +kernel
theorem dX10_next_168 : decode cX10_next 168 = .ok (.iload_n 1, 1) := by decide +kernel
theorem dX10_next_169 : decode cX10_next 169 = .ok (.ifCond .ne 7, 3) := by decide +kernel
theorem dX10_next_172 : decode cX10_next 172 = .ok (.iload_n 2, 1) := by decide +kernel
theorem dX10_next_173 : decode cX10_next 173 = .ok (.goto 34, 3) := by decide +kernel
theorem dX10_next_176 : decode cX10_next 176 = .ok (.iload_n 1, 1) := by decide +kernel
theorem dX10_next_177 : decode cX10_next 177 = .ok (.iconst 1, 1) := by decide +kernel
theorem dX10_next_178 : decode cX10_next 178 = .ok (.if_icmp .ne 7, 3) := by decide +kernel
theorem dX10_next_181 : decode cX10_next 181 = .ok (.iload_n 3, 1) := by decide +kernel
theorem dX10_next_182 : decode cX10_next 182 = .ok (.goto 25, 3) := by decide +kernel
theorem dX10_next_185 : decode cX10_next 185 = .ok (.iload_n 1, 1) := by decide +kernel
theorem dX10_next_186 : decode cX10_next 186 = .ok (.iconst 2, 1) := by decide +kernel
theorem dX10_next_187 : decode cX10_next 187 = .ok (.if_icmp .ne 8, 3) := by decide +kernel
theorem dX10_next_190 : decode cX10_next 190 = .ok (.iload 4, 2) := by decide +kernel
theorem dX10_next_192 : decode cX10_next 192 = .ok (.goto 15, 3) := by decide +kernel
theorem dX10_next_195 : decode cX10_next 195 = .ok (.iload_n 1, 1) := by decide +kernel
theorem dX10_next_196 : decode cX10_next 196 = .ok (.iconst 3, 1) := by decide +kernel
theorem dX10_next_197 : decode cX10_next 197 = .ok (.if_icmp .ne 8, 3) := by decide +kernel
theorem dX10_next_200 : decode cX10_next 200 = .ok (.iload 5, 2) := by decide +kernel
theorem dX10_next_202 : decode cX10_next 202 = .ok (.goto 5, 3) := by decide +kernel
theorem dX10_next_205 : decode cX10_next 205 = .ok (.iload 6, 2) := by decide +kernel
theorem dX10_next_207 : decode cX10_next 207 = .ok (.ireturn, 1) := by decide +kernel
theorem dX10_drawn_0 : decode cX10_drawn 0 = .ok (.iload_n 1, 1) := by decide +kernel
theorem dX10_drawn_1 : decode cX10_drawn 1 = .ok (.i2l, 1) := by decide +kernel
theorem dX10_drawn_2 : decode cX10_drawn 2 = .ok (.lconst 0, 1) := by decide +kernel
theorem dX10_drawn_3 : decode cX10_drawn 3 = .ok (.ldc2_w 276, 3) := by decide +kernel
theorem dX10_drawn_6 : decode cX10_drawn 6 = .ok (.invokestatic 142, 3) := by decide +kernel
theorem dX10_drawn_9 : decode cX10_drawn 9 = .ok (.ifCond .eq 13, 3) := by decide +kernel
theorem dX10_drawn_12 : decode cX10_drawn 12 = .ok (.iload_n 2, 1) := by decide +kernel
theorem dX10_drawn_13 : decode cX10_drawn 13 = .ok (.i2l, 1) := by decide +kernel
theorem dX10_drawn_14 : decode cX10_drawn 14 = .ok (.lconst 0, 1) := by decide +kernel
theorem dX10_drawn_15 : decode cX10_drawn 15 = .ok (.lconst 1, 1) := by decide +kernel
theorem dX10_drawn_16 : decode cX10_drawn 16 = .ok (.invokestatic 142, 3) := by decide +kernel
theorem dX10_drawn_19 : decode cX10_drawn 19 = .ok (.ifCond .ne 6, 3) := by decide +kernel
theorem dX10_drawn_22 : decode cX10_drawn 22 = .ok (.bipush (-2), 2) := by decide +kernel
theorem dX10_drawn_24 : decode cX10_drawn 24 = .ok (.ireturn, 1) := by decide +kernel
theorem dX10_drawn_25 : decode cX10_drawn 25 = .ok (.aload_n 0, 1) := by decide +kernel
theorem dX10_drawn_26 : decode cX10_drawn 26 = .ok (.getfield 69, 3) := by decide +kernel
theorem dX10_drawn_29 : decode cX10_drawn 29 = .ok (.lstore_n 3, 1) := by decide +kernel
theorem dX10_drawn_30 : decode cX10_drawn 30 = .ok (.iload_n 1, 1) := by decide +kernel
theorem dX10_drawn_31 : decode cX10_drawn 31 = .ok (.istore 5, 2) := by decide +kernel
theorem dX10_drawn_33 : decode cX10_drawn 33 = .ok (.iconst 0, 1) := by decide +kernel
theorem dX10_drawn_34 : decode cX10_drawn 34 = .ok (.istore 6, 2) := by decide +kernel
theorem dX10_drawn_36 : decode cX10_drawn 36 = .ok (.iload 6, 2) := by decide +kernel
theorem dX10_drawn_38 : decode cX10_drawn 38 = .ok (.bipush 60, 2) := by decide +kernel
theorem dX10_drawn_40 : decode cX10_drawn 40 = .ok (.if_icmp .ge 68, 3) := by decide +kernel
theorem dX10_drawn_43 : decode cX10_drawn 43 = .ok (.aload_n 0, 1) := by decide +kernel
theorem dX10_drawn_44 : decode cX10_drawn 44 = .ok (.lload_n 3, 1) := by decide +kernel
theorem dX10_drawn_45 : decode cX10_drawn 45 = .ok (.invokevirtual 135, 3) := by decide +kernel
theorem dX10_drawn_48 : decode cX10_drawn 48 = .ok (.ifCond .ne 60, 3) := by decide +kernel
theorem dX10_drawn_51 : decode cX10_drawn 51 = .ok (.aload_n 0, 1) := by decide +kernel
theorem dX10_drawn_52 : decode cX10_drawn 52 = .ok (.lload_n 3, 1) := by decide +kernel
theorem dX10_drawn_53 : decode cX10_drawn 53 = .ok (.invokevirtual 213, 3) := by decide +kernel
theorem dX10_drawn_56 : decode cX10_drawn 56 = .ok (.ldc2_w 278, 3) := by decide +kernel
theorem dX10_drawn_59 : decode cX10_drawn 59 = .ok (.iload 5, 2) := by decide +kernel
theorem dX10_drawn_61 : decode cX10_drawn 61 = .ok (.i2l, 1) := by decide +kernel
theorem dX10_drawn_62 : decode cX10_drawn 62 = .ok (.lmul, 1) := by decide +kernel
theorem dX10_drawn_63 : decode cX10_drawn 63 = .ok (.ldc2_w 280, 3) := by decide +kernel
theorem dX10_drawn_66 : decode cX10_drawn 66 = .ok (.ladd, 1) := by decide +kernel
theorem dX10_drawn_67 : decode cX10_drawn 67 = .ok (.ldc2_w 282, 3) := by decide +kernel
theorem dX10_drawn_70 : decode cX10_drawn 70 = .ok (.lrem, 1) := by decide +kernel
theorem dX10_drawn_71 : decode cX10_drawn 71 = .ok (.l2i, 1) := by decide +kernel
theorem dX10_drawn_72 : decode cX10_drawn 72 = .ok (.istore 5, 2) := by decide +kernel
theorem dX10_drawn_74 : decode cX10_drawn 74 = .ok (.iload 5, 2) := by decide +kernel
theorem dX10_drawn_76 : decode cX10_drawn 76 = .ok (.aload_n 0, 1) := by decide +kernel
theorem dX10_drawn_77 : decode cX10_drawn 77 = .ok (.getfield 132, 3) := by decide +kernel
theorem dX10_drawn_80 : decode cX10_drawn 80 = .ok (.irem, 1) := by decide +kernel
theorem dX10_drawn_81 : decode cX10_drawn 81 = .ok (.istore 7, 2) := by decide +kernel
theorem dX10_drawn_83 : decode cX10_drawn 83 = .ok (.lload_n 3, 1) := by decide +kernel
theorem dX10_drawn_84 : decode cX10_drawn 84 = .ok (.aload_n 0, 1) := by decide +kernel
theorem dX10_drawn_85 : decode cX10_drawn 85 = .ok (.getfield 7, 3) := by decide +kernel
theorem dX10_drawn_88 : decode cX10_drawn 88 = .ok (.iload 7, 2) := by decide +kernel
theorem dX10_drawn_90 : decode cX10_drawn 90 = .ok (.iaload, 1) := by decide +kernel
theorem dX10_drawn_91 : decode cX10_drawn 91 = .ok (.aload_n 0, 1) := by decide +kernel
theorem dX10_drawn_92 : decode cX10_drawn 92 = .ok (.getfield 13, 3) := by decide +kernel
theorem dX10_drawn_95 : decode cX10_drawn 95 = .ok (.iload 7, 2) := by decide +kernel
theorem dX10_drawn_97 : decode cX10_drawn 97 = .ok (.iaload, 1) := by decide +kernel
theorem dX10_drawn_98 : decode cX10_drawn 98 = .ok (.invokestatic 205, 3) := by decide +kernel
theorem dX10_drawn_101 : decode cX10_drawn 101 = .ok (.lstore_n 3, 1) := by decide +kernel
theorem dX10_drawn_102 : decode cX10_drawn 102 = .ok (.iinc 6 1, 3) := by decide +kernel
theorem dX10_drawn_105 : decode cX10_drawn 105 = .ok (.goto (-69), 3) := by decide +kernel
theorem dX10_drawn_108 : decode cX10_drawn 108 = .ok (.iload_n 2, 1) := by decide +kernel
theorem dX10_drawn_109 : decode cX10_drawn 109 = .ok (.ifCond .ne 11, 3) := by decide +kernel
theorem dX10_drawn_112 : decode cX10_drawn 112 = .ok (.aload_n 0, 1) := by decide +kernel
theorem dX10_drawn_113 : decode cX10_drawn 113 = .ok (.lload_n 3, 1) := by decide +kernel
theorem dX10_drawn_114 : decode cX10_drawn 114 = .ok (.invokevirtual 135, 3) := by decide +kernel
theorem dX10_drawn_117 : decode cX10_drawn 117 = .ok (.goto 5, 3) := by decide +kernel
theorem dX10_drawn_120 : decode cX10_drawn 120 = .ok (.iload 6, 2) := by decide +kernel
theorem dX10_drawn_122 : decode cX10_drawn 122 = .ok (.ireturn, 1) := by decide +kernel
theorem dX10_mirrored_0 : decode cX10_mirrored 0 = .ok (.lload_n 0, 1) := by decide +kernel
theorem dX10_mirrored_1 : decode cX10_mirrored 1 = .ok (.lstore_n 3, 1) := by decide +kernel
theorem dX10_mirrored_2 : decode cX10_mirrored 2 = .ok (.iconst 0, 1) := by decide +kernel
theorem dX10_mirrored_3 : decode cX10_mirrored 3 = .ok (.istore 5, 2) := by decide +kernel
theorem dX10_mirrored_5 : decode cX10_mirrored 5 = .ok (.iload 5, 2) := by decide +kernel
theorem dX10_mirrored_7 : decode cX10_mirrored 7 = .ok (.bipush 6, 2) := by decide +kernel
theorem dX10_mirrored_9 : decode cX10_mirrored 9 = .ok (.if_icmp .ge 88, 3) := by decide +kernel
theorem dX10_mirrored_12 : decode cX10_mirrored 12 = .ok (.lload_n 0, 1) := by decide +kernel
theorem dX10_mirrored_13 : decode cX10_mirrored 13 = .ok (.iload 5, 2) := by decide +kernel
theorem dX10_mirrored_15 : decode cX10_mirrored 15 = .ok (.invokestatic 91, 3) := by decide +kernel
theorem dX10_mirrored_18 : decode cX10_mirrored 18 = .ok (.istore 6, 2) := by decide +kernel
theorem dX10_mirrored_20 : decode cX10_mirrored 20 = .ok (.iload 6, 2) := by decide +kernel
theorem dX10_mirrored_22 : decode cX10_mirrored 22 = .ok (.bipush 31, 2) := by decide +kernel
theorem dX10_mirrored_24 : decode cX10_mirrored 24 = .ok (.if_icmp .eq 67, 3) := by decide +kernel
theorem dX10_mirrored_27 : decode cX10_mirrored 27 = .ok (.iload_n 2, 1) := by decide +kernel
theorem dX10_mirrored_28 : decode cX10_mirrored 28 = .ok (.iconst 1, 1) := by decide +kernel
theorem dX10_mirrored_29 : decode cX10_mirrored 29 = .ok (.iand, 1) := by decide +kernel
theorem dX10_mirrored_30 : decode cX10_mirrored 30 = .ok (.iconst 1, 1) := by decide +kernel
theorem dX10_mirrored_31 : decode cX10_mirrored 31 = .ok (.if_icmp .ne 12, 3) := by decide +kernel
theorem dX10_mirrored_34 : decode cX10_mirrored 34 = .ok (.iconst 4, 1) := by decide +kernel
theorem dX10_mirrored_35 : decode cX10_mirrored 35 = .ok (.iload 6, 2) := by decide +kernel
theorem dX10_mirrored_37 : decode cX10_mirrored 37 = .ok (.iconst 5, 1) := by decide +kernel
theorem dX10_mirrored_38 : decode cX10_mirrored 38 = .ok (.irem, 1) := by decide +kernel
theorem dX10_mirrored_39 : decode cX10_mirrored 39 = .ok (.isub, 1) := by decide +kernel
theorem dX10_mirrored_40 : decode cX10_mirrored 40 = .ok (.goto 7, 3) := by decide +kernel
theorem dX10_mirrored_43 : decode cX10_mirrored 43 = .ok (.iload 6, 2) := by decide +kernel
theorem dX10_mirrored_45 : decode cX10_mirrored 45 = .ok (.iconst 5, 1) := by decide +kernel
theorem dX10_mirrored_46 : decode cX10_mirrored 46 = .ok (.irem, 1) := by decide +kernel
theorem dX10_mirrored_47 : decode cX10_mirrored 47 = .ok (.istore 7, 2) := by decide +kernel
theorem dX10_mirrored_49 : decode cX10_mirrored 49 = .ok (.iload_n 2, 1) := by decide +kernel
theorem dX10_mirrored_50 : decode cX10_mirrored 50 = .ok (.iconst 2, 1) := by decide +kernel
theorem dX10_mirrored_51 : decode cX10_mirrored 51 = .ok (.iand, 1) := by decide +kernel
theorem dX10_mirrored_52 : decode cX10_mirrored 52 = .ok (.iconst 2, 1) := by decide +kernel
theorem dX10_mirrored_53 : decode cX10_mirrored 53 = .ok (.if_icmp .ne 12, 3) := by decide +kernel
theorem dX10_mirrored_56 : decode cX10_mirrored 56 = .ok (.iconst 4, 1) := by decide +kernel
theorem dX10_mirrored_57 : decode cX10_mirrored 57 = .ok (.iload 6, 2) := by decide +kernel
theorem dX10_mirrored_59 : decode cX10_mirrored 59 = .ok (.iconst 5, 1) := by decide +kernel
theorem dX10_mirrored_60 : decode cX10_mirrored 60 = .ok (.idiv, 1) := by decide +kernel
theorem dX10_mirrored_61 : decode cX10_mirrored 61 = .ok (.isub, 1) := by decide +kernel
theorem dX10_mirrored_62 : decode cX10_mirrored 62 = .ok (.goto 7, 3) := by decide +kernel
theorem dX10_mirrored_65 : decode cX10_mirrored 65 = .ok (.iload 6, 2) := by decide +kernel
theorem dX10_mirrored_67 : decode cX10_mirrored 67 = .ok (.iconst 5, 1) := by decide +kernel
theorem dX10_mirrored_68 : decode cX10_mirrored 68 = .ok (.idiv, 1) := by decide +kernel
theorem dX10_mirrored_69 : decode cX10_mirrored 69 = .ok (.istore 8, 2) := by decide +kernel
theorem dX10_mirrored_71 : decode cX10_mirrored 71 = .ok (.lload_n 3, 1) := by decide +kernel
theorem dX10_mirrored_72 : decode cX10_mirrored 72 = .ok (.iload 5, 2) := by decide +kernel
theorem dX10_mirrored_74 : decode cX10_mirrored 74 = .ok (.iload 7, 2) := by decide +kernel
theorem dX10_mirrored_76 : decode cX10_mirrored 76 = .ok (.iconst 5, 1) := by decide +kernel
theorem dX10_mirrored_77 : decode cX10_mirrored 77 = .ok (.iload 8, 2) := by decide +kernel
theorem dX10_mirrored_79 : decode cX10_mirrored 79 = .ok (.imul, 1) := by decide +kernel
theorem dX10_mirrored_80 : decode cX10_mirrored 80 = .ok (.iadd, 1) := by decide +kernel
theorem dX10_mirrored_81 : decode cX10_mirrored 81 = .ok (.lload_n 0, 1) := by decide +kernel
theorem dX10_mirrored_82 : decode cX10_mirrored 82 = .ok (.iload 5, 2) := by decide +kernel
theorem dX10_mirrored_84 : decode cX10_mirrored 84 = .ok (.invokestatic 95, 3) := by decide +kernel
theorem dX10_mirrored_87 : decode cX10_mirrored 87 = .ok (.invokestatic 73, 3) := by decide +kernel
theorem dX10_mirrored_90 : decode cX10_mirrored 90 = .ok (.lstore_n 3, 1) := by decide +kernel
theorem dX10_mirrored_91 : decode cX10_mirrored 91 = .ok (.iinc 5 1, 3) := by decide +kernel
theorem dX10_mirrored_94 : decode cX10_mirrored 94 = .ok (.goto (-89), 3) := by decide +kernel
theorem dX10_mirrored_97 : decode cX10_mirrored 97 = .ok (.lload_n 3, 1) := by decide +kernel
theorem dX10_mirrored_98 : decode cX10_mirrored 98 = .ok (.lreturn, 1) := by decide +kernel
theorem dX10_mirror_0 : decode cX10_mirror 0 = .ok (.iload_n 1, 1) := by decide +kernel
theorem dX10_mirror_1 : decode cX10_mirror 1 = .ok (.i2l, 1) := by decide +kernel
theorem dX10_mirror_2 : decode cX10_mirror 2 = .ok (.lconst 1, 1) := by decide +kernel
theorem dX10_mirror_3 : decode cX10_mirror 3 = .ok (.ldc2_w 284, 3) := by decide +kernel
theorem dX10_mirror_6 : decode cX10_mirror 6 = .ok (.invokestatic 142, 3) := by decide +kernel
theorem dX10_mirror_9 : decode cX10_mirror 9 = .ok (.ifCond .ne 6, 3) := by decide +kernel
theorem dX10_mirror_12 : decode cX10_mirror 12 = .ok (.bipush (-2), 2) := by decide +kernel
theorem dX10_mirror_14 : decode cX10_mirror 14 = .ok (.ireturn, 1) := by decide +kernel
theorem dX10_mirror_15 : decode cX10_mirror 15 = .ok (.aload_n 0, 1) := by decide +kernel
theorem dX10_mirror_16 : decode cX10_mirror 16 = .ok (.aload_n 0, 1) := by decide +kernel
theorem dX10_mirror_17 : decode cX10_mirror 17 = .ok (.getfield 69, 3) := by decide +kernel
theorem dX10_mirror_20 : decode cX10_mirror 20 = .ok (.iload_n 1, 1) := by decide +kernel
theorem dX10_mirror_21 : decode cX10_mirror 21 = .ok (.invokestatic 286, 3) := by decide +kernel
theorem dX10_mirror_24 : decode cX10_mirror 24 = .ok (.putfield 69, 3) := by decide +kernel
theorem dX10_mirror_27 : decode cX10_mirror 27 = .ok (.aload_n 0, 1) := by decide +kernel
theorem dX10_mirror_28 : decode cX10_mirror 28 = .ok (.getfield 69, 3) := by decide +kernel
theorem dX10_mirror_31 : decode cX10_mirror 31 = .ok (.invokestatic 173, 3) := by decide +kernel
theorem dX10_mirror_34 : decode cX10_mirror 34 = .ok (.ireturn, 1) := by decide +kernel
theorem dX10_like_0 : decode cX10_like 0 = .ok (.aload_n 0, 1) := by decide +kernel
theorem dX10_like_1 : decode cX10_like 1 = .ok (.invokevirtual 166, 3) := by decide +kernel
theorem dX10_like_4 : decode cX10_like 4 = .ok (.ifCond .lt 6, 3) := by decide +kernel
theorem dX10_like_7 : decode cX10_like 7 = .ok (.bipush (-5), 2) := by decide +kernel
theorem dX10_like_9 : decode cX10_like 9 = .ok (.ireturn, 1) := by decide +kernel
theorem dX10_like_10 : decode cX10_like 10 = .ok (.iconst 0, 1) := by decide +kernel
theorem dX10_like_11 : decode cX10_like 11 = .ok (.istore_n 1, 1) := by decide +kernel
theorem dX10_like_12 : decode cX10_like 12 = .ok (.iconst 0, 1) := by decide +kernel
theorem dX10_like_13 : decode cX10_like 13 = .ok (.istore_n 2, 1) := by decide +kernel
theorem dX10_like_14 : decode cX10_like 14 = .ok (.iload_n 2, 1) := by decide +kernel
theorem dX10_like_15 : decode cX10_like 15 = .ok (.iconst 4, 1) := by decide +kernel
theorem dX10_like_16 : decode cX10_like 16 = .ok (.if_icmp .ge 35, 3) := by decide +kernel
theorem dX10_like_19 : decode cX10_like 19 = .ok (.iload_n 1, 1) := by decide +kernel
theorem dX10_like_20 : decode cX10_like 20 = .ok (.aload_n 0, 1) := by decide +kernel
theorem dX10_like_21 : decode cX10_like 21 = .ok (.getfield 69, 3) := by decide +kernel
theorem dX10_like_24 : decode cX10_like 24 = .ok (.iload_n 2, 1) := by decide +kernel
theorem dX10_like_25 : decode cX10_like 25 = .ok (.invokestatic 286, 3) := by decide +kernel
theorem dX10_like_28 : decode cX10_like 28 = .ok (.aload_n 0, 1) := by decide +kernel
theorem dX10_like_29 : decode cX10_like 29 = .ok (.getfield 149, 3) := by decide +kernel
theorem dX10_like_32 : decode cX10_like 32 = .ok (.lcmp, 1) := by decide +kernel
theorem dX10_like_33 : decode cX10_like 33 = .ok (.ifCond .ne 9, 3) := by decide +kernel
theorem dX10_like_36 : decode cX10_like 36 = .ok (.iconst 1, 1) := by decide +kernel
theorem dX10_like_37 : decode cX10_like 37 = .ok (.iload_n 2, 1) := by decide +kernel
theorem dX10_like_38 : decode cX10_like 38 = .ok (.ishl, 1) := by decide +kernel
theorem dX10_like_39 : decode cX10_like 39 = .ok (.goto 4, 3) := by decide +kernel
theorem dX10_like_42 : decode cX10_like 42 = .ok (.iconst 0, 1) := by decide +kernel
theorem dX10_like_43 : decode cX10_like 43 = .ok (.ior, 1) := by decide +kernel
theorem dX10_like_44 : decode cX10_like 44 = .ok (.istore_n 1, 1) := by decide +kernel
theorem dX10_like_45 : decode cX10_like 45 = .ok (.iinc 2 1, 3) := by decide +kernel
theorem dX10_like_48 : decode cX10_like 48 = .ok (.goto (-34), 3) := by decide +kernel
theorem dX10_like_51 : decode cX10_like 51 = .ok (.iload_n 1, 1) := by decide +kernel
theorem dX10_like_52 : decode cX10_like 52 = .ok (.ireturn, 1) := by decide +kernel
theorem dX10_pass_0 : decode cX10_pass 0 = .ok (.aload_n 0, 1) := by decide +kernel
theorem dX10_pass_1 : decode cX10_pass 1 = .ok (.getfield 290, 3) := by decide +kernel
theorem dX10_pass_4 : decode cX10_pass 4 = .ok (.ifCond .eq 7, 3) := by decide +kernel
theorem dX10_pass_7 : decode cX10_pass 7 = .ok (.iload_n 1, 1) := by decide +kernel
theorem dX10_pass_8 : decode cX10_pass 8 = .ok (.goto 12, 3) := by decide +kernel
theorem dX10_pass_11 : decode cX10_pass 11 = .ok (.aload_n 0, 1) := by decide +kernel
theorem dX10_pass_12 : decode cX10_pass 12 = .ok (.getfield 60, 3) := by decide +kernel
theorem dX10_pass_15 : decode cX10_pass 15 = .ok (.aload_n 0, 1) := by decide +kernel
theorem dX10_pass_16 : decode cX10_pass 16 = .ok (.getfield 294, 3) := by decide +kernel
theorem dX10_pass_19 : decode cX10_pass 19 = .ok (.iaload, 1) := by decide +kernel
theorem dX10_pass_20 : decode cX10_pass 20 = .ok (.istore_n 2, 1) := by decide +kernel
theorem dX10_pass_21 : decode cX10_pass 21 = .ok (.aload_n 0, 1) := by decide +kernel
theorem dX10_pass_22 : decode cX10_pass 22 = .ok (.getfield 60, 3) := by decide +kernel
theorem dX10_pass_25 : decode cX10_pass 25 = .ok (.aload_n 0, 1) := by decide +kernel
theorem dX10_pass_26 : decode cX10_pass 26 = .ok (.getfield 294, 3) := by decide +kernel
theorem dX10_pass_29 : decode cX10_pass 29 = .ok (.iload_n 2, 1) := by decide +kernel
theorem dX10_pass_30 : decode cX10_pass 30 = .ok (.iastore, 1) := by decide +kernel
theorem dX10_pass_31 : decode cX10_pass 31 = .ok (.aload_n 0, 1) := by decide +kernel
theorem dX10_pass_32 : decode cX10_pass 32 = .ok (.dup, 1) := by decide +kernel
theorem dX10_pass_33 : decode cX10_pass 33 = .ok (.getfield 294, 3) := by decide +kernel
theorem dX10_pass_36 : decode cX10_pass 36 = .ok (.iconst 1, 1) := by decide +kernel
theorem dX10_pass_37 : decode cX10_pass 37 = .ok (.iadd, 1) := by decide +kernel
theorem dX10_pass_38 : decode cX10_pass 38 = .ok (.putfield 294, 3) := by decide +kernel
theorem dX10_pass_41 : decode cX10_pass 41 = .ok (.iload_n 2, 1) := by decide +kernel
theorem dX10_pass_42 : decode cX10_pass 42 = .ok (.ireturn, 1) := by decide +kernel
theorem dX10_passAll_0 : decode cX10_passAll 0 = .ok (.aload_n 0, 1) := by decide +kernel
theorem dX10_passAll_1 : decode cX10_passAll 1 = .ok (.bipush 120, 2) := by decide +kernel
theorem dX10_passAll_3 : decode cX10_passAll 3 = .ok (.iload_n 1, 1) := by decide +kernel
theorem dX10_passAll_4 : decode cX10_passAll 4 = .ok (.imul, 1) := by decide +kernel
theorem dX10_passAll_5 : decode cX10_passAll 5 = .ok (.putfield 294, 3) := by decide +kernel
theorem dX10_passAll_8 : decode cX10_passAll 8 = .ok (.aload_n 0, 1) := by decide +kernel
theorem dX10_passAll_9 : decode cX10_passAll 9 = .ok (.aload_n 0, 1) := by decide +kernel
theorem dX10_passAll_10 : decode cX10_passAll 10 = .ok (.aload_n 0, 1) := by decide +kernel
theorem dX10_passAll_11 : decode cX10_passAll 11 = .ok (.getfield 77, 3) := by decide +kernel
theorem dX10_passAll_14 : decode cX10_passAll 14 = .ok (.invokevirtual 297, 3) := by decide +kernel
theorem dX10_passAll_17 : decode cX10_passAll 17 = .ok (.putfield 77, 3) := by decide +kernel
theorem dX10_passAll_20 : decode cX10_passAll 20 = .ok (.aload_n 0, 1) := by decide +kernel
theorem dX10_passAll_21 : decode cX10_passAll 21 = .ok (.aload_n 0, 1) := by decide +kernel
theorem dX10_passAll_22 : decode cX10_passAll 22 = .ok (.aload_n 0, 1) := by decide +kernel
theorem dX10_passAll_23 : decode cX10_passAll 23 = .ok (.getfield 81, 3) := by decide +kernel
theorem dX10_passAll_26 : decode cX10_passAll 26 = .ok (.invokevirtual 297, 3) := by decide +kernel
theorem dX10_passAll_29 : decode cX10_passAll 29 = .ok (.putfield 81, 3) := by decide +kernel
theorem dX10_passAll_32 : decode cX10_passAll 32 = .ok (.aload_n 0, 1) := by decide +kernel
theorem dX10_passAll_33 : decode cX10_passAll 33 = .ok (.aload_n 0, 1) := by decide +kernel
theorem dX10_passAll_34 : decode cX10_passAll 34 = .ok (.aload_n 0, 1) := by decide +kernel
theorem dX10_passAll_35 : decode cX10_passAll 35 = .ok (.getfield 84, 3) := by decide +kernel
theorem dX10_passAll_38 : decode cX10_passAll 38 = .ok (.invokevirtual 297, 3) := by decide +kernel
theorem dX10_passAll_41 : decode cX10_passAll 41 = .ok (.putfield 84, 3) := by decide +kernel
theorem dX10_passAll_44 : decode cX10_passAll 44 = .ok (.aload_n 0, 1) := by decide +kernel
theorem dX10_passAll_45 : decode cX10_passAll 45 = .ok (.aload_n 0, 1) := by decide +kernel
theorem dX10_passAll_46 : decode cX10_passAll 46 = .ok (.aload_n 0, 1) := by decide +kernel
theorem dX10_passAll_47 : decode cX10_passAll 47 = .ok (.getfield 258, 3) := by decide +kernel
theorem dX10_passAll_50 : decode cX10_passAll 50 = .ok (.invokevirtual 297, 3) := by decide +kernel
theorem dX10_passAll_53 : decode cX10_passAll 53 = .ok (.putfield 258, 3) := by decide +kernel
theorem dX10_passAll_56 : decode cX10_passAll 56 = .ok (.iconst 0, 1) := by decide +kernel
theorem dX10_passAll_57 : decode cX10_passAll 57 = .ok (.istore_n 2, 1) := by decide +kernel
theorem dX10_passAll_58 : decode cX10_passAll 58 = .ok (.iload_n 2, 1) := by decide +kernel
theorem dX10_passAll_59 : decode cX10_passAll 59 = .ok (.bipush 8, 2) := by decide +kernel
theorem dX10_passAll_61 : decode cX10_passAll 61 = .ok (.if_icmp .ge 88, 3) := by decide +kernel
theorem dX10_passAll_64 : decode cX10_passAll 64 = .ok (.aload_n 0, 1) := by decide +kernel
theorem dX10_passAll_65 : decode cX10_passAll 65 = .ok (.getfield 48, 3) := by decide +kernel
theorem dX10_passAll_68 : decode cX10_passAll 68 = .ok (.iload_n 2, 1) := by decide +kernel
theorem dX10_passAll_69 : decode cX10_passAll 69 = .ok (.aload_n 0, 1) := by decide +kernel
theorem dX10_passAll_70 : decode cX10_passAll 70 = .ok (.aload_n 0, 1) := by decide +kernel
theorem dX10_passAll_71 : decode cX10_passAll 71 = .ok (.getfield 48, 3) := by decide +kernel
theorem dX10_passAll_74 : decode cX10_passAll 74 = .ok (.iload_n 2, 1) := by decide +kernel
theorem dX10_passAll_75 : decode cX10_passAll 75 = .ok (.iaload, 1) := by decide +kernel
theorem dX10_passAll_76 : decode cX10_passAll 76 = .ok (.invokevirtual 297, 3) := by decide +kernel
theorem dX10_passAll_79 : decode cX10_passAll 79 = .ok (.iastore, 1) := by decide +kernel
theorem dX10_passAll_80 : decode cX10_passAll 80 = .ok (.aload_n 0, 1) := by decide +kernel
theorem dX10_passAll_81 : decode cX10_passAll 81 = .ok (.getfield 54, 3) := by decide +kernel
theorem dX10_passAll_84 : decode cX10_passAll 84 = .ok (.iload_n 2, 1) := by decide +kernel
theorem dX10_passAll_85 : decode cX10_passAll 85 = .ok (.aload_n 0, 1) := by decide +kernel
theorem dX10_passAll_86 : decode cX10_passAll 86 = .ok (.aload_n 0, 1) := by decide +kernel
theorem dX10_passAll_87 : decode cX10_passAll 87 = .ok (.getfield 54, 3) := by decide +kernel
theorem dX10_passAll_90 : decode cX10_passAll 90 = .ok (.iload_n 2, 1) := by decide +kernel
theorem dX10_passAll_91 : decode cX10_passAll 91 = .ok (.iaload, 1) := by decide +kernel
theorem dX10_passAll_92 : decode cX10_passAll 92 = .ok (.invokevirtual 297, 3) := by decide +kernel
theorem dX10_passAll_95 : decode cX10_passAll 95 = .ok (.iastore, 1) := by decide +kernel
theorem dX10_passAll_96 : decode cX10_passAll 96 = .ok (.bipush 9, 2) := by decide +kernel
theorem dX10_passAll_98 : decode cX10_passAll 98 = .ok (.iload_n 1, 1) := by decide +kernel
theorem dX10_passAll_99 : decode cX10_passAll 99 = .ok (.imul, 1) := by decide +kernel
theorem dX10_passAll_100 : decode cX10_passAll 100 = .ok (.iload_n 2, 1) := by decide +kernel
theorem dX10_passAll_101 : decode cX10_passAll 101 = .ok (.iadd, 1) := by decide +kernel
theorem dX10_passAll_102 : decode cX10_passAll 102 = .ok (.istore_n 3, 1) := by decide +kernel
theorem dX10_passAll_103 : decode cX10_passAll 103 = .ok (.aload_n 0, 1) := by decide +kernel
theorem dX10_passAll_104 : decode cX10_passAll 104 = .ok (.getfield 57, 3) := by decide +kernel
theorem dX10_passAll_107 : decode cX10_passAll 107 = .ok (.iload_n 3, 1) := by decide +kernel
theorem dX10_passAll_108 : decode cX10_passAll 108 = .ok (.aload_n 0, 1) := by decide +kernel
theorem dX10_passAll_109 : decode cX10_passAll 109 = .ok (.getfield 290, 3) := by decide +kernel
theorem dX10_passAll_112 : decode cX10_passAll 112 = .ok (.ifCond .eq 12, 3) := by decide +kernel
theorem dX10_passAll_115 : decode cX10_passAll 115 = .ok (.aload_n 0, 1) := by decide +kernel
theorem dX10_passAll_116 : decode cX10_passAll 116 = .ok (.getfield 45, 3) := by decide +kernel
theorem dX10_passAll_119 : decode cX10_passAll 119 = .ok (.iload_n 2, 1) := by decide +kernel
theorem dX10_passAll_120 : decode cX10_passAll 120 = .ok (.laload, 1) := by decide +kernel
theorem dX10_passAll_121 : decode cX10_passAll 121 = .ok (.goto 9, 3) := by decide +kernel
theorem dX10_passAll_124 : decode cX10_passAll 124 = .ok (.aload_n 0, 1) := by decide +kernel
theorem dX10_passAll_125 : decode cX10_passAll 125 = .ok (.getfield 57, 3) := by decide +kernel
theorem dX10_passAll_128 : decode cX10_passAll 128 = .ok (.iload_n 3, 1) := by decide +kernel
theorem dX10_passAll_129 : decode cX10_passAll 129 = .ok (.laload, 1) := by decide +kernel
theorem dX10_passAll_130 : decode cX10_passAll 130 = .ok (.lastore, 1) := by decide +kernel
theorem dX10_passAll_131 : decode cX10_passAll 131 = .ok (.aload_n 0, 1) := by decide +kernel
theorem dX10_passAll_132 : decode cX10_passAll 132 = .ok (.getfield 45, 3) := by decide +kernel
theorem dX10_passAll_135 : decode cX10_passAll 135 = .ok (.iload_n 2, 1) := by decide +kernel
theorem dX10_passAll_136 : decode cX10_passAll 136 = .ok (.aload_n 0, 1) := by decide +kernel
theorem dX10_passAll_137 : decode cX10_passAll 137 = .ok (.getfield 57, 3) := by decide +kernel
theorem dX10_passAll_140 : decode cX10_passAll 140 = .ok (.iload_n 3, 1) := by decide +kernel
theorem dX10_passAll_141 : decode cX10_passAll 141 = .ok (.laload, 1) := by decide +kernel
theorem dX10_passAll_142 : decode cX10_passAll 142 = .ok (.lastore, 1) := by decide +kernel
theorem dX10_passAll_143 : decode cX10_passAll 143 = .ok (.iinc 2 1, 3) := by decide +kernel
theorem dX10_passAll_146 : decode cX10_passAll 146 = .ok (.goto (-88), 3) := by decide +kernel
theorem dX10_passAll_149 : decode cX10_passAll 149 = .ok (.iconst 0, 1) := by decide +kernel
theorem dX10_passAll_150 : decode cX10_passAll 150 = .ok (.istore_n 2, 1) := by decide +kernel
theorem dX10_passAll_151 : decode cX10_passAll 151 = .ok (.iload_n 2, 1) := by decide +kernel
theorem dX10_passAll_152 : decode cX10_passAll 152 = .ok (.bipush 96, 2) := by decide +kernel
theorem dX10_passAll_154 : decode cX10_passAll 154 = .ok (.if_icmp .ge 25, 3) := by decide +kernel
theorem dX10_passAll_157 : decode cX10_passAll 157 = .ok (.aload_n 0, 1) := by decide +kernel
theorem dX10_passAll_158 : decode cX10_passAll 158 = .ok (.getfield 51, 3) := by decide +kernel
theorem dX10_passAll_161 : decode cX10_passAll 161 = .ok (.iload_n 2, 1) := by decide +kernel
theorem dX10_passAll_162 : decode cX10_passAll 162 = .ok (.aload_n 0, 1) := by decide +kernel
theorem dX10_passAll_163 : decode cX10_passAll 163 = .ok (.aload_n 0, 1) := by decide +kernel
theorem dX10_passAll_164 : decode cX10_passAll 164 = .ok (.getfield 51, 3) := by decide +kernel
theorem dX10_passAll_167 : decode cX10_passAll 167 = .ok (.iload_n 2, 1) := by decide +kernel
theorem dX10_passAll_168 : decode cX10_passAll 168 = .ok (.iaload, 1) := by decide +kernel
theorem dX10_passAll_169 : decode cX10_passAll 169 = .ok (.invokevirtual 297, 3) := by decide +kernel
theorem dX10_passAll_172 : decode cX10_passAll 172 = .ok (.iastore, 1) := by decide +kernel
theorem dX10_passAll_173 : decode cX10_passAll 173 = .ok (.iinc 2 1, 3) := by decide +kernel
theorem dX10_passAll_176 : decode cX10_passAll 176 = .ok (.goto (-25), 3) := by decide +kernel
theorem dX10_passAll_179 : decode cX10_passAll 179 = .ok (.bipush 9, 2) := by decide +kernel
theorem dX10_passAll_181 : decode cX10_passAll 181 = .ok (.iload_n 1, 1) := by decide +kernel
theorem dX10_passAll_182 : decode cX10_passAll 182 = .ok (.imul, 1) := by decide +kernel
theorem dX10_passAll_183 : decode cX10_passAll 183 = .ok (.bipush 8, 2) := by decide +kernel
theorem dX10_passAll_185 : decode cX10_passAll 185 = .ok (.iadd, 1) := by decide +kernel
theorem dX10_passAll_186 : decode cX10_passAll 186 = .ok (.istore_n 2, 1) := by decide +kernel
theorem dX10_passAll_187 : decode cX10_passAll 187 = .ok (.aload_n 0, 1) := by decide +kernel
theorem dX10_passAll_188 : decode cX10_passAll 188 = .ok (.getfield 57, 3) := by decide +kernel
theorem dX10_passAll_191 : decode cX10_passAll 191 = .ok (.iload_n 2, 1) := by decide +kernel
theorem dX10_passAll_192 : decode cX10_passAll 192 = .ok (.aload_n 0, 1) := by decide +kernel
theorem dX10_passAll_193 : decode cX10_passAll 193 = .ok (.getfield 290, 3) := by decide +kernel
theorem dX10_passAll_196 : decode cX10_passAll 196 = .ok (.ifCond .eq 10, 3) := by decide +kernel
theorem dX10_passAll_199 : decode cX10_passAll 199 = .ok (.aload_n 0, 1) := by decide +kernel
theorem dX10_passAll_200 : decode cX10_passAll 200 = .ok (.getfield 69, 3) := by decide +kernel
theorem dX10_passAll_203 : decode cX10_passAll 203 = .ok (.goto 9, 3) := by decide +kernel
theorem dX10_passAll_206 : decode cX10_passAll 206 = .ok (.aload_n 0, 1) := by decide +kernel
theorem dX10_passAll_207 : decode cX10_passAll 207 = .ok (.getfield 57, 3) := by decide +kernel
theorem dX10_passAll_210 : decode cX10_passAll 210 = .ok (.iload_n 2, 1) := by decide +kernel
theorem dX10_passAll_211 : decode cX10_passAll 211 = .ok (.laload, 1) := by decide +kernel
theorem dX10_passAll_212 : decode cX10_passAll 212 = .ok (.lastore, 1) := by decide +kernel
theorem dX10_passAll_213 : decode cX10_passAll 213 = .ok (.aload_n 0, 1) := by decide +kernel
theorem dX10_passAll_214 : decode cX10_passAll 214 = .ok (.aload_n 0, 1) := by decide +kernel
theorem dX10_passAll_215 : decode cX10_passAll 215 = .ok (.getfield 57, 3) := by decide +kernel
theorem dX10_passAll_218 : decode cX10_passAll 218 = .ok (.iload_n 2, 1) := by decide +kernel
theorem dX10_passAll_219 : decode cX10_passAll 219 = .ok (.laload, 1) := by decide +kernel
theorem dX10_passAll_220 : decode cX10_passAll 220 = .ok (.putfield 69, 3) := by decide +kernel
theorem dX10_passAll_223 : decode cX10_passAll 223 = .ok (.return_, 1) := by decide +kernel
theorem dX10_image_0 : decode cX10_image 0 = .ok (.iload_n 1, 1) := by decide +kernel
theorem dX10_image_1 : decode cX10_image 1 = .ok (.i2l, 1) := by decide +kernel
theorem dX10_image_2 : decode cX10_image 2 = .ok (.lconst 0, 1) := by decide +kernel
theorem dX10_image_3 : decode cX10_image 3 = .ok (.lconst 1, 1) := by decide +kernel
theorem dX10_image_4 : decode cX10_image 4 = .ok (.invokestatic 142, 3) := by decide +kernel
theorem dX10_image_7 : decode cX10_image 7 = .ok (.ifCond .ne 6, 3) := by decide +kernel
theorem dX10_image_10 : decode cX10_image 10 = .ok (.bipush (-2), 2) := by decide +kernel
theorem dX10_image_12 : decode cX10_image 12 = .ok (.ireturn, 1) := by decide +kernel
theorem dX10_image_13 : decode cX10_image 13 = .ok (.aload_n 0, 1) := by decide +kernel
theorem dX10_image_14 : decode cX10_image 14 = .ok (.iconst 1, 1) := by decide +kernel
theorem dX10_image_15 : decode cX10_image 15 = .ok (.putfield 290, 3) := by decide +kernel
theorem dX10_image_18 : decode cX10_image 18 = .ok (.aload_n 0, 1) := by decide +kernel
theorem dX10_image_19 : decode cX10_image 19 = .ok (.iload_n 1, 1) := by decide +kernel
theorem dX10_image_20 : decode cX10_image 20 = .ok (.invokevirtual 300, 3) := by decide +kernel
theorem dX10_image_23 : decode cX10_image 23 = .ok (.aload_n 0, 1) := by decide +kernel
theorem dX10_image_24 : decode cX10_image 24 = .ok (.getfield 63, 3) := by decide +kernel
theorem dX10_image_27 : decode cX10_image 27 = .ok (.iload_n 1, 1) := by decide +kernel
theorem dX10_image_28 : decode cX10_image 28 = .ok (.iconst 1, 1) := by decide +kernel
theorem dX10_image_29 : decode cX10_image 29 = .ok (.bastore, 1) := by decide +kernel
theorem dX10_image_30 : decode cX10_image 30 = .ok (.iconst 1, 1) := by decide +kernel
theorem dX10_image_31 : decode cX10_image 31 = .ok (.ireturn, 1) := by decide +kernel
theorem dX10_restore_0 : decode cX10_restore 0 = .ok (.iload_n 1, 1) := by decide +kernel
theorem dX10_restore_1 : decode cX10_restore 1 = .ok (.i2l, 1) := by decide +kernel
theorem dX10_restore_2 : decode cX10_restore 2 = .ok (.lconst 0, 1) := by decide +kernel
theorem dX10_restore_3 : decode cX10_restore 3 = .ok (.lconst 1, 1) := by decide +kernel
theorem dX10_restore_4 : decode cX10_restore 4 = .ok (.invokestatic 142, 3) := by decide +kernel
theorem dX10_restore_7 : decode cX10_restore 7 = .ok (.ifCond .ne 6, 3) := by decide +kernel
theorem dX10_restore_10 : decode cX10_restore 10 = .ok (.bipush (-2), 2) := by decide +kernel
theorem dX10_restore_12 : decode cX10_restore 12 = .ok (.ireturn, 1) := by decide +kernel
theorem dX10_restore_13 : decode cX10_restore 13 = .ok (.aload_n 0, 1) := by decide +kernel
theorem dX10_restore_14 : decode cX10_restore 14 = .ok (.getfield 63, 3) := by decide +kernel
theorem dX10_restore_17 : decode cX10_restore 17 = .ok (.iload_n 1, 1) := by decide +kernel
theorem dX10_restore_18 : decode cX10_restore 18 = .ok (.baload, 1) := by decide +kernel
theorem dX10_restore_19 : decode cX10_restore 19 = .ok (.ifCond .ne 6, 3) := by decide +kernel
theorem dX10_restore_22 : decode cX10_restore 22 = .ok (.bipush (-3), 2) := by decide +kernel
theorem dX10_restore_24 : decode cX10_restore 24 = .ok (.ireturn, 1) := by decide +kernel
theorem dX10_restore_25 : decode cX10_restore 25 = .ok (.aload_n 0, 1) := by decide +kernel
theorem dX10_restore_26 : decode cX10_restore 26 = .ok (.iconst 0, 1) := by decide +kernel
theorem dX10_restore_27 : decode cX10_restore 27 = .ok (.putfield 290, 3) := by decide +kernel
theorem dX10_restore_30 : decode cX10_restore 30 = .ok (.aload_n 0, 1) := by decide +kernel
theorem dX10_restore_31 : decode cX10_restore 31 = .ok (.iload_n 1, 1) := by decide +kernel
theorem dX10_restore_32 : decode cX10_restore 32 = .ok (.invokevirtual 300, 3) := by decide +kernel
theorem dX10_restore_35 : decode cX10_restore 35 = .ok (.iconst 1, 1) := by decide +kernel
theorem dX10_restore_36 : decode cX10_restore 36 = .ok (.ireturn, 1) := by decide +kernel
theorem dX10_told_0 : decode cX10_told 0 = .ok (.iload_n 1, 1) := by decide +kernel
theorem dX10_told_1 : decode cX10_told 1 = .ok (.i2l, 1) := by decide +kernel
theorem dX10_told_2 : decode cX10_told 2 = .ok (.ldc2_w 264, 3) := by decide +kernel
theorem dX10_told_5 : decode cX10_told 5 = .ok (.ldc2_w 303, 3) := by decide +kernel
theorem dX10_told_8 : decode cX10_told 8 = .ok (.invokestatic 142, 3) := by decide +kernel
theorem dX10_told_11 : decode cX10_told 11 = .ok (.ifCond .eq 12, 3) := by decide +kernel
theorem dX10_told_14 : decode cX10_told 14 = .ok (.aload_n 0, 1) := by decide +kernel
theorem dX10_told_15 : decode cX10_told 15 = .ok (.iload_n 1, 1) := by decide +kernel
theorem dX10_told_16 : decode cX10_told 16 = .ok (.bipush 10, 2) := by decide +kernel
theorem dX10_told_18 : decode cX10_told 18 = .ok (.isub, 1) := by decide +kernel
theorem dX10_told_19 : decode cX10_told 19 = .ok (.invokevirtual 182, 3) := by decide +kernel
theorem dX10_told_22 : decode cX10_told 22 = .ok (.ireturn, 1) := by decide +kernel
theorem dX10_told_23 : decode cX10_told 23 = .ok (.iload_n 1, 1) := by decide +kernel
theorem dX10_told_24 : decode cX10_told 24 = .ok (.i2l, 1) := by decide +kernel
theorem dX10_told_25 : decode cX10_told 25 = .ok (.ldc2_w 305, 3) := by decide +kernel
theorem dX10_told_28 : decode cX10_told 28 = .ok (.ldc2_w 307, 3) := by decide +kernel
theorem dX10_told_31 : decode cX10_told 31 = .ok (.invokestatic 142, 3) := by decide +kernel
theorem dX10_told_34 : decode cX10_told 34 = .ok (.ifCond .eq 15, 3) := by decide +kernel
theorem dX10_told_37 : decode cX10_told 37 = .ok (.aload_n 0, 1) := by decide +kernel
theorem dX10_told_38 : decode cX10_told 38 = .ok (.getfield 69, 3) := by decide +kernel
theorem dX10_told_41 : decode cX10_told 41 = .ok (.iload_n 1, 1) := by decide +kernel
theorem dX10_told_42 : decode cX10_told 42 = .ok (.bipush 20, 2) := by decide +kernel
theorem dX10_told_44 : decode cX10_told 44 = .ok (.isub, 1) := by decide +kernel
theorem dX10_told_45 : decode cX10_told 45 = .ok (.invokestatic 95, 3) := by decide +kernel
theorem dX10_told_48 : decode cX10_told 48 = .ok (.ireturn, 1) := by decide +kernel
theorem dX10_told_49 : decode cX10_told 49 = .ok (.iload_n 1, 1) := by decide +kernel
theorem dX10_told_50 : decode cX10_told 50 = .ok (.tableswitch 59 0 4 #[34, 39, 44, 49, 54], 34) := by decide +kernel
theorem dX10_told_84 : decode cX10_told 84 = .ok (.aload_n 0, 1) := by decide +kernel
theorem dX10_told_85 : decode cX10_told 85 = .ok (.getfield 146, 3) := by decide +kernel
theorem dX10_told_88 : decode cX10_told 88 = .ok (.ireturn, 1) := by decide +kernel
theorem dX10_told_89 : decode cX10_told 89 = .ok (.aload_n 0, 1) := by decide +kernel
theorem dX10_told_90 : decode cX10_told 90 = .ok (.getfield 258, 3) := by decide +kernel
theorem dX10_told_93 : decode cX10_told 93 = .ok (.ireturn, 1) := by decide +kernel
theorem dX10_told_94 : decode cX10_told 94 = .ok (.aload_n 0, 1) := by decide +kernel
theorem dX10_told_95 : decode cX10_told 95 = .ok (.getfield 77, 3) := by decide +kernel
theorem dX10_told_98 : decode cX10_told 98 = .ok (.ireturn, 1) := by decide +kernel
theorem dX10_told_99 : decode cX10_told 99 = .ok (.aload_n 0, 1) := by decide +kernel
theorem dX10_told_100 : decode cX10_told 100 = .ok (.getfield 81, 3) := by decide +kernel
theorem dX10_told_103 : decode cX10_told 103 = .ok (.ireturn, 1) := by decide +kernel
theorem dX10_told_104 : decode cX10_told 104 = .ok (.aload_n 0, 1) := by decide +kernel
theorem dX10_told_105 : decode cX10_told 105 = .ok (.getfield 84, 3) := by decide +kernel
theorem dX10_told_108 : decode cX10_told 108 = .ok (.ireturn, 1) := by decide +kernel
theorem dX10_told_109 : decode cX10_told 109 = .ok (.bipush (-2), 2) := by decide +kernel
theorem dX10_told_111 : decode cX10_told 111 = .ok (.ireturn, 1) := by decide +kernel
