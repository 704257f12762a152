theorem dX7_init_0 : decode cX7_init 0 = .ok (.aload_n 0, 1) := by decide +kernel
theorem dX7_init_1 : decode cX7_init 1 = .ok (.invokespecial 1, 3) := by decide +kernel
theorem dX7_init_4 : decode cX7_init 4 = .ok (.aload_n 0, 1) := by decide +kernel
theorem dX7_init_5 : decode cX7_init 5 = .ok (.sipush 2480, 3) := by decide +kernel
theorem dX7_init_8 : decode cX7_init 8 = .ok (.newarray .int, 2) := by decide +kernel
theorem dX7_init_10 : decode cX7_init 10 = .ok (.putfield 7, 3) := by decide +kernel
theorem dX7_init_13 : decode cX7_init 13 = .ok (.aload_n 0, 1) := by decide +kernel
theorem dX7_init_14 : decode cX7_init 14 = .ok (.iconst 4, 1) := by decide +kernel
theorem dX7_init_15 : decode cX7_init 15 = .ok (.newarray .int, 2) := by decide +kernel
theorem dX7_init_17 : decode cX7_init 17 = .ok (.putfield 13, 3) := by decide +kernel
theorem dX7_init_20 : decode cX7_init 20 = .ok (.aload_n 0, 1) := by decide +kernel
theorem dX7_init_21 : decode cX7_init 21 = .ok (.bipush 6, 2) := by decide +kernel
theorem dX7_init_23 : decode cX7_init 23 = .ok (.newarray .int, 2) := by decide +kernel
theorem dX7_init_25 : decode cX7_init 25 = .ok (.putfield 16, 3) := by decide +kernel
theorem dX7_init_28 : decode cX7_init 28 = .ok (.aload_n 0, 1) := by decide +kernel
theorem dX7_init_29 : decode cX7_init 29 = .ok (.bipush 6, 2) := by decide +kernel
theorem dX7_init_31 : decode cX7_init 31 = .ok (.newarray .int, 2) := by decide +kernel
theorem dX7_init_33 : decode cX7_init 33 = .ok (.putfield 19, 3) := by decide +kernel
theorem dX7_init_36 : decode cX7_init 36 = .ok (.aload_n 0, 1) := by decide +kernel
theorem dX7_init_37 : decode cX7_init 37 = .ok (.bipush 6, 2) := by decide +kernel
theorem dX7_init_39 : decode cX7_init 39 = .ok (.newarray .int, 2) := by decide +kernel
theorem dX7_init_41 : decode cX7_init 41 = .ok (.putfield 22, 3) := by decide +kernel
theorem dX7_init_44 : decode cX7_init 44 = .ok (.aload_n 0, 1) := by decide +kernel
theorem dX7_init_45 : decode cX7_init 45 = .ok (.bipush 6, 2) := by decide +kernel
theorem dX7_init_47 : decode cX7_init 47 = .ok (.newarray .int, 2) := by decide +kernel
theorem dX7_init_49 : decode cX7_init 49 = .ok (.dup, 1) := by decide +kernel
theorem dX7_init_50 : decode cX7_init 50 = .ok (.iconst 0, 1) := by decide +kernel
theorem dX7_init_51 : decode cX7_init 51 = .ok (.iconst (-1), 1) := by decide +kernel
theorem dX7_init_52 : decode cX7_init 52 = .ok (.iastore, 1) := by decide +kernel
theorem dX7_init_53 : decode cX7_init 53 = .ok (.dup, 1) := by decide +kernel
theorem dX7_init_54 : decode cX7_init 54 = .ok (.iconst 1, 1) := by decide +kernel
theorem dX7_init_55 : decode cX7_init 55 = .ok (.iconst (-1), 1) := by decide +kernel
theorem dX7_init_56 : decode cX7_init 56 = .ok (.iastore, 1) := by decide +kernel
theorem dX7_init_57 : decode cX7_init 57 = .ok (.dup, 1) := by decide +kernel
theorem dX7_init_58 : decode cX7_init 58 = .ok (.iconst 2, 1) := by decide +kernel
theorem dX7_init_59 : decode cX7_init 59 = .ok (.iconst (-1), 1) := by decide +kernel
theorem dX7_init_60 : decode cX7_init 60 = .ok (.iastore, 1) := by decide +kernel
theorem dX7_init_61 : decode cX7_init 61 = .ok (.dup, 1) := by decide +kernel
theorem dX7_init_62 : decode cX7_init 62 = .ok (.iconst 3, 1) := by decide +kernel
theorem dX7_init_63 : decode cX7_init 63 = .ok (.iconst (-1), 1) := by decide +kernel
theorem dX7_init_64 : decode cX7_init 64 = .ok (.iastore, 1) := by decide +kernel
theorem dX7_init_65 : decode cX7_init 65 = .ok (.dup, 1) := by decide +kernel
theorem dX7_init_66 : decode cX7_init 66 = .ok (.iconst 4, 1) := by decide +kernel
theorem dX7_init_67 : decode cX7_init 67 = .ok (.iconst (-1), 1) := by decide +kernel
theorem dX7_init_68 : decode cX7_init 68 = .ok (.iastore, 1) := by decide +kernel
theorem dX7_init_69 : decode cX7_init 69 = .ok (.dup, 1) := by decide +kernel
theorem dX7_init_70 : decode cX7_init 70 = .ok (.iconst 5, 1) := by decide +kernel
theorem dX7_init_71 : decode cX7_init 71 = .ok (.iconst (-1), 1) := by decide +kernel
theorem dX7_init_72 : decode cX7_init 72 = .ok (.iastore, 1) := by decide +kernel
theorem dX7_init_73 : decode cX7_init 73 = .ok (.putfield 25, 3) := by decide +kernel
theorem dX7_init_76 : decode cX7_init 76 = .ok (.aload_n 0, 1) := by decide +kernel
theorem dX7_init_77 : decode cX7_init 77 = .ok (.sipush 240, 3) := by decide +kernel
theorem dX7_init_80 : decode cX7_init 80 = .ok (.newarray .int, 2) := by decide +kernel
theorem dX7_init_82 : decode cX7_init 82 = .ok (.putfield 28, 3) := by decide +kernel
theorem dX7_init_85 : decode cX7_init 85 = .ok (.aload_n 0, 1) := by decide +kernel
theorem dX7_init_86 : decode cX7_init 86 = .ok (.iconst 4, 1) := by decide +kernel
theorem dX7_init_87 : decode cX7_init 87 = .ok (.newarray .int, 2) := by decide +kernel
theorem dX7_init_89 : decode cX7_init 89 = .ok (.dup, 1) := by decide +kernel
theorem dX7_init_90 : decode cX7_init 90 = .ok (.iconst 0, 1) := by decide +kernel
theorem dX7_init_91 : decode cX7_init 91 = .ok (.iconst (-1), 1) := by decide +kernel
theorem dX7_init_92 : decode cX7_init 92 = .ok (.iastore, 1) := by decide +kernel
theorem dX7_init_93 : decode cX7_init 93 = .ok (.dup, 1) := by decide +kernel
theorem dX7_init_94 : decode cX7_init 94 = .ok (.iconst 1, 1) := by decide +kernel
theorem dX7_init_95 : decode cX7_init 95 = .ok (.iconst (-1), 1) := by decide +kernel
theorem dX7_init_96 : decode cX7_init 96 = .ok (.iastore, 1) := by decide +kernel
theorem dX7_init_97 : decode cX7_init 97 = .ok (.dup, 1) := by decide +kernel
theorem dX7_init_98 : decode cX7_init 98 = .ok (.iconst 2, 1) := by decide +kernel
theorem dX7_init_99 : decode cX7_init 99 = .ok (.iconst (-1), 1) := by decide +kernel
theorem dX7_init_100 : decode cX7_init 100 = .ok (.iastore, 1) := by decide +kernel
theorem dX7_init_101 : decode cX7_init 101 = .ok (.dup, 1) := by decide +kernel
theorem dX7_init_102 : decode cX7_init 102 = .ok (.iconst 3, 1) := by decide +kernel
theorem dX7_init_103 : decode cX7_init 103 = .ok (.iconst (-1), 1) := by decide +kernel
theorem dX7_init_104 : decode cX7_init 104 = .ok (.iastore, 1) := by decide +kernel
theorem dX7_init_105 : decode cX7_init 105 = .ok (.putfield 31, 3) := by decide +kernel
theorem dX7_init_108 : decode cX7_init 108 = .ok (.aload_n 0, 1) := by decide +kernel
theorem dX7_init_109 : decode cX7_init 109 = .ok (.sipush 240, 3) := by decide +kernel
theorem dX7_init_112 : decode cX7_init 112 = .ok (.newarray .int, 2) := by decide +kernel
theorem dX7_init_114 : decode cX7_init 114 = .ok (.putfield 34, 3) := by decide +kernel
theorem dX7_init_117 : decode cX7_init 117 = .ok (.aload_n 0, 1) := by decide +kernel
theorem dX7_init_118 : decode cX7_init 118 = .ok (.lconst 1, 1) := by decide +kernel
theorem dX7_init_119 : decode cX7_init 119 = .ok (.putfield 37, 3) := by decide +kernel
theorem dX7_init_122 : decode cX7_init 122 = .ok (.aload_n 0, 1) := by decide +kernel
theorem dX7_init_123 : decode cX7_init 123 = .ok (.bipush 6, 2) := by decide +kernel
theorem dX7_init_125 : decode cX7_init 125 = .ok (.newarray .int, 2) := by decide +kernel
theorem dX7_init_127 : decode cX7_init 127 = .ok (.putfield 41, 3) := by decide +kernel
theorem dX7_init_130 : decode cX7_init 130 = .ok (.aload_n 0, 1) := by decide +kernel
theorem dX7_init_131 : decode cX7_init 131 = .ok (.iconst 4, 1) := by decide +kernel
theorem dX7_init_132 : decode cX7_init 132 = .ok (.newarray .int, 2) := by decide +kernel
theorem dX7_init_134 : decode cX7_init 134 = .ok (.putfield 44, 3) := by decide +kernel
theorem dX7_init_137 : decode cX7_init 137 = .ok (.aload_n 0, 1) := by decide +kernel
theorem dX7_init_138 : decode cX7_init 138 = .ok (.bipush 24, 2) := by decide +kernel
theorem dX7_init_140 : decode cX7_init 140 = .ok (.newarray .int, 2) := by decide +kernel
theorem dX7_init_142 : decode cX7_init 142 = .ok (.putfield 47, 3) := by decide +kernel
theorem dX7_init_145 : decode cX7_init 145 = .ok (.aload_n 0, 1) := by decide +kernel
theorem dX7_init_146 : decode cX7_init 146 = .ok (.bipush 6, 2) := by decide +kernel
theorem dX7_init_148 : decode cX7_init 148 = .ok (.newarray .int, 2) := by decide +kernel
theorem dX7_init_150 : decode cX7_init 150 = .ok (.putfield 50, 3) := by decide +kernel
theorem dX7_init_153 : decode cX7_init 153 = .ok (.aload_n 0, 1) := by decide +kernel
theorem dX7_init_154 : decode cX7_init 154 = .ok (.bipush 6, 2) := by decide +kernel
theorem dX7_init_156 : decode cX7_init 156 = .ok (.newarray .int, 2) := by decide +kernel
theorem dX7_init_158 : decode cX7_init 158 = .ok (.putfield 53, 3) := by decide +kernel
theorem dX7_init_161 : decode cX7_init 161 = .ok (.aload_n 0, 1) := by decide +kernel
theorem dX7_init_162 : decode cX7_init 162 = .ok (.bipush 7, 2) := by decide +kernel
theorem dX7_init_164 : decode cX7_init 164 = .ok (.newarray .int, 2) := by decide +kernel
theorem dX7_init_166 : decode cX7_init 166 = .ok (.putfield 56, 3) := by decide +kernel
theorem dX7_init_169 : decode cX7_init 169 = .ok (.aload_n 0, 1) := by decide +kernel
theorem dX7_init_170 : decode cX7_init 170 = .ok (.bipush 7, 2) := by decide +kernel
theorem dX7_init_172 : decode cX7_init 172 = .ok (.newarray .int, 2) := by decide +kernel
theorem dX7_init_174 : decode cX7_init 174 = .ok (.putfield 59, 3) := by decide +kernel
theorem dX7_init_177 : decode cX7_init 177 = .ok (.aload_n 0, 1) := by decide +kernel
theorem dX7_init_178 : decode cX7_init 178 = .ok (.bipush 7, 2) := by decide +kernel
theorem dX7_init_180 : decode cX7_init 180 = .ok (.newarray .int, 2) := by decide +kernel
theorem dX7_init_182 : decode cX7_init 182 = .ok (.putfield 62, 3) := by decide +kernel
theorem dX7_init_185 : decode cX7_init 185 = .ok (.aload_n 0, 1) := by decide +kernel
theorem dX7_init_186 : decode cX7_init 186 = .ok (.bipush 7, 2) := by decide +kernel
theorem dX7_init_188 : decode cX7_init 188 = .ok (.newarray .int, 2) := by decide +kernel
theorem dX7_init_190 : decode cX7_init 190 = .ok (.putfield 65, 3) := by decide +kernel
theorem dX7_init_193 : decode cX7_init 193 = .ok (.iconst 1, 1) := by decide +kernel
theorem dX7_init_194 : decode cX7_init 194 = .ok (.istore_n 1, 1) := by decide +kernel
theorem dX7_init_195 : decode cX7_init 195 = .ok (.iload_n 1, 1) := by decide +kernel
theorem dX7_init_196 : decode cX7_init 196 = .ok (.iconst 4, 1) := by decide +kernel
theorem dX7_init_197 : decode cX7_init 197 = .ok (.if_icmp .ge 22, 3) := by decide +kernel
theorem dX7_init_200 : decode cX7_init 200 = .ok (.aload_n 0, 1) := by decide +kernel
theorem dX7_init_201 : decode cX7_init 201 = .ok (.getfield 7, 3) := by decide +kernel
theorem dX7_init_204 : decode cX7_init 204 = .ok (.sipush 616, 3) := by decide +kernel
theorem dX7_init_207 : decode cX7_init 207 = .ok (.iload_n 1, 1) := by decide +kernel
theorem dX7_init_208 : decode cX7_init 208 = .ok (.imul, 1) := by decide +kernel
theorem dX7_init_209 : decode cX7_init 209 = .ok (.iconst 0, 1) := by decide +kernel
theorem dX7_init_210 : decode cX7_init 210 = .ok (.iadd, 1) := by decide +kernel
theorem dX7_init_211 : decode cX7_init 211 = .ok (.iconst (-1), 1) := by decide +kernel
theorem dX7_init_212 : decode cX7_init 212 = .ok (.iastore, 1) := by decide +kernel
theorem dX7_init_213 : decode cX7_init 213 = .ok (.iinc 1 1, 3) := by decide +kernel
theorem dX7_init_216 : decode cX7_init 216 = .ok (.goto (-21), 3) := by decide +kernel
theorem dX7_init_219 : decode cX7_init 219 = .ok (.return_, 1) := by decide +kernel
theorem dX7_in_0 : decode cX7_in 0 = .ok (.lload_n 0, 1) := by decide +kernel
theorem dX7_in_1 : decode cX7_in 1 = .ok (.lload_n 2, 1) := by decide +kernel
theorem dX7_in_2 : decode cX7_in 2 = .ok (.lcmp, 1) := by decide +kernel
theorem dX7_in_3 : decode cX7_in 3 = .ok (.ifCond .lt 14, 3) := by decide +kernel
theorem dX7_in_6 : decode cX7_in 6 = .ok (.lload_n 0, 1) := by decide +kernel
theorem dX7_in_7 : decode cX7_in 7 = .ok (.lload 4, 2) := by decide +kernel
theorem dX7_in_9 : decode cX7_in 9 = .ok (.lcmp, 1) := by decide +kernel
theorem dX7_in_10 : decode cX7_in 10 = .ok (.ifCond .gt 7, 3) := by decide +kernel
theorem dX7_in_13 : decode cX7_in 13 = .ok (.iconst 1, 1) := by decide +kernel
theorem dX7_in_14 : decode cX7_in 14 = .ok (.goto 4, 3) := by decide +kernel
theorem dX7_in_17 : decode cX7_in 17 = .ok (.iconst 0, 1) := by decide +kernel
theorem dX7_in_18 : decode cX7_in 18 = .ok (.ireturn, 1) := by decide +kernel
theorem dX7_has_0 : decode cX7_has 0 = .ok (.iload_n 0, 1) := by decide +kernel
theorem dX7_has_1 : decode cX7_has 1 = .ok (.iload_n 1, 1) := by decide +kernel
theorem dX7_has_2 : decode cX7_has 2 = .ok (.ishr, 1) := by decide +kernel
theorem dX7_has_3 : decode cX7_has 3 = .ok (.iconst 1, 1) := by decide +kernel
theorem dX7_has_4 : decode cX7_has 4 = .ok (.iand, 1) := by decide +kernel
theorem dX7_has_5 : decode cX7_has 5 = .ok (.iconst 1, 1) := by decide +kernel
theorem dX7_has_6 : decode cX7_has 6 = .ok (.if_icmp .ne 7, 3) := by decide +kernel
theorem dX7_has_9 : decode cX7_has 9 = .ok (.iconst 1, 1) := by decide +kernel
theorem dX7_has_10 : decode cX7_has 10 = .ok (.goto 4, 3) := by decide +kernel
theorem dX7_has_13 : decode cX7_has 13 = .ok (.iconst 0, 1) := by decide +kernel
theorem dX7_has_14 : decode cX7_has 14 = .ok (.ireturn, 1) := by decide +kernel
theorem dX7_find_0 : decode cX7_find 0 = .ok (.aload_n 0, 1) := by decide +kernel
theorem dX7_find_1 : decode cX7_find 1 = .ok (.iload_n 1, 1) := by decide +kernel
theorem dX7_find_2 : decode cX7_find 2 = .ok (.putfield 68, 3) := by decide +kernel
theorem dX7_find_5 : decode cX7_find 5 = .ok (.aload_n 0, 1) := by decide +kernel
theorem dX7_find_6 : decode cX7_find 6 = .ok (.getfield 41, 3) := by decide +kernel
theorem dX7_find_9 : decode cX7_find 9 = .ok (.iload_n 1, 1) := by decide +kernel
theorem dX7_find_10 : decode cX7_find 10 = .ok (.dup2, 1) := by decide +kernel
theorem dX7_find_11 : decode cX7_find 11 = .ok (.iaload, 1) := by decide +kernel
theorem dX7_find_12 : decode cX7_find 12 = .ok (.iconst 1, 1) := by decide +kernel
theorem dX7_find_13 : decode cX7_find 13 = .ok (.iadd, 1) := by decide +kernel
theorem dX7_find_14 : decode cX7_find 14 = .ok (.iastore, 1) := by decide +kernel
theorem dX7_find_15 : decode cX7_find 15 = .ok (.bipush (-3), 2) := by decide +kernel
theorem dX7_find_17 : decode cX7_find 17 = .ok (.ireturn, 1) := by decide +kernel
theorem dX7_tell_0 : decode cX7_tell 0 = .ok (.aload_n 0, 1) := by decide +kernel
theorem dX7_tell_1 : decode cX7_tell 1 = .ok (.iload_n 1, 1) := by decide +kernel
theorem dX7_tell_2 : decode cX7_tell 2 = .ok (.putfield 72, 3) := by decide +kernel
theorem dX7_tell_5 : decode cX7_tell 5 = .ok (.iconst 1, 1) := by decide +kernel
theorem dX7_tell_6 : decode cX7_tell 6 = .ok (.ireturn, 1) := by decide +kernel
theorem dX7_isRow_0 : decode cX7_isRow 0 = .ok (.iload_n 0, 1) := by decide +kernel
theorem dX7_isRow_1 : decode cX7_isRow 1 = .ok (.i2l, 1) := by decide +kernel
theorem dX7_isRow_2 : decode cX7_isRow 2 = .ok (.lconst 0, 1) := by decide +kernel
theorem dX7_isRow_3 : decode cX7_isRow 3 = .ok (.ldc2_w 75, 3) := by decide +kernel
theorem dX7_isRow_6 : decode cX7_isRow 6 = .ok (.invokestatic 77, 3) := by decide +kernel
theorem dX7_isRow_9 : decode cX7_isRow 9 = .ok (.ireturn, 1) := by decide +kernel
theorem dX7_isText_0 : decode cX7_isText 0 = .ok (.iload_n 0, 1) := by decide +kernel
theorem dX7_isText_1 : decode cX7_isText 1 = .ok (.i2l, 1) := by decide +kernel
theorem dX7_isText_2 : decode cX7_isText 2 = .ok (.lconst 0, 1) := by decide +kernel
theorem dX7_isText_3 : decode cX7_isText 3 = .ok (.ldc2_w 81, 3) := by decide +kernel
theorem dX7_isText_6 : decode cX7_isText 6 = .ok (.invokestatic 77, 3) := by decide +kernel
theorem dX7_isText_9 : decode cX7_isText 9 = .ok (.ireturn, 1) := by decide +kernel
theorem dX7_row_0 : decode cX7_row 0 = .ok (.iload_n 1, 1) := by decide +kernel
theorem dX7_row_1 : decode cX7_row 1 = .ok (.invokestatic 83, 3) := by decide +kernel
theorem dX7_row_4 : decode cX7_row 4 = .ok (.ifCond .eq 9, 3) := by decide +kernel
theorem dX7_row_7 : decode cX7_row 7 = .ok (.iload_n 2, 1) := by decide +kernel
theorem dX7_row_8 : decode cX7_row 8 = .ok (.bipush 40, 2) := by decide +kernel
theorem dX7_row_10 : decode cX7_row 10 = .ok (.if_icmp .le 5, 3) := by decide +kernel
theorem dX7_row_13 : decode cX7_row 13 = .ok (.iconst (-1), 1) := by decide +kernel
theorem dX7_row_14 : decode cX7_row 14 = .ok (.ireturn, 1) := by decide +kernel
theorem dX7_row_15 : decode cX7_row 15 = .ok (.iload_n 2, 1) := by decide +kernel
theorem dX7_row_16 : decode cX7_row 16 = .ok (.ifCond .ge 9, 3) := by decide +kernel
theorem dX7_row_19 : decode cX7_row 19 = .ok (.aload_n 0, 1) := by decide +kernel
theorem dX7_row_20 : decode cX7_row 20 = .ok (.iconst 5, 1) := by decide +kernel
theorem dX7_row_21 : decode cX7_row 21 = .ok (.invokevirtual 87, 3) := by decide +kernel
theorem dX7_row_24 : decode cX7_row 24 = .ok (.ireturn, 1) := by decide +kernel
theorem dX7_row_25 : decode cX7_row 25 = .ok (.aload_n 0, 1) := by decide +kernel
theorem dX7_row_26 : decode cX7_row 26 = .ok (.iload_n 1, 1) := by decide +kernel
theorem dX7_row_27 : decode cX7_row 27 = .ok (.iload_n 2, 1) := by decide +kernel
theorem dX7_row_28 : decode cX7_row 28 = .ok (.invokevirtual 91, 3) := by decide +kernel
theorem dX7_row_31 : decode cX7_row 31 = .ok (.iload_n 2, 1) := by decide +kernel
theorem dX7_row_32 : decode cX7_row 32 = .ok (.ireturn, 1) := by decide +kernel
theorem dX7_makeRow_0 : decode cX7_makeRow 0 = .ok (.aload_n 0, 1) := by decide +kernel
theorem dX7_makeRow_1 : decode cX7_makeRow 1 = .ok (.getfield 25, 3) := by decide +kernel
theorem dX7_makeRow_4 : decode cX7_makeRow 4 = .ok (.iload_n 1, 1) := by decide +kernel
theorem dX7_makeRow_5 : decode cX7_makeRow 5 = .ok (.iload_n 2, 1) := by decide +kernel
theorem dX7_makeRow_6 : decode cX7_makeRow 6 = .ok (.iastore, 1) := by decide +kernel
theorem dX7_makeRow_7 : decode cX7_makeRow 7 = .ok (.iconst 0, 1) := by decide +kernel
theorem dX7_makeRow_8 : decode cX7_makeRow 8 = .ok (.istore_n 3, 1) := by decide +kernel
theorem dX7_makeRow_9 : decode cX7_makeRow 9 = .ok (.iload_n 3, 1) := by decide +kernel
theorem dX7_makeRow_10 : decode cX7_makeRow 10 = .ok (.bipush 40, 2) := by decide +kernel
theorem dX7_makeRow_12 : decode cX7_makeRow 12 = .ok (.if_icmp .ge 21, 3) := by decide +kernel
theorem dX7_makeRow_15 : decode cX7_makeRow 15 = .ok (.aload_n 0, 1) := by decide +kernel
theorem dX7_makeRow_16 : decode cX7_makeRow 16 = .ok (.getfield 28, 3) := by decide +kernel
theorem dX7_makeRow_19 : decode cX7_makeRow 19 = .ok (.bipush 40, 2) := by decide +kernel
theorem dX7_makeRow_21 : decode cX7_makeRow 21 = .ok (.iload_n 1, 1) := by decide +kernel
theorem dX7_makeRow_22 : decode cX7_makeRow 22 = .ok (.imul, 1) := by decide +kernel
theorem dX7_makeRow_23 : decode cX7_makeRow 23 = .ok (.iload_n 3, 1) := by decide +kernel
theorem dX7_makeRow_24 : decode cX7_makeRow 24 = .ok (.iadd, 1) := by decide +kernel
theorem dX7_makeRow_25 : decode cX7_makeRow 25 = .ok (.iconst 0, 1) := by decide +kernel
theorem dX7_makeRow_26 : decode cX7_makeRow 26 = .ok (.iastore, 1) := by decide +kernel
theorem dX7_makeRow_27 : decode cX7_makeRow 27 = .ok (.iinc 3 1, 3) := by decide +kernel
theorem dX7_makeRow_30 : decode cX7_makeRow 30 = .ok (.goto (-21), 3) := by decide +kernel
theorem dX7_makeRow_33 : decode cX7_makeRow 33 = .ok (.return_, 1) := by decide +kernel
theorem dX7_refused_0 : decode cX7_refused 0 = .ok (.iload_n 1, 1) := by decide +kernel
theorem dX7_refused_1 : decode cX7_refused 1 = .ok (.invokestatic 83, 3) := by decide +kernel
theorem dX7_refused_4 : decode cX7_refused 4 = .ok (.ifCond .ne 7, 3) := by decide +kernel
theorem dX7_refused_7 : decode cX7_refused 7 = .ok (.iconst (-1), 1) := by decide +kernel
theorem dX7_refused_8 : decode cX7_refused 8 = .ok (.goto 47, 3) := by decide +kernel
theorem dX7_refused_11 : decode cX7_refused 11 = .ok (.aload_n 0, 1) := by decide +kernel
theorem dX7_refused_12 : decode cX7_refused 12 = .ok (.getfield 25, 3) := by decide +kernel
theorem dX7_refused_15 : decode cX7_refused 15 = .ok (.iload_n 1, 1) := by decide +kernel
theorem dX7_refused_16 : decode cX7_refused 16 = .ok (.iaload, 1) := by decide +kernel
theorem dX7_refused_17 : decode cX7_refused 17 = .ok (.ifCond .ge 11, 3) := by decide +kernel
theorem dX7_refused_20 : decode cX7_refused 20 = .ok (.aload_n 0, 1) := by decide +kernel
theorem dX7_refused_21 : decode cX7_refused 21 = .ok (.iconst 1, 1) := by decide +kernel
theorem dX7_refused_22 : decode cX7_refused 22 = .ok (.invokevirtual 87, 3) := by decide +kernel
theorem dX7_refused_25 : decode cX7_refused 25 = .ok (.goto 30, 3) := by decide +kernel
theorem dX7_refused_28 : decode cX7_refused 28 = .ok (.iload_n 2, 1) := by decide +kernel
theorem dX7_refused_29 : decode cX7_refused 29 = .ok (.i2l, 1) := by decide +kernel
theorem dX7_refused_30 : decode cX7_refused 30 = .ok (.lconst 0, 1) := by decide +kernel
theorem dX7_refused_31 : decode cX7_refused 31 = .ok (.aload_n 0, 1) := by decide +kernel
theorem dX7_refused_32 : decode cX7_refused 32 = .ok (.getfield 25, 3) := by decide +kernel
theorem dX7_refused_35 : decode cX7_refused 35 = .ok (.iload_n 1, 1) := by decide +kernel
theorem dX7_refused_36 : decode cX7_refused 36 = .ok (.iaload, 1) := by decide +kernel
theorem dX7_refused_37 : decode cX7_refused 37 = .ok (.iconst 1, 1) := by decide +kernel
theorem dX7_refused_38 : decode cX7_refused 38 = .ok (.isub, 1) := by decide +kernel
theorem dX7_refused_39 : decode cX7_refused 39 = .ok (.i2l, 1) := by decide +kernel
theorem dX7_refused_40 : decode cX7_refused 40 = .ok (.invokestatic 77, 3) := by decide +kernel
theorem dX7_refused_43 : decode cX7_refused 43 = .ok (.ifCond .eq 7, 3) := by decide +kernel
theorem dX7_refused_46 : decode cX7_refused 46 = .ok (.iconst 0, 1) := by decide +kernel
theorem dX7_refused_47 : decode cX7_refused 47 = .ok (.goto 8, 3) := by decide +kernel
theorem dX7_refused_50 : decode cX7_refused 50 = .ok (.aload_n 0, 1) := by decide +kernel
theorem dX7_refused_51 : decode cX7_refused 51 = .ok (.iconst 2, 1) := by decide +kernel
theorem dX7_refused_52 : decode cX7_refused 52 = .ok (.invokevirtual 87, 3) := by decide +kernel
theorem dX7_refused_55 : decode cX7_refused 55 = .ok (.ireturn, 1) := by decide +kernel
theorem dX7_lay_0 : decode cX7_lay 0 = .ok (.aload_n 0, 1) := by decide +kernel
theorem dX7_lay_1 : decode cX7_lay 1 = .ok (.iload_n 1, 1) := by decide +kernel
theorem dX7_lay_2 : decode cX7_lay 2 = .ok (.iload_n 2, 1) := by decide +kernel
theorem dX7_lay_3 : decode cX7_lay 3 = .ok (.invokevirtual 95, 3) := by decide +kernel
theorem dX7_lay_6 : decode cX7_lay 6 = .ok (.istore 4, 2) := by decide +kernel
theorem dX7_lay_8 : decode cX7_lay 8 = .ok (.iload 4, 2) := by decide +kernel
theorem dX7_lay_10 : decode cX7_lay 10 = .ok (.ifCond .eq 6, 3) := by decide +kernel
theorem dX7_lay_13 : decode cX7_lay 13 = .ok (.iload 4, 2) := by decide +kernel
theorem dX7_lay_15 : decode cX7_lay 15 = .ok (.ireturn, 1) := by decide +kernel
theorem dX7_lay_16 : decode cX7_lay 16 = .ok (.aload_n 0, 1) := by decide +kernel
theorem dX7_lay_17 : decode cX7_lay 17 = .ok (.getfield 28, 3) := by decide +kernel
theorem dX7_lay_20 : decode cX7_lay 20 = .ok (.bipush 40, 2) := by decide +kernel
theorem dX7_lay_22 : decode cX7_lay 22 = .ok (.iload_n 1, 1) := by decide +kernel
theorem dX7_lay_23 : decode cX7_lay 23 = .ok (.imul, 1) := by decide +kernel
theorem dX7_lay_24 : decode cX7_lay 24 = .ok (.iload_n 2, 1) := by decide +kernel
theorem dX7_lay_25 : decode cX7_lay 25 = .ok (.iadd, 1) := by decide +kernel
theorem dX7_lay_26 : decode cX7_lay 26 = .ok (.iaload, 1) := by decide +kernel
theorem dX7_lay_27 : decode cX7_lay 27 = .ok (.istore 5, 2) := by decide +kernel
theorem dX7_lay_29 : decode cX7_lay 29 = .ok (.aload_n 0, 1) := by decide +kernel
theorem dX7_lay_30 : decode cX7_lay 30 = .ok (.getfield 28, 3) := by decide +kernel
theorem dX7_lay_33 : decode cX7_lay 33 = .ok (.bipush 40, 2) := by decide +kernel
theorem dX7_lay_35 : decode cX7_lay 35 = .ok (.iload_n 1, 1) := by decide +kernel
theorem dX7_lay_36 : decode cX7_lay 36 = .ok (.imul, 1) := by decide +kernel
theorem dX7_lay_37 : decode cX7_lay 37 = .ok (.iload_n 2, 1) := by decide +kernel
theorem dX7_lay_38 : decode cX7_lay 38 = .ok (.iadd, 1) := by decide +kernel
theorem dX7_lay_39 : decode cX7_lay 39 = .ok (.iload_n 3, 1) := by decide +kernel
theorem dX7_lay_40 : decode cX7_lay 40 = .ok (.iastore, 1) := by decide +kernel
theorem dX7_lay_41 : decode cX7_lay 41 = .ok (.aload_n 0, 1) := by decide +kernel
theorem dX7_lay_42 : decode cX7_lay 42 = .ok (.iload 5, 2) := by decide +kernel
theorem dX7_lay_44 : decode cX7_lay 44 = .ok (.invokevirtual 99, 3) := by decide +kernel
theorem dX7_lay_47 : decode cX7_lay 47 = .ok (.ireturn, 1) := by decide +kernel
theorem dX7_at_0 : decode cX7_at 0 = .ok (.aload_n 0, 1) := by decide +kernel
theorem dX7_at_1 : decode cX7_at 1 = .ok (.iload_n 1, 1) := by decide +kernel
theorem dX7_at_2 : decode cX7_at 2 = .ok (.iload_n 2, 1) := by decide +kernel
theorem dX7_at_3 : decode cX7_at 3 = .ok (.invokevirtual 95, 3) := by decide +kernel
theorem dX7_at_6 : decode cX7_at 6 = .ok (.istore_n 3, 1) := by decide +kernel
theorem dX7_at_7 : decode cX7_at 7 = .ok (.iload_n 3, 1) := by decide +kernel
theorem dX7_at_8 : decode cX7_at 8 = .ok (.ifCond .eq 7, 3) := by decide +kernel
theorem dX7_at_11 : decode cX7_at 11 = .ok (.iload_n 3, 1) := by decide +kernel
theorem dX7_at_12 : decode cX7_at 12 = .ok (.goto 18, 3) := by decide +kernel
theorem dX7_at_15 : decode cX7_at 15 = .ok (.aload_n 0, 1) := by decide +kernel
theorem dX7_at_16 : decode cX7_at 16 = .ok (.aload_n 0, 1) := by decide +kernel
theorem dX7_at_17 : decode cX7_at 17 = .ok (.getfield 28, 3) := by decide +kernel
theorem dX7_at_20 : decode cX7_at 20 = .ok (.bipush 40, 2) := by decide +kernel
theorem dX7_at_22 : decode cX7_at 22 = .ok (.iload_n 1, 1) := by decide +kernel
theorem dX7_at_23 : decode cX7_at 23 = .ok (.imul, 1) := by decide +kernel
theorem dX7_at_24 : decode cX7_at 24 = .ok (.iload_n 2, 1) := by decide +kernel
theorem dX7_at_25 : decode cX7_at 25 = .ok (.iadd, 1) := by decide +kernel
theorem dX7_at_26 : decode cX7_at 26 = .ok (.iaload, 1) := by decide +kernel
theorem dX7_at_27 : decode cX7_at 27 = .ok (.invokevirtual 99, 3) := by decide +kernel
theorem dX7_at_30 : decode cX7_at 30 = .ok (.ireturn, 1) := by decide +kernel
theorem dX7_tear_0 : decode cX7_tear 0 = .ok (.iload_n 1, 1) := by decide +kernel
theorem dX7_tear_1 : decode cX7_tear 1 = .ok (.invokestatic 83, 3) := by decide +kernel
theorem dX7_tear_4 : decode cX7_tear 4 = .ok (.ifCond .ne 5, 3) := by decide +kernel
theorem dX7_tear_7 : decode cX7_tear 7 = .ok (.iconst (-1), 1) := by decide +kernel
theorem dX7_tear_8 : decode cX7_tear 8 = .ok (.ireturn, 1) := by decide +kernel
theorem dX7_tear_9 : decode cX7_tear 9 = .ok (.aload_n 0, 1) := by decide +kernel
theorem dX7_tear_10 : decode cX7_tear 10 = .ok (.getfield 25, 3) := by decide +kernel
theorem dX7_tear_13 : decode cX7_tear 13 = .ok (.iload_n 1, 1) := by decide +kernel
theorem dX7_tear_14 : decode cX7_tear 14 = .ok (.iaload, 1) := by decide +kernel
theorem dX7_tear_15 : decode cX7_tear 15 = .ok (.ifCond .ge 9, 3) := by decide +kernel
theorem dX7_tear_18 : decode cX7_tear 18 = .ok (.aload_n 0, 1) := by decide +kernel
theorem dX7_tear_19 : decode cX7_tear 19 = .ok (.iconst 1, 1) := by decide +kernel
theorem dX7_tear_20 : decode cX7_tear 20 = .ok (.invokevirtual 87, 3) := by decide +kernel
theorem dX7_tear_23 : decode cX7_tear 23 = .ok (.ireturn, 1) := by decide +kernel
theorem dX7_tear_24 : decode cX7_tear 24 = .ok (.aload_n 0, 1) := by decide +kernel
theorem dX7_tear_25 : decode cX7_tear 25 = .ok (.getfield 25, 3) := by decide +kernel
theorem dX7_tear_28 : decode cX7_tear 28 = .ok (.iload_n 1, 1) := by decide +kernel
theorem dX7_tear_29 : decode cX7_tear 29 = .ok (.iconst (-1), 1) := by decide +kernel
theorem dX7_tear_30 : decode cX7_tear 30 = .ok (.iastore, 1) := by decide +kernel
theorem dX7_tear_31 : decode cX7_tear 31 = .ok (.iconst 1, 1) := by decide +kernel
theorem dX7_tear_32 : decode cX7_tear 32 = .ok (.ireturn, 1) := by decide +kernel
theorem dX7_isSpan_0 : decode cX7_isSpan 0 = .ok (.iload_n 2, 1) := by decide +kernel
theorem dX7_isSpan_1 : decode cX7_isSpan 1 = .ok (.ifCond .lt 23, 3) := by decide +kernel
theorem dX7_isSpan_4 : decode cX7_isSpan 4 = .ok (.iload_n 2, 1) := by decide +kernel
theorem dX7_isSpan_5 : decode cX7_isSpan 5 = .ok (.i2l, 1) := by decide +kernel
theorem dX7_isSpan_6 : decode cX7_isSpan 6 = .ok (.iload_n 3, 1) := by decide +kernel
theorem dX7_isSpan_7 : decode cX7_isSpan 7 = .ok (.i2l, 1) := by decide +kernel
theorem dX7_isSpan_8 : decode cX7_isSpan 8 = .ok (.ladd, 1) := by decide +kernel
theorem dX7_isSpan_9 : decode cX7_isSpan 9 = .ok (.aload_n 0, 1) := by decide +kernel
theorem dX7_isSpan_10 : decode cX7_isSpan 10 = .ok (.getfield 25, 3) := by decide +kernel
theorem dX7_isSpan_13 : decode cX7_isSpan 13 = .ok (.iload_n 1, 1) := by decide +kernel
theorem dX7_isSpan_14 : decode cX7_isSpan 14 = .ok (.iaload, 1) := by decide +kernel
theorem dX7_isSpan_15 : decode cX7_isSpan 15 = .ok (.i2l, 1) := by decide +kernel
theorem dX7_isSpan_16 : decode cX7_isSpan 16 = .ok (.lcmp, 1) := by decide +kernel
theorem dX7_isSpan_17 : decode cX7_isSpan 17 = .ok (.ifCond .gt 7, 3) := by decide +kernel
theorem dX7_isSpan_20 : decode cX7_isSpan 20 = .ok (.iconst 1, 1) := by decide +kernel
theorem dX7_isSpan_21 : decode cX7_isSpan 21 = .ok (.goto 4, 3) := by decide +kernel
theorem dX7_isSpan_24 : decode cX7_isSpan 24 = .ok (.iconst 0, 1) := by decide +kernel
theorem dX7_isSpan_25 : decode cX7_isSpan 25 = .ok (.ireturn, 1) := by decide +kernel
theorem dX7_copy_0 : decode cX7_copy 0 = .ok (.iload_n 1, 1) := by decide +kernel
theorem dX7_copy_1 : decode cX7_copy 1 = .ok (.invokestatic 83, 3) := by decide +kernel
theorem dX7_copy_4 : decode cX7_copy 4 = .ok (.ifCond .eq 10, 3) := by decide +kernel
theorem dX7_copy_7 : decode cX7_copy 7 = .ok (.iload_n 3, 1) := by decide +kernel
theorem dX7_copy_8 : decode cX7_copy 8 = .ok (.invokestatic 83, 3) := by decide +kernel
theorem dX7_copy_11 : decode cX7_copy 11 = .ok (.ifCond .ne 5, 3) := by decide +kernel
theorem dX7_copy_14 : decode cX7_copy 14 = .ok (.iconst (-1), 1) := by decide +kernel
theorem dX7_copy_15 : decode cX7_copy 15 = .ok (.ireturn, 1) := by decide +kernel
theorem dX7_copy_16 : decode cX7_copy 16 = .ok (.iload 5, 2) := by decide +kernel
theorem dX7_copy_18 : decode cX7_copy 18 = .ok (.ifCond .ge 9, 3) := by decide +kernel
theorem dX7_copy_21 : decode cX7_copy 21 = .ok (.aload_n 0, 1) := by decide +kernel
theorem dX7_copy_22 : decode cX7_copy 22 = .ok (.iconst 5, 1) := by decide +kernel
theorem dX7_copy_23 : decode cX7_copy 23 = .ok (.invokevirtual 87, 3) := by decide +kernel
theorem dX7_copy_26 : decode cX7_copy 26 = .ok (.ireturn, 1) := by decide +kernel
theorem dX7_copy_27 : decode cX7_copy 27 = .ok (.aload_n 0, 1) := by decide +kernel
theorem dX7_copy_28 : decode cX7_copy 28 = .ok (.getfield 25, 3) := by decide +kernel
theorem dX7_copy_31 : decode cX7_copy 31 = .ok (.iload_n 1, 1) := by decide +kernel
theorem dX7_copy_32 : decode cX7_copy 32 = .ok (.iaload, 1) := by decide +kernel
theorem dX7_copy_33 : decode cX7_copy 33 = .ok (.ifCond .lt 12, 3) := by decide +kernel
theorem dX7_copy_36 : decode cX7_copy 36 = .ok (.aload_n 0, 1) := by decide +kernel
theorem dX7_copy_37 : decode cX7_copy 37 = .ok (.getfield 25, 3) := by decide +kernel
theorem dX7_copy_40 : decode cX7_copy 40 = .ok (.iload_n 3, 1) := by decide +kernel
theorem dX7_copy_41 : decode cX7_copy 41 = .ok (.iaload, 1) := by decide +kernel
theorem dX7_copy_42 : decode cX7_copy 42 = .ok (.ifCond .ge 9, 3) := by decide +kernel
theorem dX7_copy_45 : decode cX7_copy 45 = .ok (.aload_n 0, 1) := by decide +kernel
theorem dX7_copy_46 : decode cX7_copy 46 = .ok (.iconst 1, 1) := by decide +kernel
theorem dX7_copy_47 : decode cX7_copy 47 = .ok (.invokevirtual 87, 3) := by decide +kernel
theorem dX7_copy_50 : decode cX7_copy 50 = .ok (.ireturn, 1) := by decide +kernel
theorem dX7_copy_51 : decode cX7_copy 51 = .ok (.aload_n 0, 1) := by decide +kernel
theorem dX7_copy_52 : decode cX7_copy 52 = .ok (.iload_n 1, 1) := by decide +kernel
theorem dX7_copy_53 : decode cX7_copy 53 = .ok (.iload_n 2, 1) := by decide +kernel
theorem dX7_copy_54 : decode cX7_copy 54 = .ok (.iload 5, 2) := by decide +kernel
theorem dX7_copy_56 : decode cX7_copy 56 = .ok (.invokevirtual 102, 3) := by decide +kernel
theorem dX7_copy_59 : decode cX7_copy 59 = .ok (.ifCond .eq 15, 3) := by decide +kernel
theorem dX7_copy_62 : decode cX7_copy 62 = .ok (.aload_n 0, 1) := by decide +kernel
theorem dX7_copy_63 : decode cX7_copy 63 = .ok (.iload_n 3, 1) := by decide +kernel
theorem dX7_copy_64 : decode cX7_copy 64 = .ok (.iload 4, 2) := by decide +kernel
theorem dX7_copy_66 : decode cX7_copy 66 = .ok (.iload 5, 2) := by decide +kernel
theorem dX7_copy_68 : decode cX7_copy 68 = .ok (.invokevirtual 102, 3) := by decide +kernel
theorem dX7_copy_71 : decode cX7_copy 71 = .ok (.ifCond .ne 9, 3) := by decide +kernel
theorem dX7_copy_74 : decode cX7_copy 74 = .ok (.aload_n 0, 1) := by decide +kernel
theorem dX7_copy_75 : decode cX7_copy 75 = .ok (.iconst 2, 1) := by decide +kernel
theorem dX7_copy_76 : decode cX7_copy 76 = .ok (.invokevirtual 87, 3) := by decide +kernel
theorem dX7_copy_79 : decode cX7_copy 79 = .ok (.ireturn, 1) := by decide +kernel
theorem dX7_copy_80 : decode cX7_copy 80 = .ok (.iload_n 2, 1) := by decide +kernel
theorem dX7_copy_81 : decode cX7_copy 81 = .ok (.iload 4, 2) := by decide +kernel
theorem dX7_copy_83 : decode cX7_copy 83 = .ok (.if_icmp .ge 7, 3) := by decide +kernel
theorem dX7_copy_86 : decode cX7_copy 86 = .ok (.iconst 1, 1) := by decide +kernel
theorem dX7_copy_87 : decode cX7_copy 87 = .ok (.goto 4, 3) := by decide +kernel
theorem dX7_copy_90 : decode cX7_copy 90 = .ok (.iconst 0, 1) := by decide +kernel
theorem dX7_copy_91 : decode cX7_copy 91 = .ok (.istore 6, 2) := by decide +kernel
theorem dX7_copy_93 : decode cX7_copy 93 = .ok (.iconst 0, 1) := by decide +kernel
theorem dX7_copy_94 : decode cX7_copy 94 = .ok (.istore 7, 2) := by decide +kernel
theorem dX7_copy_96 : decode cX7_copy 96 = .ok (.iload 7, 2) := by decide +kernel
theorem dX7_copy_98 : decode cX7_copy 98 = .ok (.iload 5, 2) := by decide +kernel
theorem dX7_copy_100 : decode cX7_copy 100 = .ok (.if_icmp .ge 57, 3) := by decide +kernel
theorem dX7_copy_103 : decode cX7_copy 103 = .ok (.iload 6, 2) := by decide +kernel
theorem dX7_copy_105 : decode cX7_copy 105 = .ok (.ifCond .eq 13, 3) := by decide +kernel
theorem dX7_copy_108 : decode cX7_copy 108 = .ok (.iload 5, 2) := by decide +kernel
theorem dX7_copy_110 : decode cX7_copy 110 = .ok (.iconst 1, 1) := by decide +kernel
theorem dX7_copy_111 : decode cX7_copy 111 = .ok (.isub, 1) := by decide +kernel
theorem dX7_copy_112 : decode cX7_copy 112 = .ok (.iload 7, 2) := by decide +kernel
theorem dX7_copy_114 : decode cX7_copy 114 = .ok (.isub, 1) := by decide +kernel
theorem dX7_copy_115 : decode cX7_copy 115 = .ok (.goto 5, 3) := by decide +kernel
theorem dX7_copy_118 : decode cX7_copy 118 = .ok (.iload 7, 2) := by decide +kernel
theorem dX7_copy_120 : decode cX7_copy 120 = .ok (.istore 8, 2) := by decide +kernel
theorem dX7_copy_122 : decode cX7_copy 122 = .ok (.aload_n 0, 1) := by decide +kernel
theorem dX7_copy_123 : decode cX7_copy 123 = .ok (.getfield 28, 3) := by decide +kernel
theorem dX7_copy_126 : decode cX7_copy 126 = .ok (.bipush 40, 2) := by decide +kernel
theorem dX7_copy_128 : decode cX7_copy 128 = .ok (.iload_n 3, 1) := by decide +kernel
theorem dX7_copy_129 : decode cX7_copy 129 = .ok (.imul, 1) := by decide +kernel
theorem dX7_copy_130 : decode cX7_copy 130 = .ok (.iload 4, 2) := by decide +kernel
theorem dX7_copy_132 : decode cX7_copy 132 = .ok (.iadd, 1) := by decide +kernel
theorem dX7_copy_133 : decode cX7_copy 133 = .ok (.iload 8, 2) := by decide +kernel
theorem dX7_copy_135 : decode cX7_copy 135 = .ok (.iadd, 1) := by decide +kernel
theorem dX7_copy_136 : decode cX7_copy 136 = .ok (.aload_n 0, 1) := by decide +kernel
theorem dX7_copy_137 : decode cX7_copy 137 = .ok (.getfield 28, 3) := by decide +kernel
theorem dX7_copy_140 : decode cX7_copy 140 = .ok (.bipush 40, 2) := by decide +kernel
theorem dX7_copy_142 : decode cX7_copy 142 = .ok (.iload_n 1, 1) := by decide +kernel
theorem dX7_copy_143 : decode cX7_copy 143 = .ok (.imul, 1) := by decide +kernel
theorem dX7_copy_144 : decode cX7_copy 144 = .ok (.iload_n 2, 1) := by decide +kernel
theorem dX7_copy_145 : decode cX7_copy 145 = .ok (.iadd, 1) := by decide +kernel
theorem dX7_copy_146 : decode cX7_copy 146 = .ok (.iload 8, 2) := by decide +kernel
theorem dX7_copy_148 : decode cX7_copy 148 = .ok (.iadd, 1) := by decide +kernel
theorem dX7_copy_149 : decode cX7_copy 149 = .ok (.iaload, 1) := by decide +kernel
theorem dX7_copy_150 : decode cX7_copy 150 = .ok (.iastore, 1) := by decide +kernel
theorem dX7_copy_151 : decode cX7_copy 151 = .ok (.iinc 7 1, 3) := by decide +kernel
theorem dX7_copy_154 : decode cX7_copy 154 = .ok (.goto (-58), 3) := by decide +kernel
theorem dX7_copy_157 : decode cX7_copy 157 = .ok (.iconst 1, 1) := by decide +kernel
theorem dX7_copy_158 : decode cX7_copy 158 = .ok (.ireturn, 1) := by decide +kernel
theorem dX7_mean_0 : decode cX7_mean 0 = .ok (.iload_n 1, 1) := by decide +kernel
theorem dX7_mean_1 : decode cX7_mean 1 = .ok (.invokestatic 83, 3) := by decide +kernel
theorem dX7_mean_4 : decode cX7_mean 4 = .ok (.ifCond .ne 5, 3) := by decide +kernel
theorem dX7_mean_7 : decode cX7_mean 7 = .ok (.iconst (-1), 1) := by decide +kernel
theorem dX7_mean_8 : decode cX7_mean 8 = .ok (.ireturn, 1) := by decide +kernel
theorem dX7_mean_9 : decode cX7_mean 9 = .ok (.aload_n 0, 1) := by decide +kernel
theorem dX7_mean_10 : decode cX7_mean 10 = .ok (.getfield 25, 3) := by decide +kernel
theorem dX7_mean_13 : decode cX7_mean 13 = .ok (.iload_n 1, 1) := by decide +kernel
theorem dX7_mean_14 : decode cX7_mean 14 = .ok (.iaload, 1) := by decide +kernel
theorem dX7_mean_15 : decode cX7_mean 15 = .ok (.ifCond .ge 9, 3) := by decide +kernel
theorem dX7_mean_18 : decode cX7_mean 18 = .ok (.aload_n 0, 1) := by decide +kernel
theorem dX7_mean_19 : decode cX7_mean 19 = .ok (.iconst 1, 1) := by decide +kernel
theorem dX7_mean_20 : decode cX7_mean 20 = .ok (.invokevirtual 87, 3) := by decide +kernel
theorem dX7_mean_23 : decode cX7_mean 23 = .ok (.ireturn, 1) := by decide +kernel
theorem dX7_mean_24 : decode cX7_mean 24 = .ok (.aload_n 0, 1) := by decide +kernel
theorem dX7_mean_25 : decode cX7_mean 25 = .ok (.getfield 25, 3) := by decide +kernel
theorem dX7_mean_28 : decode cX7_mean 28 = .ok (.iload_n 1, 1) := by decide +kernel
theorem dX7_mean_29 : decode cX7_mean 29 = .ok (.iaload, 1) := by decide +kernel
theorem dX7_mean_30 : decode cX7_mean 30 = .ok (.ifCond .ne 9, 3) := by decide +kernel
theorem dX7_mean_33 : decode cX7_mean 33 = .ok (.aload_n 0, 1) := by decide +kernel
theorem dX7_mean_34 : decode cX7_mean 34 = .ok (.iconst 4, 1) := by decide +kernel
theorem dX7_mean_35 : decode cX7_mean 35 = .ok (.invokevirtual 87, 3) := by decide +kernel
theorem dX7_mean_38 : decode cX7_mean 38 = .ok (.ireturn, 1) := by decide +kernel
theorem dX7_mean_39 : decode cX7_mean 39 = .ok (.lconst 0, 1) := by decide +kernel
theorem dX7_mean_40 : decode cX7_mean 40 = .ok (.lstore_n 2, 1) := by decide +kernel
theorem dX7_mean_41 : decode cX7_mean 41 = .ok (.iconst 0, 1) := by decide +kernel
theorem dX7_mean_42 : decode cX7_mean 42 = .ok (.istore 4, 2) := by decide +kernel
theorem dX7_mean_44 : decode cX7_mean 44 = .ok (.iload 4, 2) := by decide +kernel
theorem dX7_mean_46 : decode cX7_mean 46 = .ok (.aload_n 0, 1) := by decide +kernel
theorem dX7_mean_47 : decode cX7_mean 47 = .ok (.getfield 25, 3) := by decide +kernel
theorem dX7_mean_50 : decode cX7_mean 50 = .ok (.iload_n 1, 1) := by decide +kernel
theorem dX7_mean_51 : decode cX7_mean 51 = .ok (.iaload, 1) := by decide +kernel
theorem dX7_mean_52 : decode cX7_mean 52 = .ok (.if_icmp .ge 25, 3) := by decide +kernel
theorem dX7_mean_55 : decode cX7_mean 55 = .ok (.lload_n 2, 1) := by decide +kernel
theorem dX7_mean_56 : decode cX7_mean 56 = .ok (.aload_n 0, 1) := by decide +kernel
theorem dX7_mean_57 : decode cX7_mean 57 = .ok (.getfield 28, 3) := by decide +kernel
theorem dX7_mean_60 : decode cX7_mean 60 = .ok (.bipush 40, 2) := by decide +kernel
theorem dX7_mean_62 : decode cX7_mean 62 = .ok (.iload_n 1, 1) := by decide +kernel
theorem dX7_mean_63 : decode cX7_mean 63 = .ok (.imul, 1) := by decide +kernel
theorem dX7_mean_64 : decode cX7_mean 64 = .ok (.iload 4, 2) := by decide +kernel
theorem dX7_mean_66 : decode cX7_mean 66 = .ok (.iadd, 1) := by decide +kernel
theorem dX7_mean_67 : decode cX7_mean 67 = .ok (.iaload, 1) := by decide +kernel
theorem dX7_mean_68 : decode cX7_mean 68 = .ok (.i2l, 1) := by decide +kernel
theorem dX7_mean_69 : decode cX7_mean 69 = .ok (.ladd, 1) := by decide +kernel
theorem dX7_mean_70 : decode cX7_mean 70 = .ok (.lstore_n 2, 1) := by decide +kernel
theorem dX7_mean_71 : decode cX7_mean 71 = .ok (.iinc 4 1, 3) := by decide +kernel
theorem dX7_mean_74 : decode cX7_mean 74 = .ok (.goto (-30), 3) := by decide +kernel
theorem dX7_mean_77 : decode cX7_mean 77 = .ok (.aload_n 0, 1) := by decide +kernel
theorem dX7_mean_78 : decode cX7_mean 78 = .ok (.lload_n 2, 1) := by decide +kernel
theorem dX7_mean_79 : decode cX7_mean 79 = .ok (.aload_n 0, 1) := by decide +kernel
theorem dX7_mean_80 : decode cX7_mean 80 = .ok (.getfield 25, 3) := by decide +kernel
theorem dX7_mean_83 : decode cX7_mean 83 = .ok (.iload_n 1, 1) := by decide +kernel
theorem dX7_mean_84 : decode cX7_mean 84 = .ok (.iaload, 1) := by decide +kernel
theorem dX7_mean_85 : decode cX7_mean 85 = .ok (.i2l, 1) := by decide +kernel
theorem dX7_mean_86 : decode cX7_mean 86 = .ok (.ldiv, 1) := by decide +kernel
theorem dX7_mean_87 : decode cX7_mean 87 = .ok (.l2i, 1) := by decide +kernel
theorem dX7_mean_88 : decode cX7_mean 88 = .ok (.invokevirtual 99, 3) := by decide +kernel
theorem dX7_mean_91 : decode cX7_mean 91 = .ok (.ireturn, 1) := by decide +kernel
theorem dX7_text_0 : decode cX7_text 0 = .ok (.iload_n 1, 1) := by decide +kernel
theorem dX7_text_1 : decode cX7_text 1 = .ok (.invokestatic 106, 3) := by decide +kernel
theorem dX7_text_4 : decode cX7_text 4 = .ok (.ifCond .eq 9, 3) := by decide +kernel
theorem dX7_text_7 : decode cX7_text 7 = .ok (.iload_n 2, 1) := by decide +kernel
theorem dX7_text_8 : decode cX7_text 8 = .ok (.bipush 60, 2) := by decide +kernel
theorem dX7_text_10 : decode cX7_text 10 = .ok (.if_icmp .le 5, 3) := by decide +kernel
theorem dX7_text_13 : decode cX7_text 13 = .ok (.iconst (-1), 1) := by decide +kernel
theorem dX7_text_14 : decode cX7_text 14 = .ok (.ireturn, 1) := by decide +kernel
theorem dX7_text_15 : decode cX7_text 15 = .ok (.iload_n 2, 1) := by decide +kernel
theorem dX7_text_16 : decode cX7_text 16 = .ok (.ifCond .ge 9, 3) := by decide +kernel
theorem dX7_text_19 : decode cX7_text 19 = .ok (.aload_n 0, 1) := by decide +kernel
theorem dX7_text_20 : decode cX7_text 20 = .ok (.iconst 5, 1) := by decide +kernel
theorem dX7_text_21 : decode cX7_text 21 = .ok (.invokevirtual 87, 3) := by decide +kernel
theorem dX7_text_24 : decode cX7_text 24 = .ok (.ireturn, 1) := by decide +kernel
theorem dX7_text_25 : decode cX7_text 25 = .ok (.aload_n 0, 1) := by decide +kernel
theorem dX7_text_26 : decode cX7_text 26 = .ok (.getfield 31, 3) := by decide +kernel
theorem dX7_text_29 : decode cX7_text 29 = .ok (.iload_n 1, 1) := by decide +kernel
theorem dX7_text_30 : decode cX7_text 30 = .ok (.iload_n 2, 1) := by decide +kernel
theorem dX7_text_31 : decode cX7_text 31 = .ok (.iastore, 1) := by decide +kernel
theorem dX7_text_32 : decode cX7_text 32 = .ok (.iconst 0, 1) := by decide +kernel
theorem dX7_text_33 : decode cX7_text 33 = .ok (.istore_n 3, 1) := by decide +kernel
theorem dX7_text_34 : decode cX7_text 34 = .ok (.iload_n 3, 1) := by decide +kernel
theorem dX7_text_35 : decode cX7_text 35 = .ok (.bipush 60, 2) := by decide +kernel
theorem dX7_text_37 : decode cX7_text 37 = .ok (.if_icmp .ge 22, 3) := by decide +kernel
theorem dX7_text_40 : decode cX7_text 40 = .ok (.aload_n 0, 1) := by decide +kernel
theorem dX7_text_41 : decode cX7_text 41 = .ok (.getfield 34, 3) := by decide +kernel
theorem dX7_text_44 : decode cX7_text 44 = .ok (.bipush 60, 2) := by decide +kernel
theorem dX7_text_46 : decode cX7_text 46 = .ok (.iload_n 1, 1) := by decide +kernel
theorem dX7_text_47 : decode cX7_text 47 = .ok (.imul, 1) := by decide +kernel
theorem dX7_text_48 : decode cX7_text 48 = .ok (.iload_n 3, 1) := by decide +kernel
theorem dX7_text_49 : decode cX7_text 49 = .ok (.iadd, 1) := by decide +kernel
theorem dX7_text_50 : decode cX7_text 50 = .ok (.bipush 32, 2) := by decide +kernel
theorem dX7_text_52 : decode cX7_text 52 = .ok (.iastore, 1) := by decide +kernel
theorem dX7_text_53 : decode cX7_text 53 = .ok (.iinc 3 1, 3) := by decide +kernel
theorem dX7_text_56 : decode cX7_text 56 = .ok (.goto (-22), 3) := by decide +kernel
theorem dX7_text_59 : decode cX7_text 59 = .ok (.iload_n 2, 1) := by decide +kernel
theorem dX7_text_60 : decode cX7_text 60 = .ok (.ireturn, 1) := by decide +kernel
theorem dX7_put_0 : decode cX7_put 0 = .ok (.iload_n 1, 1) := by decide +kernel
theorem dX7_put_1 : decode cX7_put 1 = .ok (.invokestatic 106, 3) := by decide +kernel
theorem dX7_put_4 : decode cX7_put 4 = .ok (.ifCond .ne 5, 3) := by decide +kernel
theorem dX7_put_7 : decode cX7_put 7 = .ok (.iconst (-1), 1) := by decide +kernel
theorem dX7_put_8 : decode cX7_put 8 = .ok (.ireturn, 1) := by decide +kernel
theorem dX7_put_9 : decode cX7_put 9 = .ok (.aload_n 0, 1) := by decide +kernel
theorem dX7_put_10 : decode cX7_put 10 = .ok (.getfield 31, 3) := by decide +kernel
theorem dX7_put_13 : decode cX7_put 13 = .ok (.iload_n 1, 1) := by decide +kernel
theorem dX7_put_14 : decode cX7_put 14 = .ok (.iaload, 1) := by decide +kernel
theorem dX7_put_15 : decode cX7_put 15 = .ok (.ifCond .ge 9, 3) := by decide +kernel
theorem dX7_put_18 : decode cX7_put 18 = .ok (.aload_n 0, 1) := by decide +kernel
theorem dX7_put_19 : decode cX7_put 19 = .ok (.iconst 1, 1) := by decide +kernel
theorem dX7_put_20 : decode cX7_put 20 = .ok (.invokevirtual 87, 3) := by decide +kernel
theorem dX7_put_23 : decode cX7_put 23 = .ok (.ireturn, 1) := by decide +kernel
theorem dX7_put_24 : decode cX7_put 24 = .ok (.iload_n 2, 1) := by decide +kernel
theorem dX7_put_25 : decode cX7_put 25 = .ok (.i2l, 1) := by decide +kernel
theorem dX7_put_26 : decode cX7_put 26 = .ok (.lconst 0, 1) := by decide +kernel
theorem dX7_put_27 : decode cX7_put 27 = .ok (.aload_n 0, 1) := by decide +kernel
theorem dX7_put_28 : decode cX7_put 28 = .ok (.getfield 31, 3) := by decide +kernel
theorem dX7_put_31 : decode cX7_put 31 = .ok (.iload_n 1, 1) := by decide +kernel
theorem dX7_put_32 : decode cX7_put 32 = .ok (.iaload, 1) := by decide +kernel
theorem dX7_put_33 : decode cX7_put 33 = .ok (.iconst 1, 1) := by decide +kernel
theorem dX7_put_34 : decode cX7_put 34 = .ok (.isub, 1) := by decide +kernel
theorem dX7_put_35 : decode cX7_put 35 = .ok (.i2l, 1) := by decide +kernel
theorem dX7_put_36 : decode cX7_put 36 = .ok (.invokestatic 77, 3) := by decide +kernel
theorem dX7_put_39 : decode cX7_put 39 = .ok (.ifCond .ne 9, 3) := by decide +kernel
theorem dX7_put_42 : decode cX7_put 42 = .ok (.aload_n 0, 1) := by decide +kernel
theorem dX7_put_43 : decode cX7_put 43 = .ok (.iconst 2, 1) := by decide +kernel
theorem dX7_put_44 : decode cX7_put 44 = .ok (.invokevirtual 87, 3) := by decide +kernel
theorem dX7_put_47 : decode cX7_put 47 = .ok (.ireturn, 1) := by decide +kernel
theorem dX7_put_48 : decode cX7_put 48 = .ok (.aload_n 0, 1) := by decide +kernel
theorem dX7_put_49 : decode cX7_put 49 = .ok (.getfield 34, 3) := by decide +kernel
theorem dX7_put_52 : decode cX7_put 52 = .ok (.bipush 60, 2) := by decide +kernel
theorem dX7_put_54 : decode cX7_put 54 = .ok (.iload_n 1, 1) := by decide +kernel
theorem dX7_put_55 : decode cX7_put 55 = .ok (.imul, 1) := by decide +kernel
theorem dX7_put_56 : decode cX7_put 56 = .ok (.iload_n 2, 1) := by decide +kernel
theorem dX7_put_57 : decode cX7_put 57 = .ok (.iadd, 1) := by decide +kernel
theorem dX7_put_58 : decode cX7_put 58 = .ok (.iaload, 1) := by decide +kernel
theorem dX7_put_59 : decode cX7_put 59 = .ok (.istore 4, 2) := by decide +kernel
theorem dX7_put_61 : decode cX7_put 61 = .ok (.aload_n 0, 1) := by decide +kernel
theorem dX7_put_62 : decode cX7_put 62 = .ok (.getfield 34, 3) := by decide +kernel
theorem dX7_put_65 : decode cX7_put 65 = .ok (.bipush 60, 2) := by decide +kernel
theorem dX7_put_67 : decode cX7_put 67 = .ok (.iload_n 1, 1) := by decide +kernel
theorem dX7_put_68 : decode cX7_put 68 = .ok (.imul, 1) := by decide +kernel
theorem dX7_put_69 : decode cX7_put 69 = .ok (.iload_n 2, 1) := by decide +kernel
theorem dX7_put_70 : decode cX7_put 70 = .ok (.iadd, 1) := by decide +kernel
theorem dX7_put_71 : decode cX7_put 71 = .ok (.iload_n 3, 1) := by decide +kernel
theorem dX7_put_72 : decode cX7_put 72 = .ok (.i2b, 1) := by decide +kernel
theorem dX7_put_73 : decode cX7_put 73 = .ok (.iastore, 1) := by decide +kernel
theorem dX7_put_74 : decode cX7_put 74 = .ok (.iload 4, 2) := by decide +kernel
theorem dX7_put_76 : decode cX7_put 76 = .ok (.sipush 1000, 3) := by decide +kernel
theorem dX7_put_79 : decode cX7_put 79 = .ok (.iadd, 1) := by decide +kernel
theorem dX7_put_80 : decode cX7_put 80 = .ok (.ireturn, 1) := by decide +kernel
theorem dX7_here_0 : decode cX7_here 0 = .ok (.aload_n 0, 1) := by decide +kernel
theorem dX7_here_1 : decode cX7_here 1 = .ok (.getfield 34, 3) := by decide +kernel
theorem dX7_here_4 : decode cX7_here 4 = .ok (.aload_n 0, 1) := by decide +kernel
theorem dX7_here_5 : decode cX7_here 5 = .ok (.getfield 109, 3) := by decide +kernel
theorem dX7_here_8 : decode cX7_here 8 = .ok (.aload_n 0, 1) := by decide +kernel
theorem dX7_here_9 : decode cX7_here 9 = .ok (.getfield 112, 3) := by decide +kernel
theorem dX7_here_12 : decode cX7_here 12 = .ok (.iadd, 1) := by decide +kernel
theorem dX7_here_13 : decode cX7_here 13 = .ok (.iaload, 1) := by decide +kernel
theorem dX7_here_14 : decode cX7_here 14 = .ok (.ireturn, 1) := by decide +kernel
theorem dX7_skip_0 : decode cX7_skip 0 = .ok (.aload_n 0, 1) := by decide +kernel
theorem dX7_skip_1 : decode cX7_skip 1 = .ok (.getfield 112, 3) := by decide +kernel
theorem dX7_skip_4 : decode cX7_skip 4 = .ok (.aload_n 0, 1) := by decide +kernel
theorem dX7_skip_5 : decode cX7_skip 5 = .ok (.getfield 115, 3) := by decide +kernel
theorem dX7_skip_8 : decode cX7_skip 8 = .ok (.if_icmp .ge 25, 3) := by decide +kernel
theorem dX7_skip_11 : decode cX7_skip 11 = .ok (.aload_n 0, 1) := by decide +kernel
theorem dX7_skip_12 : decode cX7_skip 12 = .ok (.invokevirtual 118, 3) := by decide +kernel
theorem dX7_skip_15 : decode cX7_skip 15 = .ok (.bipush 32, 2) := by decide +kernel
theorem dX7_skip_17 : decode cX7_skip 17 = .ok (.if_icmp .ne 16, 3) := by decide +kernel
theorem dX7_skip_20 : decode cX7_skip 20 = .ok (.aload_n 0, 1) := by decide +kernel
theorem dX7_skip_21 : decode cX7_skip 21 = .ok (.dup, 1) := by decide +kernel
theorem dX7_skip_22 : decode cX7_skip 22 = .ok (.getfield 112, 3) := by decide +kernel
theorem dX7_skip_25 : decode cX7_skip 25 = .ok (.iconst 1, 1) := by decide +kernel
theorem dX7_skip_26 : decode cX7_skip 26 = .ok (.iadd, 1) := by decide +kernel
theorem dX7_skip_27 : decode cX7_skip 27 = .ok (.putfield 112, 3) := by decide +kernel
theorem dX7_skip_30 : decode cX7_skip 30 = .ok (.goto (-30), 3) := by decide +kernel
theorem dX7_skip_33 : decode cX7_skip 33 = .ok (.return_, 1) := by decide +kernel
theorem dX7_figure_0 : decode cX7_figure 0 = .ok (.aload_n 0, 1) := by decide +kernel
theorem dX7_figure_1 : decode cX7_figure 1 = .ok (.getfield 112, 3) := by decide +kernel
theorem dX7_figure_4 : decode cX7_figure 4 = .ok (.aload_n 0, 1) := by decide +kernel
theorem dX7_figure_5 : decode cX7_figure 5 = .ok (.getfield 115, 3) := by decide +kernel
theorem dX7_figure_8 : decode cX7_figure 8 = .ok (.if_icmp .eq 24, 3) := by decide +kernel
theorem dX7_figure_11 : decode cX7_figure 11 = .ok (.aload_n 0, 1) := by decide +kernel
theorem dX7_figure_12 : decode cX7_figure 12 = .ok (.invokevirtual 118, 3) := by decide +kernel
theorem dX7_figure_15 : decode cX7_figure 15 = .ok (.i2l, 1) := by decide +kernel
theorem dX7_figure_16 : decode cX7_figure 16 = .ok (.bipush 48, 2) := by decide +kernel
theorem dX7_figure_18 : decode cX7_figure 18 = .ok (.iload_n 1, 1) := by decide +kernel
theorem dX7_figure_19 : decode cX7_figure 19 = .ok (.iadd, 1) := by decide +kernel
theorem dX7_figure_20 : decode cX7_figure 20 = .ok (.i2l, 1) := by decide +kernel
theorem dX7_figure_21 : decode cX7_figure 21 = .ok (.bipush 48, 2) := by decide +kernel
theorem dX7_figure_23 : decode cX7_figure 23 = .ok (.iload_n 2, 1) := by decide +kernel
theorem dX7_figure_24 : decode cX7_figure 24 = .ok (.iadd, 1) := by decide +kernel
theorem dX7_figure_25 : decode cX7_figure 25 = .ok (.i2l, 1) := by decide +kernel
theorem dX7_figure_26 : decode cX7_figure 26 = .ok (.invokestatic 77, 3) := by decide +kernel
theorem dX7_figure_29 : decode cX7_figure 29 = .ok (.ifCond .ne 6, 3) := by decide +kernel
theorem dX7_figure_32 : decode cX7_figure 32 = .ok (.bipush (-9), 2) := by decide +kernel
theorem dX7_figure_34 : decode cX7_figure 34 = .ok (.ireturn, 1) := by decide +kernel
theorem dX7_figure_35 : decode cX7_figure 35 = .ok (.aload_n 0, 1) := by decide +kernel
theorem dX7_figure_36 : decode cX7_figure 36 = .ok (.dup, 1) := by decide +kernel
theorem dX7_figure_37 : decode cX7_figure 37 = .ok (.getfield 112, 3) := by decide +kernel
theorem dX7_figure_40 : decode cX7_figure 40 = .ok (.iconst 1, 1) := by decide +kernel
theorem dX7_figure_41 : decode cX7_figure 41 = .ok (.iadd, 1) := by decide +kernel
theorem dX7_figure_42 : decode cX7_figure 42 = .ok (.putfield 112, 3) := by decide +kernel
theorem dX7_figure_45 : decode cX7_figure 45 = .ok (.aload_n 0, 1) := by decide +kernel
theorem dX7_figure_46 : decode cX7_figure 46 = .ok (.getfield 34, 3) := by decide +kernel
theorem dX7_figure_49 : decode cX7_figure 49 = .ok (.aload_n 0, 1) := by decide +kernel
theorem dX7_figure_50 : decode cX7_figure 50 = .ok (.getfield 109, 3) := by decide +kernel
theorem dX7_figure_53 : decode cX7_figure 53 = .ok (.aload_n 0, 1) := by decide +kernel
theorem dX7_figure_54 : decode cX7_figure 54 = .ok (.getfield 112, 3) := by decide +kernel
theorem dX7_figure_57 : decode cX7_figure 57 = .ok (.iadd, 1) := by decide +kernel
theorem dX7_figure_58 : decode cX7_figure 58 = .ok (.iconst 1, 1) := by decide +kernel
theorem dX7_figure_59 : decode cX7_figure 59 = .ok (.isub, 1) := by decide +kernel
theorem dX7_figure_60 : decode cX7_figure 60 = .ok (.iaload, 1) := by decide +kernel
theorem dX7_figure_61 : decode cX7_figure 61 = .ok (.bipush 48, 2) := by decide +kernel
theorem dX7_figure_63 : decode cX7_figure 63 = .ok (.isub, 1) := by decide +kernel
theorem dX7_figure_64 : decode cX7_figure 64 = .ok (.ireturn, 1) := by decide +kernel
theorem dX7_readsHead_0 : decode cX7_readsHead 0 = .ok (.aload_n 0, 1) := by decide +kernel
theorem dX7_readsHead_1 : decode cX7_readsHead 1 = .ok (.invokevirtual 122, 3) := by decide +kernel
theorem dX7_readsHead_4 : decode cX7_readsHead 4 = .ok (.aload_n 0, 1) := by decide +kernel
theorem dX7_readsHead_5 : decode cX7_readsHead 5 = .ok (.getfield 112, 3) := by decide +kernel
theorem dX7_readsHead_8 : decode cX7_readsHead 8 = .ok (.aload_n 0, 1) := by decide +kernel
theorem dX7_readsHead_9 : decode cX7_readsHead 9 = .ok (.getfield 115, 3) := by decide +kernel
theorem dX7_readsHead_12 : decode cX7_readsHead 12 = .ok (.if_icmp .eq 12, 3) := by decide +kernel
theorem dX7_readsHead_15 : decode cX7_readsHead 15 = .ok (.aload_n 0, 1) := by decide +kernel
theorem dX7_readsHead_16 : decode cX7_readsHead 16 = .ok (.invokevirtual 118, 3) := by decide +kernel
theorem dX7_readsHead_19 : decode cX7_readsHead 19 = .ok (.bipush 119, 2) := by decide +kernel
theorem dX7_readsHead_21 : decode cX7_readsHead 21 = .ok (.if_icmp .eq 5, 3) := by decide +kernel
theorem dX7_readsHead_24 : decode cX7_readsHead 24 = .ok (.iconst 0, 1) := by decide +kernel
theorem dX7_readsHead_25 : decode cX7_readsHead 25 = .ok (.ireturn, 1) := by decide +kernel
theorem dX7_readsHead_26 : decode cX7_readsHead 26 = .ok (.aload_n 0, 1) := by decide +kernel
theorem dX7_readsHead_27 : decode cX7_readsHead 27 = .ok (.dup, 1) := by decide +kernel
theorem dX7_readsHead_28 : decode cX7_readsHead 28 = .ok (.getfield 112, 3) := by decide +kernel
theorem dX7_readsHead_31 : decode cX7_readsHead 31 = .ok (.iconst 1, 1) := by decide +kernel
theorem dX7_readsHead_32 : decode cX7_readsHead 32 = .ok (.iadd, 1) := by decide +kernel
theorem dX7_readsHead_33 : decode cX7_readsHead 33 = .ok (.putfield 112, 3) := by decide +kernel
theorem dX7_readsHead_36 : decode cX7_readsHead 36 = .ok (.iconst 0, 1) := by decide +kernel
theorem dX7_readsHead_37 : decode cX7_readsHead 37 = .ok (.istore_n 1, 1) := by decide +kernel
theorem dX7_readsHead_38 : decode cX7_readsHead 38 = .ok (.iload_n 1, 1) := by decide +kernel
theorem dX7_readsHead_39 : decode cX7_readsHead 39 = .ok (.iconst 4, 1) := by decide +kernel
theorem dX7_readsHead_40 : decode cX7_readsHead 40 = .ok (.if_icmp .ge 32, 3) := by decide +kernel
theorem dX7_readsHead_43 : decode cX7_readsHead 43 = .ok (.aload_n 0, 1) := by decide +kernel
theorem dX7_readsHead_44 : decode cX7_readsHead 44 = .ok (.iconst 0, 1) := by decide +kernel
theorem dX7_readsHead_45 : decode cX7_readsHead 45 = .ok (.bipush 9, 2) := by decide +kernel
theorem dX7_readsHead_47 : decode cX7_readsHead 47 = .ok (.invokevirtual 125, 3) := by decide +kernel
theorem dX7_readsHead_50 : decode cX7_readsHead 50 = .ok (.istore_n 2, 1) := by decide +kernel
theorem dX7_readsHead_51 : decode cX7_readsHead 51 = .ok (.iload_n 2, 1) := by decide +kernel
theorem dX7_readsHead_52 : decode cX7_readsHead 52 = .ok (.bipush (-9), 2) := by decide +kernel
theorem dX7_readsHead_54 : decode cX7_readsHead 54 = .ok (.if_icmp .ne 5, 3) := by decide +kernel
theorem dX7_readsHead_57 : decode cX7_readsHead 57 = .ok (.iconst 0, 1) := by decide +kernel
theorem dX7_readsHead_58 : decode cX7_readsHead 58 = .ok (.ireturn, 1) := by decide +kernel
theorem dX7_readsHead_59 : decode cX7_readsHead 59 = .ok (.aload_n 0, 1) := by decide +kernel
theorem dX7_readsHead_60 : decode cX7_readsHead 60 = .ok (.getfield 44, 3) := by decide +kernel
theorem dX7_readsHead_63 : decode cX7_readsHead 63 = .ok (.iload_n 1, 1) := by decide +kernel
theorem dX7_readsHead_64 : decode cX7_readsHead 64 = .ok (.iload_n 2, 1) := by decide +kernel
theorem dX7_readsHead_65 : decode cX7_readsHead 65 = .ok (.iastore, 1) := by decide +kernel
theorem dX7_readsHead_66 : decode cX7_readsHead 66 = .ok (.iinc 1 1, 3) := by decide +kernel
theorem dX7_readsHead_69 : decode cX7_readsHead 69 = .ok (.goto (-31), 3) := by decide +kernel
theorem dX7_readsHead_72 : decode cX7_readsHead 72 = .ok (.aload_n 0, 1) := by decide +kernel
theorem dX7_readsHead_73 : decode cX7_readsHead 73 = .ok (.iconst 0, 1) := by decide +kernel
theorem dX7_readsHead_74 : decode cX7_readsHead 74 = .ok (.bipush 9, 2) := by decide +kernel
theorem dX7_readsHead_76 : decode cX7_readsHead 76 = .ok (.invokevirtual 125, 3) := by decide +kernel
theorem dX7_readsHead_79 : decode cX7_readsHead 79 = .ok (.istore_n 1, 1) := by decide +kernel
theorem dX7_readsHead_80 : decode cX7_readsHead 80 = .ok (.iload_n 1, 1) := by decide +kernel
theorem dX7_readsHead_81 : decode cX7_readsHead 81 = .ok (.bipush (-9), 2) := by decide +kernel
theorem dX7_readsHead_83 : decode cX7_readsHead 83 = .ok (.if_icmp .ne 8, 3) := by decide +kernel
theorem dX7_readsHead_86 : decode cX7_readsHead 86 = .ok (.bipush (-9), 2) := by decide +kernel
theorem dX7_readsHead_88 : decode cX7_readsHead 88 = .ok (.goto 10, 3) := by decide +kernel
theorem dX7_readsHead_91 : decode cX7_readsHead 91 = .ok (.aload_n 0, 1) := by decide +kernel
theorem dX7_readsHead_92 : decode cX7_readsHead 92 = .ok (.iconst 0, 1) := by decide +kernel
theorem dX7_readsHead_93 : decode cX7_readsHead 93 = .ok (.bipush 9, 2) := by decide +kernel
theorem dX7_readsHead_95 : decode cX7_readsHead 95 = .ok (.invokevirtual 125, 3) := by decide +kernel
theorem dX7_readsHead_98 : decode cX7_readsHead 98 = .ok (.istore_n 2, 1) := by decide +kernel
theorem dX7_readsHead_99 : decode cX7_readsHead 99 = .ok (.aload_n 0, 1) := by decide +kernel
theorem dX7_readsHead_100 : decode cX7_readsHead 100 = .ok (.bipush 10, 2) := by decide +kernel
theorem dX7_readsHead_102 : decode cX7_readsHead 102 = .ok (.iload_n 1, 1) := by decide +kernel
theorem dX7_readsHead_103 : decode cX7_readsHead 103 = .ok (.imul, 1) := by decide +kernel
theorem dX7_readsHead_104 : decode cX7_readsHead 104 = .ok (.iload_n 2, 1) := by decide +kernel
theorem dX7_readsHead_105 : decode cX7_readsHead 105 = .ok (.iadd, 1) := by decide +kernel
theorem dX7_readsHead_106 : decode cX7_readsHead 106 = .ok (.putfield 128, 3) := by decide +kernel
theorem dX7_readsHead_109 : decode cX7_readsHead 109 = .ok (.iload_n 2, 1) := by decide +kernel
theorem dX7_readsHead_110 : decode cX7_readsHead 110 = .ok (.bipush (-9), 2) := by decide +kernel
theorem dX7_readsHead_112 : decode cX7_readsHead 112 = .ok (.if_icmp .eq 7, 3) := by decide +kernel
theorem dX7_readsHead_115 : decode cX7_readsHead 115 = .ok (.iconst 1, 1) := by decide +kernel
theorem dX7_readsHead_116 : decode cX7_readsHead 116 = .ok (.goto 4, 3) := by decide +kernel
theorem dX7_readsHead_119 : decode cX7_readsHead 119 = .ok (.iconst 0, 1) := by decide +kernel
theorem dX7_readsHead_120 : decode cX7_readsHead 120 = .ok (.ireturn, 1) := by decide +kernel
theorem dX7_kindOfLetter_0 : decode cX7_kindOfLetter 0 = .ok (.iload_n 0, 1) := by decide +kernel
theorem dX7_kindOfLetter_1 : decode cX7_kindOfLetter 1 = .ok (.bipush 107, 2) := by decide +kernel
theorem dX7_kindOfLetter_3 : decode cX7_kindOfLetter 3 = .ok (.if_icmp .ne 7, 3) := by decide +kernel
theorem dX7_kindOfLetter_6 : decode cX7_kindOfLetter 6 = .ok (.iconst 0, 1) := by decide +kernel
theorem dX7_kindOfLetter_7 : decode cX7_kindOfLetter 7 = .ok (.goto 55, 3) := by decide +kernel
theorem dX7_kindOfLetter_10 : decode cX7_kindOfLetter 10 = .ok (.iload_n 0, 1) := by decide +kernel
theorem dX7_kindOfLetter_11 : decode cX7_kindOfLetter 11 = .ok (.bipush 104, 2) := by decide +kernel
theorem dX7_kindOfLetter_13 : decode cX7_kindOfLetter 13 = .ok (.if_icmp .ne 7, 3) := by decide +kernel
theorem dX7_kindOfLetter_16 : decode cX7_kindOfLetter 16 = .ok (.iconst 1, 1) := by decide +kernel
theorem dX7_kindOfLetter_17 : decode cX7_kindOfLetter 17 = .ok (.goto 45, 3) := by decide +kernel
theorem dX7_kindOfLetter_20 : decode cX7_kindOfLetter 20 = .ok (.iload_n 0, 1) := by decide +kernel
theorem dX7_kindOfLetter_21 : decode cX7_kindOfLetter 21 = .ok (.bipush 99, 2) := by decide +kernel
theorem dX7_kindOfLetter_23 : decode cX7_kindOfLetter 23 = .ok (.if_icmp .ne 7, 3) := by decide +kernel
theorem dX7_kindOfLetter_26 : decode cX7_kindOfLetter 26 = .ok (.iconst 2, 1) := by decide +kernel
theorem dX7_kindOfLetter_27 : decode cX7_kindOfLetter 27 = .ok (.goto 35, 3) := by decide +kernel
theorem dX7_kindOfLetter_30 : decode cX7_kindOfLetter 30 = .ok (.iload_n 0, 1) := by decide +kernel
theorem dX7_kindOfLetter_31 : decode cX7_kindOfLetter 31 = .ok (.bipush 98, 2) := by decide +kernel
theorem dX7_kindOfLetter_33 : decode cX7_kindOfLetter 33 = .ok (.if_icmp .ne 7, 3) := by decide +kernel
theorem dX7_kindOfLetter_36 : decode cX7_kindOfLetter 36 = .ok (.iconst 3, 1) := by decide +kernel
theorem dX7_kindOfLetter_37 : decode cX7_kindOfLetter 37 = .ok (.goto 25, 3) := by decide +kernel
theorem dX7_kindOfLetter_40 : decode cX7_kindOfLetter 40 = .ok (.iload_n 0, 1) := by decide +kernel
theorem dX7_kindOfLetter_41 : decode cX7_kindOfLetter 41 = .ok (.bipush 106, 2) := by decide +kernel
theorem dX7_kindOfLetter_43 : decode cX7_kindOfLetter 43 = .ok (.if_icmp .ne 7, 3) := by decide +kernel
theorem dX7_kindOfLetter_46 : decode cX7_kindOfLetter 46 = .ok (.iconst 4, 1) := by decide +kernel
theorem dX7_kindOfLetter_47 : decode cX7_kindOfLetter 47 = .ok (.goto 15, 3) := by decide +kernel
theorem dX7_kindOfLetter_50 : decode cX7_kindOfLetter 50 = .ok (.iload_n 0, 1) := by decide +kernel
theorem dX7_kindOfLetter_51 : decode cX7_kindOfLetter 51 = .ok (.bipush 115, 2) := by decide +kernel
theorem dX7_kindOfLetter_53 : decode cX7_kindOfLetter 53 = .ok (.if_icmp .ne 7, 3) := by decide +kernel
theorem dX7_kindOfLetter_56 : decode cX7_kindOfLetter 56 = .ok (.iconst 5, 1) := by decide +kernel
theorem dX7_kindOfLetter_57 : decode cX7_kindOfLetter 57 = .ok (.goto 5, 3) := by decide +kernel
theorem dX7_kindOfLetter_60 : decode cX7_kindOfLetter 60 = .ok (.bipush (-9), 2) := by decide +kernel
theorem dX7_kindOfLetter_62 : decode cX7_kindOfLetter 62 = .ok (.ireturn, 1) := by decide +kernel
theorem dX7_readsKite_0 : decode cX7_readsKite 0 = .ok (.iconst 4, 1) := by decide +kernel
theorem dX7_readsKite_1 : decode cX7_readsKite 1 = .ok (.aload_n 0, 1) := by decide +kernel
theorem dX7_readsKite_2 : decode cX7_readsKite 2 = .ok (.getfield 131, 3) := by decide +kernel
theorem dX7_readsKite_5 : decode cX7_readsKite 5 = .ok (.imul, 1) := by decide +kernel
theorem dX7_readsKite_6 : decode cX7_readsKite 6 = .ok (.istore_n 1, 1) := by decide +kernel
theorem dX7_readsKite_7 : decode cX7_readsKite 7 = .ok (.aload_n 0, 1) := by decide +kernel
theorem dX7_readsKite_8 : decode cX7_readsKite 8 = .ok (.invokevirtual 118, 3) := by decide +kernel
theorem dX7_readsKite_11 : decode cX7_readsKite 11 = .ok (.invokestatic 134, 3) := by decide +kernel
theorem dX7_readsKite_14 : decode cX7_readsKite 14 = .ok (.istore_n 2, 1) := by decide +kernel
theorem dX7_readsKite_15 : decode cX7_readsKite 15 = .ok (.iload_n 2, 1) := by decide +kernel
theorem dX7_readsKite_16 : decode cX7_readsKite 16 = .ok (.bipush (-9), 2) := by decide +kernel
theorem dX7_readsKite_18 : decode cX7_readsKite 18 = .ok (.if_icmp .eq 12, 3) := by decide +kernel
theorem dX7_readsKite_21 : decode cX7_readsKite 21 = .ok (.aload_n 0, 1) := by decide +kernel
theorem dX7_readsKite_22 : decode cX7_readsKite 22 = .ok (.getfield 131, 3) := by decide +kernel
theorem dX7_readsKite_25 : decode cX7_readsKite 25 = .ok (.bipush 6, 2) := by decide +kernel
theorem dX7_readsKite_27 : decode cX7_readsKite 27 = .ok (.if_icmp .ne 5, 3) := by decide +kernel
theorem dX7_readsKite_30 : decode cX7_readsKite 30 = .ok (.iconst 0, 1) := by decide +kernel
theorem dX7_readsKite_31 : decode cX7_readsKite 31 = .ok (.ireturn, 1) := by decide +kernel
theorem dX7_readsKite_32 : decode cX7_readsKite 32 = .ok (.aload_n 0, 1) := by decide +kernel
theorem dX7_readsKite_33 : decode cX7_readsKite 33 = .ok (.dup, 1) := by decide +kernel
theorem dX7_readsKite_34 : decode cX7_readsKite 34 = .ok (.getfield 112, 3) := by decide +kernel
theorem dX7_readsKite_37 : decode cX7_readsKite 37 = .ok (.iconst 1, 1) := by decide +kernel
theorem dX7_readsKite_38 : decode cX7_readsKite 38 = .ok (.iadd, 1) := by decide +kernel
theorem dX7_readsKite_39 : decode cX7_readsKite 39 = .ok (.putfield 112, 3) := by decide +kernel
theorem dX7_readsKite_42 : decode cX7_readsKite 42 = .ok (.aload_n 0, 1) := by decide +kernel
theorem dX7_readsKite_43 : decode cX7_readsKite 43 = .ok (.iconst 1, 1) := by decide +kernel
theorem dX7_readsKite_44 : decode cX7_readsKite 44 = .ok (.bipush 9, 2) := by decide +kernel
theorem dX7_readsKite_46 : decode cX7_readsKite 46 = .ok (.invokevirtual 125, 3) := by decide +kernel
theorem dX7_readsKite_49 : decode cX7_readsKite 49 = .ok (.istore_n 3, 1) := by decide +kernel
theorem dX7_readsKite_50 : decode cX7_readsKite 50 = .ok (.iload_n 3, 1) := by decide +kernel
theorem dX7_readsKite_51 : decode cX7_readsKite 51 = .ok (.bipush (-9), 2) := by decide +kernel
theorem dX7_readsKite_53 : decode cX7_readsKite 53 = .ok (.if_icmp .ne 8, 3) := by decide +kernel
theorem dX7_readsKite_56 : decode cX7_readsKite 56 = .ok (.bipush (-9), 2) := by decide +kernel
theorem dX7_readsKite_58 : decode cX7_readsKite 58 = .ok (.goto 10, 3) := by decide +kernel
theorem dX7_readsKite_61 : decode cX7_readsKite 61 = .ok (.aload_n 0, 1) := by decide +kernel
theorem dX7_readsKite_62 : decode cX7_readsKite 62 = .ok (.iconst 0, 1) := by decide +kernel
theorem dX7_readsKite_63 : decode cX7_readsKite 63 = .ok (.bipush 9, 2) := by decide +kernel
theorem dX7_readsKite_65 : decode cX7_readsKite 65 = .ok (.invokevirtual 125, 3) := by decide +kernel
theorem dX7_readsKite_68 : decode cX7_readsKite 68 = .ok (.istore 4, 2) := by decide +kernel
theorem dX7_readsKite_70 : decode cX7_readsKite 70 = .ok (.iload 4, 2) := by decide +kernel
theorem dX7_readsKite_72 : decode cX7_readsKite 72 = .ok (.bipush (-9), 2) := by decide +kernel
theorem dX7_readsKite_74 : decode cX7_readsKite 74 = .ok (.if_icmp .ne 8, 3) := by decide +kernel
theorem dX7_readsKite_77 : decode cX7_readsKite 77 = .ok (.bipush (-9), 2) := by decide +kernel
theorem dX7_readsKite_79 : decode cX7_readsKite 79 = .ok (.goto 9, 3) := by decide +kernel
theorem dX7_readsKite_82 : decode cX7_readsKite 82 = .ok (.aload_n 0, 1) := by decide +kernel
theorem dX7_readsKite_83 : decode cX7_readsKite 83 = .ok (.iconst 0, 1) := by decide +kernel
theorem dX7_readsKite_84 : decode cX7_readsKite 84 = .ok (.iconst 3, 1) := by decide +kernel
theorem dX7_readsKite_85 : decode cX7_readsKite 85 = .ok (.invokevirtual 125, 3) := by decide +kernel
theorem dX7_readsKite_88 : decode cX7_readsKite 88 = .ok (.istore 5, 2) := by decide +kernel
theorem dX7_readsKite_90 : decode cX7_readsKite 90 = .ok (.iload 5, 2) := by decide +kernel
theorem dX7_readsKite_92 : decode cX7_readsKite 92 = .ok (.bipush (-9), 2) := by decide +kernel
theorem dX7_readsKite_94 : decode cX7_readsKite 94 = .ok (.if_icmp .ne 5, 3) := by decide +kernel
theorem dX7_readsKite_97 : decode cX7_readsKite 97 = .ok (.iconst 0, 1) := by decide +kernel
theorem dX7_readsKite_98 : decode cX7_readsKite 98 = .ok (.ireturn, 1) := by decide +kernel
theorem dX7_readsKite_99 : decode cX7_readsKite 99 = .ok (.aload_n 0, 1) := by decide +kernel
theorem dX7_readsKite_100 : decode cX7_readsKite 100 = .ok (.getfield 47, 3) := by decide +kernel
theorem dX7_readsKite_103 : decode cX7_readsKite 103 = .ok (.iload_n 1, 1) := by decide +kernel
theorem dX7_readsKite_104 : decode cX7_readsKite 104 = .ok (.iload_n 2, 1) := by decide +kernel
theorem dX7_readsKite_105 : decode cX7_readsKite 105 = .ok (.iastore, 1) := by decide +kernel
theorem dX7_readsKite_106 : decode cX7_readsKite 106 = .ok (.aload_n 0, 1) := by decide +kernel
theorem dX7_readsKite_107 : decode cX7_readsKite 107 = .ok (.getfield 47, 3) := by decide +kernel
theorem dX7_readsKite_110 : decode cX7_readsKite 110 = .ok (.iload_n 1, 1) := by decide +kernel
theorem dX7_readsKite_111 : decode cX7_readsKite 111 = .ok (.iconst 1, 1) := by decide +kernel
theorem dX7_readsKite_112 : decode cX7_readsKite 112 = .ok (.iadd, 1) := by decide +kernel
theorem dX7_readsKite_113 : decode cX7_readsKite 113 = .ok (.iload_n 3, 1) := by decide +kernel
theorem dX7_readsKite_114 : decode cX7_readsKite 114 = .ok (.iastore, 1) := by decide +kernel
theorem dX7_readsKite_115 : decode cX7_readsKite 115 = .ok (.aload_n 0, 1) := by decide +kernel
theorem dX7_readsKite_116 : decode cX7_readsKite 116 = .ok (.getfield 47, 3) := by decide +kernel
theorem dX7_readsKite_119 : decode cX7_readsKite 119 = .ok (.iload_n 1, 1) := by decide +kernel
theorem dX7_readsKite_120 : decode cX7_readsKite 120 = .ok (.iconst 2, 1) := by decide +kernel
theorem dX7_readsKite_121 : decode cX7_readsKite 121 = .ok (.iadd, 1) := by decide +kernel
theorem dX7_readsKite_122 : decode cX7_readsKite 122 = .ok (.iload 4, 2) := by decide +kernel
theorem dX7_readsKite_124 : decode cX7_readsKite 124 = .ok (.iastore, 1) := by decide +kernel
theorem dX7_readsKite_125 : decode cX7_readsKite 125 = .ok (.aload_n 0, 1) := by decide +kernel
theorem dX7_readsKite_126 : decode cX7_readsKite 126 = .ok (.getfield 47, 3) := by decide +kernel
theorem dX7_readsKite_129 : decode cX7_readsKite 129 = .ok (.iload_n 1, 1) := by decide +kernel
theorem dX7_readsKite_130 : decode cX7_readsKite 130 = .ok (.iconst 3, 1) := by decide +kernel
theorem dX7_readsKite_131 : decode cX7_readsKite 131 = .ok (.iadd, 1) := by decide +kernel
theorem dX7_readsKite_132 : decode cX7_readsKite 132 = .ok (.iload 5, 2) := by decide +kernel
theorem dX7_readsKite_134 : decode cX7_readsKite 134 = .ok (.iastore, 1) := by decide +kernel
theorem dX7_readsKite_135 : decode cX7_readsKite 135 = .ok (.aload_n 0, 1) := by decide +kernel
theorem dX7_readsKite_136 : decode cX7_readsKite 136 = .ok (.dup, 1) := by decide +kernel
theorem dX7_readsKite_137 : decode cX7_readsKite 137 = .ok (.getfield 131, 3) := by decide +kernel
theorem dX7_readsKite_140 : decode cX7_readsKite 140 = .ok (.iconst 1, 1) := by decide +kernel
theorem dX7_readsKite_141 : decode cX7_readsKite 141 = .ok (.iadd, 1) := by decide +kernel
theorem dX7_readsKite_142 : decode cX7_readsKite 142 = .ok (.putfield 131, 3) := by decide +kernel
theorem dX7_readsKite_145 : decode cX7_readsKite 145 = .ok (.iconst 1, 1) := by decide +kernel
theorem dX7_readsKite_146 : decode cX7_readsKite 146 = .ok (.ireturn, 1) := by decide +kernel
theorem dX7_faultOf_0 : decode cX7_faultOf 0 = .ok (.aload_n 0, 1) := by decide +kernel
theorem dX7_faultOf_1 : decode cX7_faultOf 1 = .ok (.bipush 60, 2) := by decide +kernel
theorem dX7_faultOf_3 : decode cX7_faultOf 3 = .ok (.iload_n 1, 1) := by decide +kernel
theorem dX7_faultOf_4 : decode cX7_faultOf 4 = .ok (.imul, 1) := by decide +kernel
theorem dX7_faultOf_5 : decode cX7_faultOf 5 = .ok (.putfield 109, 3) := by decide +kernel
theorem dX7_faultOf_8 : decode cX7_faultOf 8 = .ok (.aload_n 0, 1) := by decide +kernel
theorem dX7_faultOf_9 : decode cX7_faultOf 9 = .ok (.iconst 0, 1) := by decide +kernel
theorem dX7_faultOf_10 : decode cX7_faultOf 10 = .ok (.putfield 112, 3) := by decide +kernel
theorem dX7_faultOf_13 : decode cX7_faultOf 13 = .ok (.aload_n 0, 1) := by decide +kernel
theorem dX7_faultOf_14 : decode cX7_faultOf 14 = .ok (.aload_n 0, 1) := by decide +kernel
theorem dX7_faultOf_15 : decode cX7_faultOf 15 = .ok (.getfield 31, 3) := by decide +kernel
theorem dX7_faultOf_18 : decode cX7_faultOf 18 = .ok (.iload_n 1, 1) := by decide +kernel
theorem dX7_faultOf_19 : decode cX7_faultOf 19 = .ok (.iaload, 1) := by decide +kernel
theorem dX7_faultOf_20 : decode cX7_faultOf 20 = .ok (.putfield 115, 3) := by decide +kernel
theorem dX7_faultOf_23 : decode cX7_faultOf 23 = .ok (.aload_n 0, 1) := by decide +kernel
theorem dX7_faultOf_24 : decode cX7_faultOf 24 = .ok (.iconst 0, 1) := by decide +kernel
theorem dX7_faultOf_25 : decode cX7_faultOf 25 = .ok (.putfield 131, 3) := by decide +kernel
theorem dX7_faultOf_28 : decode cX7_faultOf 28 = .ok (.aload_n 0, 1) := by decide +kernel
theorem dX7_faultOf_29 : decode cX7_faultOf 29 = .ok (.invokevirtual 137, 3) := by decide +kernel
theorem dX7_faultOf_32 : decode cX7_faultOf 32 = .ok (.istore_n 2, 1) := by decide +kernel
theorem dX7_faultOf_33 : decode cX7_faultOf 33 = .ok (.iload_n 2, 1) := by decide +kernel
theorem dX7_faultOf_34 : decode cX7_faultOf 34 = .ok (.ifCond .eq 7, 3) := by decide +kernel
theorem dX7_faultOf_37 : decode cX7_faultOf 37 = .ok (.aload_n 0, 1) := by decide +kernel
theorem dX7_faultOf_38 : decode cX7_faultOf 38 = .ok (.invokevirtual 122, 3) := by decide +kernel
theorem dX7_faultOf_41 : decode cX7_faultOf 41 = .ok (.iload_n 2, 1) := by decide +kernel
theorem dX7_faultOf_42 : decode cX7_faultOf 42 = .ok (.ifCond .eq 30, 3) := by decide +kernel
theorem dX7_faultOf_45 : decode cX7_faultOf 45 = .ok (.aload_n 0, 1) := by decide +kernel
theorem dX7_faultOf_46 : decode cX7_faultOf 46 = .ok (.getfield 112, 3) := by decide +kernel
theorem dX7_faultOf_49 : decode cX7_faultOf 49 = .ok (.aload_n 0, 1) := by decide +kernel
theorem dX7_faultOf_50 : decode cX7_faultOf 50 = .ok (.getfield 115, 3) := by decide +kernel
theorem dX7_faultOf_53 : decode cX7_faultOf 53 = .ok (.if_icmp .ge 19, 3) := by decide +kernel
theorem dX7_faultOf_56 : decode cX7_faultOf 56 = .ok (.aload_n 0, 1) := by decide +kernel
theorem dX7_faultOf_57 : decode cX7_faultOf 57 = .ok (.invokevirtual 141, 3) := by decide +kernel
theorem dX7_faultOf_60 : decode cX7_faultOf 60 = .ok (.istore_n 2, 1) := by decide +kernel
theorem dX7_faultOf_61 : decode cX7_faultOf 61 = .ok (.iload_n 2, 1) := by decide +kernel
theorem dX7_faultOf_62 : decode cX7_faultOf 62 = .ok (.ifCond .eq (-21), 3) := by decide +kernel
theorem dX7_faultOf_65 : decode cX7_faultOf 65 = .ok (.aload_n 0, 1) := by decide +kernel
theorem dX7_faultOf_66 : decode cX7_faultOf 66 = .ok (.invokevirtual 122, 3) := by decide +kernel
theorem dX7_faultOf_69 : decode cX7_faultOf 69 = .ok (.goto (-28), 3) := by decide +kernel
theorem dX7_faultOf_72 : decode cX7_faultOf 72 = .ok (.iload_n 2, 1) := by decide +kernel
theorem dX7_faultOf_73 : decode cX7_faultOf 73 = .ok (.ifCond .eq 15, 3) := by decide +kernel
theorem dX7_faultOf_76 : decode cX7_faultOf 76 = .ok (.aload_n 0, 1) := by decide +kernel
theorem dX7_faultOf_77 : decode cX7_faultOf 77 = .ok (.getfield 131, 3) := by decide +kernel
theorem dX7_faultOf_80 : decode cX7_faultOf 80 = .ok (.ifCond .le 8, 3) := by decide +kernel
theorem dX7_faultOf_83 : decode cX7_faultOf 83 = .ok (.bipush (-9), 2) := by decide +kernel
theorem dX7_faultOf_85 : decode cX7_faultOf 85 = .ok (.goto 7, 3) := by decide +kernel
theorem dX7_faultOf_88 : decode cX7_faultOf 88 = .ok (.aload_n 0, 1) := by decide +kernel
theorem dX7_faultOf_89 : decode cX7_faultOf 89 = .ok (.getfield 112, 3) := by decide +kernel
theorem dX7_faultOf_92 : decode cX7_faultOf 92 = .ok (.ireturn, 1) := by decide +kernel
theorem dX7_fault_0 : decode cX7_fault 0 = .ok (.iload_n 1, 1) := by decide +kernel
theorem dX7_fault_1 : decode cX7_fault 1 = .ok (.invokestatic 106, 3) := by decide +kernel
theorem dX7_fault_4 : decode cX7_fault 4 = .ok (.ifCond .ne 5, 3) := by decide +kernel
theorem dX7_fault_7 : decode cX7_fault 7 = .ok (.iconst (-1), 1) := by decide +kernel
theorem dX7_fault_8 : decode cX7_fault 8 = .ok (.ireturn, 1) := by decide +kernel
theorem dX7_fault_9 : decode cX7_fault 9 = .ok (.aload_n 0, 1) := by decide +kernel
theorem dX7_fault_10 : decode cX7_fault 10 = .ok (.getfield 31, 3) := by decide +kernel
theorem dX7_fault_13 : decode cX7_fault 13 = .ok (.iload_n 1, 1) := by decide +kernel
theorem dX7_fault_14 : decode cX7_fault 14 = .ok (.iaload, 1) := by decide +kernel
theorem dX7_fault_15 : decode cX7_fault 15 = .ok (.ifCond .ge 11, 3) := by decide +kernel
theorem dX7_fault_18 : decode cX7_fault 18 = .ok (.aload_n 0, 1) := by decide +kernel
theorem dX7_fault_19 : decode cX7_fault 19 = .ok (.iconst 1, 1) := by decide +kernel
theorem dX7_fault_20 : decode cX7_fault 20 = .ok (.invokevirtual 87, 3) := by decide +kernel
theorem dX7_fault_23 : decode cX7_fault 23 = .ok (.goto 8, 3) := by decide +kernel
theorem dX7_fault_26 : decode cX7_fault 26 = .ok (.aload_n 0, 1) := by decide +kernel
theorem dX7_fault_27 : decode cX7_fault 27 = .ok (.iload_n 1, 1) := by decide +kernel
theorem dX7_fault_28 : decode cX7_fault 28 = .ok (.invokevirtual 144, 3) := by decide +kernel
theorem dX7_fault_31 : decode cX7_fault 31 = .ok (.ireturn, 1) := by decide +kernel
theorem dX7_parish_0 : decode cX7_parish 0 = .ok (.iload_n 1, 1) := by decide +kernel
theorem dX7_parish_1 : decode cX7_parish 1 = .ok (.invokestatic 106, 3) := by decide +kernel
theorem dX7_parish_4 : decode cX7_parish 4 = .ok (.ifCond .ne 5, 3) := by decide +kernel
theorem dX7_parish_7 : decode cX7_parish 7 = .ok (.iconst (-1), 1) := by decide +kernel
theorem dX7_parish_8 : decode cX7_parish 8 = .ok (.ireturn, 1) := by decide +kernel
theorem dX7_parish_9 : decode cX7_parish 9 = .ok (.aload_n 0, 1) := by decide +kernel
theorem dX7_parish_10 : decode cX7_parish 10 = .ok (.getfield 31, 3) := by decide +kernel
theorem dX7_parish_13 : decode cX7_parish 13 = .ok (.iload_n 1, 1) := by decide +kernel
theorem dX7_parish_14 : decode cX7_parish 14 = .ok (.iaload, 1) := by decide +kernel
theorem dX7_parish_15 : decode cX7_parish 15 = .ok (.ifCond .ge 9, 3) := by decide +kernel
theorem dX7_parish_18 : decode cX7_parish 18 = .ok (.aload_n 0, 1) := by decide +kernel
theorem dX7_parish_19 : decode cX7_parish 19 = .ok (.iconst 1, 1) := by decide +kernel
theorem dX7_parish_20 : decode cX7_parish 20 = .ok (.invokevirtual 87, 3) := by decide +kernel
theorem dX7_parish_23 : decode cX7_parish 23 = .ok (.ireturn, 1) := by decide +kernel
theorem dX7_parish_24 : decode cX7_parish 24 = .ok (.aload_n 0, 1) := by decide +kernel
theorem dX7_parish_25 : decode cX7_parish 25 = .ok (.iload_n 1, 1) := by decide +kernel
theorem dX7_parish_26 : decode cX7_parish 26 = .ok (.invokevirtual 144, 3) := by decide +kernel
theorem dX7_parish_29 : decode cX7_parish 29 = .ok (.bipush (-9), 2) := by decide +kernel
theorem dX7_parish_31 : decode cX7_parish 31 = .ok (.if_icmp .eq 6, 3) := by decide +kernel
theorem dX7_parish_34 : decode cX7_parish 34 = .ok (.bipush (-4), 2) := by decide +kernel
theorem dX7_parish_36 : decode cX7_parish 36 = .ok (.ireturn, 1) := by decide +kernel
theorem dX7_parish_37 : decode cX7_parish 37 = .ok (.iconst 0, 1) := by decide +kernel
theorem dX7_parish_38 : decode cX7_parish 38 = .ok (.istore_n 2, 1) := by decide +kernel
theorem dX7_parish_39 : decode cX7_parish 39 = .ok (.iload_n 2, 1) := by decide +kernel
theorem dX7_parish_40 : decode cX7_parish 40 = .ok (.sipush 616, 3) := by decide +kernel
theorem dX7_parish_43 : decode cX7_parish 43 = .ok (.if_icmp .ge 16, 3) := by decide +kernel
theorem dX7_parish_46 : decode cX7_parish 46 = .ok (.aload_n 0, 1) := by decide +kernel
theorem dX7_parish_47 : decode cX7_parish 47 = .ok (.getfield 7, 3) := by decide +kernel
theorem dX7_parish_50 : decode cX7_parish 50 = .ok (.iload_n 2, 1) := by decide +kernel
theorem dX7_parish_51 : decode cX7_parish 51 = .ok (.iconst 0, 1) := by decide +kernel
theorem dX7_parish_52 : decode cX7_parish 52 = .ok (.iastore, 1) := by decide +kernel
theorem dX7_parish_53 : decode cX7_parish 53 = .ok (.iinc 2 1, 3) := by decide +kernel
theorem dX7_parish_56 : decode cX7_parish 56 = .ok (.goto (-17), 3) := by decide +kernel
theorem dX7_parish_59 : decode cX7_parish 59 = .ok (.iconst 0, 1) := by decide +kernel
theorem dX7_parish_60 : decode cX7_parish 60 = .ok (.istore_n 2, 1) := by decide +kernel
theorem dX7_parish_61 : decode cX7_parish 61 = .ok (.iload_n 2, 1) := by decide +kernel
theorem dX7_parish_62 : decode cX7_parish 62 = .ok (.iconst 4, 1) := by decide +kernel
theorem dX7_parish_63 : decode cX7_parish 63 = .ok (.if_icmp .ge 21, 3) := by decide +kernel
theorem dX7_parish_66 : decode cX7_parish 66 = .ok (.aload_n 0, 1) := by decide +kernel
theorem dX7_parish_67 : decode cX7_parish 67 = .ok (.getfield 13, 3) := by decide +kernel
theorem dX7_parish_70 : decode cX7_parish 70 = .ok (.iload_n 2, 1) := by decide +kernel
theorem dX7_parish_71 : decode cX7_parish 71 = .ok (.aload_n 0, 1) := by decide +kernel
theorem dX7_parish_72 : decode cX7_parish 72 = .ok (.getfield 44, 3) := by decide +kernel
theorem dX7_parish_75 : decode cX7_parish 75 = .ok (.iload_n 2, 1) := by decide +kernel
theorem dX7_parish_76 : decode cX7_parish 76 = .ok (.iaload, 1) := by decide +kernel
theorem dX7_parish_77 : decode cX7_parish 77 = .ok (.iastore, 1) := by decide +kernel
theorem dX7_parish_78 : decode cX7_parish 78 = .ok (.iinc 2 1, 3) := by decide +kernel
theorem dX7_parish_81 : decode cX7_parish 81 = .ok (.goto (-20), 3) := by decide +kernel
theorem dX7_parish_84 : decode cX7_parish 84 = .ok (.aload_n 0, 1) := by decide +kernel
theorem dX7_parish_85 : decode cX7_parish 85 = .ok (.aload_n 0, 1) := by decide +kernel
theorem dX7_parish_86 : decode cX7_parish 86 = .ok (.getfield 128, 3) := by decide +kernel
theorem dX7_parish_89 : decode cX7_parish 89 = .ok (.putfield 147, 3) := by decide +kernel
theorem dX7_parish_92 : decode cX7_parish 92 = .ok (.aload_n 0, 1) := by decide +kernel
theorem dX7_parish_93 : decode cX7_parish 93 = .ok (.aload_n 0, 1) := by decide +kernel
theorem dX7_parish_94 : decode cX7_parish 94 = .ok (.getfield 131, 3) := by decide +kernel
theorem dX7_parish_97 : decode cX7_parish 97 = .ok (.putfield 150, 3) := by decide +kernel
theorem dX7_parish_100 : decode cX7_parish 100 = .ok (.iconst 0, 1) := by decide +kernel
theorem dX7_parish_101 : decode cX7_parish 101 = .ok (.istore_n 2, 1) := by decide +kernel
theorem dX7_parish_102 : decode cX7_parish 102 = .ok (.iload_n 2, 1) := by decide +kernel
theorem dX7_parish_103 : decode cX7_parish 103 = .ok (.aload_n 0, 1) := by decide +kernel
theorem dX7_parish_104 : decode cX7_parish 104 = .ok (.getfield 150, 3) := by decide +kernel
theorem dX7_parish_107 : decode cX7_parish 107 = .ok (.if_icmp .ge 73, 3) := by decide +kernel
theorem dX7_parish_110 : decode cX7_parish 110 = .ok (.aload_n 0, 1) := by decide +kernel
theorem dX7_parish_111 : decode cX7_parish 111 = .ok (.getfield 16, 3) := by decide +kernel
theorem dX7_parish_114 : decode cX7_parish 114 = .ok (.iload_n 2, 1) := by decide +kernel
theorem dX7_parish_115 : decode cX7_parish 115 = .ok (.aload_n 0, 1) := by decide +kernel
theorem dX7_parish_116 : decode cX7_parish 116 = .ok (.getfield 47, 3) := by decide +kernel
theorem dX7_parish_119 : decode cX7_parish 119 = .ok (.iconst 4, 1) := by decide +kernel
theorem dX7_parish_120 : decode cX7_parish 120 = .ok (.iload_n 2, 1) := by decide +kernel
theorem dX7_parish_121 : decode cX7_parish 121 = .ok (.imul, 1) := by decide +kernel
theorem dX7_parish_122 : decode cX7_parish 122 = .ok (.iaload, 1) := by decide +kernel
theorem dX7_parish_123 : decode cX7_parish 123 = .ok (.iastore, 1) := by decide +kernel
theorem dX7_parish_124 : decode cX7_parish 124 = .ok (.aload_n 0, 1) := by decide +kernel
theorem dX7_parish_125 : decode cX7_parish 125 = .ok (.getfield 19, 3) := by decide +kernel
theorem dX7_parish_128 : decode cX7_parish 128 = .ok (.iload_n 2, 1) := by decide +kernel
theorem dX7_parish_129 : decode cX7_parish 129 = .ok (.aload_n 0, 1) := by decide +kernel
theorem dX7_parish_130 : decode cX7_parish 130 = .ok (.getfield 47, 3) := by decide +kernel
theorem dX7_parish_133 : decode cX7_parish 133 = .ok (.iconst 4, 1) := by decide +kernel
theorem dX7_parish_134 : decode cX7_parish 134 = .ok (.iload_n 2, 1) := by decide +kernel
theorem dX7_parish_135 : decode cX7_parish 135 = .ok (.imul, 1) := by decide +kernel
theorem dX7_parish_136 : decode cX7_parish 136 = .ok (.iconst 1, 1) := by decide +kernel
theorem dX7_parish_137 : decode cX7_parish 137 = .ok (.iadd, 1) := by decide +kernel
theorem dX7_parish_138 : decode cX7_parish 138 = .ok (.iaload, 1) := by decide +kernel
theorem dX7_parish_139 : decode cX7_parish 139 = .ok (.iastore, 1) := by decide +kernel
theorem dX7_parish_140 : decode cX7_parish 140 = .ok (.aload_n 0, 1) := by decide +kernel
theorem dX7_parish_141 : decode cX7_parish 141 = .ok (.getfield 22, 3) := by decide +kernel
theorem dX7_parish_144 : decode cX7_parish 144 = .ok (.iload_n 2, 1) := by decide +kernel
theorem dX7_parish_145 : decode cX7_parish 145 = .ok (.aload_n 0, 1) := by decide +kernel
theorem dX7_parish_146 : decode cX7_parish 146 = .ok (.getfield 47, 3) := by decide +kernel
theorem dX7_parish_149 : decode cX7_parish 149 = .ok (.iconst 4, 1) := by decide +kernel
theorem dX7_parish_150 : decode cX7_parish 150 = .ok (.iload_n 2, 1) := by decide +kernel
theorem dX7_parish_151 : decode cX7_parish 151 = .ok (.imul, 1) := by decide +kernel
theorem dX7_parish_152 : decode cX7_parish 152 = .ok (.iconst 2, 1) := by decide +kernel
theorem dX7_parish_153 : decode cX7_parish 153 = .ok (.iadd, 1) := by decide +kernel
theorem dX7_parish_154 : decode cX7_parish 154 = .ok (.iaload, 1) := by decide +kernel
theorem dX7_parish_155 : decode cX7_parish 155 = .ok (.iastore, 1) := by decide +kernel
theorem dX7_parish_156 : decode cX7_parish 156 = .ok (.aload_n 0, 1) := by decide +kernel
theorem dX7_parish_157 : decode cX7_parish 157 = .ok (.getfield 7, 3) := by decide +kernel
theorem dX7_parish_160 : decode cX7_parish 160 = .ok (.iconst 4, 1) := by decide +kernel
theorem dX7_parish_161 : decode cX7_parish 161 = .ok (.iload_n 2, 1) := by decide +kernel
theorem dX7_parish_162 : decode cX7_parish 162 = .ok (.iadd, 1) := by decide +kernel
theorem dX7_parish_163 : decode cX7_parish 163 = .ok (.aload_n 0, 1) := by decide +kernel
theorem dX7_parish_164 : decode cX7_parish 164 = .ok (.getfield 47, 3) := by decide +kernel
theorem dX7_parish_167 : decode cX7_parish 167 = .ok (.iconst 4, 1) := by decide +kernel
theorem dX7_parish_168 : decode cX7_parish 168 = .ok (.iload_n 2, 1) := by decide +kernel
theorem dX7_parish_169 : decode cX7_parish 169 = .ok (.imul, 1) := by decide +kernel
theorem dX7_parish_170 : decode cX7_parish 170 = .ok (.iconst 3, 1) := by decide +kernel
theorem dX7_parish_171 : decode cX7_parish 171 = .ok (.iadd, 1) := by decide +kernel
theorem dX7_parish_172 : decode cX7_parish 172 = .ok (.iaload, 1) := by decide +kernel
theorem dX7_parish_173 : decode cX7_parish 173 = .ok (.iastore, 1) := by decide +kernel
theorem dX7_parish_174 : decode cX7_parish 174 = .ok (.iinc 2 1, 3) := by decide +kernel
theorem dX7_parish_177 : decode cX7_parish 177 = .ok (.goto (-75), 3) := by decide +kernel
theorem dX7_parish_180 : decode cX7_parish 180 = .ok (.iconst 1, 1) := by decide +kernel
theorem dX7_parish_181 : decode cX7_parish 181 = .ok (.istore_n 2, 1) := by decide +kernel
theorem dX7_parish_182 : decode cX7_parish 182 = .ok (.iload_n 2, 1) := by decide +kernel
theorem dX7_parish_183 : decode cX7_parish 183 = .ok (.iconst 4, 1) := by decide +kernel
theorem dX7_parish_184 : decode cX7_parish 184 = .ok (.if_icmp .ge 22, 3) := by decide +kernel
theorem dX7_parish_187 : decode cX7_parish 187 = .ok (.aload_n 0, 1) := by decide +kernel
theorem dX7_parish_188 : decode cX7_parish 188 = .ok (.getfield 7, 3) := by decide +kernel
theorem dX7_parish_191 : decode cX7_parish 191 = .ok (.sipush 616, 3) := by decide +kernel
theorem dX7_parish_194 : decode cX7_parish 194 = .ok (.iload_n 2, 1) := by decide +kernel
theorem dX7_parish_195 : decode cX7_parish 195 = .ok (.imul, 1) := by decide +kernel
theorem dX7_parish_196 : decode cX7_parish 196 = .ok (.iconst 0, 1) := by decide +kernel
theorem dX7_parish_197 : decode cX7_parish 197 = .ok (.iadd, 1) := by decide +kernel
theorem dX7_parish_198 : decode cX7_parish 198 = .ok (.iconst (-1), 1) := by decide +kernel
theorem dX7_parish_199 : decode cX7_parish 199 = .ok (.iastore, 1) := by decide +kernel
theorem dX7_parish_200 : decode cX7_parish 200 = .ok (.iinc 2 1, 3) := by decide +kernel
theorem dX7_parish_203 : decode cX7_parish 203 = .ok (.goto (-21), 3) := by decide +kernel
theorem dX7_parish_206 : decode cX7_parish 206 = .ok (.aload_n 0, 1) := by decide +kernel
theorem dX7_parish_207 : decode cX7_parish 207 = .ok (.getfield 150, 3) := by decide +kernel
theorem dX7_parish_210 : decode cX7_parish 210 = .ok (.ireturn, 1) := by decide +kernel
theorem dX7_isKite_0 : decode cX7_isKite 0 = .ok (.iload_n 1, 1) := by decide +kernel
theorem dX7_isKite_1 : decode cX7_isKite 1 = .ok (.i2l, 1) := by decide +kernel
theorem dX7_isKite_2 : decode cX7_isKite 2 = .ok (.lconst 0, 1) := by decide +kernel
theorem dX7_isKite_3 : decode cX7_isKite 3 = .ok (.aload_n 0, 1) := by decide +kernel
theorem dX7_isKite_4 : decode cX7_isKite 4 = .ok (.getfield 150, 3) := by decide +kernel
theorem dX7_isKite_7 : decode cX7_isKite 7 = .ok (.iconst 1, 1) := by decide +kernel
theorem dX7_isKite_8 : decode cX7_isKite 8 = .ok (.isub, 1) := by decide +kernel
theorem dX7_isKite_9 : decode cX7_isKite 9 = .ok (.i2l, 1) := by decide +kernel
theorem dX7_isKite_10 : decode cX7_isKite 10 = .ok (.invokestatic 77, 3) := by decide +kernel
theorem dX7_isKite_13 : decode cX7_isKite 13 = .ok (.ireturn, 1) := by decide +kernel
theorem dX7_liftsBy_0 : decode cX7_liftsBy 0 = .ok (.iload_n 1, 1) := by decide +kernel
theorem dX7_liftsBy_1 : decode cX7_liftsBy 1 = .ok (.iload_n 3, 1) := by decide +kernel
theorem dX7_liftsBy_2 : decode cX7_liftsBy 2 = .ok (.imul, 1) := by decide +kernel
theorem dX7_liftsBy_3 : decode cX7_liftsBy 3 = .ok (.iconst 2, 1) := by decide +kernel
theorem dX7_liftsBy_4 : decode cX7_liftsBy 4 = .ok (.idiv, 1) := by decide +kernel
theorem dX7_liftsBy_5 : decode cX7_liftsBy 5 = .ok (.istore 4, 2) := by decide +kernel
theorem dX7_liftsBy_7 : decode cX7_liftsBy 7 = .ok (.iload 4, 2) := by decide +kernel
theorem dX7_liftsBy_9 : decode cX7_liftsBy 9 = .ok (.iconst 2, 1) := by decide +kernel
theorem dX7_liftsBy_10 : decode cX7_liftsBy 10 = .ok (.iload_n 2, 1) := by decide +kernel
theorem dX7_liftsBy_11 : decode cX7_liftsBy 11 = .ok (.imul, 1) := by decide +kernel
theorem dX7_liftsBy_12 : decode cX7_liftsBy 12 = .ok (.if_icmp .le 12, 3) := by decide +kernel
theorem dX7_liftsBy_15 : decode cX7_liftsBy 15 = .ok (.iload 4, 2) := by decide +kernel
theorem dX7_liftsBy_17 : decode cX7_liftsBy 17 = .ok (.iconst 2, 1) := by decide +kernel
theorem dX7_liftsBy_18 : decode cX7_liftsBy 18 = .ok (.iload_n 2, 1) := by decide +kernel
theorem dX7_liftsBy_19 : decode cX7_liftsBy 19 = .ok (.imul, 1) := by decide +kernel
theorem dX7_liftsBy_20 : decode cX7_liftsBy 20 = .ok (.isub, 1) := by decide +kernel
theorem dX7_liftsBy_21 : decode cX7_liftsBy 21 = .ok (.goto 4, 3) := by decide +kernel
theorem dX7_liftsBy_24 : decode cX7_liftsBy 24 = .ok (.iconst 0, 1) := by decide +kernel
theorem dX7_liftsBy_25 : decode cX7_liftsBy 25 = .ok (.istore 5, 2) := by decide +kernel
theorem dX7_liftsBy_27 : decode cX7_liftsBy 27 = .ok (.iload_n 3, 1) := by decide +kernel
theorem dX7_liftsBy_28 : decode cX7_liftsBy 28 = .ok (.iconst 2, 1) := by decide +kernel
theorem dX7_liftsBy_29 : decode cX7_liftsBy 29 = .ok (.if_icmp .le 10, 3) := by decide +kernel
theorem dX7_liftsBy_32 : decode cX7_liftsBy 32 = .ok (.iload 4, 2) := by decide +kernel
theorem dX7_liftsBy_34 : decode cX7_liftsBy 34 = .ok (.iconst 2, 1) := by decide +kernel
theorem dX7_liftsBy_35 : decode cX7_liftsBy 35 = .ok (.iadd, 1) := by decide +kernel
theorem dX7_liftsBy_36 : decode cX7_liftsBy 36 = .ok (.goto 5, 3) := by decide +kernel
theorem dX7_liftsBy_39 : decode cX7_liftsBy 39 = .ok (.iload 4, 2) := by decide +kernel
theorem dX7_liftsBy_41 : decode cX7_liftsBy 41 = .ok (.istore 6, 2) := by decide +kernel
theorem dX7_liftsBy_43 : decode cX7_liftsBy 43 = .ok (.iload_n 0, 1) := by decide +kernel
theorem dX7_liftsBy_44 : decode cX7_liftsBy 44 = .ok (.tableswitch 79 1 5 #[36, 41, 56, 59, 74], 36) := by decide +kernel
theorem dX7_liftsBy_80 : decode cX7_liftsBy 80 = .ok (.iload 5, 2) := by decide +kernel
theorem dX7_liftsBy_82 : decode cX7_liftsBy 82 = .ok (.iconst 3, 1) := by decide +kernel
theorem dX7_liftsBy_83 : decode cX7_liftsBy 83 = .ok (.idiv, 1) := by decide +kernel
theorem dX7_liftsBy_84 : decode cX7_liftsBy 84 = .ok (.ireturn, 1) := by decide +kernel
theorem dX7_liftsBy_85 : decode cX7_liftsBy 85 = .ok (.iload_n 3, 1) := by decide +kernel
theorem dX7_liftsBy_86 : decode cX7_liftsBy 86 = .ok (.bipush 6, 2) := by decide +kernel
theorem dX7_liftsBy_88 : decode cX7_liftsBy 88 = .ok (.if_icmp .le 7, 3) := by decide +kernel
theorem dX7_liftsBy_91 : decode cX7_liftsBy 91 = .ok (.iconst 0, 1) := by decide +kernel
theorem dX7_liftsBy_92 : decode cX7_liftsBy 92 = .ok (.goto 7, 3) := by decide +kernel
theorem dX7_liftsBy_95 : decode cX7_liftsBy 95 = .ok (.iload 5, 2) := by decide +kernel
theorem dX7_liftsBy_97 : decode cX7_liftsBy 97 = .ok (.iconst 2, 1) := by decide +kernel
theorem dX7_liftsBy_98 : decode cX7_liftsBy 98 = .ok (.idiv, 1) := by decide +kernel
theorem dX7_liftsBy_99 : decode cX7_liftsBy 99 = .ok (.ireturn, 1) := by decide +kernel
theorem dX7_liftsBy_100 : decode cX7_liftsBy 100 = .ok (.iload 6, 2) := by decide +kernel
theorem dX7_liftsBy_102 : decode cX7_liftsBy 102 = .ok (.ireturn, 1) := by decide +kernel
theorem dX7_liftsBy_103 : decode cX7_liftsBy 103 = .ok (.iload 5, 2) := by decide +kernel
theorem dX7_liftsBy_105 : decode cX7_liftsBy 105 = .ok (.iconst 3, 1) := by decide +kernel
theorem dX7_liftsBy_106 : decode cX7_liftsBy 106 = .ok (.if_icmp .ge 7, 3) := by decide +kernel
theorem dX7_liftsBy_109 : decode cX7_liftsBy 109 = .ok (.iconst 1, 1) := by decide +kernel
theorem dX7_liftsBy_110 : decode cX7_liftsBy 110 = .ok (.goto 7, 3) := by decide +kernel
theorem dX7_liftsBy_113 : decode cX7_liftsBy 113 = .ok (.iload 5, 2) := by decide +kernel
theorem dX7_liftsBy_115 : decode cX7_liftsBy 115 = .ok (.iconst 3, 1) := by decide +kernel
theorem dX7_liftsBy_116 : decode cX7_liftsBy 116 = .ok (.idiv, 1) := by decide +kernel
theorem dX7_liftsBy_117 : decode cX7_liftsBy 117 = .ok (.ireturn, 1) := by decide +kernel
theorem dX7_liftsBy_118 : decode cX7_liftsBy 118 = .ok (.iload 6, 2) := by decide +kernel
theorem dX7_liftsBy_120 : decode cX7_liftsBy 120 = .ok (.iload_n 3, 1) := by decide +kernel
theorem dX7_liftsBy_121 : decode cX7_liftsBy 121 = .ok (.iadd, 1) := by decide +kernel
theorem dX7_liftsBy_122 : decode cX7_liftsBy 122 = .ok (.ireturn, 1) := by decide +kernel
theorem dX7_liftsBy_123 : decode cX7_liftsBy 123 = .ok (.iload 5, 2) := by decide +kernel
theorem dX7_liftsBy_125 : decode cX7_liftsBy 125 = .ok (.ireturn, 1) := by decide +kernel
theorem dX7_liftsIn_0 : decode cX7_liftsIn 0 = .ok (.aload_n 0, 1) := by decide +kernel
theorem dX7_liftsIn_1 : decode cX7_liftsIn 1 = .ok (.getfield 16, 3) := by decide +kernel
theorem dX7_liftsIn_4 : decode cX7_liftsIn 4 = .ok (.iload_n 2, 1) := by decide +kernel
theorem dX7_liftsIn_5 : decode cX7_liftsIn 5 = .ok (.iaload, 1) := by decide +kernel
theorem dX7_liftsIn_6 : decode cX7_liftsIn 6 = .ok (.aload_n 0, 1) := by decide +kernel
theorem dX7_liftsIn_7 : decode cX7_liftsIn 7 = .ok (.getfield 19, 3) := by decide +kernel
theorem dX7_liftsIn_10 : decode cX7_liftsIn 10 = .ok (.iload_n 2, 1) := by decide +kernel
theorem dX7_liftsIn_11 : decode cX7_liftsIn 11 = .ok (.iaload, 1) := by decide +kernel
theorem dX7_liftsIn_12 : decode cX7_liftsIn 12 = .ok (.aload_n 0, 1) := by decide +kernel
theorem dX7_liftsIn_13 : decode cX7_liftsIn 13 = .ok (.getfield 7, 3) := by decide +kernel
theorem dX7_liftsIn_16 : decode cX7_liftsIn 16 = .ok (.iload_n 1, 1) := by decide +kernel
theorem dX7_liftsIn_17 : decode cX7_liftsIn 17 = .ok (.iconst 4, 1) := by decide +kernel
theorem dX7_liftsIn_18 : decode cX7_liftsIn 18 = .ok (.iadd, 1) := by decide +kernel
theorem dX7_liftsIn_19 : decode cX7_liftsIn 19 = .ok (.iload_n 2, 1) := by decide +kernel
theorem dX7_liftsIn_20 : decode cX7_liftsIn 20 = .ok (.iadd, 1) := by decide +kernel
theorem dX7_liftsIn_21 : decode cX7_liftsIn 21 = .ok (.iaload, 1) := by decide +kernel
theorem dX7_liftsIn_22 : decode cX7_liftsIn 22 = .ok (.iload_n 3, 1) := by decide +kernel
theorem dX7_liftsIn_23 : decode cX7_liftsIn 23 = .ok (.invokestatic 153, 3) := by decide +kernel
theorem dX7_liftsIn_26 : decode cX7_liftsIn 26 = .ok (.ireturn, 1) := by decide +kernel
theorem dX7_isLifted_0 : decode cX7_isLifted 0 = .ok (.aload_n 0, 1) := by decide +kernel
theorem dX7_isLifted_1 : decode cX7_isLifted 1 = .ok (.iload_n 1, 1) := by decide +kernel
theorem dX7_isLifted_2 : decode cX7_isLifted 2 = .ok (.iload_n 2, 1) := by decide +kernel
theorem dX7_isLifted_3 : decode cX7_isLifted 3 = .ok (.iload_n 3, 1) := by decide +kernel
theorem dX7_isLifted_4 : decode cX7_isLifted 4 = .ok (.invokevirtual 157, 3) := by decide +kernel
theorem dX7_isLifted_7 : decode cX7_isLifted 7 = .ok (.iconst 4, 1) := by decide +kernel
theorem dX7_isLifted_8 : decode cX7_isLifted 8 = .ok (.aload_n 0, 1) := by decide +kernel
theorem dX7_isLifted_9 : decode cX7_isLifted 9 = .ok (.getfield 22, 3) := by decide +kernel
theorem dX7_isLifted_12 : decode cX7_isLifted 12 = .ok (.iload_n 2, 1) := by decide +kernel
theorem dX7_isLifted_13 : decode cX7_isLifted 13 = .ok (.iaload, 1) := by decide +kernel
theorem dX7_isLifted_14 : decode cX7_isLifted 14 = .ok (.imul, 1) := by decide +kernel
theorem dX7_isLifted_15 : decode cX7_isLifted 15 = .ok (.if_icmp .le 7, 3) := by decide +kernel
theorem dX7_isLifted_18 : decode cX7_isLifted 18 = .ok (.iconst 1, 1) := by decide +kernel
theorem dX7_isLifted_19 : decode cX7_isLifted 19 = .ok (.goto 4, 3) := by decide +kernel
theorem dX7_isLifted_22 : decode cX7_isLifted 22 = .ok (.iconst 0, 1) := by decide +kernel
theorem dX7_isLifted_23 : decode cX7_isLifted 23 = .ok (.ireturn, 1) := by decide +kernel
theorem dX7_paysIn_0 : decode cX7_paysIn 0 = .ok (.aload_n 0, 1) := by decide +kernel
theorem dX7_paysIn_1 : decode cX7_paysIn 1 = .ok (.iload_n 1, 1) := by decide +kernel
theorem dX7_paysIn_2 : decode cX7_paysIn 2 = .ok (.iload_n 2, 1) := by decide +kernel
theorem dX7_paysIn_3 : decode cX7_paysIn 3 = .ok (.iload_n 3, 1) := by decide +kernel
theorem dX7_paysIn_4 : decode cX7_paysIn 4 = .ok (.invokevirtual 161, 3) := by decide +kernel
theorem dX7_paysIn_7 : decode cX7_paysIn 7 = .ok (.ifCond .eq 7, 3) := by decide +kernel
theorem dX7_paysIn_10 : decode cX7_paysIn 10 = .ok (.iconst 0, 1) := by decide +kernel
theorem dX7_paysIn_11 : decode cX7_paysIn 11 = .ok (.goto 10, 3) := by decide +kernel
theorem dX7_paysIn_14 : decode cX7_paysIn 14 = .ok (.aload_n 0, 1) := by decide +kernel
theorem dX7_paysIn_15 : decode cX7_paysIn 15 = .ok (.iload_n 1, 1) := by decide +kernel
theorem dX7_paysIn_16 : decode cX7_paysIn 16 = .ok (.iload_n 2, 1) := by decide +kernel
theorem dX7_paysIn_17 : decode cX7_paysIn 17 = .ok (.iload_n 3, 1) := by decide +kernel
theorem dX7_paysIn_18 : decode cX7_paysIn 18 = .ok (.invokevirtual 157, 3) := by decide +kernel
theorem dX7_paysIn_21 : decode cX7_paysIn 21 = .ok (.ireturn, 1) := by decide +kernel
theorem dX7_windAt_0 : decode cX7_windAt 0 = .ok (.aload_n 0, 1) := by decide +kernel
theorem dX7_windAt_1 : decode cX7_windAt 1 = .ok (.getfield 13, 3) := by decide +kernel
theorem dX7_windAt_4 : decode cX7_windAt 4 = .ok (.iload_n 1, 1) := by decide +kernel
theorem dX7_windAt_5 : decode cX7_windAt 5 = .ok (.iconst 4, 1) := by decide +kernel
theorem dX7_windAt_6 : decode cX7_windAt 6 = .ok (.irem, 1) := by decide +kernel
theorem dX7_windAt_7 : decode cX7_windAt 7 = .ok (.iaload, 1) := by decide +kernel
theorem dX7_windAt_8 : decode cX7_windAt 8 = .ok (.ireturn, 1) := by decide +kernel
theorem dX7_toldOf_0 : decode cX7_toldOf 0 = .ok (.aload_n 0, 1) := by decide +kernel
theorem dX7_toldOf_1 : decode cX7_toldOf 1 = .ok (.aload_n 0, 1) := by decide +kernel
theorem dX7_toldOf_2 : decode cX7_toldOf 2 = .ok (.getfield 7, 3) := by decide +kernel
theorem dX7_toldOf_5 : decode cX7_toldOf 5 = .ok (.iconst 1, 1) := by decide +kernel
theorem dX7_toldOf_6 : decode cX7_toldOf 6 = .ok (.iaload, 1) := by decide +kernel
theorem dX7_toldOf_7 : decode cX7_toldOf 7 = .ok (.invokevirtual 164, 3) := by decide +kernel
theorem dX7_toldOf_10 : decode cX7_toldOf 10 = .ok (.istore_n 3, 1) := by decide +kernel
theorem dX7_toldOf_11 : decode cX7_toldOf 11 = .ok (.iload_n 2, 1) := by decide +kernel
theorem dX7_toldOf_12 : decode cX7_toldOf 12 = .ok (.tableswitch 86 0 5 #[40, 47, 54, 61, 70, 78], 40) := by decide +kernel
theorem dX7_toldOf_52 : decode cX7_toldOf 52 = .ok (.aload_n 0, 1) := by decide +kernel
theorem dX7_toldOf_53 : decode cX7_toldOf 53 = .ok (.getfield 16, 3) := by decide +kernel
theorem dX7_toldOf_56 : decode cX7_toldOf 56 = .ok (.iload_n 1, 1) := by decide +kernel
theorem dX7_toldOf_57 : decode cX7_toldOf 57 = .ok (.iaload, 1) := by decide +kernel
theorem dX7_toldOf_58 : decode cX7_toldOf 58 = .ok (.ireturn, 1) := by decide +kernel
theorem dX7_toldOf_59 : decode cX7_toldOf 59 = .ok (.aload_n 0, 1) := by decide +kernel
theorem dX7_toldOf_60 : decode cX7_toldOf 60 = .ok (.getfield 19, 3) := by decide +kernel
theorem dX7_toldOf_63 : decode cX7_toldOf 63 = .ok (.iload_n 1, 1) := by decide +kernel
theorem dX7_toldOf_64 : decode cX7_toldOf 64 = .ok (.iaload, 1) := by decide +kernel
theorem dX7_toldOf_65 : decode cX7_toldOf 65 = .ok (.ireturn, 1) := by decide +kernel
theorem dX7_toldOf_66 : decode cX7_toldOf 66 = .ok (.aload_n 0, 1) := by decide +kernel
theorem dX7_toldOf_67 : decode cX7_toldOf 67 = .ok (.getfield 22, 3) := by decide +kernel
theorem dX7_toldOf_70 : decode cX7_toldOf 70 = .ok (.iload_n 1, 1) := by decide +kernel
theorem dX7_toldOf_71 : decode cX7_toldOf 71 = .ok (.iaload, 1) := by decide +kernel
theorem dX7_toldOf_72 : decode cX7_toldOf 72 = .ok (.ireturn, 1) := by decide +kernel
theorem dX7_toldOf_73 : decode cX7_toldOf 73 = .ok (.aload_n 0, 1) := by decide +kernel
theorem dX7_toldOf_74 : decode cX7_toldOf 74 = .ok (.getfield 7, 3) := by decide +kernel
theorem dX7_toldOf_77 : decode cX7_toldOf 77 = .ok (.iconst 4, 1) := by decide +kernel
theorem dX7_toldOf_78 : decode cX7_toldOf 78 = .ok (.iload_n 1, 1) := by decide +kernel
theorem dX7_toldOf_79 : decode cX7_toldOf 79 = .ok (.iadd, 1) := by decide +kernel
theorem dX7_toldOf_80 : decode cX7_toldOf 80 = .ok (.iaload, 1) := by decide +kernel
theorem dX7_toldOf_81 : decode cX7_toldOf 81 = .ok (.ireturn, 1) := by decide +kernel
theorem dX7_toldOf_82 : decode cX7_toldOf 82 = .ok (.aload_n 0, 1) := by decide +kernel
theorem dX7_toldOf_83 : decode cX7_toldOf 83 = .ok (.iconst 0, 1) := by decide +kernel
theorem dX7_toldOf_84 : decode cX7_toldOf 84 = .ok (.iload_n 1, 1) := by decide +kernel
theorem dX7_toldOf_85 : decode cX7_toldOf 85 = .ok (.iload_n 3, 1) := by decide +kernel
theorem dX7_toldOf_86 : decode cX7_toldOf 86 = .ok (.invokevirtual 157, 3) := by decide +kernel
theorem dX7_toldOf_89 : decode cX7_toldOf 89 = .ok (.ireturn, 1) := by decide +kernel
theorem dX7_toldOf_90 : decode cX7_toldOf 90 = .ok (.aload_n 0, 1) := by decide +kernel
theorem dX7_toldOf_91 : decode cX7_toldOf 91 = .ok (.iconst 0, 1) := by decide +kernel
theorem dX7_toldOf_92 : decode cX7_toldOf 92 = .ok (.iload_n 1, 1) := by decide +kernel
theorem dX7_toldOf_93 : decode cX7_toldOf 93 = .ok (.iload_n 3, 1) := by decide +kernel
theorem dX7_toldOf_94 : decode cX7_toldOf 94 = .ok (.invokevirtual 167, 3) := by decide +kernel
theorem dX7_toldOf_97 : decode cX7_toldOf 97 = .ok (.ireturn, 1) := by decide +kernel
theorem dX7_toldOf_98 : decode cX7_toldOf 98 = .ok (.aload_n 0, 1) := by decide +kernel
theorem dX7_toldOf_99 : decode cX7_toldOf 99 = .ok (.getfield 7, 3) := by decide +kernel
theorem dX7_toldOf_102 : decode cX7_toldOf 102 = .ok (.iconst 2, 1) := by decide +kernel
theorem dX7_toldOf_103 : decode cX7_toldOf 103 = .ok (.iaload, 1) := by decide +kernel
theorem dX7_toldOf_104 : decode cX7_toldOf 104 = .ok (.iload_n 1, 1) := by decide +kernel
theorem dX7_toldOf_105 : decode cX7_toldOf 105 = .ok (.invokestatic 170, 3) := by decide +kernel
theorem dX7_toldOf_108 : decode cX7_toldOf 108 = .ok (.ifCond .eq 15, 3) := by decide +kernel
theorem dX7_toldOf_111 : decode cX7_toldOf 111 = .ok (.aload_n 0, 1) := by decide +kernel
theorem dX7_toldOf_112 : decode cX7_toldOf 112 = .ok (.getfield 7, 3) := by decide +kernel
theorem dX7_toldOf_115 : decode cX7_toldOf 115 = .ok (.bipush 10, 2) := by decide +kernel
theorem dX7_toldOf_117 : decode cX7_toldOf 117 = .ok (.iload_n 1, 1) := by decide +kernel
theorem dX7_toldOf_118 : decode cX7_toldOf 118 = .ok (.iadd, 1) := by decide +kernel
theorem dX7_toldOf_119 : decode cX7_toldOf 119 = .ok (.iaload, 1) := by decide +kernel
theorem dX7_toldOf_120 : decode cX7_toldOf 120 = .ok (.goto 5, 3) := by decide +kernel
theorem dX7_toldOf_123 : decode cX7_toldOf 123 = .ok (.bipush (-9), 2) := by decide +kernel
theorem dX7_toldOf_125 : decode cX7_toldOf 125 = .ok (.ireturn, 1) := by decide +kernel
theorem dX7_kite_0 : decode cX7_kite 0 = .ok (.aload_n 0, 1) := by decide +kernel
theorem dX7_kite_1 : decode cX7_kite 1 = .ok (.iload_n 1, 1) := by decide +kernel
theorem dX7_kite_2 : decode cX7_kite 2 = .ok (.invokevirtual 174, 3) := by decide +kernel
theorem dX7_kite_5 : decode cX7_kite 5 = .ok (.ifCond .eq 28, 3) := by decide +kernel
theorem dX7_kite_8 : decode cX7_kite 8 = .ok (.iload_n 2, 1) := by decide +kernel
theorem dX7_kite_9 : decode cX7_kite 9 = .ok (.i2l, 1) := by decide +kernel
theorem dX7_kite_10 : decode cX7_kite 10 = .ok (.lconst 0, 1) := by decide +kernel
theorem dX7_kite_11 : decode cX7_kite 11 = .ok (.ldc2_w 177, 3) := by decide +kernel
theorem dX7_kite_14 : decode cX7_kite 14 = .ok (.invokestatic 77, 3) := by decide +kernel
theorem dX7_kite_17 : decode cX7_kite 17 = .ok (.ifCond .eq 16, 3) := by decide +kernel
theorem dX7_kite_20 : decode cX7_kite 20 = .ok (.aload_n 0, 1) := by decide +kernel
theorem dX7_kite_21 : decode cX7_kite 21 = .ok (.aload_n 0, 1) := by decide +kernel
theorem dX7_kite_22 : decode cX7_kite 22 = .ok (.iload_n 1, 1) := by decide +kernel
theorem dX7_kite_23 : decode cX7_kite 23 = .ok (.iload_n 2, 1) := by decide +kernel
theorem dX7_kite_24 : decode cX7_kite 24 = .ok (.invokevirtual 179, 3) := by decide +kernel
theorem dX7_kite_27 : decode cX7_kite 27 = .ok (.invokevirtual 99, 3) := by decide +kernel
theorem dX7_kite_30 : decode cX7_kite 30 = .ok (.goto 4, 3) := by decide +kernel
theorem dX7_kite_33 : decode cX7_kite 33 = .ok (.iconst (-1), 1) := by decide +kernel
theorem dX7_kite_34 : decode cX7_kite 34 = .ok (.ireturn, 1) := by decide +kernel
theorem dX7_isOf_0 : decode cX7_isOf 0 = .ok (.aload_n 0, 1) := by decide +kernel
theorem dX7_isOf_1 : decode cX7_isOf 1 = .ok (.getfield 16, 3) := by decide +kernel
theorem dX7_isOf_4 : decode cX7_isOf 4 = .ok (.iload_n 1, 1) := by decide +kernel
theorem dX7_isOf_5 : decode cX7_isOf 5 = .ok (.iaload, 1) := by decide +kernel
theorem dX7_isOf_6 : decode cX7_isOf 6 = .ok (.istore_n 3, 1) := by decide +kernel
theorem dX7_isOf_7 : decode cX7_isOf 7 = .ok (.iload_n 3, 1) := by decide +kernel
theorem dX7_isOf_8 : decode cX7_isOf 8 = .ok (.iload_n 2, 1) := by decide +kernel
theorem dX7_isOf_9 : decode cX7_isOf 9 = .ok (.if_icmp .eq 23, 3) := by decide +kernel
theorem dX7_isOf_12 : decode cX7_isOf 12 = .ok (.iload_n 2, 1) := by decide +kernel
theorem dX7_isOf_13 : decode cX7_isOf 13 = .ok (.iconst 1, 1) := by decide +kernel
theorem dX7_isOf_14 : decode cX7_isOf 14 = .ok (.if_icmp .ne 8, 3) := by decide +kernel
theorem dX7_isOf_17 : decode cX7_isOf 17 = .ok (.iload_n 3, 1) := by decide +kernel
theorem dX7_isOf_18 : decode cX7_isOf 18 = .ok (.iconst 4, 1) := by decide +kernel
theorem dX7_isOf_19 : decode cX7_isOf 19 = .ok (.if_icmp .eq 13, 3) := by decide +kernel
theorem dX7_isOf_22 : decode cX7_isOf 22 = .ok (.iload_n 2, 1) := by decide +kernel
theorem dX7_isOf_23 : decode cX7_isOf 23 = .ok (.iconst 3, 1) := by decide +kernel
theorem dX7_isOf_24 : decode cX7_isOf 24 = .ok (.if_icmp .ne 12, 3) := by decide +kernel
theorem dX7_isOf_27 : decode cX7_isOf 27 = .ok (.iload_n 3, 1) := by decide +kernel
theorem dX7_isOf_28 : decode cX7_isOf 28 = .ok (.iconst 5, 1) := by decide +kernel
theorem dX7_isOf_29 : decode cX7_isOf 29 = .ok (.if_icmp .ne 7, 3) := by decide +kernel
theorem dX7_isOf_32 : decode cX7_isOf 32 = .ok (.iconst 1, 1) := by decide +kernel
theorem dX7_isOf_33 : decode cX7_isOf 33 = .ok (.goto 4, 3) := by decide +kernel
theorem dX7_isOf_36 : decode cX7_isOf 36 = .ok (.iconst 0, 1) := by decide +kernel
theorem dX7_isOf_37 : decode cX7_isOf 37 = .ok (.ireturn, 1) := by decide +kernel
theorem dX7_greatestWind_0 : decode cX7_greatestWind 0 = .ok (.bipush 9, 2) := by decide +kernel
theorem dX7_greatestWind_2 : decode cX7_greatestWind 2 = .ok (.istore_n 2, 1) := by decide +kernel
theorem dX7_greatestWind_3 : decode cX7_greatestWind 3 = .ok (.iload_n 2, 1) := by decide +kernel
theorem dX7_greatestWind_4 : decode cX7_greatestWind 4 = .ok (.ifCond .lt 19, 3) := by decide +kernel
theorem dX7_greatestWind_7 : decode cX7_greatestWind 7 = .ok (.aload_n 0, 1) := by decide +kernel
theorem dX7_greatestWind_8 : decode cX7_greatestWind 8 = .ok (.iconst 0, 1) := by decide +kernel
theorem dX7_greatestWind_9 : decode cX7_greatestWind 9 = .ok (.iload_n 1, 1) := by decide +kernel
theorem dX7_greatestWind_10 : decode cX7_greatestWind 10 = .ok (.iload_n 2, 1) := by decide +kernel
theorem dX7_greatestWind_11 : decode cX7_greatestWind 11 = .ok (.invokevirtual 157, 3) := by decide +kernel
theorem dX7_greatestWind_14 : decode cX7_greatestWind 14 = .ok (.ifCond .ne 9, 3) := by decide +kernel
theorem dX7_greatestWind_17 : decode cX7_greatestWind 17 = .ok (.iinc 2 (-1), 3) := by decide +kernel
theorem dX7_greatestWind_20 : decode cX7_greatestWind 20 = .ok (.goto (-17), 3) := by decide +kernel
theorem dX7_greatestWind_23 : decode cX7_greatestWind 23 = .ok (.iload_n 2, 1) := by decide +kernel
theorem dX7_greatestWind_24 : decode cX7_greatestWind 24 = .ok (.ifCond .ge 8, 3) := by decide +kernel
theorem dX7_greatestWind_27 : decode cX7_greatestWind 27 = .ok (.bipush (-9), 2) := by decide +kernel
theorem dX7_greatestWind_29 : decode cX7_greatestWind 29 = .ok (.goto 4, 3) := by decide +kernel
theorem dX7_greatestWind_32 : decode cX7_greatestWind 32 = .ok (.iload_n 2, 1) := by decide +kernel
theorem dX7_greatestWind_33 : decode cX7_greatestWind 33 = .ok (.ireturn, 1) := by decide +kernel
theorem dX7_leastLifting_0 : decode cX7_leastLifting 0 = .ok (.iconst 0, 1) := by decide +kernel
theorem dX7_leastLifting_1 : decode cX7_leastLifting 1 = .ok (.istore_n 2, 1) := by decide +kernel
theorem dX7_leastLifting_2 : decode cX7_leastLifting 2 = .ok (.iload_n 2, 1) := by decide +kernel
theorem dX7_leastLifting_3 : decode cX7_leastLifting 3 = .ok (.bipush 10, 2) := by decide +kernel
theorem dX7_leastLifting_5 : decode cX7_leastLifting 5 = .ok (.if_icmp .ge 19, 3) := by decide +kernel
theorem dX7_leastLifting_8 : decode cX7_leastLifting 8 = .ok (.aload_n 0, 1) := by decide +kernel
theorem dX7_leastLifting_9 : decode cX7_leastLifting 9 = .ok (.iconst 0, 1) := by decide +kernel
theorem dX7_leastLifting_10 : decode cX7_leastLifting 10 = .ok (.iload_n 1, 1) := by decide +kernel
theorem dX7_leastLifting_11 : decode cX7_leastLifting 11 = .ok (.iload_n 2, 1) := by decide +kernel
theorem dX7_leastLifting_12 : decode cX7_leastLifting 12 = .ok (.invokevirtual 161, 3) := by decide +kernel
theorem dX7_leastLifting_15 : decode cX7_leastLifting 15 = .ok (.ifCond .ne 9, 3) := by decide +kernel
theorem dX7_leastLifting_18 : decode cX7_leastLifting 18 = .ok (.iinc 2 1, 3) := by decide +kernel
theorem dX7_leastLifting_21 : decode cX7_leastLifting 21 = .ok (.goto (-19), 3) := by decide +kernel
theorem dX7_leastLifting_24 : decode cX7_leastLifting 24 = .ok (.iload_n 2, 1) := by decide +kernel
theorem dX7_leastLifting_25 : decode cX7_leastLifting 25 = .ok (.bipush 10, 2) := by decide +kernel
theorem dX7_leastLifting_27 : decode cX7_leastLifting 27 = .ok (.if_icmp .ne 8, 3) := by decide +kernel
theorem dX7_leastLifting_30 : decode cX7_leastLifting 30 = .ok (.bipush (-9), 2) := by decide +kernel
theorem dX7_leastLifting_32 : decode cX7_leastLifting 32 = .ok (.goto 4, 3) := by decide +kernel
theorem dX7_leastLifting_35 : decode cX7_leastLifting 35 = .ok (.iload_n 2, 1) := by decide +kernel
theorem dX7_leastLifting_36 : decode cX7_leastLifting 36 = .ok (.ireturn, 1) := by decide +kernel
theorem dX7_moreThanCloth_0 : decode cX7_moreThanCloth 0 = .ok (.iconst 0, 1) := by decide +kernel
theorem dX7_moreThanCloth_1 : decode cX7_moreThanCloth 1 = .ok (.istore_n 2, 1) := by decide +kernel
theorem dX7_moreThanCloth_2 : decode cX7_moreThanCloth 2 = .ok (.iconst 0, 1) := by decide +kernel
theorem dX7_moreThanCloth_3 : decode cX7_moreThanCloth 3 = .ok (.istore_n 3, 1) := by decide +kernel
theorem dX7_moreThanCloth_4 : decode cX7_moreThanCloth 4 = .ok (.iload_n 3, 1) := by decide +kernel
theorem dX7_moreThanCloth_5 : decode cX7_moreThanCloth 5 = .ok (.bipush 10, 2) := by decide +kernel
theorem dX7_moreThanCloth_7 : decode cX7_moreThanCloth 7 = .ok (.if_icmp .ge 46, 3) := by decide +kernel
theorem dX7_moreThanCloth_10 : decode cX7_moreThanCloth 10 = .ok (.iload_n 2, 1) := by decide +kernel
theorem dX7_moreThanCloth_11 : decode cX7_moreThanCloth 11 = .ok (.aload_n 0, 1) := by decide +kernel
theorem dX7_moreThanCloth_12 : decode cX7_moreThanCloth 12 = .ok (.iconst 0, 1) := by decide +kernel
theorem dX7_moreThanCloth_13 : decode cX7_moreThanCloth 13 = .ok (.iload_n 1, 1) := by decide +kernel
theorem dX7_moreThanCloth_14 : decode cX7_moreThanCloth 14 = .ok (.iload_n 3, 1) := by decide +kernel
theorem dX7_moreThanCloth_15 : decode cX7_moreThanCloth 15 = .ok (.invokevirtual 157, 3) := by decide +kernel
theorem dX7_moreThanCloth_18 : decode cX7_moreThanCloth 18 = .ok (.iconst 1, 1) := by decide +kernel
theorem dX7_moreThanCloth_19 : decode cX7_moreThanCloth 19 = .ok (.aload_n 0, 1) := by decide +kernel
theorem dX7_moreThanCloth_20 : decode cX7_moreThanCloth 20 = .ok (.getfield 19, 3) := by decide +kernel
theorem dX7_moreThanCloth_23 : decode cX7_moreThanCloth 23 = .ok (.iload_n 1, 1) := by decide +kernel
theorem dX7_moreThanCloth_24 : decode cX7_moreThanCloth 24 = .ok (.iaload, 1) := by decide +kernel
theorem dX7_moreThanCloth_25 : decode cX7_moreThanCloth 25 = .ok (.aload_n 0, 1) := by decide +kernel
theorem dX7_moreThanCloth_26 : decode cX7_moreThanCloth 26 = .ok (.getfield 7, 3) := by decide +kernel
theorem dX7_moreThanCloth_29 : decode cX7_moreThanCloth 29 = .ok (.iconst 4, 1) := by decide +kernel
theorem dX7_moreThanCloth_30 : decode cX7_moreThanCloth 30 = .ok (.iload_n 1, 1) := by decide +kernel
theorem dX7_moreThanCloth_31 : decode cX7_moreThanCloth 31 = .ok (.iadd, 1) := by decide +kernel
theorem dX7_moreThanCloth_32 : decode cX7_moreThanCloth 32 = .ok (.iaload, 1) := by decide +kernel
theorem dX7_moreThanCloth_33 : decode cX7_moreThanCloth 33 = .ok (.iload_n 3, 1) := by decide +kernel
theorem dX7_moreThanCloth_34 : decode cX7_moreThanCloth 34 = .ok (.invokestatic 153, 3) := by decide +kernel
theorem dX7_moreThanCloth_37 : decode cX7_moreThanCloth 37 = .ok (.if_icmp .le 7, 3) := by decide +kernel
theorem dX7_moreThanCloth_40 : decode cX7_moreThanCloth 40 = .ok (.iconst 1, 1) := by decide +kernel
theorem dX7_moreThanCloth_41 : decode cX7_moreThanCloth 41 = .ok (.goto 4, 3) := by decide +kernel
theorem dX7_moreThanCloth_44 : decode cX7_moreThanCloth 44 = .ok (.iconst 0, 1) := by decide +kernel
theorem dX7_moreThanCloth_45 : decode cX7_moreThanCloth 45 = .ok (.iadd, 1) := by decide +kernel
theorem dX7_moreThanCloth_46 : decode cX7_moreThanCloth 46 = .ok (.istore_n 2, 1) := by decide +kernel
theorem dX7_moreThanCloth_47 : decode cX7_moreThanCloth 47 = .ok (.iinc 3 1, 3) := by decide +kernel
theorem dX7_moreThanCloth_50 : decode cX7_moreThanCloth 50 = .ok (.goto (-46), 3) := by decide +kernel
theorem dX7_moreThanCloth_53 : decode cX7_moreThanCloth 53 = .ok (.iload_n 2, 1) := by decide +kernel
theorem dX7_moreThanCloth_54 : decode cX7_moreThanCloth 54 = .ok (.ireturn, 1) := by decide +kernel
theorem dX7_mark_0 : decode cX7_mark 0 = .ok (.aload_n 0, 1) := by decide +kernel
theorem dX7_mark_1 : decode cX7_mark 1 = .ok (.iload_n 1, 1) := by decide +kernel
theorem dX7_mark_2 : decode cX7_mark 2 = .ok (.invokevirtual 174, 3) := by decide +kernel
theorem dX7_mark_5 : decode cX7_mark 5 = .ok (.ifCond .eq 15, 3) := by decide +kernel
theorem dX7_mark_8 : decode cX7_mark 8 = .ok (.iload_n 2, 1) := by decide +kernel
theorem dX7_mark_9 : decode cX7_mark 9 = .ok (.i2l, 1) := by decide +kernel
theorem dX7_mark_10 : decode cX7_mark 10 = .ok (.lconst 1, 1) := by decide +kernel
theorem dX7_mark_11 : decode cX7_mark 11 = .ok (.ldc2_w 75, 3) := by decide +kernel
theorem dX7_mark_14 : decode cX7_mark 14 = .ok (.invokestatic 77, 3) := by decide +kernel
theorem dX7_mark_17 : decode cX7_mark 17 = .ok (.ifCond .ne 5, 3) := by decide +kernel
theorem dX7_mark_20 : decode cX7_mark 20 = .ok (.iconst (-1), 1) := by decide +kernel
theorem dX7_mark_21 : decode cX7_mark 21 = .ok (.ireturn, 1) := by decide +kernel
theorem dX7_mark_22 : decode cX7_mark 22 = .ok (.aload_n 0, 1) := by decide +kernel
theorem dX7_mark_23 : decode cX7_mark 23 = .ok (.iload_n 1, 1) := by decide +kernel
theorem dX7_mark_24 : decode cX7_mark 24 = .ok (.iload_n 2, 1) := by decide +kernel
theorem dX7_mark_25 : decode cX7_mark 25 = .ok (.invokevirtual 182, 3) := by decide +kernel
theorem dX7_mark_28 : decode cX7_mark 28 = .ok (.ifCond .ne 9, 3) := by decide +kernel
theorem dX7_mark_31 : decode cX7_mark 31 = .ok (.aload_n 0, 1) := by decide +kernel
theorem dX7_mark_32 : decode cX7_mark 32 = .ok (.iconst 3, 1) := by decide +kernel
theorem dX7_mark_33 : decode cX7_mark 33 = .ok (.invokevirtual 87, 3) := by decide +kernel
theorem dX7_mark_36 : decode cX7_mark 36 = .ok (.ireturn, 1) := by decide +kernel
theorem dX7_mark_37 : decode cX7_mark 37 = .ok (.aload_n 0, 1) := by decide +kernel
theorem dX7_mark_38 : decode cX7_mark 38 = .ok (.aload_n 0, 1) := by decide +kernel
theorem dX7_mark_39 : decode cX7_mark 39 = .ok (.getfield 7, 3) := by decide +kernel
theorem dX7_mark_42 : decode cX7_mark 42 = .ok (.iconst 1, 1) := by decide +kernel
theorem dX7_mark_43 : decode cX7_mark 43 = .ok (.iaload, 1) := by decide +kernel
theorem dX7_mark_44 : decode cX7_mark 44 = .ok (.invokevirtual 164, 3) := by decide +kernel
theorem dX7_mark_47 : decode cX7_mark 47 = .ok (.istore_n 3, 1) := by decide +kernel
theorem dX7_mark_48 : decode cX7_mark 48 = .ok (.iconst 0, 1) := by decide +kernel
theorem dX7_mark_49 : decode cX7_mark 49 = .ok (.aload_n 0, 1) := by decide +kernel
theorem dX7_mark_50 : decode cX7_mark 50 = .ok (.getfield 19, 3) := by decide +kernel
theorem dX7_mark_53 : decode cX7_mark 53 = .ok (.iload_n 1, 1) := by decide +kernel
theorem dX7_mark_54 : decode cX7_mark 54 = .ok (.iaload, 1) := by decide +kernel
theorem dX7_mark_55 : decode cX7_mark 55 = .ok (.aload_n 0, 1) := by decide +kernel
theorem dX7_mark_56 : decode cX7_mark 56 = .ok (.getfield 7, 3) := by decide +kernel
theorem dX7_mark_59 : decode cX7_mark 59 = .ok (.iconst 4, 1) := by decide +kernel
theorem dX7_mark_60 : decode cX7_mark 60 = .ok (.iload_n 1, 1) := by decide +kernel
theorem dX7_mark_61 : decode cX7_mark 61 = .ok (.iadd, 1) := by decide +kernel
theorem dX7_mark_62 : decode cX7_mark 62 = .ok (.iaload, 1) := by decide +kernel
theorem dX7_mark_63 : decode cX7_mark 63 = .ok (.iload_n 3, 1) := by decide +kernel
theorem dX7_mark_64 : decode cX7_mark 64 = .ok (.invokestatic 153, 3) := by decide +kernel
theorem dX7_mark_67 : decode cX7_mark 67 = .ok (.istore 4, 2) := by decide +kernel
theorem dX7_mark_69 : decode cX7_mark 69 = .ok (.iload_n 2, 1) := by decide +kernel
theorem dX7_mark_70 : decode cX7_mark 70 = .ok (.tableswitch 67 1 4 #[30, 44, 50, 61], 30) := by decide +kernel
theorem dX7_mark_100 : decode cX7_mark 100 = .ok (.bipush 100, 2) := by decide +kernel
theorem dX7_mark_102 : decode cX7_mark 102 = .ok (.iload 4, 2) := by decide +kernel
theorem dX7_mark_104 : decode cX7_mark 104 = .ok (.iadd, 1) := by decide +kernel
theorem dX7_mark_105 : decode cX7_mark 105 = .ok (.aload_n 0, 1) := by decide +kernel
theorem dX7_mark_106 : decode cX7_mark 106 = .ok (.iconst 0, 1) := by decide +kernel
theorem dX7_mark_107 : decode cX7_mark 107 = .ok (.iload_n 1, 1) := by decide +kernel
theorem dX7_mark_108 : decode cX7_mark 108 = .ok (.iload_n 3, 1) := by decide +kernel
theorem dX7_mark_109 : decode cX7_mark 109 = .ok (.invokevirtual 157, 3) := by decide +kernel
theorem dX7_mark_112 : decode cX7_mark 112 = .ok (.isub, 1) := by decide +kernel
theorem dX7_mark_113 : decode cX7_mark 113 = .ok (.ireturn, 1) := by decide +kernel
theorem dX7_mark_114 : decode cX7_mark 114 = .ok (.aload_n 0, 1) := by decide +kernel
theorem dX7_mark_115 : decode cX7_mark 115 = .ok (.iload_n 1, 1) := by decide +kernel
theorem dX7_mark_116 : decode cX7_mark 116 = .ok (.invokevirtual 185, 3) := by decide +kernel
theorem dX7_mark_119 : decode cX7_mark 119 = .ok (.ireturn, 1) := by decide +kernel
theorem dX7_mark_120 : decode cX7_mark 120 = .ok (.aload_n 0, 1) := by decide +kernel
theorem dX7_mark_121 : decode cX7_mark 121 = .ok (.iconst 0, 1) := by decide +kernel
theorem dX7_mark_122 : decode cX7_mark 122 = .ok (.iload_n 1, 1) := by decide +kernel
theorem dX7_mark_123 : decode cX7_mark 123 = .ok (.iload_n 3, 1) := by decide +kernel
theorem dX7_mark_124 : decode cX7_mark 124 = .ok (.invokevirtual 157, 3) := by decide +kernel
theorem dX7_mark_127 : decode cX7_mark 127 = .ok (.iload 4, 2) := by decide +kernel
theorem dX7_mark_129 : decode cX7_mark 129 = .ok (.isub, 1) := by decide +kernel
theorem dX7_mark_130 : decode cX7_mark 130 = .ok (.ireturn, 1) := by decide +kernel
theorem dX7_mark_131 : decode cX7_mark 131 = .ok (.aload_n 0, 1) := by decide +kernel
theorem dX7_mark_132 : decode cX7_mark 132 = .ok (.iload_n 1, 1) := by decide +kernel
theorem dX7_mark_133 : decode cX7_mark 133 = .ok (.invokevirtual 188, 3) := by decide +kernel
theorem dX7_mark_136 : decode cX7_mark 136 = .ok (.ireturn, 1) := by decide +kernel
theorem dX7_mark_137 : decode cX7_mark 137 = .ok (.aload_n 0, 1) := by decide +kernel
theorem dX7_mark_138 : decode cX7_mark 138 = .ok (.iload_n 1, 1) := by decide +kernel
theorem dX7_mark_139 : decode cX7_mark 139 = .ok (.invokevirtual 191, 3) := by decide +kernel
theorem dX7_mark_142 : decode cX7_mark 142 = .ok (.ireturn, 1) := by decide +kernel
theorem dX7_lifts_0 : decode cX7_lifts 0 = .ok (.aload_n 0, 1) := by decide +kernel
theorem dX7_lifts_1 : decode cX7_lifts 1 = .ok (.iload_n 1, 1) := by decide +kernel
theorem dX7_lifts_2 : decode cX7_lifts 2 = .ok (.invokevirtual 174, 3) := by decide +kernel
theorem dX7_lifts_5 : decode cX7_lifts 5 = .ok (.ifCond .eq 25, 3) := by decide +kernel
theorem dX7_lifts_8 : decode cX7_lifts 8 = .ok (.iload_n 2, 1) := by decide +kernel
theorem dX7_lifts_9 : decode cX7_lifts 9 = .ok (.i2l, 1) := by decide +kernel
theorem dX7_lifts_10 : decode cX7_lifts 10 = .ok (.lconst 0, 1) := by decide +kernel
theorem dX7_lifts_11 : decode cX7_lifts 11 = .ok (.ldc2_w 194, 3) := by decide +kernel
theorem dX7_lifts_14 : decode cX7_lifts 14 = .ok (.invokestatic 77, 3) := by decide +kernel
theorem dX7_lifts_17 : decode cX7_lifts 17 = .ok (.ifCond .eq 13, 3) := by decide +kernel
theorem dX7_lifts_20 : decode cX7_lifts 20 = .ok (.aload_n 0, 1) := by decide +kernel
theorem dX7_lifts_21 : decode cX7_lifts 21 = .ok (.iconst 0, 1) := by decide +kernel
theorem dX7_lifts_22 : decode cX7_lifts 22 = .ok (.iload_n 1, 1) := by decide +kernel
theorem dX7_lifts_23 : decode cX7_lifts 23 = .ok (.iload_n 2, 1) := by decide +kernel
theorem dX7_lifts_24 : decode cX7_lifts 24 = .ok (.invokevirtual 157, 3) := by decide +kernel
theorem dX7_lifts_27 : decode cX7_lifts 27 = .ok (.goto 4, 3) := by decide +kernel
theorem dX7_lifts_30 : decode cX7_lifts 30 = .ok (.iconst (-1), 1) := by decide +kernel
theorem dX7_lifts_31 : decode cX7_lifts 31 = .ok (.ireturn, 1) := by decide +kernel
theorem dX7_pays_0 : decode cX7_pays 0 = .ok (.aload_n 0, 1) := by decide +kernel
theorem dX7_pays_1 : decode cX7_pays 1 = .ok (.iload_n 1, 1) := by decide +kernel
theorem dX7_pays_2 : decode cX7_pays 2 = .ok (.invokevirtual 174, 3) := by decide +kernel
theorem dX7_pays_5 : decode cX7_pays 5 = .ok (.ifCond .eq 15, 3) := by decide +kernel
theorem dX7_pays_8 : decode cX7_pays 8 = .ok (.iload_n 2, 1) := by decide +kernel
theorem dX7_pays_9 : decode cX7_pays 9 = .ok (.i2l, 1) := by decide +kernel
theorem dX7_pays_10 : decode cX7_pays 10 = .ok (.lconst 0, 1) := by decide +kernel
theorem dX7_pays_11 : decode cX7_pays 11 = .ok (.ldc2_w 194, 3) := by decide +kernel
theorem dX7_pays_14 : decode cX7_pays 14 = .ok (.invokestatic 77, 3) := by decide +kernel
theorem dX7_pays_17 : decode cX7_pays 17 = .ok (.ifCond .ne 5, 3) := by decide +kernel
theorem dX7_pays_20 : decode cX7_pays 20 = .ok (.iconst (-1), 1) := by decide +kernel
theorem dX7_pays_21 : decode cX7_pays 21 = .ok (.ireturn, 1) := by decide +kernel
theorem dX7_pays_22 : decode cX7_pays 22 = .ok (.aload_n 0, 1) := by decide +kernel
theorem dX7_pays_23 : decode cX7_pays 23 = .ok (.iconst 0, 1) := by decide +kernel
theorem dX7_pays_24 : decode cX7_pays 24 = .ok (.iload_n 1, 1) := by decide +kernel
theorem dX7_pays_25 : decode cX7_pays 25 = .ok (.iload_n 2, 1) := by decide +kernel
theorem dX7_pays_26 : decode cX7_pays 26 = .ok (.invokevirtual 161, 3) := by decide +kernel
theorem dX7_pays_29 : decode cX7_pays 29 = .ok (.ifCond .eq 8, 3) := by decide +kernel
theorem dX7_pays_32 : decode cX7_pays 32 = .ok (.bipush (-9), 2) := by decide +kernel
theorem dX7_pays_34 : decode cX7_pays 34 = .ok (.goto 10, 3) := by decide +kernel
theorem dX7_pays_37 : decode cX7_pays 37 = .ok (.aload_n 0, 1) := by decide +kernel
theorem dX7_pays_38 : decode cX7_pays 38 = .ok (.iconst 0, 1) := by decide +kernel
theorem dX7_pays_39 : decode cX7_pays 39 = .ok (.iload_n 1, 1) := by decide +kernel
theorem dX7_pays_40 : decode cX7_pays 40 = .ok (.iload_n 2, 1) := by decide +kernel
theorem dX7_pays_41 : decode cX7_pays 41 = .ok (.invokevirtual 157, 3) := by decide +kernel
theorem dX7_pays_44 : decode cX7_pays 44 = .ok (.ireturn, 1) := by decide +kernel
theorem dX7_keepPast_0 : decode cX7_keepPast 0 = .ok (.iconst 0, 1) := by decide +kernel
theorem dX7_keepPast_1 : decode cX7_keepPast 1 = .ok (.istore_n 1, 1) := by decide +kernel
theorem dX7_keepPast_2 : decode cX7_keepPast 2 = .ok (.iload_n 1, 1) := by decide +kernel
theorem dX7_keepPast_3 : decode cX7_keepPast 3 = .ok (.bipush 15, 2) := by decide +kernel
theorem dX7_keepPast_5 : decode cX7_keepPast 5 = .ok (.if_icmp .ge 36, 3) := by decide +kernel
theorem dX7_keepPast_8 : decode cX7_keepPast 8 = .ok (.aload_n 0, 1) := by decide +kernel
theorem dX7_keepPast_9 : decode cX7_keepPast 9 = .ok (.getfield 7, 3) := by decide +kernel
theorem dX7_keepPast_12 : decode cX7_keepPast 12 = .ok (.bipush 16, 2) := by decide +kernel
theorem dX7_keepPast_14 : decode cX7_keepPast 14 = .ok (.bipush 15, 2) := by decide +kernel
theorem dX7_keepPast_16 : decode cX7_keepPast 16 = .ok (.aload_n 0, 1) := by decide +kernel
theorem dX7_keepPast_17 : decode cX7_keepPast 17 = .ok (.getfield 7, 3) := by decide +kernel
theorem dX7_keepPast_20 : decode cX7_keepPast 20 = .ok (.iconst 0, 1) := by decide +kernel
theorem dX7_keepPast_21 : decode cX7_keepPast 21 = .ok (.iaload, 1) := by decide +kernel
theorem dX7_keepPast_22 : decode cX7_keepPast 22 = .ok (.imul, 1) := by decide +kernel
theorem dX7_keepPast_23 : decode cX7_keepPast 23 = .ok (.iadd, 1) := by decide +kernel
theorem dX7_keepPast_24 : decode cX7_keepPast 24 = .ok (.iload_n 1, 1) := by decide +kernel
theorem dX7_keepPast_25 : decode cX7_keepPast 25 = .ok (.iadd, 1) := by decide +kernel
theorem dX7_keepPast_26 : decode cX7_keepPast 26 = .ok (.aload_n 0, 1) := by decide +kernel
theorem dX7_keepPast_27 : decode cX7_keepPast 27 = .ok (.getfield 7, 3) := by decide +kernel
theorem dX7_keepPast_30 : decode cX7_keepPast 30 = .ok (.iconst 1, 1) := by decide +kernel
theorem dX7_keepPast_31 : decode cX7_keepPast 31 = .ok (.iload_n 1, 1) := by decide +kernel
theorem dX7_keepPast_32 : decode cX7_keepPast 32 = .ok (.iadd, 1) := by decide +kernel
theorem dX7_keepPast_33 : decode cX7_keepPast 33 = .ok (.iaload, 1) := by decide +kernel
theorem dX7_keepPast_34 : decode cX7_keepPast 34 = .ok (.iastore, 1) := by decide +kernel
theorem dX7_keepPast_35 : decode cX7_keepPast 35 = .ok (.iinc 1 1, 3) := by decide +kernel
theorem dX7_keepPast_38 : decode cX7_keepPast 38 = .ok (.goto (-36), 3) := by decide +kernel
theorem dX7_keepPast_41 : decode cX7_keepPast 41 = .ok (.aload_n 0, 1) := by decide +kernel
theorem dX7_keepPast_42 : decode cX7_keepPast 42 = .ok (.getfield 7, 3) := by decide +kernel
theorem dX7_keepPast_45 : decode cX7_keepPast 45 = .ok (.iconst 0, 1) := by decide +kernel
theorem dX7_keepPast_46 : decode cX7_keepPast 46 = .ok (.dup2, 1) := by decide +kernel
theorem dX7_keepPast_47 : decode cX7_keepPast 47 = .ok (.iaload, 1) := by decide +kernel
theorem dX7_keepPast_48 : decode cX7_keepPast 48 = .ok (.iconst 1, 1) := by decide +kernel
theorem dX7_keepPast_49 : decode cX7_keepPast 49 = .ok (.iadd, 1) := by decide +kernel
theorem dX7_keepPast_50 : decode cX7_keepPast 50 = .ok (.iastore, 1) := by decide +kernel
theorem dX7_keepPast_51 : decode cX7_keepPast 51 = .ok (.return_, 1) := by decide +kernel
theorem dX7_flies_0 : decode cX7_flies 0 = .ok (.aload_n 0, 1) := by decide +kernel
theorem dX7_flies_1 : decode cX7_flies 1 = .ok (.aload_n 0, 1) := by decide +kernel
theorem dX7_flies_2 : decode cX7_flies 2 = .ok (.getfield 7, 3) := by decide +kernel
theorem dX7_flies_5 : decode cX7_flies 5 = .ok (.iload_n 1, 1) := by decide +kernel
theorem dX7_flies_6 : decode cX7_flies 6 = .ok (.iconst 1, 1) := by decide +kernel
theorem dX7_flies_7 : decode cX7_flies 7 = .ok (.iadd, 1) := by decide +kernel
theorem dX7_flies_8 : decode cX7_flies 8 = .ok (.iaload, 1) := by decide +kernel
theorem dX7_flies_9 : decode cX7_flies 9 = .ok (.invokevirtual 164, 3) := by decide +kernel
theorem dX7_flies_12 : decode cX7_flies 12 = .ok (.istore_n 3, 1) := by decide +kernel
theorem dX7_flies_13 : decode cX7_flies 13 = .ok (.aload_n 0, 1) := by decide +kernel
theorem dX7_flies_14 : decode cX7_flies 14 = .ok (.getfield 7, 3) := by decide +kernel
theorem dX7_flies_17 : decode cX7_flies 17 = .ok (.iload_n 1, 1) := by decide +kernel
theorem dX7_flies_18 : decode cX7_flies 18 = .ok (.iconst 3, 1) := by decide +kernel
theorem dX7_flies_19 : decode cX7_flies 19 = .ok (.iadd, 1) := by decide +kernel
theorem dX7_flies_20 : decode cX7_flies 20 = .ok (.dup2, 1) := by decide +kernel
theorem dX7_flies_21 : decode cX7_flies 21 = .ok (.iaload, 1) := by decide +kernel
theorem dX7_flies_22 : decode cX7_flies 22 = .ok (.aload_n 0, 1) := by decide +kernel
theorem dX7_flies_23 : decode cX7_flies 23 = .ok (.iload_n 1, 1) := by decide +kernel
theorem dX7_flies_24 : decode cX7_flies 24 = .ok (.iload_n 2, 1) := by decide +kernel
theorem dX7_flies_25 : decode cX7_flies 25 = .ok (.iload_n 3, 1) := by decide +kernel
theorem dX7_flies_26 : decode cX7_flies 26 = .ok (.invokevirtual 161, 3) := by decide +kernel
theorem dX7_flies_29 : decode cX7_flies 29 = .ok (.ifCond .eq 9, 3) := by decide +kernel
theorem dX7_flies_32 : decode cX7_flies 32 = .ok (.iconst 1, 1) := by decide +kernel
theorem dX7_flies_33 : decode cX7_flies 33 = .ok (.iload_n 2, 1) := by decide +kernel
theorem dX7_flies_34 : decode cX7_flies 34 = .ok (.ishl, 1) := by decide +kernel
theorem dX7_flies_35 : decode cX7_flies 35 = .ok (.goto 4, 3) := by decide +kernel
theorem dX7_flies_38 : decode cX7_flies 38 = .ok (.iconst 0, 1) := by decide +kernel
theorem dX7_flies_39 : decode cX7_flies 39 = .ok (.ior, 1) := by decide +kernel
theorem dX7_flies_40 : decode cX7_flies 40 = .ok (.iastore, 1) := by decide +kernel
theorem dX7_flies_41 : decode cX7_flies 41 = .ok (.aload_n 0, 1) := by decide +kernel
theorem dX7_flies_42 : decode cX7_flies 42 = .ok (.getfield 7, 3) := by decide +kernel
theorem dX7_flies_45 : decode cX7_flies 45 = .ok (.iload_n 1, 1) := by decide +kernel
theorem dX7_flies_46 : decode cX7_flies 46 = .ok (.bipush 10, 2) := by decide +kernel
theorem dX7_flies_48 : decode cX7_flies 48 = .ok (.iadd, 1) := by decide +kernel
theorem dX7_flies_49 : decode cX7_flies 49 = .ok (.iload_n 2, 1) := by decide +kernel
theorem dX7_flies_50 : decode cX7_flies 50 = .ok (.iadd, 1) := by decide +kernel
theorem dX7_flies_51 : decode cX7_flies 51 = .ok (.aload_n 0, 1) := by decide +kernel
theorem dX7_flies_52 : decode cX7_flies 52 = .ok (.iload_n 1, 1) := by decide +kernel
theorem dX7_flies_53 : decode cX7_flies 53 = .ok (.iload_n 2, 1) := by decide +kernel
theorem dX7_flies_54 : decode cX7_flies 54 = .ok (.iload_n 3, 1) := by decide +kernel
theorem dX7_flies_55 : decode cX7_flies 55 = .ok (.invokevirtual 167, 3) := by decide +kernel
theorem dX7_flies_58 : decode cX7_flies 58 = .ok (.iastore, 1) := by decide +kernel
theorem dX7_flies_59 : decode cX7_flies 59 = .ok (.aload_n 0, 1) := by decide +kernel
theorem dX7_flies_60 : decode cX7_flies 60 = .ok (.getfield 7, 3) := by decide +kernel
theorem dX7_flies_63 : decode cX7_flies 63 = .ok (.iload_n 1, 1) := by decide +kernel
theorem dX7_flies_64 : decode cX7_flies 64 = .ok (.iconst 2, 1) := by decide +kernel
theorem dX7_flies_65 : decode cX7_flies 65 = .ok (.iadd, 1) := by decide +kernel
theorem dX7_flies_66 : decode cX7_flies 66 = .ok (.dup2, 1) := by decide +kernel
theorem dX7_flies_67 : decode cX7_flies 67 = .ok (.iaload, 1) := by decide +kernel
theorem dX7_flies_68 : decode cX7_flies 68 = .ok (.iconst 1, 1) := by decide +kernel
theorem dX7_flies_69 : decode cX7_flies 69 = .ok (.iload_n 2, 1) := by decide +kernel
theorem dX7_flies_70 : decode cX7_flies 70 = .ok (.ishl, 1) := by decide +kernel
theorem dX7_flies_71 : decode cX7_flies 71 = .ok (.ior, 1) := by decide +kernel
theorem dX7_flies_72 : decode cX7_flies 72 = .ok (.iastore, 1) := by decide +kernel
theorem dX7_flies_73 : decode cX7_flies 73 = .ok (.aload_n 0, 1) := by decide +kernel
theorem dX7_flies_74 : decode cX7_flies 74 = .ok (.getfield 7, 3) := by decide +kernel
theorem dX7_flies_77 : decode cX7_flies 77 = .ok (.iload_n 1, 1) := by decide +kernel
theorem dX7_flies_78 : decode cX7_flies 78 = .ok (.iconst 1, 1) := by decide +kernel
theorem dX7_flies_79 : decode cX7_flies 79 = .ok (.iadd, 1) := by decide +kernel
theorem dX7_flies_80 : decode cX7_flies 80 = .ok (.dup2, 1) := by decide +kernel
theorem dX7_flies_81 : decode cX7_flies 81 = .ok (.iaload, 1) := by decide +kernel
theorem dX7_flies_82 : decode cX7_flies 82 = .ok (.iconst 1, 1) := by decide +kernel
theorem dX7_flies_83 : decode cX7_flies 83 = .ok (.iadd, 1) := by decide +kernel
theorem dX7_flies_84 : decode cX7_flies 84 = .ok (.iastore, 1) := by decide +kernel
theorem dX7_flies_85 : decode cX7_flies 85 = .ok (.aload_n 0, 1) := by decide +kernel
theorem dX7_flies_86 : decode cX7_flies 86 = .ok (.getfield 7, 3) := by decide +kernel
theorem dX7_flies_89 : decode cX7_flies 89 = .ok (.iload_n 1, 1) := by decide +kernel
theorem dX7_flies_90 : decode cX7_flies 90 = .ok (.bipush 10, 2) := by decide +kernel
theorem dX7_flies_92 : decode cX7_flies 92 = .ok (.iadd, 1) := by decide +kernel
theorem dX7_flies_93 : decode cX7_flies 93 = .ok (.iload_n 2, 1) := by decide +kernel
theorem dX7_flies_94 : decode cX7_flies 94 = .ok (.iadd, 1) := by decide +kernel
theorem dX7_flies_95 : decode cX7_flies 95 = .ok (.iaload, 1) := by decide +kernel
theorem dX7_flies_96 : decode cX7_flies 96 = .ok (.ireturn, 1) := by decide +kernel
theorem dX7_fly_0 : decode cX7_fly 0 = .ok (.aload_n 0, 1) := by decide +kernel
theorem dX7_fly_1 : decode cX7_fly 1 = .ok (.iload_n 1, 1) := by decide +kernel
theorem dX7_fly_2 : decode cX7_fly 2 = .ok (.invokevirtual 174, 3) := by decide +kernel
theorem dX7_fly_5 : decode cX7_fly 5 = .ok (.ifCond .ne 5, 3) := by decide +kernel
theorem dX7_fly_8 : decode cX7_fly 8 = .ok (.iconst (-1), 1) := by decide +kernel
theorem dX7_fly_9 : decode cX7_fly 9 = .ok (.ireturn, 1) := by decide +kernel
theorem dX7_fly_10 : decode cX7_fly 10 = .ok (.aload_n 0, 1) := by decide +kernel
theorem dX7_fly_11 : decode cX7_fly 11 = .ok (.getfield 7, 3) := by decide +kernel
theorem dX7_fly_14 : decode cX7_fly 14 = .ok (.iconst 2, 1) := by decide +kernel
theorem dX7_fly_15 : decode cX7_fly 15 = .ok (.iaload, 1) := by decide +kernel
theorem dX7_fly_16 : decode cX7_fly 16 = .ok (.iload_n 1, 1) := by decide +kernel
theorem dX7_fly_17 : decode cX7_fly 17 = .ok (.invokestatic 170, 3) := by decide +kernel
theorem dX7_fly_20 : decode cX7_fly 20 = .ok (.ifCond .eq 6, 3) := by decide +kernel
theorem dX7_fly_23 : decode cX7_fly 23 = .ok (.bipush (-4), 2) := by decide +kernel
theorem dX7_fly_25 : decode cX7_fly 25 = .ok (.ireturn, 1) := by decide +kernel
theorem dX7_fly_26 : decode cX7_fly 26 = .ok (.aload_n 0, 1) := by decide +kernel
theorem dX7_fly_27 : decode cX7_fly 27 = .ok (.getfield 7, 3) := by decide +kernel
theorem dX7_fly_30 : decode cX7_fly 30 = .ok (.iconst 0, 1) := by decide +kernel
theorem dX7_fly_31 : decode cX7_fly 31 = .ok (.iaload, 1) := by decide +kernel
theorem dX7_fly_32 : decode cX7_fly 32 = .ok (.bipush 40, 2) := by decide +kernel
theorem dX7_fly_34 : decode cX7_fly 34 = .ok (.if_icmp .ne 6, 3) := by decide +kernel
theorem dX7_fly_37 : decode cX7_fly 37 = .ok (.bipush (-2), 2) := by decide +kernel
theorem dX7_fly_39 : decode cX7_fly 39 = .ok (.ireturn, 1) := by decide +kernel
theorem dX7_fly_40 : decode cX7_fly 40 = .ok (.aload_n 0, 1) := by decide +kernel
theorem dX7_fly_41 : decode cX7_fly 41 = .ok (.invokevirtual 196, 3) := by decide +kernel
theorem dX7_fly_44 : decode cX7_fly 44 = .ok (.aload_n 0, 1) := by decide +kernel
theorem dX7_fly_45 : decode cX7_fly 45 = .ok (.iconst 0, 1) := by decide +kernel
theorem dX7_fly_46 : decode cX7_fly 46 = .ok (.iload_n 1, 1) := by decide +kernel
theorem dX7_fly_47 : decode cX7_fly 47 = .ok (.invokevirtual 199, 3) := by decide +kernel
theorem dX7_fly_50 : decode cX7_fly 50 = .ok (.ireturn, 1) := by decide +kernel
theorem dX7_rest_0 : decode cX7_rest 0 = .ok (.aload_n 0, 1) := by decide +kernel
theorem dX7_rest_1 : decode cX7_rest 1 = .ok (.getfield 150, 3) := by decide +kernel
theorem dX7_rest_4 : decode cX7_rest 4 = .ok (.ifCond .ne 6, 3) := by decide +kernel
theorem dX7_rest_7 : decode cX7_rest 7 = .ok (.bipush (-4), 2) := by decide +kernel
theorem dX7_rest_9 : decode cX7_rest 9 = .ok (.ireturn, 1) := by decide +kernel
theorem dX7_rest_10 : decode cX7_rest 10 = .ok (.aload_n 0, 1) := by decide +kernel
theorem dX7_rest_11 : decode cX7_rest 11 = .ok (.getfield 7, 3) := by decide +kernel
theorem dX7_rest_14 : decode cX7_rest 14 = .ok (.iconst 0, 1) := by decide +kernel
theorem dX7_rest_15 : decode cX7_rest 15 = .ok (.iaload, 1) := by decide +kernel
theorem dX7_rest_16 : decode cX7_rest 16 = .ok (.bipush 40, 2) := by decide +kernel
theorem dX7_rest_18 : decode cX7_rest 18 = .ok (.if_icmp .ne 6, 3) := by decide +kernel
theorem dX7_rest_21 : decode cX7_rest 21 = .ok (.bipush (-2), 2) := by decide +kernel
theorem dX7_rest_23 : decode cX7_rest 23 = .ok (.ireturn, 1) := by decide +kernel
theorem dX7_rest_24 : decode cX7_rest 24 = .ok (.aload_n 0, 1) := by decide +kernel
theorem dX7_rest_25 : decode cX7_rest 25 = .ok (.invokevirtual 196, 3) := by decide +kernel
theorem dX7_rest_28 : decode cX7_rest 28 = .ok (.aload_n 0, 1) := by decide +kernel
theorem dX7_rest_29 : decode cX7_rest 29 = .ok (.getfield 7, 3) := by decide +kernel
theorem dX7_rest_32 : decode cX7_rest 32 = .ok (.iconst 1, 1) := by decide +kernel
theorem dX7_rest_33 : decode cX7_rest 33 = .ok (.dup2, 1) := by decide +kernel
theorem dX7_rest_34 : decode cX7_rest 34 = .ok (.iaload, 1) := by decide +kernel
theorem dX7_rest_35 : decode cX7_rest 35 = .ok (.iconst 1, 1) := by decide +kernel
theorem dX7_rest_36 : decode cX7_rest 36 = .ok (.iadd, 1) := by decide +kernel
theorem dX7_rest_37 : decode cX7_rest 37 = .ok (.iastore, 1) := by decide +kernel
theorem dX7_rest_38 : decode cX7_rest 38 = .ok (.aload_n 0, 1) := by decide +kernel
theorem dX7_rest_39 : decode cX7_rest 39 = .ok (.getfield 7, 3) := by decide +kernel
theorem dX7_rest_42 : decode cX7_rest 42 = .ok (.iconst 1, 1) := by decide +kernel
theorem dX7_rest_43 : decode cX7_rest 43 = .ok (.iaload, 1) := by decide +kernel
theorem dX7_rest_44 : decode cX7_rest 44 = .ok (.ireturn, 1) := by decide +kernel
theorem dX7_makeTail_0 : decode cX7_makeTail 0 = .ok (.iload_n 2, 1) := by decide +kernel
theorem dX7_makeTail_1 : decode cX7_makeTail 1 = .ok (.i2l, 1) := by decide +kernel
theorem dX7_makeTail_2 : decode cX7_makeTail 2 = .ok (.lconst 0, 1) := by decide +kernel
theorem dX7_makeTail_3 : decode cX7_makeTail 3 = .ok (.ldc2_w 81, 3) := by decide +kernel
theorem dX7_makeTail_6 : decode cX7_makeTail 6 = .ok (.invokestatic 77, 3) := by decide +kernel
theorem dX7_makeTail_9 : decode cX7_makeTail 9 = .ok (.ifCond .ne 6, 3) := by decide +kernel
theorem dX7_makeTail_12 : decode cX7_makeTail 12 = .ok (.bipush (-4), 2) := by decide +kernel
theorem dX7_makeTail_14 : decode cX7_makeTail 14 = .ok (.ireturn, 1) := by decide +kernel
theorem dX7_makeTail_15 : decode cX7_makeTail 15 = .ok (.aload_n 0, 1) := by decide +kernel
theorem dX7_makeTail_16 : decode cX7_makeTail 16 = .ok (.getfield 7, 3) := by decide +kernel
theorem dX7_makeTail_19 : decode cX7_makeTail 19 = .ok (.iconst 0, 1) := by decide +kernel
theorem dX7_makeTail_20 : decode cX7_makeTail 20 = .ok (.iaload, 1) := by decide +kernel
theorem dX7_makeTail_21 : decode cX7_makeTail 21 = .ok (.bipush 40, 2) := by decide +kernel
theorem dX7_makeTail_23 : decode cX7_makeTail 23 = .ok (.if_icmp .ne 6, 3) := by decide +kernel
theorem dX7_makeTail_26 : decode cX7_makeTail 26 = .ok (.bipush (-2), 2) := by decide +kernel
theorem dX7_makeTail_28 : decode cX7_makeTail 28 = .ok (.ireturn, 1) := by decide +kernel
theorem dX7_makeTail_29 : decode cX7_makeTail 29 = .ok (.aload_n 0, 1) := by decide +kernel
theorem dX7_makeTail_30 : decode cX7_makeTail 30 = .ok (.invokevirtual 196, 3) := by decide +kernel
theorem dX7_makeTail_33 : decode cX7_makeTail 33 = .ok (.aload_n 0, 1) := by decide +kernel
theorem dX7_makeTail_34 : decode cX7_makeTail 34 = .ok (.getfield 7, 3) := by decide +kernel
theorem dX7_makeTail_37 : decode cX7_makeTail 37 = .ok (.iconst 4, 1) := by decide +kernel
theorem dX7_makeTail_38 : decode cX7_makeTail 38 = .ok (.iload_n 1, 1) := by decide +kernel
theorem dX7_makeTail_39 : decode cX7_makeTail 39 = .ok (.iadd, 1) := by decide +kernel
theorem dX7_makeTail_40 : decode cX7_makeTail 40 = .ok (.iload_n 2, 1) := by decide +kernel
theorem dX7_makeTail_41 : decode cX7_makeTail 41 = .ok (.iastore, 1) := by decide +kernel
theorem dX7_makeTail_42 : decode cX7_makeTail 42 = .ok (.iload_n 2, 1) := by decide +kernel
theorem dX7_makeTail_43 : decode cX7_makeTail 43 = .ok (.ireturn, 1) := by decide +kernel
theorem dX7_tie_0 : decode cX7_tie 0 = .ok (.aload_n 0, 1) := by decide +kernel
theorem dX7_tie_1 : decode cX7_tie 1 = .ok (.iload_n 1, 1) := by decide +kernel
theorem dX7_tie_2 : decode cX7_tie 2 = .ok (.invokevirtual 174, 3) := by decide +kernel
theorem dX7_tie_5 : decode cX7_tie 5 = .ok (.ifCond .eq 21, 3) := by decide +kernel
theorem dX7_tie_8 : decode cX7_tie 8 = .ok (.aload_n 0, 1) := by decide +kernel
theorem dX7_tie_9 : decode cX7_tie 9 = .ok (.iload_n 1, 1) := by decide +kernel
theorem dX7_tie_10 : decode cX7_tie 10 = .ok (.aload_n 0, 1) := by decide +kernel
theorem dX7_tie_11 : decode cX7_tie 11 = .ok (.getfield 7, 3) := by decide +kernel
theorem dX7_tie_14 : decode cX7_tie 14 = .ok (.iconst 4, 1) := by decide +kernel
theorem dX7_tie_15 : decode cX7_tie 15 = .ok (.iload_n 1, 1) := by decide +kernel
theorem dX7_tie_16 : decode cX7_tie 16 = .ok (.iadd, 1) := by decide +kernel
theorem dX7_tie_17 : decode cX7_tie 17 = .ok (.iaload, 1) := by decide +kernel
theorem dX7_tie_18 : decode cX7_tie 18 = .ok (.iconst 1, 1) := by decide +kernel
theorem dX7_tie_19 : decode cX7_tie 19 = .ok (.iadd, 1) := by decide +kernel
theorem dX7_tie_20 : decode cX7_tie 20 = .ok (.invokevirtual 201, 3) := by decide +kernel
theorem dX7_tie_23 : decode cX7_tie 23 = .ok (.goto 4, 3) := by decide +kernel
theorem dX7_tie_26 : decode cX7_tie 26 = .ok (.iconst (-1), 1) := by decide +kernel
theorem dX7_tie_27 : decode cX7_tie 27 = .ok (.ireturn, 1) := by decide +kernel
theorem dX7_cut_0 : decode cX7_cut 0 = .ok (.aload_n 0, 1) := by decide +kernel
theorem dX7_cut_1 : decode cX7_cut 1 = .ok (.iload_n 1, 1) := by decide +kernel
theorem dX7_cut_2 : decode cX7_cut 2 = .ok (.invokevirtual 174, 3) := by decide +kernel
theorem dX7_cut_5 : decode cX7_cut 5 = .ok (.ifCond .eq 21, 3) := by decide +kernel
theorem dX7_cut_8 : decode cX7_cut 8 = .ok (.aload_n 0, 1) := by decide +kernel
theorem dX7_cut_9 : decode cX7_cut 9 = .ok (.iload_n 1, 1) := by decide +kernel
theorem dX7_cut_10 : decode cX7_cut 10 = .ok (.aload_n 0, 1) := by decide +kernel
theorem dX7_cut_11 : decode cX7_cut 11 = .ok (.getfield 7, 3) := by decide +kernel
theorem dX7_cut_14 : decode cX7_cut 14 = .ok (.iconst 4, 1) := by decide +kernel
theorem dX7_cut_15 : decode cX7_cut 15 = .ok (.iload_n 1, 1) := by decide +kernel
theorem dX7_cut_16 : decode cX7_cut 16 = .ok (.iadd, 1) := by decide +kernel
theorem dX7_cut_17 : decode cX7_cut 17 = .ok (.iaload, 1) := by decide +kernel
theorem dX7_cut_18 : decode cX7_cut 18 = .ok (.iconst 1, 1) := by decide +kernel
theorem dX7_cut_19 : decode cX7_cut 19 = .ok (.isub, 1) := by decide +kernel
theorem dX7_cut_20 : decode cX7_cut 20 = .ok (.invokevirtual 201, 3) := by decide +kernel
theorem dX7_cut_23 : decode cX7_cut 23 = .ok (.goto 4, 3) := by decide +kernel
theorem dX7_cut_26 : decode cX7_cut 26 = .ok (.iconst (-1), 1) := by decide +kernel
theorem dX7_cut_27 : decode cX7_cut 27 = .ok (.ireturn, 1) := by decide +kernel
theorem dX7_undo_0 : decode cX7_undo 0 = .ok (.iload_n 1, 1) := by decide +kernel
theorem dX7_undo_1 : decode cX7_undo 1 = .ok (.i2l, 1) := by decide +kernel
theorem dX7_undo_2 : decode cX7_undo 2 = .ok (.lconst 0, 1) := by decide +kernel
theorem dX7_undo_3 : decode cX7_undo 3 = .ok (.aload_n 0, 1) := by decide +kernel
theorem dX7_undo_4 : decode cX7_undo 4 = .ok (.getfield 7, 3) := by decide +kernel
theorem dX7_undo_7 : decode cX7_undo 7 = .ok (.iconst 0, 1) := by decide +kernel
theorem dX7_undo_8 : decode cX7_undo 8 = .ok (.iaload, 1) := by decide +kernel
theorem dX7_undo_9 : decode cX7_undo 9 = .ok (.i2l, 1) := by decide +kernel
theorem dX7_undo_10 : decode cX7_undo 10 = .ok (.invokestatic 77, 3) := by decide +kernel
theorem dX7_undo_13 : decode cX7_undo 13 = .ok (.ifCond .ne 5, 3) := by decide +kernel
theorem dX7_undo_16 : decode cX7_undo 16 = .ok (.iconst (-1), 1) := by decide +kernel
theorem dX7_undo_17 : decode cX7_undo 17 = .ok (.ireturn, 1) := by decide +kernel
theorem dX7_undo_18 : decode cX7_undo 18 = .ok (.aload_n 0, 1) := by decide +kernel
theorem dX7_undo_19 : decode cX7_undo 19 = .ok (.getfield 7, 3) := by decide +kernel
theorem dX7_undo_22 : decode cX7_undo 22 = .ok (.iconst 0, 1) := by decide +kernel
theorem dX7_undo_23 : decode cX7_undo 23 = .ok (.iaload, 1) := by decide +kernel
theorem dX7_undo_24 : decode cX7_undo 24 = .ok (.iload_n 1, 1) := by decide +kernel
theorem dX7_undo_25 : decode cX7_undo 25 = .ok (.isub, 1) := by decide +kernel
theorem dX7_undo_26 : decode cX7_undo 26 = .ok (.istore_n 2, 1) := by decide +kernel
theorem dX7_undo_27 : decode cX7_undo 27 = .ok (.iconst 0, 1) := by decide +kernel
theorem dX7_undo_28 : decode cX7_undo 28 = .ok (.istore_n 3, 1) := by decide +kernel
theorem dX7_undo_29 : decode cX7_undo 29 = .ok (.iload_n 3, 1) := by decide +kernel
theorem dX7_undo_30 : decode cX7_undo 30 = .ok (.bipush 15, 2) := by decide +kernel
theorem dX7_undo_32 : decode cX7_undo 32 = .ok (.if_icmp .ge 35, 3) := by decide +kernel
theorem dX7_undo_35 : decode cX7_undo 35 = .ok (.iload_n 2, 1) := by decide +kernel
theorem dX7_undo_36 : decode cX7_undo 36 = .ok (.ifCond .le 31, 3) := by decide +kernel
theorem dX7_undo_39 : decode cX7_undo 39 = .ok (.aload_n 0, 1) := by decide +kernel
theorem dX7_undo_40 : decode cX7_undo 40 = .ok (.getfield 7, 3) := by decide +kernel
theorem dX7_undo_43 : decode cX7_undo 43 = .ok (.iconst 1, 1) := by decide +kernel
theorem dX7_undo_44 : decode cX7_undo 44 = .ok (.iload_n 3, 1) := by decide +kernel
theorem dX7_undo_45 : decode cX7_undo 45 = .ok (.iadd, 1) := by decide +kernel
theorem dX7_undo_46 : decode cX7_undo 46 = .ok (.aload_n 0, 1) := by decide +kernel
theorem dX7_undo_47 : decode cX7_undo 47 = .ok (.getfield 7, 3) := by decide +kernel
theorem dX7_undo_50 : decode cX7_undo 50 = .ok (.bipush 16, 2) := by decide +kernel
theorem dX7_undo_52 : decode cX7_undo 52 = .ok (.bipush 15, 2) := by decide +kernel
theorem dX7_undo_54 : decode cX7_undo 54 = .ok (.iload_n 1, 1) := by decide +kernel
theorem dX7_undo_55 : decode cX7_undo 55 = .ok (.imul, 1) := by decide +kernel
theorem dX7_undo_56 : decode cX7_undo 56 = .ok (.iadd, 1) := by decide +kernel
theorem dX7_undo_57 : decode cX7_undo 57 = .ok (.iload_n 3, 1) := by decide +kernel
theorem dX7_undo_58 : decode cX7_undo 58 = .ok (.iadd, 1) := by decide +kernel
theorem dX7_undo_59 : decode cX7_undo 59 = .ok (.iaload, 1) := by decide +kernel
theorem dX7_undo_60 : decode cX7_undo 60 = .ok (.iastore, 1) := by decide +kernel
theorem dX7_undo_61 : decode cX7_undo 61 = .ok (.iinc 3 1, 3) := by decide +kernel
theorem dX7_undo_64 : decode cX7_undo 64 = .ok (.goto (-35), 3) := by decide +kernel
theorem dX7_undo_67 : decode cX7_undo 67 = .ok (.aload_n 0, 1) := by decide +kernel
theorem dX7_undo_68 : decode cX7_undo 68 = .ok (.getfield 7, 3) := by decide +kernel
theorem dX7_undo_71 : decode cX7_undo 71 = .ok (.iconst 0, 1) := by decide +kernel
theorem dX7_undo_72 : decode cX7_undo 72 = .ok (.iload_n 1, 1) := by decide +kernel
theorem dX7_undo_73 : decode cX7_undo 73 = .ok (.iastore, 1) := by decide +kernel
theorem dX7_undo_74 : decode cX7_undo 74 = .ok (.iload_n 2, 1) := by decide +kernel
theorem dX7_undo_75 : decode cX7_undo 75 = .ok (.ireturn, 1) := by decide +kernel
theorem dX7_copyParish_0 : decode cX7_copyParish 0 = .ok (.iconst 0, 1) := by decide +kernel
theorem dX7_copyParish_1 : decode cX7_copyParish 1 = .ok (.istore_n 3, 1) := by decide +kernel
theorem dX7_copyParish_2 : decode cX7_copyParish 2 = .ok (.iload_n 3, 1) := by decide +kernel
theorem dX7_copyParish_3 : decode cX7_copyParish 3 = .ok (.sipush 616, 3) := by decide +kernel
theorem dX7_copyParish_6 : decode cX7_copyParish 6 = .ok (.if_icmp .ge 25, 3) := by decide +kernel
theorem dX7_copyParish_9 : decode cX7_copyParish 9 = .ok (.aload_n 0, 1) := by decide +kernel
theorem dX7_copyParish_10 : decode cX7_copyParish 10 = .ok (.getfield 7, 3) := by decide +kernel
theorem dX7_copyParish_13 : decode cX7_copyParish 13 = .ok (.iload_n 2, 1) := by decide +kernel
theorem dX7_copyParish_14 : decode cX7_copyParish 14 = .ok (.iload_n 3, 1) := by decide +kernel
theorem dX7_copyParish_15 : decode cX7_copyParish 15 = .ok (.iadd, 1) := by decide +kernel
theorem dX7_copyParish_16 : decode cX7_copyParish 16 = .ok (.aload_n 0, 1) := by decide +kernel
theorem dX7_copyParish_17 : decode cX7_copyParish 17 = .ok (.getfield 7, 3) := by decide +kernel
theorem dX7_copyParish_20 : decode cX7_copyParish 20 = .ok (.iload_n 1, 1) := by decide +kernel
theorem dX7_copyParish_21 : decode cX7_copyParish 21 = .ok (.iload_n 3, 1) := by decide +kernel
theorem dX7_copyParish_22 : decode cX7_copyParish 22 = .ok (.iadd, 1) := by decide +kernel
theorem dX7_copyParish_23 : decode cX7_copyParish 23 = .ok (.iaload, 1) := by decide +kernel
theorem dX7_copyParish_24 : decode cX7_copyParish 24 = .ok (.iastore, 1) := by decide +kernel
theorem dX7_copyParish_25 : decode cX7_copyParish 25 = .ok (.iinc 3 1, 3) := by decide +kernel
theorem dX7_copyParish_28 : decode cX7_copyParish 28 = .ok (.goto (-26), 3) := by decide +kernel
theorem dX7_copyParish_31 : decode cX7_copyParish 31 = .ok (.return_, 1) := by decide +kernel
theorem dX7_keep_0 : decode cX7_keep 0 = .ok (.iload_n 1, 1) := by decide +kernel
theorem dX7_keep_1 : decode cX7_keep 1 = .ok (.i2l, 1) := by decide +kernel
theorem dX7_keep_2 : decode cX7_keep 2 = .ok (.lconst 0, 1) := by decide +kernel
theorem dX7_keep_3 : decode cX7_keep 3 = .ok (.ldc2_w 204, 3) := by decide +kernel
theorem dX7_keep_6 : decode cX7_keep 6 = .ok (.invokestatic 77, 3) := by decide +kernel
theorem dX7_keep_9 : decode cX7_keep 9 = .ok (.ifCond .ne 5, 3) := by decide +kernel
theorem dX7_keep_12 : decode cX7_keep 12 = .ok (.iconst (-1), 1) := by decide +kernel
theorem dX7_keep_13 : decode cX7_keep 13 = .ok (.ireturn, 1) := by decide +kernel
theorem dX7_keep_14 : decode cX7_keep 14 = .ok (.aload_n 0, 1) := by decide +kernel
theorem dX7_keep_15 : decode cX7_keep 15 = .ok (.getfield 150, 3) := by decide +kernel
theorem dX7_keep_18 : decode cX7_keep 18 = .ok (.ifCond .ne 6, 3) := by decide +kernel
theorem dX7_keep_21 : decode cX7_keep 21 = .ok (.bipush (-4), 2) := by decide +kernel
theorem dX7_keep_23 : decode cX7_keep 23 = .ok (.ireturn, 1) := by decide +kernel
theorem dX7_keep_24 : decode cX7_keep 24 = .ok (.aload_n 0, 1) := by decide +kernel
theorem dX7_keep_25 : decode cX7_keep 25 = .ok (.iconst 0, 1) := by decide +kernel
theorem dX7_keep_26 : decode cX7_keep 26 = .ok (.sipush 616, 3) := by decide +kernel
theorem dX7_keep_29 : decode cX7_keep 29 = .ok (.iconst 1, 1) := by decide +kernel
theorem dX7_keep_30 : decode cX7_keep 30 = .ok (.iload_n 1, 1) := by decide +kernel
theorem dX7_keep_31 : decode cX7_keep 31 = .ok (.iadd, 1) := by decide +kernel
theorem dX7_keep_32 : decode cX7_keep 32 = .ok (.imul, 1) := by decide +kernel
theorem dX7_keep_33 : decode cX7_keep 33 = .ok (.invokevirtual 206, 3) := by decide +kernel
theorem dX7_keep_36 : decode cX7_keep 36 = .ok (.aload_n 0, 1) := by decide +kernel
theorem dX7_keep_37 : decode cX7_keep 37 = .ok (.getfield 7, 3) := by decide +kernel
theorem dX7_keep_40 : decode cX7_keep 40 = .ok (.iconst 0, 1) := by decide +kernel
theorem dX7_keep_41 : decode cX7_keep 41 = .ok (.iaload, 1) := by decide +kernel
theorem dX7_keep_42 : decode cX7_keep 42 = .ok (.ireturn, 1) := by decide +kernel
theorem dX7_on_0 : decode cX7_on 0 = .ok (.iload_n 1, 1) := by decide +kernel
theorem dX7_on_1 : decode cX7_on 1 = .ok (.i2l, 1) := by decide +kernel
theorem dX7_on_2 : decode cX7_on 2 = .ok (.lconst 0, 1) := by decide +kernel
theorem dX7_on_3 : decode cX7_on 3 = .ok (.ldc2_w 204, 3) := by decide +kernel
theorem dX7_on_6 : decode cX7_on 6 = .ok (.invokestatic 77, 3) := by decide +kernel
theorem dX7_on_9 : decode cX7_on 9 = .ok (.ifCond .ne 5, 3) := by decide +kernel
theorem dX7_on_12 : decode cX7_on 12 = .ok (.iconst (-1), 1) := by decide +kernel
theorem dX7_on_13 : decode cX7_on 13 = .ok (.ireturn, 1) := by decide +kernel
theorem dX7_on_14 : decode cX7_on 14 = .ok (.aload_n 0, 1) := by decide +kernel
theorem dX7_on_15 : decode cX7_on 15 = .ok (.getfield 7, 3) := by decide +kernel
theorem dX7_on_18 : decode cX7_on 18 = .ok (.sipush 616, 3) := by decide +kernel
theorem dX7_on_21 : decode cX7_on 21 = .ok (.iconst 1, 1) := by decide +kernel
theorem dX7_on_22 : decode cX7_on 22 = .ok (.iload_n 1, 1) := by decide +kernel
theorem dX7_on_23 : decode cX7_on 23 = .ok (.iadd, 1) := by decide +kernel
theorem dX7_on_24 : decode cX7_on 24 = .ok (.imul, 1) := by decide +kernel
theorem dX7_on_25 : decode cX7_on 25 = .ok (.iconst 0, 1) := by decide +kernel
theorem dX7_on_26 : decode cX7_on 26 = .ok (.iadd, 1) := by decide +kernel
theorem dX7_on_27 : decode cX7_on 27 = .ok (.iaload, 1) := by decide +kernel
theorem dX7_on_28 : decode cX7_on 28 = .ok (.ifCond .ge 9, 3) := by decide +kernel
theorem dX7_on_31 : decode cX7_on 31 = .ok (.aload_n 0, 1) := by decide +kernel
theorem dX7_on_32 : decode cX7_on 32 = .ok (.iconst 1, 1) := by decide +kernel
theorem dX7_on_33 : decode cX7_on 33 = .ok (.invokevirtual 87, 3) := by decide +kernel
theorem dX7_on_36 : decode cX7_on 36 = .ok (.ireturn, 1) := by decide +kernel
theorem dX7_on_37 : decode cX7_on 37 = .ok (.aload_n 0, 1) := by decide +kernel
theorem dX7_on_38 : decode cX7_on 38 = .ok (.sipush 616, 3) := by decide +kernel
theorem dX7_on_41 : decode cX7_on 41 = .ok (.iconst 1, 1) := by decide +kernel
theorem dX7_on_42 : decode cX7_on 42 = .ok (.iload_n 1, 1) := by decide +kernel
theorem dX7_on_43 : decode cX7_on 43 = .ok (.iadd, 1) := by decide +kernel
theorem dX7_on_44 : decode cX7_on 44 = .ok (.imul, 1) := by decide +kernel
theorem dX7_on_45 : decode cX7_on 45 = .ok (.iconst 0, 1) := by decide +kernel
theorem dX7_on_46 : decode cX7_on 46 = .ok (.invokevirtual 206, 3) := by decide +kernel
theorem dX7_on_49 : decode cX7_on 49 = .ok (.aload_n 0, 1) := by decide +kernel
theorem dX7_on_50 : decode cX7_on 50 = .ok (.getfield 7, 3) := by decide +kernel
theorem dX7_on_53 : decode cX7_on 53 = .ok (.iconst 0, 1) := by decide +kernel
theorem dX7_on_54 : decode cX7_on 54 = .ok (.iaload, 1) := by decide +kernel
theorem dX7_on_55 : decode cX7_on 55 = .ok (.ireturn, 1) := by decide +kernel
theorem dX7_layTried_0 : decode cX7_layTried 0 = .ok (.iconst 0, 1) := by decide +kernel
theorem dX7_layTried_1 : decode cX7_layTried 1 = .ok (.istore_n 1, 1) := by decide +kernel
theorem dX7_layTried_2 : decode cX7_layTried 2 = .ok (.iload_n 1, 1) := by decide +kernel
theorem dX7_layTried_3 : decode cX7_layTried 3 = .ok (.bipush 16, 2) := by decide +kernel
theorem dX7_layTried_5 : decode cX7_layTried 5 = .ok (.if_icmp .ge 25, 3) := by decide +kernel
theorem dX7_layTried_8 : decode cX7_layTried 8 = .ok (.aload_n 0, 1) := by decide +kernel
theorem dX7_layTried_9 : decode cX7_layTried 9 = .ok (.getfield 7, 3) := by decide +kernel
theorem dX7_layTried_12 : decode cX7_layTried 12 = .ok (.sipush 2464, 3) := by decide +kernel
theorem dX7_layTried_15 : decode cX7_layTried 15 = .ok (.iload_n 1, 1) := by decide +kernel
theorem dX7_layTried_16 : decode cX7_layTried 16 = .ok (.iadd, 1) := by decide +kernel
theorem dX7_layTried_17 : decode cX7_layTried 17 = .ok (.aload_n 0, 1) := by decide +kernel
theorem dX7_layTried_18 : decode cX7_layTried 18 = .ok (.getfield 7, 3) := by decide +kernel
theorem dX7_layTried_21 : decode cX7_layTried 21 = .ok (.iload_n 1, 1) := by decide +kernel
theorem dX7_layTried_22 : decode cX7_layTried 22 = .ok (.iaload, 1) := by decide +kernel
theorem dX7_layTried_23 : decode cX7_layTried 23 = .ok (.iastore, 1) := by decide +kernel
theorem dX7_layTried_24 : decode cX7_layTried 24 = .ok (.iinc 1 1, 3) := by decide +kernel
theorem dX7_layTried_27 : decode cX7_layTried 27 = .ok (.goto (-25), 3) := by decide +kernel
theorem dX7_layTried_30 : decode cX7_layTried 30 = .ok (.return_, 1) := by decide +kernel
theorem dX7_paidIn_0 : decode cX7_paidIn 0 = .ok (.iconst 0, 1) := by decide +kernel
theorem dX7_paidIn_1 : decode cX7_paidIn 1 = .ok (.istore_n 2, 1) := by decide +kernel
theorem dX7_paidIn_2 : decode cX7_paidIn 2 = .ok (.iconst 0, 1) := by decide +kernel
theorem dX7_paidIn_3 : decode cX7_paidIn 3 = .ok (.istore_n 3, 1) := by decide +kernel
theorem dX7_paidIn_4 : decode cX7_paidIn 4 = .ok (.iload_n 3, 1) := by decide +kernel
theorem dX7_paidIn_5 : decode cX7_paidIn 5 = .ok (.bipush 6, 2) := by decide +kernel
theorem dX7_paidIn_7 : decode cX7_paidIn 7 = .ok (.if_icmp .ge 23, 3) := by decide +kernel
theorem dX7_paidIn_10 : decode cX7_paidIn 10 = .ok (.iload_n 2, 1) := by decide +kernel
theorem dX7_paidIn_11 : decode cX7_paidIn 11 = .ok (.aload_n 0, 1) := by decide +kernel
theorem dX7_paidIn_12 : decode cX7_paidIn 12 = .ok (.getfield 7, 3) := by decide +kernel
theorem dX7_paidIn_15 : decode cX7_paidIn 15 = .ok (.iload_n 1, 1) := by decide +kernel
theorem dX7_paidIn_16 : decode cX7_paidIn 16 = .ok (.bipush 10, 2) := by decide +kernel
theorem dX7_paidIn_18 : decode cX7_paidIn 18 = .ok (.iadd, 1) := by decide +kernel
theorem dX7_paidIn_19 : decode cX7_paidIn 19 = .ok (.iload_n 3, 1) := by decide +kernel
theorem dX7_paidIn_20 : decode cX7_paidIn 20 = .ok (.iadd, 1) := by decide +kernel
theorem dX7_paidIn_21 : decode cX7_paidIn 21 = .ok (.iaload, 1) := by decide +kernel
theorem dX7_paidIn_22 : decode cX7_paidIn 22 = .ok (.iadd, 1) := by decide +kernel
theorem dX7_paidIn_23 : decode cX7_paidIn 23 = .ok (.istore_n 2, 1) := by decide +kernel
theorem dX7_paidIn_24 : decode cX7_paidIn 24 = .ok (.iinc 3 1, 3) := by decide +kernel
theorem dX7_paidIn_27 : decode cX7_paidIn 27 = .ok (.goto (-23), 3) := by decide +kernel
theorem dX7_paidIn_30 : decode cX7_paidIn 30 = .ok (.iload_n 2, 1) := by decide +kernel
theorem dX7_paidIn_31 : decode cX7_paidIn 31 = .ok (.ireturn, 1) := by decide +kernel
theorem dX7_paidBy_0 : decode cX7_paidBy 0 = .ok (.aload_n 0, 1) := by decide +kernel
theorem dX7_paidBy_1 : decode cX7_paidBy 1 = .ok (.invokevirtual 209, 3) := by decide +kernel
theorem dX7_paidBy_4 : decode cX7_paidBy 4 = .ok (.iconst 0, 1) := by decide +kernel
theorem dX7_paidBy_5 : decode cX7_paidBy 5 = .ok (.istore_n 2, 1) := by decide +kernel
theorem dX7_paidBy_6 : decode cX7_paidBy 6 = .ok (.iconst 1, 1) := by decide +kernel
theorem dX7_paidBy_7 : decode cX7_paidBy 7 = .ok (.istore_n 3, 1) := by decide +kernel
theorem dX7_paidBy_8 : decode cX7_paidBy 8 = .ok (.iconst 0, 1) := by decide +kernel
theorem dX7_paidBy_9 : decode cX7_paidBy 9 = .ok (.istore 4, 2) := by decide +kernel
theorem dX7_paidBy_11 : decode cX7_paidBy 11 = .ok (.iload 4, 2) := by decide +kernel
theorem dX7_paidBy_13 : decode cX7_paidBy 13 = .ok (.iload_n 1, 1) := by decide +kernel
theorem dX7_paidBy_14 : decode cX7_paidBy 14 = .ok (.if_icmp .ge 102, 3) := by decide +kernel
theorem dX7_paidBy_17 : decode cX7_paidBy 17 = .ok (.iload_n 3, 1) := by decide +kernel
theorem dX7_paidBy_18 : decode cX7_paidBy 18 = .ok (.ifCond .eq 98, 3) := by decide +kernel
theorem dX7_paidBy_21 : decode cX7_paidBy 21 = .ok (.aload_n 0, 1) := by decide +kernel
theorem dX7_paidBy_22 : decode cX7_paidBy 22 = .ok (.getfield 50, 3) := by decide +kernel
theorem dX7_paidBy_25 : decode cX7_paidBy 25 = .ok (.iload 4, 2) := by decide +kernel
theorem dX7_paidBy_27 : decode cX7_paidBy 27 = .ok (.iaload, 1) := by decide +kernel
theorem dX7_paidBy_28 : decode cX7_paidBy 28 = .ok (.iconst 1, 1) := by decide +kernel
theorem dX7_paidBy_29 : decode cX7_paidBy 29 = .ok (.isub, 1) := by decide +kernel
theorem dX7_paidBy_30 : decode cX7_paidBy 30 = .ok (.istore 5, 2) := by decide +kernel
theorem dX7_paidBy_32 : decode cX7_paidBy 32 = .ok (.iload 5, 2) := by decide +kernel
theorem dX7_paidBy_34 : decode cX7_paidBy 34 = .ok (.ifCond .ge 18, 3) := by decide +kernel
theorem dX7_paidBy_37 : decode cX7_paidBy 37 = .ok (.aload_n 0, 1) := by decide +kernel
theorem dX7_paidBy_38 : decode cX7_paidBy 38 = .ok (.getfield 7, 3) := by decide +kernel
theorem dX7_paidBy_41 : decode cX7_paidBy 41 = .ok (.sipush 2465, 3) := by decide +kernel
theorem dX7_paidBy_44 : decode cX7_paidBy 44 = .ok (.dup2, 1) := by decide +kernel
theorem dX7_paidBy_45 : decode cX7_paidBy 45 = .ok (.iaload, 1) := by decide +kernel
theorem dX7_paidBy_46 : decode cX7_paidBy 46 = .ok (.iconst 1, 1) := by decide +kernel
theorem dX7_paidBy_47 : decode cX7_paidBy 47 = .ok (.iadd, 1) := by decide +kernel
theorem dX7_paidBy_48 : decode cX7_paidBy 48 = .ok (.iastore, 1) := by decide +kernel
theorem dX7_paidBy_49 : decode cX7_paidBy 49 = .ok (.goto 61, 3) := by decide +kernel
theorem dX7_paidBy_52 : decode cX7_paidBy 52 = .ok (.aload_n 0, 1) := by decide +kernel
theorem dX7_paidBy_53 : decode cX7_paidBy 53 = .ok (.getfield 7, 3) := by decide +kernel
theorem dX7_paidBy_56 : decode cX7_paidBy 56 = .ok (.sipush 2466, 3) := by decide +kernel
theorem dX7_paidBy_59 : decode cX7_paidBy 59 = .ok (.iaload, 1) := by decide +kernel
theorem dX7_paidBy_60 : decode cX7_paidBy 60 = .ok (.iload 5, 2) := by decide +kernel
theorem dX7_paidBy_62 : decode cX7_paidBy 62 = .ok (.invokestatic 170, 3) := by decide +kernel
theorem dX7_paidBy_65 : decode cX7_paidBy 65 = .ok (.ifCond .ne 31, 3) := by decide +kernel
theorem dX7_paidBy_68 : decode cX7_paidBy 68 = .ok (.aload_n 0, 1) := by decide +kernel
theorem dX7_paidBy_69 : decode cX7_paidBy 69 = .ok (.sipush 2464, 3) := by decide +kernel
theorem dX7_paidBy_72 : decode cX7_paidBy 72 = .ok (.iload 5, 2) := by decide +kernel
theorem dX7_paidBy_74 : decode cX7_paidBy 74 = .ok (.aload_n 0, 1) := by decide +kernel
theorem dX7_paidBy_75 : decode cX7_paidBy 75 = .ok (.aload_n 0, 1) := by decide +kernel
theorem dX7_paidBy_76 : decode cX7_paidBy 76 = .ok (.getfield 7, 3) := by decide +kernel
theorem dX7_paidBy_79 : decode cX7_paidBy 79 = .ok (.sipush 2465, 3) := by decide +kernel
theorem dX7_paidBy_82 : decode cX7_paidBy 82 = .ok (.iaload, 1) := by decide +kernel
theorem dX7_paidBy_83 : decode cX7_paidBy 83 = .ok (.invokevirtual 164, 3) := by decide +kernel
theorem dX7_paidBy_86 : decode cX7_paidBy 86 = .ok (.invokevirtual 161, 3) := by decide +kernel
theorem dX7_paidBy_89 : decode cX7_paidBy 89 = .ok (.ifCond .ne 7, 3) := by decide +kernel
theorem dX7_paidBy_92 : decode cX7_paidBy 92 = .ok (.iconst 1, 1) := by decide +kernel
theorem dX7_paidBy_93 : decode cX7_paidBy 93 = .ok (.goto 4, 3) := by decide +kernel
theorem dX7_paidBy_96 : decode cX7_paidBy 96 = .ok (.iconst 0, 1) := by decide +kernel
theorem dX7_paidBy_97 : decode cX7_paidBy 97 = .ok (.istore_n 3, 1) := by decide +kernel
theorem dX7_paidBy_98 : decode cX7_paidBy 98 = .ok (.iload_n 2, 1) := by decide +kernel
theorem dX7_paidBy_99 : decode cX7_paidBy 99 = .ok (.aload_n 0, 1) := by decide +kernel
theorem dX7_paidBy_100 : decode cX7_paidBy 100 = .ok (.sipush 2464, 3) := by decide +kernel
theorem dX7_paidBy_103 : decode cX7_paidBy 103 = .ok (.iload 5, 2) := by decide +kernel
theorem dX7_paidBy_105 : decode cX7_paidBy 105 = .ok (.invokevirtual 199, 3) := by decide +kernel
theorem dX7_paidBy_108 : decode cX7_paidBy 108 = .ok (.iadd, 1) := by decide +kernel
theorem dX7_paidBy_109 : decode cX7_paidBy 109 = .ok (.istore_n 2, 1) := by decide +kernel
theorem dX7_paidBy_110 : decode cX7_paidBy 110 = .ok (.iinc 4 1, 3) := by decide +kernel
theorem dX7_paidBy_113 : decode cX7_paidBy 113 = .ok (.goto (-102), 3) := by decide +kernel
theorem dX7_paidBy_116 : decode cX7_paidBy 116 = .ok (.iload_n 3, 1) := by decide +kernel
theorem dX7_paidBy_117 : decode cX7_paidBy 117 = .ok (.ifCond .eq 7, 3) := by decide +kernel
theorem dX7_paidBy_120 : decode cX7_paidBy 120 = .ok (.iload_n 2, 1) := by decide +kernel
theorem dX7_paidBy_121 : decode cX7_paidBy 121 = .ok (.goto 4, 3) := by decide +kernel
theorem dX7_paidBy_124 : decode cX7_paidBy 124 = .ok (.iconst (-1), 1) := by decide +kernel
theorem dX7_paidBy_125 : decode cX7_paidBy 125 = .ok (.ireturn, 1) := by decide +kernel
theorem dX7_nextLine_0 : decode cX7_nextLine 0 = .ok (.iload_n 1, 1) := by decide +kernel
theorem dX7_nextLine_1 : decode cX7_nextLine 1 = .ok (.iconst 1, 1) := by decide +kernel
theorem dX7_nextLine_2 : decode cX7_nextLine 2 = .ok (.isub, 1) := by decide +kernel
theorem dX7_nextLine_3 : decode cX7_nextLine 3 = .ok (.istore_n 2, 1) := by decide +kernel
theorem dX7_nextLine_4 : decode cX7_nextLine 4 = .ok (.iload_n 2, 1) := by decide +kernel
theorem dX7_nextLine_5 : decode cX7_nextLine 5 = .ok (.ifCond .lt 29, 3) := by decide +kernel
theorem dX7_nextLine_8 : decode cX7_nextLine 8 = .ok (.aload_n 0, 1) := by decide +kernel
theorem dX7_nextLine_9 : decode cX7_nextLine 9 = .ok (.getfield 50, 3) := by decide +kernel
theorem dX7_nextLine_12 : decode cX7_nextLine 12 = .ok (.iload_n 2, 1) := by decide +kernel
theorem dX7_nextLine_13 : decode cX7_nextLine 13 = .ok (.iaload, 1) := by decide +kernel
theorem dX7_nextLine_14 : decode cX7_nextLine 14 = .ok (.aload_n 0, 1) := by decide +kernel
theorem dX7_nextLine_15 : decode cX7_nextLine 15 = .ok (.getfield 150, 3) := by decide +kernel
theorem dX7_nextLine_18 : decode cX7_nextLine 18 = .ok (.if_icmp .ne 16, 3) := by decide +kernel
theorem dX7_nextLine_21 : decode cX7_nextLine 21 = .ok (.aload_n 0, 1) := by decide +kernel
theorem dX7_nextLine_22 : decode cX7_nextLine 22 = .ok (.getfield 50, 3) := by decide +kernel
theorem dX7_nextLine_25 : decode cX7_nextLine 25 = .ok (.iload_n 2, 1) := by decide +kernel
theorem dX7_nextLine_26 : decode cX7_nextLine 26 = .ok (.iconst 0, 1) := by decide +kernel
theorem dX7_nextLine_27 : decode cX7_nextLine 27 = .ok (.iastore, 1) := by decide +kernel
theorem dX7_nextLine_28 : decode cX7_nextLine 28 = .ok (.iinc 2 (-1), 3) := by decide +kernel
theorem dX7_nextLine_31 : decode cX7_nextLine 31 = .ok (.goto (-27), 3) := by decide +kernel
theorem dX7_nextLine_34 : decode cX7_nextLine 34 = .ok (.iload_n 2, 1) := by decide +kernel
theorem dX7_nextLine_35 : decode cX7_nextLine 35 = .ok (.ifCond .lt 13, 3) := by decide +kernel
theorem dX7_nextLine_38 : decode cX7_nextLine 38 = .ok (.aload_n 0, 1) := by decide +kernel
theorem dX7_nextLine_39 : decode cX7_nextLine 39 = .ok (.getfield 50, 3) := by decide +kernel
theorem dX7_nextLine_42 : decode cX7_nextLine 42 = .ok (.iload_n 2, 1) := by decide +kernel
theorem dX7_nextLine_43 : decode cX7_nextLine 43 = .ok (.dup2, 1) := by decide +kernel
theorem dX7_nextLine_44 : decode cX7_nextLine 44 = .ok (.iaload, 1) := by decide +kernel
theorem dX7_nextLine_45 : decode cX7_nextLine 45 = .ok (.iconst 1, 1) := by decide +kernel
theorem dX7_nextLine_46 : decode cX7_nextLine 46 = .ok (.iadd, 1) := by decide +kernel
theorem dX7_nextLine_47 : decode cX7_nextLine 47 = .ok (.iastore, 1) := by decide +kernel
theorem dX7_nextLine_48 : decode cX7_nextLine 48 = .ok (.iload_n 2, 1) := by decide +kernel
theorem dX7_nextLine_49 : decode cX7_nextLine 49 = .ok (.ifCond .lt 7, 3) := by decide +kernel
theorem dX7_nextLine_52 : decode cX7_nextLine 52 = .ok (.iconst 1, 1) := by decide +kernel
theorem dX7_nextLine_53 : decode cX7_nextLine 53 = .ok (.goto 4, 3) := by decide +kernel
theorem dX7_nextLine_56 : decode cX7_nextLine 56 = .ok (.iconst 0, 1) := by decide +kernel
theorem dX7_nextLine_57 : decode cX7_nextLine 57 = .ok (.ireturn, 1) := by decide +kernel
theorem dX7_mostIn_0 : decode cX7_mostIn 0 = .ok (.iconst 0, 1) := by decide +kernel
theorem dX7_mostIn_1 : decode cX7_mostIn 1 = .ok (.istore_n 2, 1) := by decide +kernel
theorem dX7_mostIn_2 : decode cX7_mostIn 2 = .ok (.iload_n 2, 1) := by decide +kernel
theorem dX7_mostIn_3 : decode cX7_mostIn 3 = .ok (.bipush 6, 2) := by decide +kernel
theorem dX7_mostIn_5 : decode cX7_mostIn 5 = .ok (.if_icmp .ge 16, 3) := by decide +kernel
theorem dX7_mostIn_8 : decode cX7_mostIn 8 = .ok (.aload_n 0, 1) := by decide +kernel
theorem dX7_mostIn_9 : decode cX7_mostIn 9 = .ok (.getfield 50, 3) := by decide +kernel
theorem dX7_mostIn_12 : decode cX7_mostIn 12 = .ok (.iload_n 2, 1) := by decide +kernel
theorem dX7_mostIn_13 : decode cX7_mostIn 13 = .ok (.iconst 0, 1) := by decide +kernel
theorem dX7_mostIn_14 : decode cX7_mostIn 14 = .ok (.iastore, 1) := by decide +kernel
theorem dX7_mostIn_15 : decode cX7_mostIn 15 = .ok (.iinc 2 1, 3) := by decide +kernel
theorem dX7_mostIn_18 : decode cX7_mostIn 18 = .ok (.goto (-16), 3) := by decide +kernel
theorem dX7_mostIn_21 : decode cX7_mostIn 21 = .ok (.iconst (-1), 1) := by decide +kernel
theorem dX7_mostIn_22 : decode cX7_mostIn 22 = .ok (.istore_n 2, 1) := by decide +kernel
theorem dX7_mostIn_23 : decode cX7_mostIn 23 = .ok (.iconst 1, 1) := by decide +kernel
theorem dX7_mostIn_24 : decode cX7_mostIn 24 = .ok (.istore_n 3, 1) := by decide +kernel
theorem dX7_mostIn_25 : decode cX7_mostIn 25 = .ok (.iload_n 3, 1) := by decide +kernel
theorem dX7_mostIn_26 : decode cX7_mostIn 26 = .ok (.ifCond .eq 57, 3) := by decide +kernel
theorem dX7_mostIn_29 : decode cX7_mostIn 29 = .ok (.aload_n 0, 1) := by decide +kernel
theorem dX7_mostIn_30 : decode cX7_mostIn 30 = .ok (.iload_n 1, 1) := by decide +kernel
theorem dX7_mostIn_31 : decode cX7_mostIn 31 = .ok (.invokevirtual 212, 3) := by decide +kernel
theorem dX7_mostIn_34 : decode cX7_mostIn 34 = .ok (.istore 4, 2) := by decide +kernel
theorem dX7_mostIn_36 : decode cX7_mostIn 36 = .ok (.iload 4, 2) := by decide +kernel
theorem dX7_mostIn_38 : decode cX7_mostIn 38 = .ok (.iload_n 2, 1) := by decide +kernel
theorem dX7_mostIn_39 : decode cX7_mostIn 39 = .ok (.if_icmp .le 35, 3) := by decide +kernel
theorem dX7_mostIn_42 : decode cX7_mostIn 42 = .ok (.iload 4, 2) := by decide +kernel
theorem dX7_mostIn_44 : decode cX7_mostIn 44 = .ok (.istore_n 2, 1) := by decide +kernel
theorem dX7_mostIn_45 : decode cX7_mostIn 45 = .ok (.iconst 0, 1) := by decide +kernel
theorem dX7_mostIn_46 : decode cX7_mostIn 46 = .ok (.istore 5, 2) := by decide +kernel
theorem dX7_mostIn_48 : decode cX7_mostIn 48 = .ok (.iload 5, 2) := by decide +kernel
theorem dX7_mostIn_50 : decode cX7_mostIn 50 = .ok (.iload_n 1, 1) := by decide +kernel
theorem dX7_mostIn_51 : decode cX7_mostIn 51 = .ok (.if_icmp .ge 23, 3) := by decide +kernel
theorem dX7_mostIn_54 : decode cX7_mostIn 54 = .ok (.aload_n 0, 1) := by decide +kernel
theorem dX7_mostIn_55 : decode cX7_mostIn 55 = .ok (.getfield 53, 3) := by decide +kernel
theorem dX7_mostIn_58 : decode cX7_mostIn 58 = .ok (.iload 5, 2) := by decide +kernel
theorem dX7_mostIn_60 : decode cX7_mostIn 60 = .ok (.aload_n 0, 1) := by decide +kernel
theorem dX7_mostIn_61 : decode cX7_mostIn 61 = .ok (.getfield 50, 3) := by decide +kernel
theorem dX7_mostIn_64 : decode cX7_mostIn 64 = .ok (.iload 5, 2) := by decide +kernel
theorem dX7_mostIn_66 : decode cX7_mostIn 66 = .ok (.iaload, 1) := by decide +kernel
theorem dX7_mostIn_67 : decode cX7_mostIn 67 = .ok (.iastore, 1) := by decide +kernel
theorem dX7_mostIn_68 : decode cX7_mostIn 68 = .ok (.iinc 5 1, 3) := by decide +kernel
theorem dX7_mostIn_71 : decode cX7_mostIn 71 = .ok (.goto (-23), 3) := by decide +kernel
theorem dX7_mostIn_74 : decode cX7_mostIn 74 = .ok (.aload_n 0, 1) := by decide +kernel
theorem dX7_mostIn_75 : decode cX7_mostIn 75 = .ok (.iload_n 1, 1) := by decide +kernel
theorem dX7_mostIn_76 : decode cX7_mostIn 76 = .ok (.invokevirtual 215, 3) := by decide +kernel
theorem dX7_mostIn_79 : decode cX7_mostIn 79 = .ok (.istore_n 3, 1) := by decide +kernel
theorem dX7_mostIn_80 : decode cX7_mostIn 80 = .ok (.goto (-55), 3) := by decide +kernel
theorem dX7_mostIn_83 : decode cX7_mostIn 83 = .ok (.iload_n 2, 1) := by decide +kernel
theorem dX7_mostIn_84 : decode cX7_mostIn 84 = .ok (.ireturn, 1) := by decide +kernel
theorem dX7_tellLine_0 : decode cX7_tellLine 0 = .ok (.aload_n 0, 1) := by decide +kernel
theorem dX7_tellLine_1 : decode cX7_tellLine 1 = .ok (.iload_n 2, 1) := by decide +kernel
theorem dX7_tellLine_2 : decode cX7_tellLine 2 = .ok (.iload_n 1, 1) := by decide +kernel
theorem dX7_tellLine_3 : decode cX7_tellLine 3 = .ok (.invokevirtual 91, 3) := by decide +kernel
theorem dX7_tellLine_6 : decode cX7_tellLine 6 = .ok (.iconst 0, 1) := by decide +kernel
theorem dX7_tellLine_7 : decode cX7_tellLine 7 = .ok (.istore_n 3, 1) := by decide +kernel
theorem dX7_tellLine_8 : decode cX7_tellLine 8 = .ok (.iload_n 3, 1) := by decide +kernel
theorem dX7_tellLine_9 : decode cX7_tellLine 9 = .ok (.iload_n 1, 1) := by decide +kernel
theorem dX7_tellLine_10 : decode cX7_tellLine 10 = .ok (.if_icmp .ge 42, 3) := by decide +kernel
theorem dX7_tellLine_13 : decode cX7_tellLine 13 = .ok (.aload_n 0, 1) := by decide +kernel
theorem dX7_tellLine_14 : decode cX7_tellLine 14 = .ok (.getfield 28, 3) := by decide +kernel
theorem dX7_tellLine_17 : decode cX7_tellLine 17 = .ok (.bipush 40, 2) := by decide +kernel
theorem dX7_tellLine_19 : decode cX7_tellLine 19 = .ok (.iload_n 2, 1) := by decide +kernel
theorem dX7_tellLine_20 : decode cX7_tellLine 20 = .ok (.imul, 1) := by decide +kernel
theorem dX7_tellLine_21 : decode cX7_tellLine 21 = .ok (.iload_n 3, 1) := by decide +kernel
theorem dX7_tellLine_22 : decode cX7_tellLine 22 = .ok (.iadd, 1) := by decide +kernel
theorem dX7_tellLine_23 : decode cX7_tellLine 23 = .ok (.aload_n 0, 1) := by decide +kernel
theorem dX7_tellLine_24 : decode cX7_tellLine 24 = .ok (.getfield 53, 3) := by decide +kernel
theorem dX7_tellLine_27 : decode cX7_tellLine 27 = .ok (.iload_n 3, 1) := by decide +kernel
theorem dX7_tellLine_28 : decode cX7_tellLine 28 = .ok (.iaload, 1) := by decide +kernel
theorem dX7_tellLine_29 : decode cX7_tellLine 29 = .ok (.ifCond .ne 8, 3) := by decide +kernel
theorem dX7_tellLine_32 : decode cX7_tellLine 32 = .ok (.bipush (-9), 2) := by decide +kernel
theorem dX7_tellLine_34 : decode cX7_tellLine 34 = .ok (.goto 11, 3) := by decide +kernel
theorem dX7_tellLine_37 : decode cX7_tellLine 37 = .ok (.aload_n 0, 1) := by decide +kernel
theorem dX7_tellLine_38 : decode cX7_tellLine 38 = .ok (.getfield 53, 3) := by decide +kernel
theorem dX7_tellLine_41 : decode cX7_tellLine 41 = .ok (.iload_n 3, 1) := by decide +kernel
theorem dX7_tellLine_42 : decode cX7_tellLine 42 = .ok (.iaload, 1) := by decide +kernel
theorem dX7_tellLine_43 : decode cX7_tellLine 43 = .ok (.iconst 1, 1) := by decide +kernel
theorem dX7_tellLine_44 : decode cX7_tellLine 44 = .ok (.isub, 1) := by decide +kernel
theorem dX7_tellLine_45 : decode cX7_tellLine 45 = .ok (.iastore, 1) := by decide +kernel
theorem dX7_tellLine_46 : decode cX7_tellLine 46 = .ok (.iinc 3 1, 3) := by decide +kernel
theorem dX7_tellLine_49 : decode cX7_tellLine 49 = .ok (.goto (-41), 3) := by decide +kernel
theorem dX7_tellLine_52 : decode cX7_tellLine 52 = .ok (.return_, 1) := by decide +kernel
theorem dX7_most_0 : decode cX7_most 0 = .ok (.iload_n 1, 1) := by decide +kernel
theorem dX7_most_1 : decode cX7_most 1 = .ok (.i2l, 1) := by decide +kernel
theorem dX7_most_2 : decode cX7_most 2 = .ok (.lconst 0, 1) := by decide +kernel
theorem dX7_most_3 : decode cX7_most 3 = .ok (.ldc2_w 75, 3) := by decide +kernel
theorem dX7_most_6 : decode cX7_most 6 = .ok (.invokestatic 77, 3) := by decide +kernel
theorem dX7_most_9 : decode cX7_most 9 = .ok (.ifCond .eq 10, 3) := by decide +kernel
theorem dX7_most_12 : decode cX7_most 12 = .ok (.iload_n 2, 1) := by decide +kernel
theorem dX7_most_13 : decode cX7_most 13 = .ok (.invokestatic 83, 3) := by decide +kernel
theorem dX7_most_16 : decode cX7_most 16 = .ok (.ifCond .ne 5, 3) := by decide +kernel
theorem dX7_most_19 : decode cX7_most 19 = .ok (.iconst (-1), 1) := by decide +kernel
theorem dX7_most_20 : decode cX7_most 20 = .ok (.ireturn, 1) := by decide +kernel
theorem dX7_most_21 : decode cX7_most 21 = .ok (.aload_n 0, 1) := by decide +kernel
theorem dX7_most_22 : decode cX7_most 22 = .ok (.getfield 150, 3) := by decide +kernel
theorem dX7_most_25 : decode cX7_most 25 = .ok (.ifCond .ne 6, 3) := by decide +kernel
theorem dX7_most_28 : decode cX7_most 28 = .ok (.bipush (-4), 2) := by decide +kernel
theorem dX7_most_30 : decode cX7_most 30 = .ok (.ireturn, 1) := by decide +kernel
theorem dX7_most_31 : decode cX7_most 31 = .ok (.aload_n 0, 1) := by decide +kernel
theorem dX7_most_32 : decode cX7_most 32 = .ok (.iload_n 1, 1) := by decide +kernel
theorem dX7_most_33 : decode cX7_most 33 = .ok (.invokevirtual 218, 3) := by decide +kernel
theorem dX7_most_36 : decode cX7_most 36 = .ok (.istore_n 3, 1) := by decide +kernel
theorem dX7_most_37 : decode cX7_most 37 = .ok (.aload_n 0, 1) := by decide +kernel
theorem dX7_most_38 : decode cX7_most 38 = .ok (.iload_n 1, 1) := by decide +kernel
theorem dX7_most_39 : decode cX7_most 39 = .ok (.iload_n 2, 1) := by decide +kernel
theorem dX7_most_40 : decode cX7_most 40 = .ok (.invokevirtual 221, 3) := by decide +kernel
theorem dX7_most_43 : decode cX7_most 43 = .ok (.iload_n 3, 1) := by decide +kernel
theorem dX7_most_44 : decode cX7_most 44 = .ok (.ireturn, 1) := by decide +kernel
theorem dX7_school_0 : decode cX7_school 0 = .ok (.iload_n 1, 1) := by decide +kernel
theorem dX7_school_1 : decode cX7_school 1 = .ok (.invokestatic 83, 3) := by decide +kernel
theorem dX7_school_4 : decode cX7_school 4 = .ok (.ifCond .ne 5, 3) := by decide +kernel
theorem dX7_school_7 : decode cX7_school 7 = .ok (.iconst (-1), 1) := by decide +kernel
theorem dX7_school_8 : decode cX7_school 8 = .ok (.ireturn, 1) := by decide +kernel
theorem dX7_school_9 : decode cX7_school 9 = .ok (.aload_n 0, 1) := by decide +kernel
theorem dX7_school_10 : decode cX7_school 10 = .ok (.getfield 150, 3) := by decide +kernel
theorem dX7_school_13 : decode cX7_school 13 = .ok (.ifCond .ne 6, 3) := by decide +kernel
theorem dX7_school_16 : decode cX7_school 16 = .ok (.bipush (-4), 2) := by decide +kernel
theorem dX7_school_18 : decode cX7_school 18 = .ok (.ireturn, 1) := by decide +kernel
theorem dX7_school_19 : decode cX7_school 19 = .ok (.iconst 0, 1) := by decide +kernel
theorem dX7_school_20 : decode cX7_school 20 = .ok (.istore_n 2, 1) := by decide +kernel
theorem dX7_school_21 : decode cX7_school 21 = .ok (.iload_n 2, 1) := by decide +kernel
theorem dX7_school_22 : decode cX7_school 22 = .ok (.bipush 6, 2) := by decide +kernel
theorem dX7_school_24 : decode cX7_school 24 = .ok (.if_icmp .ge 35, 3) := by decide +kernel
theorem dX7_school_27 : decode cX7_school 27 = .ok (.aload_n 0, 1) := by decide +kernel
theorem dX7_school_28 : decode cX7_school 28 = .ok (.iconst 0, 1) := by decide +kernel
theorem dX7_school_29 : decode cX7_school 29 = .ok (.invokevirtual 224, 3) := by decide +kernel
theorem dX7_school_32 : decode cX7_school 32 = .ok (.aload_n 0, 1) := by decide +kernel
theorem dX7_school_33 : decode cX7_school 33 = .ok (.iload_n 2, 1) := by decide +kernel
theorem dX7_school_34 : decode cX7_school 34 = .ok (.invokevirtual 218, 3) := by decide +kernel
theorem dX7_school_37 : decode cX7_school 37 = .ok (.iadd, 1) := by decide +kernel
theorem dX7_school_38 : decode cX7_school 38 = .ok (.aload_n 0, 1) := by decide +kernel
theorem dX7_school_39 : decode cX7_school 39 = .ok (.getfield 147, 3) := by decide +kernel
theorem dX7_school_42 : decode cX7_school 42 = .ok (.if_icmp .lt 11, 3) := by decide +kernel
theorem dX7_school_45 : decode cX7_school 45 = .ok (.aload_n 0, 1) := by decide +kernel
theorem dX7_school_46 : decode cX7_school 46 = .ok (.iload_n 2, 1) := by decide +kernel
theorem dX7_school_47 : decode cX7_school 47 = .ok (.iload_n 1, 1) := by decide +kernel
theorem dX7_school_48 : decode cX7_school 48 = .ok (.invokevirtual 221, 3) := by decide +kernel
theorem dX7_school_51 : decode cX7_school 51 = .ok (.iload_n 2, 1) := by decide +kernel
theorem dX7_school_52 : decode cX7_school 52 = .ok (.ireturn, 1) := by decide +kernel
theorem dX7_school_53 : decode cX7_school 53 = .ok (.iinc 2 1, 3) := by decide +kernel
theorem dX7_school_56 : decode cX7_school 56 = .ok (.goto (-35), 3) := by decide +kernel
theorem dX7_school_59 : decode cX7_school 59 = .ok (.bipush (-9), 2) := by decide +kernel
theorem dX7_school_61 : decode cX7_school 61 = .ok (.ireturn, 1) := by decide +kernel
theorem dX7_isFlying_0 : decode cX7_isFlying 0 = .ok (.aload_n 0, 1) := by decide +kernel
theorem dX7_isFlying_1 : decode cX7_isFlying 1 = .ok (.getfield 7, 3) := by decide +kernel
theorem dX7_isFlying_4 : decode cX7_isFlying 4 = .ok (.iconst 2, 1) := by decide +kernel
theorem dX7_isFlying_5 : decode cX7_isFlying 5 = .ok (.iaload, 1) := by decide +kernel
theorem dX7_isFlying_6 : decode cX7_isFlying 6 = .ok (.istore_n 2, 1) := by decide +kernel
theorem dX7_isFlying_7 : decode cX7_isFlying 7 = .ok (.iconst 1, 1) := by decide +kernel
theorem dX7_isFlying_8 : decode cX7_isFlying 8 = .ok (.istore_n 3, 1) := by decide +kernel
theorem dX7_isFlying_9 : decode cX7_isFlying 9 = .ok (.iconst 0, 1) := by decide +kernel
theorem dX7_isFlying_10 : decode cX7_isFlying 10 = .ok (.istore 4, 2) := by decide +kernel
theorem dX7_isFlying_12 : decode cX7_isFlying 12 = .ok (.iload 4, 2) := by decide +kernel
theorem dX7_isFlying_14 : decode cX7_isFlying 14 = .ok (.aload_n 0, 1) := by decide +kernel
theorem dX7_isFlying_15 : decode cX7_isFlying 15 = .ok (.getfield 25, 3) := by decide +kernel
theorem dX7_isFlying_18 : decode cX7_isFlying 18 = .ok (.iload_n 1, 1) := by decide +kernel
theorem dX7_isFlying_19 : decode cX7_isFlying 19 = .ok (.iaload, 1) := by decide +kernel
theorem dX7_isFlying_20 : decode cX7_isFlying 20 = .ok (.if_icmp .ge 78, 3) := by decide +kernel
theorem dX7_isFlying_23 : decode cX7_isFlying 23 = .ok (.iload_n 3, 1) := by decide +kernel
theorem dX7_isFlying_24 : decode cX7_isFlying 24 = .ok (.ifCond .eq 74, 3) := by decide +kernel
theorem dX7_isFlying_27 : decode cX7_isFlying 27 = .ok (.aload_n 0, 1) := by decide +kernel
theorem dX7_isFlying_28 : decode cX7_isFlying 28 = .ok (.getfield 28, 3) := by decide +kernel
theorem dX7_isFlying_31 : decode cX7_isFlying 31 = .ok (.bipush 40, 2) := by decide +kernel
theorem dX7_isFlying_33 : decode cX7_isFlying 33 = .ok (.iload_n 1, 1) := by decide +kernel
theorem dX7_isFlying_34 : decode cX7_isFlying 34 = .ok (.imul, 1) := by decide +kernel
theorem dX7_isFlying_35 : decode cX7_isFlying 35 = .ok (.iload 4, 2) := by decide +kernel
theorem dX7_isFlying_37 : decode cX7_isFlying 37 = .ok (.iadd, 1) := by decide +kernel
theorem dX7_isFlying_38 : decode cX7_isFlying 38 = .ok (.iaload, 1) := by decide +kernel
theorem dX7_isFlying_39 : decode cX7_isFlying 39 = .ok (.istore 5, 2) := by decide +kernel
theorem dX7_isFlying_41 : decode cX7_isFlying 41 = .ok (.iload 5, 2) := by decide +kernel
theorem dX7_isFlying_43 : decode cX7_isFlying 43 = .ok (.bipush (-9), 2) := by decide +kernel
theorem dX7_isFlying_45 : decode cX7_isFlying 45 = .ok (.if_icmp .eq 21, 3) := by decide +kernel
theorem dX7_isFlying_48 : decode cX7_isFlying 48 = .ok (.aload_n 0, 1) := by decide +kernel
theorem dX7_isFlying_49 : decode cX7_isFlying 49 = .ok (.iload 5, 2) := by decide +kernel
theorem dX7_isFlying_51 : decode cX7_isFlying 51 = .ok (.invokevirtual 174, 3) := by decide +kernel
theorem dX7_isFlying_54 : decode cX7_isFlying 54 = .ok (.ifCond .eq 16, 3) := by decide +kernel
theorem dX7_isFlying_57 : decode cX7_isFlying 57 = .ok (.iload_n 2, 1) := by decide +kernel
theorem dX7_isFlying_58 : decode cX7_isFlying 58 = .ok (.iload 5, 2) := by decide +kernel
theorem dX7_isFlying_60 : decode cX7_isFlying 60 = .ok (.invokestatic 170, 3) := by decide +kernel
theorem dX7_isFlying_63 : decode cX7_isFlying 63 = .ok (.ifCond .ne 7, 3) := by decide +kernel
theorem dX7_isFlying_66 : decode cX7_isFlying 66 = .ok (.iconst 1, 1) := by decide +kernel
theorem dX7_isFlying_67 : decode cX7_isFlying 67 = .ok (.goto 4, 3) := by decide +kernel
theorem dX7_isFlying_70 : decode cX7_isFlying 70 = .ok (.iconst 0, 1) := by decide +kernel
theorem dX7_isFlying_71 : decode cX7_isFlying 71 = .ok (.istore_n 3, 1) := by decide +kernel
theorem dX7_isFlying_72 : decode cX7_isFlying 72 = .ok (.iload_n 2, 1) := by decide +kernel
theorem dX7_isFlying_73 : decode cX7_isFlying 73 = .ok (.aload_n 0, 1) := by decide +kernel
theorem dX7_isFlying_74 : decode cX7_isFlying 74 = .ok (.iload 5, 2) := by decide +kernel
theorem dX7_isFlying_76 : decode cX7_isFlying 76 = .ok (.invokevirtual 174, 3) := by decide +kernel
theorem dX7_isFlying_79 : decode cX7_isFlying 79 = .ok (.ifCond .eq 10, 3) := by decide +kernel
theorem dX7_isFlying_82 : decode cX7_isFlying 82 = .ok (.iconst 1, 1) := by decide +kernel
theorem dX7_isFlying_83 : decode cX7_isFlying 83 = .ok (.iload 5, 2) := by decide +kernel
theorem dX7_isFlying_85 : decode cX7_isFlying 85 = .ok (.ishl, 1) := by decide +kernel
theorem dX7_isFlying_86 : decode cX7_isFlying 86 = .ok (.goto 4, 3) := by decide +kernel
theorem dX7_isFlying_89 : decode cX7_isFlying 89 = .ok (.iconst 0, 1) := by decide +kernel
theorem dX7_isFlying_90 : decode cX7_isFlying 90 = .ok (.ior, 1) := by decide +kernel
theorem dX7_isFlying_91 : decode cX7_isFlying 91 = .ok (.istore_n 2, 1) := by decide +kernel
theorem dX7_isFlying_92 : decode cX7_isFlying 92 = .ok (.iinc 4 1, 3) := by decide +kernel
theorem dX7_isFlying_95 : decode cX7_isFlying 95 = .ok (.goto (-83), 3) := by decide +kernel
theorem dX7_isFlying_98 : decode cX7_isFlying 98 = .ok (.iload_n 3, 1) := by decide +kernel
theorem dX7_isFlying_99 : decode cX7_isFlying 99 = .ok (.ireturn, 1) := by decide +kernel
theorem dX7_flown_0 : decode cX7_flown 0 = .ok (.iload_n 1, 1) := by decide +kernel
theorem dX7_flown_1 : decode cX7_flown 1 = .ok (.invokestatic 83, 3) := by decide +kernel
theorem dX7_flown_4 : decode cX7_flown 4 = .ok (.ifCond .ne 5, 3) := by decide +kernel
theorem dX7_flown_7 : decode cX7_flown 7 = .ok (.iconst (-1), 1) := by decide +kernel
theorem dX7_flown_8 : decode cX7_flown 8 = .ok (.ireturn, 1) := by decide +kernel
theorem dX7_flown_9 : decode cX7_flown 9 = .ok (.aload_n 0, 1) := by decide +kernel
theorem dX7_flown_10 : decode cX7_flown 10 = .ok (.getfield 150, 3) := by decide +kernel
theorem dX7_flown_13 : decode cX7_flown 13 = .ok (.ifCond .ne 6, 3) := by decide +kernel
theorem dX7_flown_16 : decode cX7_flown 16 = .ok (.bipush (-4), 2) := by decide +kernel
theorem dX7_flown_18 : decode cX7_flown 18 = .ok (.ireturn, 1) := by decide +kernel
theorem dX7_flown_19 : decode cX7_flown 19 = .ok (.aload_n 0, 1) := by decide +kernel
theorem dX7_flown_20 : decode cX7_flown 20 = .ok (.getfield 25, 3) := by decide +kernel
theorem dX7_flown_23 : decode cX7_flown 23 = .ok (.iload_n 1, 1) := by decide +kernel
theorem dX7_flown_24 : decode cX7_flown 24 = .ok (.iaload, 1) := by decide +kernel
theorem dX7_flown_25 : decode cX7_flown 25 = .ok (.ifCond .ge 9, 3) := by decide +kernel
theorem dX7_flown_28 : decode cX7_flown 28 = .ok (.aload_n 0, 1) := by decide +kernel
theorem dX7_flown_29 : decode cX7_flown 29 = .ok (.iconst 1, 1) := by decide +kernel
theorem dX7_flown_30 : decode cX7_flown 30 = .ok (.invokevirtual 87, 3) := by decide +kernel
theorem dX7_flown_33 : decode cX7_flown 33 = .ok (.ireturn, 1) := by decide +kernel
theorem dX7_flown_34 : decode cX7_flown 34 = .ok (.aload_n 0, 1) := by decide +kernel
theorem dX7_flown_35 : decode cX7_flown 35 = .ok (.getfield 25, 3) := by decide +kernel
theorem dX7_flown_38 : decode cX7_flown 38 = .ok (.iload_n 1, 1) := by decide +kernel
theorem dX7_flown_39 : decode cX7_flown 39 = .ok (.iaload, 1) := by decide +kernel
theorem dX7_flown_40 : decode cX7_flown 40 = .ok (.bipush 20, 2) := by decide +kernel
theorem dX7_flown_42 : decode cX7_flown 42 = .ok (.if_icmp .le 9, 3) := by decide +kernel
theorem dX7_flown_45 : decode cX7_flown 45 = .ok (.aload_n 0, 1) := by decide +kernel
theorem dX7_flown_46 : decode cX7_flown 46 = .ok (.iconst 5, 1) := by decide +kernel
theorem dX7_flown_47 : decode cX7_flown 47 = .ok (.invokevirtual 87, 3) := by decide +kernel
theorem dX7_flown_50 : decode cX7_flown 50 = .ok (.ireturn, 1) := by decide +kernel
theorem dX7_flown_51 : decode cX7_flown 51 = .ok (.aload_n 0, 1) := by decide +kernel
theorem dX7_flown_52 : decode cX7_flown 52 = .ok (.iload_n 1, 1) := by decide +kernel
theorem dX7_flown_53 : decode cX7_flown 53 = .ok (.invokevirtual 227, 3) := by decide +kernel
theorem dX7_flown_56 : decode cX7_flown 56 = .ok (.ifCond .ne 9, 3) := by decide +kernel
theorem dX7_flown_59 : decode cX7_flown 59 = .ok (.aload_n 0, 1) := by decide +kernel
theorem dX7_flown_60 : decode cX7_flown 60 = .ok (.iconst 3, 1) := by decide +kernel
theorem dX7_flown_61 : decode cX7_flown 61 = .ok (.invokevirtual 87, 3) := by decide +kernel
theorem dX7_flown_64 : decode cX7_flown 64 = .ok (.ireturn, 1) := by decide +kernel
theorem dX7_flown_65 : decode cX7_flown 65 = .ok (.aload_n 0, 1) := by decide +kernel
theorem dX7_flown_66 : decode cX7_flown 66 = .ok (.invokevirtual 209, 3) := by decide +kernel
theorem dX7_flown_69 : decode cX7_flown 69 = .ok (.iconst 0, 1) := by decide +kernel
theorem dX7_flown_70 : decode cX7_flown 70 = .ok (.istore_n 2, 1) := by decide +kernel
theorem dX7_flown_71 : decode cX7_flown 71 = .ok (.iconst 0, 1) := by decide +kernel
theorem dX7_flown_72 : decode cX7_flown 72 = .ok (.istore_n 3, 1) := by decide +kernel
theorem dX7_flown_73 : decode cX7_flown 73 = .ok (.iload_n 3, 1) := by decide +kernel
theorem dX7_flown_74 : decode cX7_flown 74 = .ok (.aload_n 0, 1) := by decide +kernel
theorem dX7_flown_75 : decode cX7_flown 75 = .ok (.getfield 25, 3) := by decide +kernel
theorem dX7_flown_78 : decode cX7_flown 78 = .ok (.iload_n 1, 1) := by decide +kernel
theorem dX7_flown_79 : decode cX7_flown 79 = .ok (.iaload, 1) := by decide +kernel
theorem dX7_flown_80 : decode cX7_flown 80 = .ok (.if_icmp .ge 56, 3) := by decide +kernel
theorem dX7_flown_83 : decode cX7_flown 83 = .ok (.aload_n 0, 1) := by decide +kernel
theorem dX7_flown_84 : decode cX7_flown 84 = .ok (.getfield 28, 3) := by decide +kernel
theorem dX7_flown_87 : decode cX7_flown 87 = .ok (.bipush 40, 2) := by decide +kernel
theorem dX7_flown_89 : decode cX7_flown 89 = .ok (.iload_n 1, 1) := by decide +kernel
theorem dX7_flown_90 : decode cX7_flown 90 = .ok (.imul, 1) := by decide +kernel
theorem dX7_flown_91 : decode cX7_flown 91 = .ok (.iload_n 3, 1) := by decide +kernel
theorem dX7_flown_92 : decode cX7_flown 92 = .ok (.iadd, 1) := by decide +kernel
theorem dX7_flown_93 : decode cX7_flown 93 = .ok (.iaload, 1) := by decide +kernel
theorem dX7_flown_94 : decode cX7_flown 94 = .ok (.istore 4, 2) := by decide +kernel
theorem dX7_flown_96 : decode cX7_flown 96 = .ok (.iload 4, 2) := by decide +kernel
theorem dX7_flown_98 : decode cX7_flown 98 = .ok (.bipush (-9), 2) := by decide +kernel
theorem dX7_flown_100 : decode cX7_flown 100 = .ok (.if_icmp .ne 18, 3) := by decide +kernel
theorem dX7_flown_103 : decode cX7_flown 103 = .ok (.aload_n 0, 1) := by decide +kernel
theorem dX7_flown_104 : decode cX7_flown 104 = .ok (.getfield 7, 3) := by decide +kernel
theorem dX7_flown_107 : decode cX7_flown 107 = .ok (.sipush 2465, 3) := by decide +kernel
theorem dX7_flown_110 : decode cX7_flown 110 = .ok (.dup2, 1) := by decide +kernel
theorem dX7_flown_111 : decode cX7_flown 111 = .ok (.iaload, 1) := by decide +kernel
theorem dX7_flown_112 : decode cX7_flown 112 = .ok (.iconst 1, 1) := by decide +kernel
theorem dX7_flown_113 : decode cX7_flown 113 = .ok (.iadd, 1) := by decide +kernel
theorem dX7_flown_114 : decode cX7_flown 114 = .ok (.iastore, 1) := by decide +kernel
theorem dX7_flown_115 : decode cX7_flown 115 = .ok (.goto 15, 3) := by decide +kernel
theorem dX7_flown_118 : decode cX7_flown 118 = .ok (.iload_n 2, 1) := by decide +kernel
theorem dX7_flown_119 : decode cX7_flown 119 = .ok (.aload_n 0, 1) := by decide +kernel
theorem dX7_flown_120 : decode cX7_flown 120 = .ok (.sipush 2464, 3) := by decide +kernel
theorem dX7_flown_123 : decode cX7_flown 123 = .ok (.iload 4, 2) := by decide +kernel
theorem dX7_flown_125 : decode cX7_flown 125 = .ok (.invokevirtual 199, 3) := by decide +kernel
theorem dX7_flown_128 : decode cX7_flown 128 = .ok (.iadd, 1) := by decide +kernel
theorem dX7_flown_129 : decode cX7_flown 129 = .ok (.istore_n 2, 1) := by decide +kernel
theorem dX7_flown_130 : decode cX7_flown 130 = .ok (.iinc 3 1, 3) := by decide +kernel
theorem dX7_flown_133 : decode cX7_flown 133 = .ok (.goto (-60), 3) := by decide +kernel
theorem dX7_flown_136 : decode cX7_flown 136 = .ok (.aload_n 0, 1) := by decide +kernel
theorem dX7_flown_137 : decode cX7_flown 137 = .ok (.aload_n 0, 1) := by decide +kernel
theorem dX7_flown_138 : decode cX7_flown 138 = .ok (.getfield 7, 3) := by decide +kernel
theorem dX7_flown_141 : decode cX7_flown 141 = .ok (.sipush 2467, 3) := by decide +kernel
theorem dX7_flown_144 : decode cX7_flown 144 = .ok (.iaload, 1) := by decide +kernel
theorem dX7_flown_145 : decode cX7_flown 145 = .ok (.aload_n 0, 1) := by decide +kernel
theorem dX7_flown_146 : decode cX7_flown 146 = .ok (.getfield 7, 3) := by decide +kernel
theorem dX7_flown_149 : decode cX7_flown 149 = .ok (.iconst 2, 1) := by decide +kernel
theorem dX7_flown_150 : decode cX7_flown 150 = .ok (.iaload, 1) := by decide +kernel
theorem dX7_flown_151 : decode cX7_flown 151 = .ok (.iconst (-1), 1) := by decide +kernel
theorem dX7_flown_152 : decode cX7_flown 152 = .ok (.ixor, 1) := by decide +kernel
theorem dX7_flown_153 : decode cX7_flown 153 = .ok (.iand, 1) := by decide +kernel
theorem dX7_flown_154 : decode cX7_flown 154 = .ok (.putfield 72, 3) := by decide +kernel
theorem dX7_flown_157 : decode cX7_flown 157 = .ok (.iload_n 2, 1) := by decide +kernel
theorem dX7_flown_158 : decode cX7_flown 158 = .ok (.ireturn, 1) := by decide +kernel
theorem dX7_when_0 : decode cX7_when 0 = .ok (.aload_n 0, 1) := by decide +kernel
theorem dX7_when_1 : decode cX7_when 1 = .ok (.iload_n 1, 1) := by decide +kernel
theorem dX7_when_2 : decode cX7_when 2 = .ok (.invokevirtual 174, 3) := by decide +kernel
theorem dX7_when_5 : decode cX7_when 5 = .ok (.ifCond .ne 5, 3) := by decide +kernel
theorem dX7_when_8 : decode cX7_when 8 = .ok (.iconst (-1), 1) := by decide +kernel
theorem dX7_when_9 : decode cX7_when 9 = .ok (.ireturn, 1) := by decide +kernel
theorem dX7_when_10 : decode cX7_when 10 = .ok (.iconst 0, 1) := by decide +kernel
theorem dX7_when_11 : decode cX7_when 11 = .ok (.istore_n 2, 1) := by decide +kernel
theorem dX7_when_12 : decode cX7_when 12 = .ok (.iconst (-1), 1) := by decide +kernel
theorem dX7_when_13 : decode cX7_when 13 = .ok (.istore_n 3, 1) := by decide +kernel
theorem dX7_when_14 : decode cX7_when 14 = .ok (.iconst 0, 1) := by decide +kernel
theorem dX7_when_15 : decode cX7_when 15 = .ok (.istore 4, 2) := by decide +kernel
theorem dX7_when_17 : decode cX7_when 17 = .ok (.iload 4, 2) := by decide +kernel
theorem dX7_when_19 : decode cX7_when 19 = .ok (.iconst 4, 1) := by decide +kernel
theorem dX7_when_20 : decode cX7_when 20 = .ok (.if_icmp .ge 56, 3) := by decide +kernel
theorem dX7_when_23 : decode cX7_when 23 = .ok (.aload_n 0, 1) := by decide +kernel
theorem dX7_when_24 : decode cX7_when 24 = .ok (.iconst 0, 1) := by decide +kernel
theorem dX7_when_25 : decode cX7_when 25 = .ok (.iload_n 1, 1) := by decide +kernel
theorem dX7_when_26 : decode cX7_when 26 = .ok (.aload_n 0, 1) := by decide +kernel
theorem dX7_when_27 : decode cX7_when 27 = .ok (.aload_n 0, 1) := by decide +kernel
theorem dX7_when_28 : decode cX7_when 28 = .ok (.getfield 7, 3) := by decide +kernel
theorem dX7_when_31 : decode cX7_when 31 = .ok (.iconst 1, 1) := by decide +kernel
theorem dX7_when_32 : decode cX7_when 32 = .ok (.iaload, 1) := by decide +kernel
theorem dX7_when_33 : decode cX7_when 33 = .ok (.iload 4, 2) := by decide +kernel
theorem dX7_when_35 : decode cX7_when 35 = .ok (.iadd, 1) := by decide +kernel
theorem dX7_when_36 : decode cX7_when 36 = .ok (.invokevirtual 164, 3) := by decide +kernel
theorem dX7_when_39 : decode cX7_when 39 = .ok (.invokevirtual 167, 3) := by decide +kernel
theorem dX7_when_42 : decode cX7_when 42 = .ok (.istore 5, 2) := by decide +kernel
theorem dX7_when_44 : decode cX7_when 44 = .ok (.iload 5, 2) := by decide +kernel
theorem dX7_when_46 : decode cX7_when 46 = .ok (.iload_n 3, 1) := by decide +kernel
theorem dX7_when_47 : decode cX7_when 47 = .ok (.if_icmp .le 8, 3) := by decide +kernel
theorem dX7_when_50 : decode cX7_when 50 = .ok (.iload 4, 2) := by decide +kernel
theorem dX7_when_52 : decode cX7_when 52 = .ok (.goto 4, 3) := by decide +kernel
theorem dX7_when_55 : decode cX7_when 55 = .ok (.iload_n 2, 1) := by decide +kernel
theorem dX7_when_56 : decode cX7_when 56 = .ok (.istore_n 2, 1) := by decide +kernel
theorem dX7_when_57 : decode cX7_when 57 = .ok (.iload 5, 2) := by decide +kernel
theorem dX7_when_59 : decode cX7_when 59 = .ok (.iload_n 3, 1) := by decide +kernel
theorem dX7_when_60 : decode cX7_when 60 = .ok (.if_icmp .le 8, 3) := by decide +kernel
theorem dX7_when_63 : decode cX7_when 63 = .ok (.iload 5, 2) := by decide +kernel
theorem dX7_when_65 : decode cX7_when 65 = .ok (.goto 4, 3) := by decide +kernel
theorem dX7_when_68 : decode cX7_when 68 = .ok (.iload_n 3, 1) := by decide +kernel
theorem dX7_when_69 : decode cX7_when 69 = .ok (.istore_n 3, 1) := by decide +kernel
theorem dX7_when_70 : decode cX7_when 70 = .ok (.iinc 4 1, 3) := by decide +kernel
theorem dX7_when_73 : decode cX7_when 73 = .ok (.goto (-56), 3) := by decide +kernel
theorem dX7_when_76 : decode cX7_when 76 = .ok (.aload_n 0, 1) := by decide +kernel
theorem dX7_when_77 : decode cX7_when 77 = .ok (.iload_n 3, 1) := by decide +kernel
theorem dX7_when_78 : decode cX7_when 78 = .ok (.putfield 72, 3) := by decide +kernel
theorem dX7_when_81 : decode cX7_when 81 = .ok (.iload_n 2, 1) := by decide +kernel
theorem dX7_when_82 : decode cX7_when 82 = .ok (.ireturn, 1) := by decide +kernel
theorem dX7_crossedIn_0 : decode cX7_crossedIn 0 = .ok (.aload_n 0, 1) := by decide +kernel
theorem dX7_crossedIn_1 : decode cX7_crossedIn 1 = .ok (.iconst 0, 1) := by decide +kernel
theorem dX7_crossedIn_2 : decode cX7_crossedIn 2 = .ok (.iload_n 1, 1) := by decide +kernel
theorem dX7_crossedIn_3 : decode cX7_crossedIn 3 = .ok (.iload_n 3, 1) := by decide +kernel
theorem dX7_crossedIn_4 : decode cX7_crossedIn 4 = .ok (.invokevirtual 157, 3) := by decide +kernel
theorem dX7_crossedIn_7 : decode cX7_crossedIn 7 = .ok (.istore 4, 2) := by decide +kernel
theorem dX7_crossedIn_9 : decode cX7_crossedIn 9 = .ok (.aload_n 0, 1) := by decide +kernel
theorem dX7_crossedIn_10 : decode cX7_crossedIn 10 = .ok (.iconst 0, 1) := by decide +kernel
theorem dX7_crossedIn_11 : decode cX7_crossedIn 11 = .ok (.iload_n 2, 1) := by decide +kernel
theorem dX7_crossedIn_12 : decode cX7_crossedIn 12 = .ok (.iload_n 3, 1) := by decide +kernel
theorem dX7_crossedIn_13 : decode cX7_crossedIn 13 = .ok (.invokevirtual 157, 3) := by decide +kernel
theorem dX7_crossedIn_16 : decode cX7_crossedIn 16 = .ok (.istore 5, 2) := by decide +kernel
theorem dX7_crossedIn_18 : decode cX7_crossedIn 18 = .ok (.iload 4, 2) := by decide +kernel
theorem dX7_crossedIn_20 : decode cX7_crossedIn 20 = .ok (.ifCond .le 18, 3) := by decide +kernel
theorem dX7_crossedIn_23 : decode cX7_crossedIn 23 = .ok (.iload 5, 2) := by decide +kernel
theorem dX7_crossedIn_25 : decode cX7_crossedIn 25 = .ok (.ifCond .le 13, 3) := by decide +kernel
theorem dX7_crossedIn_28 : decode cX7_crossedIn 28 = .ok (.iload 4, 2) := by decide +kernel
theorem dX7_crossedIn_30 : decode cX7_crossedIn 30 = .ok (.iload 5, 2) := by decide +kernel
theorem dX7_crossedIn_32 : decode cX7_crossedIn 32 = .ok (.iadd, 1) := by decide +kernel
theorem dX7_crossedIn_33 : decode cX7_crossedIn 33 = .ok (.iconst 3, 1) := by decide +kernel
theorem dX7_crossedIn_34 : decode cX7_crossedIn 34 = .ok (.iadd, 1) := by decide +kernel
theorem dX7_crossedIn_35 : decode cX7_crossedIn 35 = .ok (.goto 8, 3) := by decide +kernel
theorem dX7_crossedIn_38 : decode cX7_crossedIn 38 = .ok (.iload 4, 2) := by decide +kernel
theorem dX7_crossedIn_40 : decode cX7_crossedIn 40 = .ok (.iload 5, 2) := by decide +kernel
theorem dX7_crossedIn_42 : decode cX7_crossedIn 42 = .ok (.iadd, 1) := by decide +kernel
theorem dX7_crossedIn_43 : decode cX7_crossedIn 43 = .ok (.ireturn, 1) := by decide +kernel
theorem dX7_cross_0 : decode cX7_cross 0 = .ok (.aload_n 0, 1) := by decide +kernel
theorem dX7_cross_1 : decode cX7_cross 1 = .ok (.iload_n 1, 1) := by decide +kernel
theorem dX7_cross_2 : decode cX7_cross 2 = .ok (.invokevirtual 174, 3) := by decide +kernel
theorem dX7_cross_5 : decode cX7_cross 5 = .ok (.ifCond .eq 38, 3) := by decide +kernel
theorem dX7_cross_8 : decode cX7_cross 8 = .ok (.aload_n 0, 1) := by decide +kernel
theorem dX7_cross_9 : decode cX7_cross 9 = .ok (.iload_n 2, 1) := by decide +kernel
theorem dX7_cross_10 : decode cX7_cross 10 = .ok (.invokevirtual 174, 3) := by decide +kernel
theorem dX7_cross_13 : decode cX7_cross 13 = .ok (.ifCond .eq 30, 3) := by decide +kernel
theorem dX7_cross_16 : decode cX7_cross 16 = .ok (.iload_n 1, 1) := by decide +kernel
theorem dX7_cross_17 : decode cX7_cross 17 = .ok (.iload_n 2, 1) := by decide +kernel
theorem dX7_cross_18 : decode cX7_cross 18 = .ok (.if_icmp .eq 25, 3) := by decide +kernel
theorem dX7_cross_21 : decode cX7_cross 21 = .ok (.iload_n 3, 1) := by decide +kernel
theorem dX7_cross_22 : decode cX7_cross 22 = .ok (.i2l, 1) := by decide +kernel
theorem dX7_cross_23 : decode cX7_cross 23 = .ok (.lconst 0, 1) := by decide +kernel
theorem dX7_cross_24 : decode cX7_cross 24 = .ok (.ldc2_w 194, 3) := by decide +kernel
theorem dX7_cross_27 : decode cX7_cross 27 = .ok (.invokestatic 77, 3) := by decide +kernel
theorem dX7_cross_30 : decode cX7_cross 30 = .ok (.ifCond .eq 13, 3) := by decide +kernel
theorem dX7_cross_33 : decode cX7_cross 33 = .ok (.aload_n 0, 1) := by decide +kernel
theorem dX7_cross_34 : decode cX7_cross 34 = .ok (.iload_n 1, 1) := by decide +kernel
theorem dX7_cross_35 : decode cX7_cross 35 = .ok (.iload_n 2, 1) := by decide +kernel
theorem dX7_cross_36 : decode cX7_cross 36 = .ok (.iload_n 3, 1) := by decide +kernel
theorem dX7_cross_37 : decode cX7_cross 37 = .ok (.invokevirtual 230, 3) := by decide +kernel
theorem dX7_cross_40 : decode cX7_cross 40 = .ok (.goto 4, 3) := by decide +kernel
theorem dX7_cross_43 : decode cX7_cross 43 = .ok (.iconst (-1), 1) := by decide +kernel
theorem dX7_cross_44 : decode cX7_cross 44 = .ok (.ireturn, 1) := by decide +kernel
theorem dX7_crossed_0 : decode cX7_crossed 0 = .ok (.iload_n 1, 1) := by decide +kernel
theorem dX7_crossed_1 : decode cX7_crossed 1 = .ok (.i2l, 1) := by decide +kernel
theorem dX7_crossed_2 : decode cX7_crossed 2 = .ok (.lconst 0, 1) := by decide +kernel
theorem dX7_crossed_3 : decode cX7_crossed 3 = .ok (.ldc2_w 233, 3) := by decide +kernel
theorem dX7_crossed_6 : decode cX7_crossed 6 = .ok (.invokestatic 77, 3) := by decide +kernel
theorem dX7_crossed_9 : decode cX7_crossed 9 = .ok (.ifCond .eq 15, 3) := by decide +kernel
theorem dX7_crossed_12 : decode cX7_crossed 12 = .ok (.iload_n 2, 1) := by decide +kernel
theorem dX7_crossed_13 : decode cX7_crossed 13 = .ok (.i2l, 1) := by decide +kernel
theorem dX7_crossed_14 : decode cX7_crossed 14 = .ok (.lconst 0, 1) := by decide +kernel
theorem dX7_crossed_15 : decode cX7_crossed 15 = .ok (.ldc2_w 194, 3) := by decide +kernel
theorem dX7_crossed_18 : decode cX7_crossed 18 = .ok (.invokestatic 77, 3) := by decide +kernel
theorem dX7_crossed_21 : decode cX7_crossed 21 = .ok (.ifCond .ne 5, 3) := by decide +kernel
theorem dX7_crossed_24 : decode cX7_crossed 24 = .ok (.iconst (-1), 1) := by decide +kernel
theorem dX7_crossed_25 : decode cX7_crossed 25 = .ok (.ireturn, 1) := by decide +kernel
theorem dX7_crossed_26 : decode cX7_crossed 26 = .ok (.aload_n 0, 1) := by decide +kernel
theorem dX7_crossed_27 : decode cX7_crossed 27 = .ok (.getfield 150, 3) := by decide +kernel
theorem dX7_crossed_30 : decode cX7_crossed 30 = .ok (.ifCond .ne 6, 3) := by decide +kernel
theorem dX7_crossed_33 : decode cX7_crossed 33 = .ok (.bipush (-4), 2) := by decide +kernel
theorem dX7_crossed_35 : decode cX7_crossed 35 = .ok (.ireturn, 1) := by decide +kernel
theorem dX7_crossed_36 : decode cX7_crossed 36 = .ok (.iconst 0, 1) := by decide +kernel
theorem dX7_crossed_37 : decode cX7_crossed 37 = .ok (.istore_n 3, 1) := by decide +kernel
theorem dX7_crossed_38 : decode cX7_crossed 38 = .ok (.bipush (-9), 2) := by decide +kernel
theorem dX7_crossed_40 : decode cX7_crossed 40 = .ok (.istore 4, 2) := by decide +kernel
theorem dX7_crossed_42 : decode cX7_crossed 42 = .ok (.aload_n 0, 1) := by decide +kernel
theorem dX7_crossed_43 : decode cX7_crossed 43 = .ok (.getfield 150, 3) := by decide +kernel
theorem dX7_crossed_46 : decode cX7_crossed 46 = .ok (.aload_n 0, 1) := by decide +kernel
theorem dX7_crossed_47 : decode cX7_crossed 47 = .ok (.getfield 150, 3) := by decide +kernel
theorem dX7_crossed_50 : decode cX7_crossed 50 = .ok (.imul, 1) := by decide +kernel
theorem dX7_crossed_51 : decode cX7_crossed 51 = .ok (.iconst 1, 1) := by decide +kernel
theorem dX7_crossed_52 : decode cX7_crossed 52 = .ok (.isub, 1) := by decide +kernel
theorem dX7_crossed_53 : decode cX7_crossed 53 = .ok (.istore 5, 2) := by decide +kernel
theorem dX7_crossed_55 : decode cX7_crossed 55 = .ok (.iload 5, 2) := by decide +kernel
theorem dX7_crossed_57 : decode cX7_crossed 57 = .ok (.ifCond .lt 87, 3) := by decide +kernel
theorem dX7_crossed_60 : decode cX7_crossed 60 = .ok (.iload 5, 2) := by decide +kernel
theorem dX7_crossed_62 : decode cX7_crossed 62 = .ok (.aload_n 0, 1) := by decide +kernel
theorem dX7_crossed_63 : decode cX7_crossed 63 = .ok (.getfield 150, 3) := by decide +kernel
theorem dX7_crossed_66 : decode cX7_crossed 66 = .ok (.idiv, 1) := by decide +kernel
theorem dX7_crossed_67 : decode cX7_crossed 67 = .ok (.istore 6, 2) := by decide +kernel
theorem dX7_crossed_69 : decode cX7_crossed 69 = .ok (.iload 5, 2) := by decide +kernel
theorem dX7_crossed_71 : decode cX7_crossed 71 = .ok (.aload_n 0, 1) := by decide +kernel
theorem dX7_crossed_72 : decode cX7_crossed 72 = .ok (.getfield 150, 3) := by decide +kernel
theorem dX7_crossed_75 : decode cX7_crossed 75 = .ok (.irem, 1) := by decide +kernel
theorem dX7_crossed_76 : decode cX7_crossed 76 = .ok (.istore 7, 2) := by decide +kernel
theorem dX7_crossed_78 : decode cX7_crossed 78 = .ok (.iload 6, 2) := by decide +kernel
theorem dX7_crossed_80 : decode cX7_crossed 80 = .ok (.iload 7, 2) := by decide +kernel
theorem dX7_crossed_82 : decode cX7_crossed 82 = .ok (.if_icmp .ge 20, 3) := by decide +kernel
theorem dX7_crossed_85 : decode cX7_crossed 85 = .ok (.aload_n 0, 1) := by decide +kernel
theorem dX7_crossed_86 : decode cX7_crossed 86 = .ok (.iload 6, 2) := by decide +kernel
theorem dX7_crossed_88 : decode cX7_crossed 88 = .ok (.iload 7, 2) := by decide +kernel
theorem dX7_crossed_90 : decode cX7_crossed 90 = .ok (.iload_n 2, 1) := by decide +kernel
theorem dX7_crossed_91 : decode cX7_crossed 91 = .ok (.invokevirtual 230, 3) := by decide +kernel
theorem dX7_crossed_94 : decode cX7_crossed 94 = .ok (.iload_n 1, 1) := by decide +kernel
theorem dX7_crossed_95 : decode cX7_crossed 95 = .ok (.if_icmp .ne 7, 3) := by decide +kernel
theorem dX7_crossed_98 : decode cX7_crossed 98 = .ok (.iconst 1, 1) := by decide +kernel
theorem dX7_crossed_99 : decode cX7_crossed 99 = .ok (.goto 4, 3) := by decide +kernel
theorem dX7_crossed_102 : decode cX7_crossed 102 = .ok (.iconst 0, 1) := by decide +kernel
theorem dX7_crossed_103 : decode cX7_crossed 103 = .ok (.istore 8, 2) := by decide +kernel
theorem dX7_crossed_105 : decode cX7_crossed 105 = .ok (.iload_n 3, 1) := by decide +kernel
theorem dX7_crossed_106 : decode cX7_crossed 106 = .ok (.iload 8, 2) := by decide +kernel
theorem dX7_crossed_108 : decode cX7_crossed 108 = .ok (.ifCond .eq 7, 3) := by decide +kernel
theorem dX7_crossed_111 : decode cX7_crossed 111 = .ok (.iconst 1, 1) := by decide +kernel
theorem dX7_crossed_112 : decode cX7_crossed 112 = .ok (.goto 4, 3) := by decide +kernel
theorem dX7_crossed_115 : decode cX7_crossed 115 = .ok (.iconst 0, 1) := by decide +kernel
theorem dX7_crossed_116 : decode cX7_crossed 116 = .ok (.iadd, 1) := by decide +kernel
theorem dX7_crossed_117 : decode cX7_crossed 117 = .ok (.istore_n 3, 1) := by decide +kernel
theorem dX7_crossed_118 : decode cX7_crossed 118 = .ok (.iload 8, 2) := by decide +kernel
theorem dX7_crossed_120 : decode cX7_crossed 120 = .ok (.ifCond .eq 14, 3) := by decide +kernel
theorem dX7_crossed_123 : decode cX7_crossed 123 = .ok (.bipush 10, 2) := by decide +kernel
theorem dX7_crossed_125 : decode cX7_crossed 125 = .ok (.iload 6, 2) := by decide +kernel
theorem dX7_crossed_127 : decode cX7_crossed 127 = .ok (.imul, 1) := by decide +kernel
theorem dX7_crossed_128 : decode cX7_crossed 128 = .ok (.iload 7, 2) := by decide +kernel
theorem dX7_crossed_130 : decode cX7_crossed 130 = .ok (.iadd, 1) := by decide +kernel
theorem dX7_crossed_131 : decode cX7_crossed 131 = .ok (.goto 5, 3) := by decide +kernel
theorem dX7_crossed_134 : decode cX7_crossed 134 = .ok (.iload 4, 2) := by decide +kernel
theorem dX7_crossed_136 : decode cX7_crossed 136 = .ok (.istore 4, 2) := by decide +kernel
theorem dX7_crossed_138 : decode cX7_crossed 138 = .ok (.iinc 5 (-1), 3) := by decide +kernel
theorem dX7_crossed_141 : decode cX7_crossed 141 = .ok (.goto (-86), 3) := by decide +kernel
theorem dX7_crossed_144 : decode cX7_crossed 144 = .ok (.aload_n 0, 1) := by decide +kernel
theorem dX7_crossed_145 : decode cX7_crossed 145 = .ok (.iload_n 3, 1) := by decide +kernel
theorem dX7_crossed_146 : decode cX7_crossed 146 = .ok (.ifCond .ne 10, 3) := by decide +kernel
theorem dX7_crossed_149 : decode cX7_crossed 149 = .ok (.aload_n 0, 1) := by decide +kernel
theorem dX7_crossed_150 : decode cX7_crossed 150 = .ok (.getfield 72, 3) := by decide +kernel
theorem dX7_crossed_153 : decode cX7_crossed 153 = .ok (.goto 5, 3) := by decide +kernel
theorem dX7_crossed_156 : decode cX7_crossed 156 = .ok (.iload 4, 2) := by decide +kernel
theorem dX7_crossed_158 : decode cX7_crossed 158 = .ok (.putfield 72, 3) := by decide +kernel
theorem dX7_crossed_161 : decode cX7_crossed 161 = .ok (.iload_n 3, 1) := by decide +kernel
theorem dX7_crossed_162 : decode cX7_crossed 162 = .ok (.ifCond .ne 8, 3) := by decide +kernel
theorem dX7_crossed_165 : decode cX7_crossed 165 = .ok (.bipush (-9), 2) := by decide +kernel
theorem dX7_crossed_167 : decode cX7_crossed 167 = .ok (.goto 4, 3) := by decide +kernel
theorem dX7_crossed_170 : decode cX7_crossed 170 = .ok (.iload_n 3, 1) := by decide +kernel
theorem dX7_crossed_171 : decode cX7_crossed 171 = .ok (.ireturn, 1) := by decide +kernel
theorem dX7_mergedBy_0 : decode cX7_mergedBy 0 = .ok (.iconst 0, 1) := by decide +kernel
theorem dX7_mergedBy_1 : decode cX7_mergedBy 1 = .ok (.istore_n 2, 1) := by decide +kernel
theorem dX7_mergedBy_2 : decode cX7_mergedBy 2 = .ok (.iconst 0, 1) := by decide +kernel
theorem dX7_mergedBy_3 : decode cX7_mergedBy 3 = .ok (.istore_n 3, 1) := by decide +kernel
theorem dX7_mergedBy_4 : decode cX7_mergedBy 4 = .ok (.iconst 1, 1) := by decide +kernel
theorem dX7_mergedBy_5 : decode cX7_mergedBy 5 = .ok (.istore 4, 2) := by decide +kernel
theorem dX7_mergedBy_7 : decode cX7_mergedBy 7 = .ok (.iconst 0, 1) := by decide +kernel
theorem dX7_mergedBy_8 : decode cX7_mergedBy 8 = .ok (.istore 5, 2) := by decide +kernel
theorem dX7_mergedBy_10 : decode cX7_mergedBy 10 = .ok (.iload 5, 2) := by decide +kernel
theorem dX7_mergedBy_12 : decode cX7_mergedBy 12 = .ok (.aload_n 0, 1) := by decide +kernel
theorem dX7_mergedBy_13 : decode cX7_mergedBy 13 = .ok (.getfield 150, 3) := by decide +kernel
theorem dX7_mergedBy_16 : decode cX7_mergedBy 16 = .ok (.if_icmp .ge 94, 3) := by decide +kernel
theorem dX7_mergedBy_19 : decode cX7_mergedBy 19 = .ok (.aload_n 0, 1) := by decide +kernel
theorem dX7_mergedBy_20 : decode cX7_mergedBy 20 = .ok (.getfield 50, 3) := by decide +kernel
theorem dX7_mergedBy_23 : decode cX7_mergedBy 23 = .ok (.iload 5, 2) := by decide +kernel
theorem dX7_mergedBy_25 : decode cX7_mergedBy 25 = .ok (.iaload, 1) := by decide +kernel
theorem dX7_mergedBy_26 : decode cX7_mergedBy 26 = .ok (.iconst 1, 1) := by decide +kernel
theorem dX7_mergedBy_27 : decode cX7_mergedBy 27 = .ok (.isub, 1) := by decide +kernel
theorem dX7_mergedBy_28 : decode cX7_mergedBy 28 = .ok (.istore 6, 2) := by decide +kernel
theorem dX7_mergedBy_30 : decode cX7_mergedBy 30 = .ok (.iload_n 3, 1) := by decide +kernel
theorem dX7_mergedBy_31 : decode cX7_mergedBy 31 = .ok (.iload 6, 2) := by decide +kernel
theorem dX7_mergedBy_33 : decode cX7_mergedBy 33 = .ok (.ifCond .ge 7, 3) := by decide +kernel
theorem dX7_mergedBy_36 : decode cX7_mergedBy 36 = .ok (.iconst 1, 1) := by decide +kernel
theorem dX7_mergedBy_37 : decode cX7_mergedBy 37 = .ok (.goto 4, 3) := by decide +kernel
theorem dX7_mergedBy_40 : decode cX7_mergedBy 40 = .ok (.iconst 0, 1) := by decide +kernel
theorem dX7_mergedBy_41 : decode cX7_mergedBy 41 = .ok (.iadd, 1) := by decide +kernel
theorem dX7_mergedBy_42 : decode cX7_mergedBy 42 = .ok (.istore_n 3, 1) := by decide +kernel
theorem dX7_mergedBy_43 : decode cX7_mergedBy 43 = .ok (.iload 4, 2) := by decide +kernel
theorem dX7_mergedBy_45 : decode cX7_mergedBy 45 = .ok (.ifCond .eq 33, 3) := by decide +kernel
theorem dX7_mergedBy_48 : decode cX7_mergedBy 48 = .ok (.iload 6, 2) := by decide +kernel
theorem dX7_mergedBy_50 : decode cX7_mergedBy 50 = .ok (.ifCond .lt 24, 3) := by decide +kernel
theorem dX7_mergedBy_53 : decode cX7_mergedBy 53 = .ok (.iload 6, 2) := by decide +kernel
theorem dX7_mergedBy_55 : decode cX7_mergedBy 55 = .ok (.iload 5, 2) := by decide +kernel
theorem dX7_mergedBy_57 : decode cX7_mergedBy 57 = .ok (.if_icmp .eq 21, 3) := by decide +kernel
theorem dX7_mergedBy_60 : decode cX7_mergedBy 60 = .ok (.aload_n 0, 1) := by decide +kernel
theorem dX7_mergedBy_61 : decode cX7_mergedBy 61 = .ok (.getfield 50, 3) := by decide +kernel
theorem dX7_mergedBy_64 : decode cX7_mergedBy 64 = .ok (.iload 6, 2) := by decide +kernel
theorem dX7_mergedBy_66 : decode cX7_mergedBy 66 = .ok (.iaload, 1) := by decide +kernel
theorem dX7_mergedBy_67 : decode cX7_mergedBy 67 = .ok (.iload 5, 2) := by decide +kernel
theorem dX7_mergedBy_69 : decode cX7_mergedBy 69 = .ok (.iconst 1, 1) := by decide +kernel
theorem dX7_mergedBy_70 : decode cX7_mergedBy 70 = .ok (.iadd, 1) := by decide +kernel
theorem dX7_mergedBy_71 : decode cX7_mergedBy 71 = .ok (.if_icmp .ne 7, 3) := by decide +kernel
theorem dX7_mergedBy_74 : decode cX7_mergedBy 74 = .ok (.iconst 1, 1) := by decide +kernel
theorem dX7_mergedBy_75 : decode cX7_mergedBy 75 = .ok (.goto 4, 3) := by decide +kernel
theorem dX7_mergedBy_78 : decode cX7_mergedBy 78 = .ok (.iconst 0, 1) := by decide +kernel
theorem dX7_mergedBy_79 : decode cX7_mergedBy 79 = .ok (.istore 4, 2) := by decide +kernel
theorem dX7_mergedBy_81 : decode cX7_mergedBy 81 = .ok (.iload_n 2, 1) := by decide +kernel
theorem dX7_mergedBy_82 : decode cX7_mergedBy 82 = .ok (.iload 6, 2) := by decide +kernel
theorem dX7_mergedBy_84 : decode cX7_mergedBy 84 = .ok (.iload 5, 2) := by decide +kernel
theorem dX7_mergedBy_86 : decode cX7_mergedBy 86 = .ok (.if_icmp .le 15, 3) := by decide +kernel
theorem dX7_mergedBy_89 : decode cX7_mergedBy 89 = .ok (.aload_n 0, 1) := by decide +kernel
theorem dX7_mergedBy_90 : decode cX7_mergedBy 90 = .ok (.iload 5, 2) := by decide +kernel
theorem dX7_mergedBy_92 : decode cX7_mergedBy 92 = .ok (.iload 6, 2) := by decide +kernel
theorem dX7_mergedBy_94 : decode cX7_mergedBy 94 = .ok (.iload_n 1, 1) := by decide +kernel
theorem dX7_mergedBy_95 : decode cX7_mergedBy 95 = .ok (.invokevirtual 230, 3) := by decide +kernel
theorem dX7_mergedBy_98 : decode cX7_mergedBy 98 = .ok (.goto 4, 3) := by decide +kernel
theorem dX7_mergedBy_101 : decode cX7_mergedBy 101 = .ok (.iconst 0, 1) := by decide +kernel
theorem dX7_mergedBy_102 : decode cX7_mergedBy 102 = .ok (.iadd, 1) := by decide +kernel
theorem dX7_mergedBy_103 : decode cX7_mergedBy 103 = .ok (.istore_n 2, 1) := by decide +kernel
theorem dX7_mergedBy_104 : decode cX7_mergedBy 104 = .ok (.iinc 5 1, 3) := by decide +kernel
theorem dX7_mergedBy_107 : decode cX7_mergedBy 107 = .ok (.goto (-97), 3) := by decide +kernel
theorem dX7_mergedBy_110 : decode cX7_mergedBy 110 = .ok (.iload 4, 2) := by decide +kernel
theorem dX7_mergedBy_112 : decode cX7_mergedBy 112 = .ok (.ifCond .eq 17, 3) := by decide +kernel
theorem dX7_mergedBy_115 : decode cX7_mergedBy 115 = .ok (.iload_n 3, 1) := by decide +kernel
theorem dX7_mergedBy_116 : decode cX7_mergedBy 116 = .ok (.aload_n 0, 1) := by decide +kernel
theorem dX7_mergedBy_117 : decode cX7_mergedBy 117 = .ok (.getfield 150, 3) := by decide +kernel
theorem dX7_mergedBy_120 : decode cX7_mergedBy 120 = .ok (.iconst 2, 1) := by decide +kernel
theorem dX7_mergedBy_121 : decode cX7_mergedBy 121 = .ok (.irem, 1) := by decide +kernel
theorem dX7_mergedBy_122 : decode cX7_mergedBy 122 = .ok (.if_icmp .ne 7, 3) := by decide +kernel
theorem dX7_mergedBy_125 : decode cX7_mergedBy 125 = .ok (.iload_n 2, 1) := by decide +kernel
theorem dX7_mergedBy_126 : decode cX7_mergedBy 126 = .ok (.goto 4, 3) := by decide +kernel
theorem dX7_mergedBy_129 : decode cX7_mergedBy 129 = .ok (.iconst (-1), 1) := by decide +kernel
theorem dX7_mergedBy_130 : decode cX7_mergedBy 130 = .ok (.ireturn, 1) := by decide +kernel
theorem dX7_merge_0 : decode cX7_merge 0 = .ok (.iload_n 1, 1) := by decide +kernel
theorem dX7_merge_1 : decode cX7_merge 1 = .ok (.i2l, 1) := by decide +kernel
theorem dX7_merge_2 : decode cX7_merge 2 = .ok (.lconst 0, 1) := by decide +kernel
theorem dX7_merge_3 : decode cX7_merge 3 = .ok (.ldc2_w 194, 3) := by decide +kernel
theorem dX7_merge_6 : decode cX7_merge 6 = .ok (.invokestatic 77, 3) := by decide +kernel
theorem dX7_merge_9 : decode cX7_merge 9 = .ok (.ifCond .eq 10, 3) := by decide +kernel
theorem dX7_merge_12 : decode cX7_merge 12 = .ok (.iload_n 2, 1) := by decide +kernel
theorem dX7_merge_13 : decode cX7_merge 13 = .ok (.invokestatic 83, 3) := by decide +kernel
theorem dX7_merge_16 : decode cX7_merge 16 = .ok (.ifCond .ne 5, 3) := by decide +kernel
theorem dX7_merge_19 : decode cX7_merge 19 = .ok (.iconst (-1), 1) := by decide +kernel
theorem dX7_merge_20 : decode cX7_merge 20 = .ok (.ireturn, 1) := by decide +kernel
theorem dX7_merge_21 : decode cX7_merge 21 = .ok (.aload_n 0, 1) := by decide +kernel
theorem dX7_merge_22 : decode cX7_merge 22 = .ok (.getfield 150, 3) := by decide +kernel
theorem dX7_merge_25 : decode cX7_merge 25 = .ok (.ifCond .ne 6, 3) := by decide +kernel
theorem dX7_merge_28 : decode cX7_merge 28 = .ok (.bipush (-4), 2) := by decide +kernel
theorem dX7_merge_30 : decode cX7_merge 30 = .ok (.ireturn, 1) := by decide +kernel
theorem dX7_merge_31 : decode cX7_merge 31 = .ok (.iconst 0, 1) := by decide +kernel
theorem dX7_merge_32 : decode cX7_merge 32 = .ok (.istore_n 3, 1) := by decide +kernel
theorem dX7_merge_33 : decode cX7_merge 33 = .ok (.iload_n 3, 1) := by decide +kernel
theorem dX7_merge_34 : decode cX7_merge 34 = .ok (.bipush 6, 2) := by decide +kernel
theorem dX7_merge_36 : decode cX7_merge 36 = .ok (.if_icmp .ge 16, 3) := by decide +kernel
theorem dX7_merge_39 : decode cX7_merge 39 = .ok (.aload_n 0, 1) := by decide +kernel
theorem dX7_merge_40 : decode cX7_merge 40 = .ok (.getfield 50, 3) := by decide +kernel
theorem dX7_merge_43 : decode cX7_merge 43 = .ok (.iload_n 3, 1) := by decide +kernel
theorem dX7_merge_44 : decode cX7_merge 44 = .ok (.iconst 0, 1) := by decide +kernel
theorem dX7_merge_45 : decode cX7_merge 45 = .ok (.iastore, 1) := by decide +kernel
theorem dX7_merge_46 : decode cX7_merge 46 = .ok (.iinc 3 1, 3) := by decide +kernel
theorem dX7_merge_49 : decode cX7_merge 49 = .ok (.goto (-16), 3) := by decide +kernel
theorem dX7_merge_52 : decode cX7_merge 52 = .ok (.iconst (-1), 1) := by decide +kernel
theorem dX7_merge_53 : decode cX7_merge 53 = .ok (.istore_n 3, 1) := by decide +kernel
theorem dX7_merge_54 : decode cX7_merge 54 = .ok (.iconst 1, 1) := by decide +kernel
theorem dX7_merge_55 : decode cX7_merge 55 = .ok (.istore 4, 2) := by decide +kernel
theorem dX7_merge_57 : decode cX7_merge 57 = .ok (.iload 4, 2) := by decide +kernel
theorem dX7_merge_59 : decode cX7_merge 59 = .ok (.ifCond .eq 64, 3) := by decide +kernel
theorem dX7_merge_62 : decode cX7_merge 62 = .ok (.aload_n 0, 1) := by decide +kernel
theorem dX7_merge_63 : decode cX7_merge 63 = .ok (.iload_n 1, 1) := by decide +kernel
theorem dX7_merge_64 : decode cX7_merge 64 = .ok (.invokevirtual 235, 3) := by decide +kernel
theorem dX7_merge_67 : decode cX7_merge 67 = .ok (.istore 5, 2) := by decide +kernel
theorem dX7_merge_69 : decode cX7_merge 69 = .ok (.iload 5, 2) := by decide +kernel
theorem dX7_merge_71 : decode cX7_merge 71 = .ok (.iload_n 3, 1) := by decide +kernel
theorem dX7_merge_72 : decode cX7_merge 72 = .ok (.if_icmp .le 38, 3) := by decide +kernel
theorem dX7_merge_75 : decode cX7_merge 75 = .ok (.iload 5, 2) := by decide +kernel
theorem dX7_merge_77 : decode cX7_merge 77 = .ok (.istore_n 3, 1) := by decide +kernel
theorem dX7_merge_78 : decode cX7_merge 78 = .ok (.iconst 0, 1) := by decide +kernel
theorem dX7_merge_79 : decode cX7_merge 79 = .ok (.istore 6, 2) := by decide +kernel
theorem dX7_merge_81 : decode cX7_merge 81 = .ok (.iload 6, 2) := by decide +kernel
theorem dX7_merge_83 : decode cX7_merge 83 = .ok (.aload_n 0, 1) := by decide +kernel
theorem dX7_merge_84 : decode cX7_merge 84 = .ok (.getfield 150, 3) := by decide +kernel
theorem dX7_merge_87 : decode cX7_merge 87 = .ok (.if_icmp .ge 23, 3) := by decide +kernel
theorem dX7_merge_90 : decode cX7_merge 90 = .ok (.aload_n 0, 1) := by decide +kernel
theorem dX7_merge_91 : decode cX7_merge 91 = .ok (.getfield 53, 3) := by decide +kernel
theorem dX7_merge_94 : decode cX7_merge 94 = .ok (.iload 6, 2) := by decide +kernel
theorem dX7_merge_96 : decode cX7_merge 96 = .ok (.aload_n 0, 1) := by decide +kernel
theorem dX7_merge_97 : decode cX7_merge 97 = .ok (.getfield 50, 3) := by decide +kernel
theorem dX7_merge_100 : decode cX7_merge 100 = .ok (.iload 6, 2) := by decide +kernel
theorem dX7_merge_102 : decode cX7_merge 102 = .ok (.iaload, 1) := by decide +kernel
theorem dX7_merge_103 : decode cX7_merge 103 = .ok (.iastore, 1) := by decide +kernel
theorem dX7_merge_104 : decode cX7_merge 104 = .ok (.iinc 6 1, 3) := by decide +kernel
theorem dX7_merge_107 : decode cX7_merge 107 = .ok (.goto (-26), 3) := by decide +kernel
theorem dX7_merge_110 : decode cX7_merge 110 = .ok (.aload_n 0, 1) := by decide +kernel
theorem dX7_merge_111 : decode cX7_merge 111 = .ok (.aload_n 0, 1) := by decide +kernel
theorem dX7_merge_112 : decode cX7_merge 112 = .ok (.getfield 150, 3) := by decide +kernel
theorem dX7_merge_115 : decode cX7_merge 115 = .ok (.invokevirtual 215, 3) := by decide +kernel
theorem dX7_merge_118 : decode cX7_merge 118 = .ok (.istore 4, 2) := by decide +kernel
theorem dX7_merge_120 : decode cX7_merge 120 = .ok (.goto (-63), 3) := by decide +kernel
theorem dX7_merge_123 : decode cX7_merge 123 = .ok (.aload_n 0, 1) := by decide +kernel
theorem dX7_merge_124 : decode cX7_merge 124 = .ok (.aload_n 0, 1) := by decide +kernel
theorem dX7_merge_125 : decode cX7_merge 125 = .ok (.getfield 150, 3) := by decide +kernel
theorem dX7_merge_128 : decode cX7_merge 128 = .ok (.iload_n 2, 1) := by decide +kernel
theorem dX7_merge_129 : decode cX7_merge 129 = .ok (.invokevirtual 221, 3) := by decide +kernel
theorem dX7_merge_132 : decode cX7_merge 132 = .ok (.iload_n 3, 1) := by decide +kernel
theorem dX7_merge_133 : decode cX7_merge 133 = .ok (.ireturn, 1) := by decide +kernel
theorem dX7_noPairs_0 : decode cX7_noPairs 0 = .ok (.aload_n 0, 1) := by decide +kernel
theorem dX7_noPairs_1 : decode cX7_noPairs 1 = .ok (.getfield 25, 3) := by decide +kernel
theorem dX7_noPairs_4 : decode cX7_noPairs 4 = .ok (.iload_n 1, 1) := by decide +kernel
theorem dX7_noPairs_5 : decode cX7_noPairs 5 = .ok (.iaload, 1) := by decide +kernel
theorem dX7_noPairs_6 : decode cX7_noPairs 6 = .ok (.ifCond .ge 9, 3) := by decide +kernel
theorem dX7_noPairs_9 : decode cX7_noPairs 9 = .ok (.aload_n 0, 1) := by decide +kernel
theorem dX7_noPairs_10 : decode cX7_noPairs 10 = .ok (.iconst 1, 1) := by decide +kernel
theorem dX7_noPairs_11 : decode cX7_noPairs 11 = .ok (.invokevirtual 87, 3) := by decide +kernel
theorem dX7_noPairs_14 : decode cX7_noPairs 14 = .ok (.ireturn, 1) := by decide +kernel
theorem dX7_noPairs_15 : decode cX7_noPairs 15 = .ok (.aload_n 0, 1) := by decide +kernel
theorem dX7_noPairs_16 : decode cX7_noPairs 16 = .ok (.getfield 25, 3) := by decide +kernel
theorem dX7_noPairs_19 : decode cX7_noPairs 19 = .ok (.iload_n 1, 1) := by decide +kernel
theorem dX7_noPairs_20 : decode cX7_noPairs 20 = .ok (.iaload, 1) := by decide +kernel
theorem dX7_noPairs_21 : decode cX7_noPairs 21 = .ok (.iconst 2, 1) := by decide +kernel
theorem dX7_noPairs_22 : decode cX7_noPairs 22 = .ok (.irem, 1) := by decide +kernel
theorem dX7_noPairs_23 : decode cX7_noPairs 23 = .ok (.iconst 1, 1) := by decide +kernel
theorem dX7_noPairs_24 : decode cX7_noPairs 24 = .ok (.if_icmp .ne 9, 3) := by decide +kernel
theorem dX7_noPairs_27 : decode cX7_noPairs 27 = .ok (.aload_n 0, 1) := by decide +kernel
theorem dX7_noPairs_28 : decode cX7_noPairs 28 = .ok (.iconst 5, 1) := by decide +kernel
theorem dX7_noPairs_29 : decode cX7_noPairs 29 = .ok (.invokevirtual 87, 3) := by decide +kernel
theorem dX7_noPairs_32 : decode cX7_noPairs 32 = .ok (.ireturn, 1) := by decide +kernel
theorem dX7_noPairs_33 : decode cX7_noPairs 33 = .ok (.iconst 1, 1) := by decide +kernel
theorem dX7_noPairs_34 : decode cX7_noPairs 34 = .ok (.istore_n 2, 1) := by decide +kernel
theorem dX7_noPairs_35 : decode cX7_noPairs 35 = .ok (.iconst 0, 1) := by decide +kernel
theorem dX7_noPairs_36 : decode cX7_noPairs 36 = .ok (.istore_n 3, 1) := by decide +kernel
theorem dX7_noPairs_37 : decode cX7_noPairs 37 = .ok (.iload_n 3, 1) := by decide +kernel
theorem dX7_noPairs_38 : decode cX7_noPairs 38 = .ok (.aload_n 0, 1) := by decide +kernel
theorem dX7_noPairs_39 : decode cX7_noPairs 39 = .ok (.getfield 25, 3) := by decide +kernel
theorem dX7_noPairs_42 : decode cX7_noPairs 42 = .ok (.iload_n 1, 1) := by decide +kernel
theorem dX7_noPairs_43 : decode cX7_noPairs 43 = .ok (.iaload, 1) := by decide +kernel
theorem dX7_noPairs_44 : decode cX7_noPairs 44 = .ok (.if_icmp .ge 53, 3) := by decide +kernel
theorem dX7_noPairs_47 : decode cX7_noPairs 47 = .ok (.iload_n 2, 1) := by decide +kernel
theorem dX7_noPairs_48 : decode cX7_noPairs 48 = .ok (.ifCond .eq 41, 3) := by decide +kernel
theorem dX7_noPairs_51 : decode cX7_noPairs 51 = .ok (.aload_n 0, 1) := by decide +kernel
theorem dX7_noPairs_52 : decode cX7_noPairs 52 = .ok (.getfield 28, 3) := by decide +kernel
theorem dX7_noPairs_55 : decode cX7_noPairs 55 = .ok (.bipush 40, 2) := by decide +kernel
theorem dX7_noPairs_57 : decode cX7_noPairs 57 = .ok (.iload_n 1, 1) := by decide +kernel
theorem dX7_noPairs_58 : decode cX7_noPairs 58 = .ok (.imul, 1) := by decide +kernel
theorem dX7_noPairs_59 : decode cX7_noPairs 59 = .ok (.iload_n 3, 1) := by decide +kernel
theorem dX7_noPairs_60 : decode cX7_noPairs 60 = .ok (.iadd, 1) := by decide +kernel
theorem dX7_noPairs_61 : decode cX7_noPairs 61 = .ok (.iaload, 1) := by decide +kernel
theorem dX7_noPairs_62 : decode cX7_noPairs 62 = .ok (.i2l, 1) := by decide +kernel
theorem dX7_noPairs_63 : decode cX7_noPairs 63 = .ok (.lconst 0, 1) := by decide +kernel
theorem dX7_noPairs_64 : decode cX7_noPairs 64 = .ok (.iload_n 3, 1) := by decide +kernel
theorem dX7_noPairs_65 : decode cX7_noPairs 65 = .ok (.iconst 2, 1) := by decide +kernel
theorem dX7_noPairs_66 : decode cX7_noPairs 66 = .ok (.irem, 1) := by decide +kernel
theorem dX7_noPairs_67 : decode cX7_noPairs 67 = .ok (.ifCond .ne 9, 3) := by decide +kernel
theorem dX7_noPairs_70 : decode cX7_noPairs 70 = .ok (.ldc2_w 194, 3) := by decide +kernel
theorem dX7_noPairs_73 : decode cX7_noPairs 73 = .ok (.goto 6, 3) := by decide +kernel
theorem dX7_noPairs_76 : decode cX7_noPairs 76 = .ok (.ldc2_w 238, 3) := by decide +kernel
theorem dX7_noPairs_79 : decode cX7_noPairs 79 = .ok (.invokestatic 77, 3) := by decide +kernel
theorem dX7_noPairs_82 : decode cX7_noPairs 82 = .ok (.ifCond .eq 7, 3) := by decide +kernel
theorem dX7_noPairs_85 : decode cX7_noPairs 85 = .ok (.iconst 1, 1) := by decide +kernel
theorem dX7_noPairs_86 : decode cX7_noPairs 86 = .ok (.goto 4, 3) := by decide +kernel
theorem dX7_noPairs_89 : decode cX7_noPairs 89 = .ok (.iconst 0, 1) := by decide +kernel
theorem dX7_noPairs_90 : decode cX7_noPairs 90 = .ok (.istore_n 2, 1) := by decide +kernel
theorem dX7_noPairs_91 : decode cX7_noPairs 91 = .ok (.iinc 3 1, 3) := by decide +kernel
theorem dX7_noPairs_94 : decode cX7_noPairs 94 = .ok (.goto (-57), 3) := by decide +kernel
theorem dX7_noPairs_97 : decode cX7_noPairs 97 = .ok (.iload_n 2, 1) := by decide +kernel
theorem dX7_noPairs_98 : decode cX7_noPairs 98 = .ok (.ifCond .eq 7, 3) := by decide +kernel
theorem dX7_noPairs_101 : decode cX7_noPairs 101 = .ok (.iconst 0, 1) := by decide +kernel
theorem dX7_noPairs_102 : decode cX7_noPairs 102 = .ok (.goto 8, 3) := by decide +kernel
theorem dX7_noPairs_105 : decode cX7_noPairs 105 = .ok (.aload_n 0, 1) := by decide +kernel
theorem dX7_noPairs_106 : decode cX7_noPairs 106 = .ok (.iconst 3, 1) := by decide +kernel
theorem dX7_noPairs_107 : decode cX7_noPairs 107 = .ok (.invokevirtual 87, 3) := by decide +kernel
theorem dX7_noPairs_110 : decode cX7_noPairs 110 = .ok (.ireturn, 1) := by decide +kernel
theorem dX7_isSo_0 : decode cX7_isSo 0 = .ok (.iconst 1, 1) := by decide +kernel
theorem dX7_isSo_1 : decode cX7_isSo 1 = .ok (.istore 5, 2) := by decide +kernel
theorem dX7_isSo_3 : decode cX7_isSo 3 = .ok (.iconst 0, 1) := by decide +kernel
theorem dX7_isSo_4 : decode cX7_isSo 4 = .ok (.istore 6, 2) := by decide +kernel
theorem dX7_isSo_6 : decode cX7_isSo 6 = .ok (.iload 6, 2) := by decide +kernel
theorem dX7_isSo_8 : decode cX7_isSo 8 = .ok (.aload_n 0, 1) := by decide +kernel
theorem dX7_isSo_9 : decode cX7_isSo 9 = .ok (.getfield 25, 3) := by decide +kernel
theorem dX7_isSo_12 : decode cX7_isSo 12 = .ok (.iload 4, 2) := by decide +kernel
theorem dX7_isSo_14 : decode cX7_isSo 14 = .ok (.iaload, 1) := by decide +kernel
theorem dX7_isSo_15 : decode cX7_isSo 15 = .ok (.if_icmp .ge 58, 3) := by decide +kernel
theorem dX7_isSo_18 : decode cX7_isSo 18 = .ok (.iload 5, 2) := by decide +kernel
theorem dX7_isSo_20 : decode cX7_isSo 20 = .ok (.ifCond .eq 44, 3) := by decide +kernel
theorem dX7_isSo_23 : decode cX7_isSo 23 = .ok (.iload_n 1, 1) := by decide +kernel
theorem dX7_isSo_24 : decode cX7_isSo 24 = .ok (.iload_n 2, 1) := by decide +kernel
theorem dX7_isSo_25 : decode cX7_isSo 25 = .ok (.iload_n 3, 1) := by decide +kernel
theorem dX7_isSo_26 : decode cX7_isSo 26 = .ok (.aload_n 0, 1) := by decide +kernel
theorem dX7_isSo_27 : decode cX7_isSo 27 = .ok (.getfield 28, 3) := by decide +kernel
theorem dX7_isSo_30 : decode cX7_isSo 30 = .ok (.bipush 40, 2) := by decide +kernel
theorem dX7_isSo_32 : decode cX7_isSo 32 = .ok (.iload 4, 2) := by decide +kernel
theorem dX7_isSo_34 : decode cX7_isSo 34 = .ok (.imul, 1) := by decide +kernel
theorem dX7_isSo_35 : decode cX7_isSo 35 = .ok (.iload 6, 2) := by decide +kernel
theorem dX7_isSo_37 : decode cX7_isSo 37 = .ok (.iadd, 1) := by decide +kernel
theorem dX7_isSo_38 : decode cX7_isSo 38 = .ok (.iaload, 1) := by decide +kernel
theorem dX7_isSo_39 : decode cX7_isSo 39 = .ok (.invokestatic 153, 3) := by decide +kernel
theorem dX7_isSo_42 : decode cX7_isSo 42 = .ok (.aload_n 0, 1) := by decide +kernel
theorem dX7_isSo_43 : decode cX7_isSo 43 = .ok (.getfield 28, 3) := by decide +kernel
theorem dX7_isSo_46 : decode cX7_isSo 46 = .ok (.bipush 40, 2) := by decide +kernel
theorem dX7_isSo_48 : decode cX7_isSo 48 = .ok (.iload 4, 2) := by decide +kernel
theorem dX7_isSo_50 : decode cX7_isSo 50 = .ok (.imul, 1) := by decide +kernel
theorem dX7_isSo_51 : decode cX7_isSo 51 = .ok (.iload 6, 2) := by decide +kernel
theorem dX7_isSo_53 : decode cX7_isSo 53 = .ok (.iadd, 1) := by decide +kernel
theorem dX7_isSo_54 : decode cX7_isSo 54 = .ok (.iconst 1, 1) := by decide +kernel
theorem dX7_isSo_55 : decode cX7_isSo 55 = .ok (.iadd, 1) := by decide +kernel
theorem dX7_isSo_56 : decode cX7_isSo 56 = .ok (.iaload, 1) := by decide +kernel
theorem dX7_isSo_57 : decode cX7_isSo 57 = .ok (.if_icmp .ne 7, 3) := by decide +kernel
theorem dX7_isSo_60 : decode cX7_isSo 60 = .ok (.iconst 1, 1) := by decide +kernel
theorem dX7_isSo_61 : decode cX7_isSo 61 = .ok (.goto 4, 3) := by decide +kernel
theorem dX7_isSo_64 : decode cX7_isSo 64 = .ok (.iconst 0, 1) := by decide +kernel
theorem dX7_isSo_65 : decode cX7_isSo 65 = .ok (.istore 5, 2) := by decide +kernel
theorem dX7_isSo_67 : decode cX7_isSo 67 = .ok (.iinc 6 2, 3) := by decide +kernel
theorem dX7_isSo_70 : decode cX7_isSo 70 = .ok (.goto (-64), 3) := by decide +kernel
theorem dX7_isSo_73 : decode cX7_isSo 73 = .ok (.iload 5, 2) := by decide +kernel
theorem dX7_isSo_75 : decode cX7_isSo 75 = .ok (.ireturn, 1) := by decide +kernel
theorem dX7_tails_0 : decode cX7_tails 0 = .ok (.aload_n 0, 1) := by decide +kernel
theorem dX7_tails_1 : decode cX7_tails 1 = .ok (.iload_n 1, 1) := by decide +kernel
theorem dX7_tails_2 : decode cX7_tails 2 = .ok (.invokevirtual 174, 3) := by decide +kernel
theorem dX7_tails_5 : decode cX7_tails 5 = .ok (.ifCond .eq 10, 3) := by decide +kernel
theorem dX7_tails_8 : decode cX7_tails 8 = .ok (.iload_n 2, 1) := by decide +kernel
theorem dX7_tails_9 : decode cX7_tails 9 = .ok (.invokestatic 83, 3) := by decide +kernel
theorem dX7_tails_12 : decode cX7_tails 12 = .ok (.ifCond .ne 5, 3) := by decide +kernel
theorem dX7_tails_15 : decode cX7_tails 15 = .ok (.iconst (-1), 1) := by decide +kernel
theorem dX7_tails_16 : decode cX7_tails 16 = .ok (.ireturn, 1) := by decide +kernel
theorem dX7_tails_17 : decode cX7_tails 17 = .ok (.aload_n 0, 1) := by decide +kernel
theorem dX7_tails_18 : decode cX7_tails 18 = .ok (.iload_n 2, 1) := by decide +kernel
theorem dX7_tails_19 : decode cX7_tails 19 = .ok (.invokevirtual 240, 3) := by decide +kernel
theorem dX7_tails_22 : decode cX7_tails 22 = .ok (.istore_n 3, 1) := by decide +kernel
theorem dX7_tails_23 : decode cX7_tails 23 = .ok (.iload_n 3, 1) := by decide +kernel
theorem dX7_tails_24 : decode cX7_tails 24 = .ok (.ifCond .eq 5, 3) := by decide +kernel
theorem dX7_tails_27 : decode cX7_tails 27 = .ok (.iload_n 3, 1) := by decide +kernel
theorem dX7_tails_28 : decode cX7_tails 28 = .ok (.ireturn, 1) := by decide +kernel
theorem dX7_tails_29 : decode cX7_tails 29 = .ok (.iconst 0, 1) := by decide +kernel
theorem dX7_tails_30 : decode cX7_tails 30 = .ok (.istore 4, 2) := by decide +kernel
theorem dX7_tails_32 : decode cX7_tails 32 = .ok (.iconst 0, 1) := by decide +kernel
theorem dX7_tails_33 : decode cX7_tails 33 = .ok (.istore 5, 2) := by decide +kernel
theorem dX7_tails_35 : decode cX7_tails 35 = .ok (.iload 5, 2) := by decide +kernel
theorem dX7_tails_37 : decode cX7_tails 37 = .ok (.iconst 4, 1) := by decide +kernel
theorem dX7_tails_38 : decode cX7_tails 38 = .ok (.if_icmp .ge 44, 3) := by decide +kernel
theorem dX7_tails_41 : decode cX7_tails 41 = .ok (.iload 4, 2) := by decide +kernel
theorem dX7_tails_43 : decode cX7_tails 43 = .ok (.aload_n 0, 1) := by decide +kernel
theorem dX7_tails_44 : decode cX7_tails 44 = .ok (.aload_n 0, 1) := by decide +kernel
theorem dX7_tails_45 : decode cX7_tails 45 = .ok (.getfield 16, 3) := by decide +kernel
theorem dX7_tails_48 : decode cX7_tails 48 = .ok (.iload_n 1, 1) := by decide +kernel
theorem dX7_tails_49 : decode cX7_tails 49 = .ok (.iaload, 1) := by decide +kernel
theorem dX7_tails_50 : decode cX7_tails 50 = .ok (.aload_n 0, 1) := by decide +kernel
theorem dX7_tails_51 : decode cX7_tails 51 = .ok (.getfield 19, 3) := by decide +kernel
theorem dX7_tails_54 : decode cX7_tails 54 = .ok (.iload_n 1, 1) := by decide +kernel
theorem dX7_tails_55 : decode cX7_tails 55 = .ok (.iaload, 1) := by decide +kernel
theorem dX7_tails_56 : decode cX7_tails 56 = .ok (.iload 5, 2) := by decide +kernel
theorem dX7_tails_58 : decode cX7_tails 58 = .ok (.iload_n 2, 1) := by decide +kernel
theorem dX7_tails_59 : decode cX7_tails 59 = .ok (.invokevirtual 243, 3) := by decide +kernel
theorem dX7_tails_62 : decode cX7_tails 62 = .ok (.ifCond .eq 10, 3) := by decide +kernel
theorem dX7_tails_65 : decode cX7_tails 65 = .ok (.iconst 1, 1) := by decide +kernel
theorem dX7_tails_66 : decode cX7_tails 66 = .ok (.iload 5, 2) := by decide +kernel
theorem dX7_tails_68 : decode cX7_tails 68 = .ok (.ishl, 1) := by decide +kernel
theorem dX7_tails_69 : decode cX7_tails 69 = .ok (.goto 4, 3) := by decide +kernel
theorem dX7_tails_72 : decode cX7_tails 72 = .ok (.iconst 0, 1) := by decide +kernel
theorem dX7_tails_73 : decode cX7_tails 73 = .ok (.ior, 1) := by decide +kernel
theorem dX7_tails_74 : decode cX7_tails 74 = .ok (.istore 4, 2) := by decide +kernel
theorem dX7_tails_76 : decode cX7_tails 76 = .ok (.iinc 5 1, 3) := by decide +kernel
theorem dX7_tails_79 : decode cX7_tails 79 = .ok (.goto (-44), 3) := by decide +kernel
theorem dX7_tails_82 : decode cX7_tails 82 = .ok (.iload 4, 2) := by decide +kernel
theorem dX7_tails_84 : decode cX7_tails 84 = .ok (.ireturn, 1) := by decide +kernel
theorem dX7_kindsBy_0 : decode cX7_kindsBy 0 = .ok (.iconst 0, 1) := by decide +kernel
theorem dX7_kindsBy_1 : decode cX7_kindsBy 1 = .ok (.istore_n 3, 1) := by decide +kernel
theorem dX7_kindsBy_2 : decode cX7_kindsBy 2 = .ok (.iconst 0, 1) := by decide +kernel
theorem dX7_kindsBy_3 : decode cX7_kindsBy 3 = .ok (.istore 4, 2) := by decide +kernel
theorem dX7_kindsBy_5 : decode cX7_kindsBy 5 = .ok (.iload 4, 2) := by decide +kernel
theorem dX7_kindsBy_7 : decode cX7_kindsBy 7 = .ok (.bipush 6, 2) := by decide +kernel
theorem dX7_kindsBy_9 : decode cX7_kindsBy 9 = .ok (.if_icmp .ge 44, 3) := by decide +kernel
theorem dX7_kindsBy_12 : decode cX7_kindsBy 12 = .ok (.iload_n 3, 1) := by decide +kernel
theorem dX7_kindsBy_13 : decode cX7_kindsBy 13 = .ok (.aload_n 0, 1) := by decide +kernel
theorem dX7_kindsBy_14 : decode cX7_kindsBy 14 = .ok (.iload 4, 2) := by decide +kernel
theorem dX7_kindsBy_16 : decode cX7_kindsBy 16 = .ok (.aload_n 0, 1) := by decide +kernel
theorem dX7_kindsBy_17 : decode cX7_kindsBy 17 = .ok (.getfield 19, 3) := by decide +kernel
theorem dX7_kindsBy_20 : decode cX7_kindsBy 20 = .ok (.iload_n 1, 1) := by decide +kernel
theorem dX7_kindsBy_21 : decode cX7_kindsBy 21 = .ok (.iaload, 1) := by decide +kernel
theorem dX7_kindsBy_22 : decode cX7_kindsBy 22 = .ok (.aload_n 0, 1) := by decide +kernel
theorem dX7_kindsBy_23 : decode cX7_kindsBy 23 = .ok (.getfield 7, 3) := by decide +kernel
theorem dX7_kindsBy_26 : decode cX7_kindsBy 26 = .ok (.iconst 4, 1) := by decide +kernel
theorem dX7_kindsBy_27 : decode cX7_kindsBy 27 = .ok (.iload_n 1, 1) := by decide +kernel
theorem dX7_kindsBy_28 : decode cX7_kindsBy 28 = .ok (.iadd, 1) := by decide +kernel
theorem dX7_kindsBy_29 : decode cX7_kindsBy 29 = .ok (.iaload, 1) := by decide +kernel
theorem dX7_kindsBy_30 : decode cX7_kindsBy 30 = .ok (.iload_n 2, 1) := by decide +kernel
theorem dX7_kindsBy_31 : decode cX7_kindsBy 31 = .ok (.invokevirtual 243, 3) := by decide +kernel
theorem dX7_kindsBy_34 : decode cX7_kindsBy 34 = .ok (.ifCond .eq 10, 3) := by decide +kernel
theorem dX7_kindsBy_37 : decode cX7_kindsBy 37 = .ok (.iconst 1, 1) := by decide +kernel
theorem dX7_kindsBy_38 : decode cX7_kindsBy 38 = .ok (.iload 4, 2) := by decide +kernel
theorem dX7_kindsBy_40 : decode cX7_kindsBy 40 = .ok (.ishl, 1) := by decide +kernel
theorem dX7_kindsBy_41 : decode cX7_kindsBy 41 = .ok (.goto 4, 3) := by decide +kernel
theorem dX7_kindsBy_44 : decode cX7_kindsBy 44 = .ok (.iconst 0, 1) := by decide +kernel
theorem dX7_kindsBy_45 : decode cX7_kindsBy 45 = .ok (.ior, 1) := by decide +kernel
theorem dX7_kindsBy_46 : decode cX7_kindsBy 46 = .ok (.istore_n 3, 1) := by decide +kernel
theorem dX7_kindsBy_47 : decode cX7_kindsBy 47 = .ok (.iinc 4 1, 3) := by decide +kernel
theorem dX7_kindsBy_50 : decode cX7_kindsBy 50 = .ok (.goto (-45), 3) := by decide +kernel
theorem dX7_kindsBy_53 : decode cX7_kindsBy 53 = .ok (.iload_n 3, 1) := by decide +kernel
theorem dX7_kindsBy_54 : decode cX7_kindsBy 54 = .ok (.ireturn, 1) := by decide +kernel
theorem dX7_kinds_0 : decode cX7_kinds 0 = .ok (.aload_n 0, 1) := by decide +kernel
theorem dX7_kinds_1 : decode cX7_kinds 1 = .ok (.iload_n 1, 1) := by decide +kernel
theorem dX7_kinds_2 : decode cX7_kinds 2 = .ok (.invokevirtual 174, 3) := by decide +kernel
theorem dX7_kinds_5 : decode cX7_kinds 5 = .ok (.ifCond .eq 10, 3) := by decide +kernel
theorem dX7_kinds_8 : decode cX7_kinds 8 = .ok (.iload_n 2, 1) := by decide +kernel
theorem dX7_kinds_9 : decode cX7_kinds 9 = .ok (.invokestatic 83, 3) := by decide +kernel
theorem dX7_kinds_12 : decode cX7_kinds 12 = .ok (.ifCond .ne 5, 3) := by decide +kernel
theorem dX7_kinds_15 : decode cX7_kinds 15 = .ok (.iconst (-1), 1) := by decide +kernel
theorem dX7_kinds_16 : decode cX7_kinds 16 = .ok (.ireturn, 1) := by decide +kernel
theorem dX7_kinds_17 : decode cX7_kinds 17 = .ok (.aload_n 0, 1) := by decide +kernel
theorem dX7_kinds_18 : decode cX7_kinds 18 = .ok (.iload_n 2, 1) := by decide +kernel
theorem dX7_kinds_19 : decode cX7_kinds 19 = .ok (.invokevirtual 240, 3) := by decide +kernel
theorem dX7_kinds_22 : decode cX7_kinds 22 = .ok (.istore_n 3, 1) := by decide +kernel
theorem dX7_kinds_23 : decode cX7_kinds 23 = .ok (.iload_n 3, 1) := by decide +kernel
theorem dX7_kinds_24 : decode cX7_kinds 24 = .ok (.ifCond .eq 7, 3) := by decide +kernel
theorem dX7_kinds_27 : decode cX7_kinds 27 = .ok (.iload_n 3, 1) := by decide +kernel
theorem dX7_kinds_28 : decode cX7_kinds 28 = .ok (.goto 9, 3) := by decide +kernel
theorem dX7_kinds_31 : decode cX7_kinds 31 = .ok (.aload_n 0, 1) := by decide +kernel
theorem dX7_kinds_32 : decode cX7_kinds 32 = .ok (.iload_n 1, 1) := by decide +kernel
theorem dX7_kinds_33 : decode cX7_kinds 33 = .ok (.iload_n 2, 1) := by decide +kernel
theorem dX7_kinds_34 : decode cX7_kinds 34 = .ok (.invokevirtual 247, 3) := by decide +kernel
theorem dX7_kinds_37 : decode cX7_kinds 37 = .ok (.ireturn, 1) := by decide +kernel
theorem dX7_greatestPart_0 : decode cX7_greatestPart 0 = .ok (.iconst 0, 1) := by decide +kernel
theorem dX7_greatestPart_1 : decode cX7_greatestPart 1 = .ok (.istore 4, 2) := by decide +kernel
theorem dX7_greatestPart_3 : decode cX7_greatestPart 3 = .ok (.iconst 0, 1) := by decide +kernel
theorem dX7_greatestPart_4 : decode cX7_greatestPart 4 = .ok (.istore 5, 2) := by decide +kernel
theorem dX7_greatestPart_6 : decode cX7_greatestPart 6 = .ok (.iload 5, 2) := by decide +kernel
theorem dX7_greatestPart_8 : decode cX7_greatestPart 8 = .ok (.bipush 6, 2) := by decide +kernel
theorem dX7_greatestPart_10 : decode cX7_greatestPart 10 = .ok (.if_icmp .ge 127, 3) := by decide +kernel
theorem dX7_greatestPart_13 : decode cX7_greatestPart 13 = .ok (.iconst 0, 1) := by decide +kernel
theorem dX7_greatestPart_14 : decode cX7_greatestPart 14 = .ok (.istore 6, 2) := by decide +kernel
theorem dX7_greatestPart_16 : decode cX7_greatestPart 16 = .ok (.iconst 0, 1) := by decide +kernel
theorem dX7_greatestPart_17 : decode cX7_greatestPart 17 = .ok (.istore 7, 2) := by decide +kernel
theorem dX7_greatestPart_19 : decode cX7_greatestPart 19 = .ok (.iload 7, 2) := by decide +kernel
theorem dX7_greatestPart_21 : decode cX7_greatestPart 21 = .ok (.bipush 6, 2) := by decide +kernel
theorem dX7_greatestPart_23 : decode cX7_greatestPart 23 = .ok (.if_icmp .ge 92, 3) := by decide +kernel
theorem dX7_greatestPart_26 : decode cX7_greatestPart 26 = .ok (.iload_n 2, 1) := by decide +kernel
theorem dX7_greatestPart_27 : decode cX7_greatestPart 27 = .ok (.iload 5, 2) := by decide +kernel
theorem dX7_greatestPart_29 : decode cX7_greatestPart 29 = .ok (.invokestatic 170, 3) := by decide +kernel
theorem dX7_greatestPart_32 : decode cX7_greatestPart 32 = .ok (.ifCond .eq 16, 3) := by decide +kernel
theorem dX7_greatestPart_35 : decode cX7_greatestPart 35 = .ok (.iload_n 2, 1) := by decide +kernel
theorem dX7_greatestPart_36 : decode cX7_greatestPart 36 = .ok (.iload 7, 2) := by decide +kernel
theorem dX7_greatestPart_38 : decode cX7_greatestPart 38 = .ok (.invokestatic 170, 3) := by decide +kernel
theorem dX7_greatestPart_41 : decode cX7_greatestPart 41 = .ok (.ifCond .eq 7, 3) := by decide +kernel
theorem dX7_greatestPart_44 : decode cX7_greatestPart 44 = .ok (.iconst 1, 1) := by decide +kernel
theorem dX7_greatestPart_45 : decode cX7_greatestPart 45 = .ok (.goto 4, 3) := by decide +kernel
theorem dX7_greatestPart_48 : decode cX7_greatestPart 48 = .ok (.iconst 0, 1) := by decide +kernel
theorem dX7_greatestPart_49 : decode cX7_greatestPart 49 = .ok (.istore 8, 2) := by decide +kernel
theorem dX7_greatestPart_51 : decode cX7_greatestPart 51 = .ok (.iload 6, 2) := by decide +kernel
theorem dX7_greatestPart_53 : decode cX7_greatestPart 53 = .ok (.iload 8, 2) := by decide +kernel
theorem dX7_greatestPart_55 : decode cX7_greatestPart 55 = .ok (.ifCond .eq 50, 3) := by decide +kernel
theorem dX7_greatestPart_58 : decode cX7_greatestPart 58 = .ok (.iload 5, 2) := by decide +kernel
theorem dX7_greatestPart_60 : decode cX7_greatestPart 60 = .ok (.aload_n 0, 1) := by decide +kernel
theorem dX7_greatestPart_61 : decode cX7_greatestPart 61 = .ok (.getfield 19, 3) := by decide +kernel
theorem dX7_greatestPart_64 : decode cX7_greatestPart 64 = .ok (.iload_n 1, 1) := by decide +kernel
theorem dX7_greatestPart_65 : decode cX7_greatestPart 65 = .ok (.iaload, 1) := by decide +kernel
theorem dX7_greatestPart_66 : decode cX7_greatestPart 66 = .ok (.aload_n 0, 1) := by decide +kernel
theorem dX7_greatestPart_67 : decode cX7_greatestPart 67 = .ok (.getfield 7, 3) := by decide +kernel
theorem dX7_greatestPart_70 : decode cX7_greatestPart 70 = .ok (.iconst 4, 1) := by decide +kernel
theorem dX7_greatestPart_71 : decode cX7_greatestPart 71 = .ok (.iload_n 1, 1) := by decide +kernel
theorem dX7_greatestPart_72 : decode cX7_greatestPart 72 = .ok (.iadd, 1) := by decide +kernel
theorem dX7_greatestPart_73 : decode cX7_greatestPart 73 = .ok (.iaload, 1) := by decide +kernel
theorem dX7_greatestPart_74 : decode cX7_greatestPart 74 = .ok (.iload_n 3, 1) := by decide +kernel
theorem dX7_greatestPart_75 : decode cX7_greatestPart 75 = .ok (.invokestatic 153, 3) := by decide +kernel
theorem dX7_greatestPart_78 : decode cX7_greatestPart 78 = .ok (.iload 7, 2) := by decide +kernel
theorem dX7_greatestPart_80 : decode cX7_greatestPart 80 = .ok (.aload_n 0, 1) := by decide +kernel
theorem dX7_greatestPart_81 : decode cX7_greatestPart 81 = .ok (.getfield 19, 3) := by decide +kernel
theorem dX7_greatestPart_84 : decode cX7_greatestPart 84 = .ok (.iload_n 1, 1) := by decide +kernel
theorem dX7_greatestPart_85 : decode cX7_greatestPart 85 = .ok (.iaload, 1) := by decide +kernel
theorem dX7_greatestPart_86 : decode cX7_greatestPart 86 = .ok (.aload_n 0, 1) := by decide +kernel
theorem dX7_greatestPart_87 : decode cX7_greatestPart 87 = .ok (.getfield 7, 3) := by decide +kernel
theorem dX7_greatestPart_90 : decode cX7_greatestPart 90 = .ok (.iconst 4, 1) := by decide +kernel
theorem dX7_greatestPart_91 : decode cX7_greatestPart 91 = .ok (.iload_n 1, 1) := by decide +kernel
theorem dX7_greatestPart_92 : decode cX7_greatestPart 92 = .ok (.iadd, 1) := by decide +kernel
theorem dX7_greatestPart_93 : decode cX7_greatestPart 93 = .ok (.iaload, 1) := by decide +kernel
theorem dX7_greatestPart_94 : decode cX7_greatestPart 94 = .ok (.iload_n 3, 1) := by decide +kernel
theorem dX7_greatestPart_95 : decode cX7_greatestPart 95 = .ok (.invokestatic 153, 3) := by decide +kernel
theorem dX7_greatestPart_98 : decode cX7_greatestPart 98 = .ok (.if_icmp .ne 7, 3) := by decide +kernel
theorem dX7_greatestPart_101 : decode cX7_greatestPart 101 = .ok (.iconst 1, 1) := by decide +kernel
theorem dX7_greatestPart_102 : decode cX7_greatestPart 102 = .ok (.goto 4, 3) := by decide +kernel
theorem dX7_greatestPart_105 : decode cX7_greatestPart 105 = .ok (.iconst 0, 1) := by decide +kernel
theorem dX7_greatestPart_106 : decode cX7_greatestPart 106 = .ok (.iadd, 1) := by decide +kernel
theorem dX7_greatestPart_107 : decode cX7_greatestPart 107 = .ok (.istore 6, 2) := by decide +kernel
theorem dX7_greatestPart_109 : decode cX7_greatestPart 109 = .ok (.iinc 7 1, 3) := by decide +kernel
theorem dX7_greatestPart_112 : decode cX7_greatestPart 112 = .ok (.goto (-93), 3) := by decide +kernel
theorem dX7_greatestPart_115 : decode cX7_greatestPart 115 = .ok (.iload 6, 2) := by decide +kernel
theorem dX7_greatestPart_117 : decode cX7_greatestPart 117 = .ok (.iload 4, 2) := by decide +kernel
theorem dX7_greatestPart_119 : decode cX7_greatestPart 119 = .ok (.if_icmp .le 8, 3) := by decide +kernel
theorem dX7_greatestPart_122 : decode cX7_greatestPart 122 = .ok (.iload 6, 2) := by decide +kernel
theorem dX7_greatestPart_124 : decode cX7_greatestPart 124 = .ok (.goto 5, 3) := by decide +kernel
theorem dX7_greatestPart_127 : decode cX7_greatestPart 127 = .ok (.iload 4, 2) := by decide +kernel
theorem dX7_greatestPart_129 : decode cX7_greatestPart 129 = .ok (.istore 4, 2) := by decide +kernel
theorem dX7_greatestPart_131 : decode cX7_greatestPart 131 = .ok (.iinc 5 1, 3) := by decide +kernel
theorem dX7_greatestPart_134 : decode cX7_greatestPart 134 = .ok (.goto (-128), 3) := by decide +kernel
theorem dX7_greatestPart_137 : decode cX7_greatestPart 137 = .ok (.iload 4, 2) := by decide +kernel
theorem dX7_greatestPart_139 : decode cX7_greatestPart 139 = .ok (.ireturn, 1) := by decide +kernel
theorem dX7_test_0 : decode cX7_test 0 = .ok (.aload_n 0, 1) := by decide +kernel
theorem dX7_test_1 : decode cX7_test 1 = .ok (.iload_n 1, 1) := by decide +kernel
theorem dX7_test_2 : decode cX7_test 2 = .ok (.invokevirtual 174, 3) := by decide +kernel
theorem dX7_test_5 : decode cX7_test 5 = .ok (.ifCond .eq 10, 3) := by decide +kernel
theorem dX7_test_8 : decode cX7_test 8 = .ok (.iload_n 2, 1) := by decide +kernel
theorem dX7_test_9 : decode cX7_test 9 = .ok (.invokestatic 83, 3) := by decide +kernel
theorem dX7_test_12 : decode cX7_test 12 = .ok (.ifCond .ne 5, 3) := by decide +kernel
theorem dX7_test_15 : decode cX7_test 15 = .ok (.iconst (-1), 1) := by decide +kernel
theorem dX7_test_16 : decode cX7_test 16 = .ok (.ireturn, 1) := by decide +kernel
theorem dX7_test_17 : decode cX7_test 17 = .ok (.aload_n 0, 1) := by decide +kernel
theorem dX7_test_18 : decode cX7_test 18 = .ok (.iload_n 2, 1) := by decide +kernel
theorem dX7_test_19 : decode cX7_test 19 = .ok (.invokevirtual 240, 3) := by decide +kernel
theorem dX7_test_22 : decode cX7_test 22 = .ok (.istore_n 3, 1) := by decide +kernel
theorem dX7_test_23 : decode cX7_test 23 = .ok (.iload_n 3, 1) := by decide +kernel
theorem dX7_test_24 : decode cX7_test 24 = .ok (.ifCond .eq 5, 3) := by decide +kernel
theorem dX7_test_27 : decode cX7_test 27 = .ok (.iload_n 3, 1) := by decide +kernel
theorem dX7_test_28 : decode cX7_test 28 = .ok (.ireturn, 1) := by decide +kernel
theorem dX7_test_29 : decode cX7_test 29 = .ok (.aload_n 0, 1) := by decide +kernel
theorem dX7_test_30 : decode cX7_test 30 = .ok (.iload_n 1, 1) := by decide +kernel
theorem dX7_test_31 : decode cX7_test 31 = .ok (.iload_n 2, 1) := by decide +kernel
theorem dX7_test_32 : decode cX7_test 32 = .ok (.invokevirtual 247, 3) := by decide +kernel
theorem dX7_test_35 : decode cX7_test 35 = .ok (.istore 4, 2) := by decide +kernel
theorem dX7_test_37 : decode cX7_test 37 = .ok (.iload 4, 2) := by decide +kernel
theorem dX7_test_39 : decode cX7_test 39 = .ok (.ifCond .ne 6, 3) := by decide +kernel
theorem dX7_test_42 : decode cX7_test 42 = .ok (.bipush (-9), 2) := by decide +kernel
theorem dX7_test_44 : decode cX7_test 44 = .ok (.ireturn, 1) := by decide +kernel
theorem dX7_test_45 : decode cX7_test 45 = .ok (.bipush (-9), 2) := by decide +kernel
theorem dX7_test_47 : decode cX7_test 47 = .ok (.istore 5, 2) := by decide +kernel
theorem dX7_test_49 : decode cX7_test 49 = .ok (.ldc 250, 2) := by decide +kernel
theorem dX7_test_51 : decode cX7_test 51 = .ok (.istore 6, 2) := by decide +kernel
theorem dX7_test_53 : decode cX7_test 53 = .ok (.iconst 0, 1) := by decide +kernel
theorem dX7_test_54 : decode cX7_test 54 = .ok (.istore 7, 2) := by decide +kernel
theorem dX7_test_56 : decode cX7_test 56 = .ok (.iload 7, 2) := by decide +kernel
theorem dX7_test_58 : decode cX7_test 58 = .ok (.bipush 10, 2) := by decide +kernel
theorem dX7_test_60 : decode cX7_test 60 = .ok (.if_icmp .ge 52, 3) := by decide +kernel
theorem dX7_test_63 : decode cX7_test 63 = .ok (.aload_n 0, 1) := by decide +kernel
theorem dX7_test_64 : decode cX7_test 64 = .ok (.iload_n 1, 1) := by decide +kernel
theorem dX7_test_65 : decode cX7_test 65 = .ok (.iload 4, 2) := by decide +kernel
theorem dX7_test_67 : decode cX7_test 67 = .ok (.iload 7, 2) := by decide +kernel
theorem dX7_test_69 : decode cX7_test 69 = .ok (.invokevirtual 251, 3) := by decide +kernel
theorem dX7_test_72 : decode cX7_test 72 = .ok (.istore 8, 2) := by decide +kernel
theorem dX7_test_74 : decode cX7_test 74 = .ok (.iload 8, 2) := by decide +kernel
theorem dX7_test_76 : decode cX7_test 76 = .ok (.iload 6, 2) := by decide +kernel
theorem dX7_test_78 : decode cX7_test 78 = .ok (.if_icmp .ge 8, 3) := by decide +kernel
theorem dX7_test_81 : decode cX7_test 81 = .ok (.iload 7, 2) := by decide +kernel
theorem dX7_test_83 : decode cX7_test 83 = .ok (.goto 5, 3) := by decide +kernel
theorem dX7_test_86 : decode cX7_test 86 = .ok (.iload 5, 2) := by decide +kernel
theorem dX7_test_88 : decode cX7_test 88 = .ok (.istore 5, 2) := by decide +kernel
theorem dX7_test_90 : decode cX7_test 90 = .ok (.iload 8, 2) := by decide +kernel
theorem dX7_test_92 : decode cX7_test 92 = .ok (.iload 6, 2) := by decide +kernel
theorem dX7_test_94 : decode cX7_test 94 = .ok (.if_icmp .ge 8, 3) := by decide +kernel
theorem dX7_test_97 : decode cX7_test 97 = .ok (.iload 8, 2) := by decide +kernel
theorem dX7_test_99 : decode cX7_test 99 = .ok (.goto 5, 3) := by decide +kernel
theorem dX7_test_102 : decode cX7_test 102 = .ok (.iload 6, 2) := by decide +kernel
theorem dX7_test_104 : decode cX7_test 104 = .ok (.istore 6, 2) := by decide +kernel
theorem dX7_test_106 : decode cX7_test 106 = .ok (.iinc 7 1, 3) := by decide +kernel
theorem dX7_test_109 : decode cX7_test 109 = .ok (.goto (-53), 3) := by decide +kernel
theorem dX7_test_112 : decode cX7_test 112 = .ok (.aload_n 0, 1) := by decide +kernel
theorem dX7_test_113 : decode cX7_test 113 = .ok (.iload 6, 2) := by decide +kernel
theorem dX7_test_115 : decode cX7_test 115 = .ok (.putfield 72, 3) := by decide +kernel
theorem dX7_test_118 : decode cX7_test 118 = .ok (.iload 5, 2) := by decide +kernel
theorem dX7_test_120 : decode cX7_test 120 = .ok (.ireturn, 1) := by decide +kernel
theorem dX7_better_0 : decode cX7_better 0 = .ok (.iload_n 0, 1) := by decide +kernel
theorem dX7_better_1 : decode cX7_better 1 = .ok (.iconst 2, 1) := by decide +kernel
theorem dX7_better_2 : decode cX7_better 2 = .ok (.irem, 1) := by decide +kernel
theorem dX7_better_3 : decode cX7_better 3 = .ok (.ifCond .ne 16, 3) := by decide +kernel
theorem dX7_better_6 : decode cX7_better 6 = .ok (.iload_n 1, 1) := by decide +kernel
theorem dX7_better_7 : decode cX7_better 7 = .ok (.iload_n 2, 1) := by decide +kernel
theorem dX7_better_8 : decode cX7_better 8 = .ok (.if_icmp .le 7, 3) := by decide +kernel
theorem dX7_better_11 : decode cX7_better 11 = .ok (.iload_n 1, 1) := by decide +kernel
theorem dX7_better_12 : decode cX7_better 12 = .ok (.goto 17, 3) := by decide +kernel
theorem dX7_better_15 : decode cX7_better 15 = .ok (.iload_n 2, 1) := by decide +kernel
theorem dX7_better_16 : decode cX7_better 16 = .ok (.goto 13, 3) := by decide +kernel
theorem dX7_better_19 : decode cX7_better 19 = .ok (.iload_n 1, 1) := by decide +kernel
theorem dX7_better_20 : decode cX7_better 20 = .ok (.iload_n 2, 1) := by decide +kernel
theorem dX7_better_21 : decode cX7_better 21 = .ok (.if_icmp .ge 7, 3) := by decide +kernel
theorem dX7_better_24 : decode cX7_better 24 = .ok (.iload_n 1, 1) := by decide +kernel
theorem dX7_better_25 : decode cX7_better 25 = .ok (.goto 4, 3) := by decide +kernel
theorem dX7_better_28 : decode cX7_better 28 = .ok (.iload_n 2, 1) := by decide +kernel
theorem dX7_better_29 : decode cX7_better 29 = .ok (.ireturn, 1) := by decide +kernel
theorem dX7_beginTurn_0 : decode cX7_beginTurn 0 = .ok (.aload_n 0, 1) := by decide +kernel
theorem dX7_beginTurn_1 : decode cX7_beginTurn 1 = .ok (.getfield 56, 3) := by decide +kernel
theorem dX7_beginTurn_4 : decode cX7_beginTurn 4 = .ok (.iload_n 1, 1) := by decide +kernel
theorem dX7_beginTurn_5 : decode cX7_beginTurn 5 = .ok (.iconst 0, 1) := by decide +kernel
theorem dX7_beginTurn_6 : decode cX7_beginTurn 6 = .ok (.iastore, 1) := by decide +kernel
theorem dX7_beginTurn_7 : decode cX7_beginTurn 7 = .ok (.aload_n 0, 1) := by decide +kernel
theorem dX7_beginTurn_8 : decode cX7_beginTurn 8 = .ok (.getfield 65, 3) := by decide +kernel
theorem dX7_beginTurn_11 : decode cX7_beginTurn 11 = .ok (.iload_n 1, 1) := by decide +kernel
theorem dX7_beginTurn_12 : decode cX7_beginTurn 12 = .ok (.iload_n 1, 1) := by decide +kernel
theorem dX7_beginTurn_13 : decode cX7_beginTurn 13 = .ok (.iconst 2, 1) := by decide +kernel
theorem dX7_beginTurn_14 : decode cX7_beginTurn 14 = .ok (.irem, 1) := by decide +kernel
theorem dX7_beginTurn_15 : decode cX7_beginTurn 15 = .ok (.ifCond .ne 7, 3) := by decide +kernel
theorem dX7_beginTurn_18 : decode cX7_beginTurn 18 = .ok (.iconst (-1), 1) := by decide +kernel
theorem dX7_beginTurn_19 : decode cX7_beginTurn 19 = .ok (.goto 5, 3) := by decide +kernel
theorem dX7_beginTurn_22 : decode cX7_beginTurn 22 = .ok (.ldc 250, 2) := by decide +kernel
theorem dX7_beginTurn_24 : decode cX7_beginTurn 24 = .ok (.iastore, 1) := by decide +kernel
theorem dX7_beginTurn_25 : decode cX7_beginTurn 25 = .ok (.return_, 1) := by decide +kernel
theorem dX7_duel_0 : decode cX7_duel 0 = .ok (.iload_n 1, 1) := by decide +kernel
theorem dX7_duel_1 : decode cX7_duel 1 = .ok (.i2l, 1) := by decide +kernel
theorem dX7_duel_2 : decode cX7_duel 2 = .ok (.lconst 0, 1) := by decide +kernel
theorem dX7_duel_3 : decode cX7_duel 3 = .ok (.ldc2_w 177, 3) := by decide +kernel
theorem dX7_duel_6 : decode cX7_duel 6 = .ok (.invokestatic 77, 3) := by decide +kernel
theorem dX7_duel_9 : decode cX7_duel 9 = .ok (.ifCond .ne 5, 3) := by decide +kernel
theorem dX7_duel_12 : decode cX7_duel 12 = .ok (.iconst (-1), 1) := by decide +kernel
theorem dX7_duel_13 : decode cX7_duel 13 = .ok (.ireturn, 1) := by decide +kernel
theorem dX7_duel_14 : decode cX7_duel 14 = .ok (.aload_n 0, 1) := by decide +kernel
theorem dX7_duel_15 : decode cX7_duel 15 = .ok (.getfield 150, 3) := by decide +kernel
theorem dX7_duel_18 : decode cX7_duel 18 = .ok (.ifCond .ne 6, 3) := by decide +kernel
theorem dX7_duel_21 : decode cX7_duel 21 = .ok (.bipush (-4), 2) := by decide +kernel
theorem dX7_duel_23 : decode cX7_duel 23 = .ok (.ireturn, 1) := by decide +kernel
theorem dX7_duel_24 : decode cX7_duel 24 = .ok (.iconst 0, 1) := by decide +kernel
theorem dX7_duel_25 : decode cX7_duel 25 = .ok (.istore_n 2, 1) := by decide +kernel
theorem dX7_duel_26 : decode cX7_duel 26 = .ok (.iconst 0, 1) := by decide +kernel
theorem dX7_duel_27 : decode cX7_duel 27 = .ok (.istore_n 3, 1) := by decide +kernel
theorem dX7_duel_28 : decode cX7_duel 28 = .ok (.aload_n 0, 1) := by decide +kernel
theorem dX7_duel_29 : decode cX7_duel 29 = .ok (.getfield 59, 3) := by decide +kernel
theorem dX7_duel_32 : decode cX7_duel 32 = .ok (.iconst 0, 1) := by decide +kernel
theorem dX7_duel_33 : decode cX7_duel 33 = .ok (.aload_n 0, 1) := by decide +kernel
theorem dX7_duel_34 : decode cX7_duel 34 = .ok (.getfield 7, 3) := by decide +kernel
theorem dX7_duel_37 : decode cX7_duel 37 = .ok (.iconst 2, 1) := by decide +kernel
theorem dX7_duel_38 : decode cX7_duel 38 = .ok (.iaload, 1) := by decide +kernel
theorem dX7_duel_39 : decode cX7_duel 39 = .ok (.iastore, 1) := by decide +kernel
theorem dX7_duel_40 : decode cX7_duel 40 = .ok (.aload_n 0, 1) := by decide +kernel
theorem dX7_duel_41 : decode cX7_duel 41 = .ok (.getfield 62, 3) := by decide +kernel
theorem dX7_duel_44 : decode cX7_duel 44 = .ok (.iconst 0, 1) := by decide +kernel
theorem dX7_duel_45 : decode cX7_duel 45 = .ok (.iconst 0, 1) := by decide +kernel
theorem dX7_duel_46 : decode cX7_duel 46 = .ok (.iastore, 1) := by decide +kernel
theorem dX7_duel_47 : decode cX7_duel 47 = .ok (.iload_n 1, 1) := by decide +kernel
theorem dX7_duel_48 : decode cX7_duel 48 = .ok (.ifCond .le 8, 3) := by decide +kernel
theorem dX7_duel_51 : decode cX7_duel 51 = .ok (.aload_n 0, 1) := by decide +kernel
theorem dX7_duel_52 : decode cX7_duel 52 = .ok (.iconst 0, 1) := by decide +kernel
theorem dX7_duel_53 : decode cX7_duel 53 = .ok (.invokevirtual 254, 3) := by decide +kernel
theorem dX7_duel_56 : decode cX7_duel 56 = .ok (.iload_n 1, 1) := by decide +kernel
theorem dX7_duel_57 : decode cX7_duel 57 = .ok (.ifCond .le 253, 3) := by decide +kernel
theorem dX7_duel_60 : decode cX7_duel 60 = .ok (.iload_n 2, 1) := by decide +kernel
theorem dX7_duel_61 : decode cX7_duel 61 = .ok (.ifCond .lt 249, 3) := by decide +kernel
theorem dX7_duel_64 : decode cX7_duel 64 = .ok (.aload_n 0, 1) := by decide +kernel
theorem dX7_duel_65 : decode cX7_duel 65 = .ok (.getfield 56, 3) := by decide +kernel
theorem dX7_duel_68 : decode cX7_duel 68 = .ok (.iload_n 2, 1) := by decide +kernel
theorem dX7_duel_69 : decode cX7_duel 69 = .ok (.iaload, 1) := by decide +kernel
theorem dX7_duel_70 : decode cX7_duel 70 = .ok (.aload_n 0, 1) := by decide +kernel
theorem dX7_duel_71 : decode cX7_duel 71 = .ok (.getfield 150, 3) := by decide +kernel
theorem dX7_duel_74 : decode cX7_duel 74 = .ok (.if_icmp .ge 34, 3) := by decide +kernel
theorem dX7_duel_77 : decode cX7_duel 77 = .ok (.aload_n 0, 1) := by decide +kernel
theorem dX7_duel_78 : decode cX7_duel 78 = .ok (.getfield 59, 3) := by decide +kernel
theorem dX7_duel_81 : decode cX7_duel 81 = .ok (.iload_n 2, 1) := by decide +kernel
theorem dX7_duel_82 : decode cX7_duel 82 = .ok (.iaload, 1) := by decide +kernel
theorem dX7_duel_83 : decode cX7_duel 83 = .ok (.aload_n 0, 1) := by decide +kernel
theorem dX7_duel_84 : decode cX7_duel 84 = .ok (.getfield 56, 3) := by decide +kernel
theorem dX7_duel_87 : decode cX7_duel 87 = .ok (.iload_n 2, 1) := by decide +kernel
theorem dX7_duel_88 : decode cX7_duel 88 = .ok (.iaload, 1) := by decide +kernel
theorem dX7_duel_89 : decode cX7_duel 89 = .ok (.invokestatic 170, 3) := by decide +kernel
theorem dX7_duel_92 : decode cX7_duel 92 = .ok (.ifCond .eq 16, 3) := by decide +kernel
theorem dX7_duel_95 : decode cX7_duel 95 = .ok (.aload_n 0, 1) := by decide +kernel
theorem dX7_duel_96 : decode cX7_duel 96 = .ok (.getfield 56, 3) := by decide +kernel
theorem dX7_duel_99 : decode cX7_duel 99 = .ok (.iload_n 2, 1) := by decide +kernel
theorem dX7_duel_100 : decode cX7_duel 100 = .ok (.dup2, 1) := by decide +kernel
theorem dX7_duel_101 : decode cX7_duel 101 = .ok (.iaload, 1) := by decide +kernel
theorem dX7_duel_102 : decode cX7_duel 102 = .ok (.iconst 1, 1) := by decide +kernel
theorem dX7_duel_103 : decode cX7_duel 103 = .ok (.iadd, 1) := by decide +kernel
theorem dX7_duel_104 : decode cX7_duel 104 = .ok (.iastore, 1) := by decide +kernel
theorem dX7_duel_105 : decode cX7_duel 105 = .ok (.goto (-41), 3) := by decide +kernel
theorem dX7_duel_108 : decode cX7_duel 108 = .ok (.aload_n 0, 1) := by decide +kernel
theorem dX7_duel_109 : decode cX7_duel 109 = .ok (.getfield 56, 3) := by decide +kernel
theorem dX7_duel_112 : decode cX7_duel 112 = .ok (.iload_n 2, 1) := by decide +kernel
theorem dX7_duel_113 : decode cX7_duel 113 = .ok (.iaload, 1) := by decide +kernel
theorem dX7_duel_114 : decode cX7_duel 114 = .ok (.aload_n 0, 1) := by decide +kernel
theorem dX7_duel_115 : decode cX7_duel 115 = .ok (.getfield 150, 3) := by decide +kernel
theorem dX7_duel_118 : decode cX7_duel 118 = .ok (.if_icmp .le 47, 3) := by decide +kernel
theorem dX7_duel_121 : decode cX7_duel 121 = .ok (.aload_n 0, 1) := by decide +kernel
theorem dX7_duel_122 : decode cX7_duel 122 = .ok (.getfield 65, 3) := by decide +kernel
theorem dX7_duel_125 : decode cX7_duel 125 = .ok (.iload_n 2, 1) := by decide +kernel
theorem dX7_duel_126 : decode cX7_duel 126 = .ok (.iaload, 1) := by decide +kernel
theorem dX7_duel_127 : decode cX7_duel 127 = .ok (.istore_n 3, 1) := by decide +kernel
theorem dX7_duel_128 : decode cX7_duel 128 = .ok (.iinc 2 (-1), 3) := by decide +kernel
theorem dX7_duel_131 : decode cX7_duel 131 = .ok (.iload_n 2, 1) := by decide +kernel
theorem dX7_duel_132 : decode cX7_duel 132 = .ok (.ifCond .lt (-76), 3) := by decide +kernel
theorem dX7_duel_135 : decode cX7_duel 135 = .ok (.aload_n 0, 1) := by decide +kernel
theorem dX7_duel_136 : decode cX7_duel 136 = .ok (.getfield 65, 3) := by decide +kernel
theorem dX7_duel_139 : decode cX7_duel 139 = .ok (.iload_n 2, 1) := by decide +kernel
theorem dX7_duel_140 : decode cX7_duel 140 = .ok (.iload_n 2, 1) := by decide +kernel
theorem dX7_duel_141 : decode cX7_duel 141 = .ok (.aload_n 0, 1) := by decide +kernel
theorem dX7_duel_142 : decode cX7_duel 142 = .ok (.getfield 65, 3) := by decide +kernel
theorem dX7_duel_145 : decode cX7_duel 145 = .ok (.iload_n 2, 1) := by decide +kernel
theorem dX7_duel_146 : decode cX7_duel 146 = .ok (.iaload, 1) := by decide +kernel
theorem dX7_duel_147 : decode cX7_duel 147 = .ok (.iload_n 3, 1) := by decide +kernel
theorem dX7_duel_148 : decode cX7_duel 148 = .ok (.invokestatic 258, 3) := by decide +kernel
theorem dX7_duel_151 : decode cX7_duel 151 = .ok (.iastore, 1) := by decide +kernel
theorem dX7_duel_152 : decode cX7_duel 152 = .ok (.aload_n 0, 1) := by decide +kernel
theorem dX7_duel_153 : decode cX7_duel 153 = .ok (.getfield 56, 3) := by decide +kernel
theorem dX7_duel_156 : decode cX7_duel 156 = .ok (.iload_n 2, 1) := by decide +kernel
theorem dX7_duel_157 : decode cX7_duel 157 = .ok (.dup2, 1) := by decide +kernel
theorem dX7_duel_158 : decode cX7_duel 158 = .ok (.iaload, 1) := by decide +kernel
theorem dX7_duel_159 : decode cX7_duel 159 = .ok (.iconst 1, 1) := by decide +kernel
theorem dX7_duel_160 : decode cX7_duel 160 = .ok (.iadd, 1) := by decide +kernel
theorem dX7_duel_161 : decode cX7_duel 161 = .ok (.iastore, 1) := by decide +kernel
theorem dX7_duel_162 : decode cX7_duel 162 = .ok (.goto (-106), 3) := by decide +kernel
theorem dX7_duel_165 : decode cX7_duel 165 = .ok (.aload_n 0, 1) := by decide +kernel
theorem dX7_duel_166 : decode cX7_duel 166 = .ok (.getfield 56, 3) := by decide +kernel
theorem dX7_duel_169 : decode cX7_duel 169 = .ok (.iload_n 2, 1) := by decide +kernel
theorem dX7_duel_170 : decode cX7_duel 170 = .ok (.iaload, 1) := by decide +kernel
theorem dX7_duel_171 : decode cX7_duel 171 = .ok (.istore 4, 2) := by decide +kernel
theorem dX7_duel_173 : decode cX7_duel 173 = .ok (.aload_n 0, 1) := by decide +kernel
theorem dX7_duel_174 : decode cX7_duel 174 = .ok (.getfield 62, 3) := by decide +kernel
theorem dX7_duel_177 : decode cX7_duel 177 = .ok (.iload_n 2, 1) := by decide +kernel
theorem dX7_duel_178 : decode cX7_duel 178 = .ok (.iaload, 1) := by decide +kernel
theorem dX7_duel_179 : decode cX7_duel 179 = .ok (.iload 4, 2) := by decide +kernel
theorem dX7_duel_181 : decode cX7_duel 181 = .ok (.aload_n 0, 1) := by decide +kernel
theorem dX7_duel_182 : decode cX7_duel 182 = .ok (.getfield 150, 3) := by decide +kernel
theorem dX7_duel_185 : decode cX7_duel 185 = .ok (.if_icmp .ge 25, 3) := by decide +kernel
theorem dX7_duel_188 : decode cX7_duel 188 = .ok (.aload_n 0, 1) := by decide +kernel
theorem dX7_duel_189 : decode cX7_duel 189 = .ok (.iconst 0, 1) := by decide +kernel
theorem dX7_duel_190 : decode cX7_duel 190 = .ok (.iload 4, 2) := by decide +kernel
theorem dX7_duel_192 : decode cX7_duel 192 = .ok (.aload_n 0, 1) := by decide +kernel
theorem dX7_duel_193 : decode cX7_duel 193 = .ok (.aload_n 0, 1) := by decide +kernel
theorem dX7_duel_194 : decode cX7_duel 194 = .ok (.getfield 7, 3) := by decide +kernel
theorem dX7_duel_197 : decode cX7_duel 197 = .ok (.iconst 1, 1) := by decide +kernel
theorem dX7_duel_198 : decode cX7_duel 198 = .ok (.iaload, 1) := by decide +kernel
theorem dX7_duel_199 : decode cX7_duel 199 = .ok (.iload_n 2, 1) := by decide +kernel
theorem dX7_duel_200 : decode cX7_duel 200 = .ok (.iadd, 1) := by decide +kernel
theorem dX7_duel_201 : decode cX7_duel 201 = .ok (.invokevirtual 164, 3) := by decide +kernel
theorem dX7_duel_204 : decode cX7_duel 204 = .ok (.invokevirtual 167, 3) := by decide +kernel
theorem dX7_duel_207 : decode cX7_duel 207 = .ok (.goto 4, 3) := by decide +kernel
theorem dX7_duel_210 : decode cX7_duel 210 = .ok (.iconst 0, 1) := by decide +kernel
theorem dX7_duel_211 : decode cX7_duel 211 = .ok (.iadd, 1) := by decide +kernel
theorem dX7_duel_212 : decode cX7_duel 212 = .ok (.istore 5, 2) := by decide +kernel
theorem dX7_duel_214 : decode cX7_duel 214 = .ok (.iload_n 2, 1) := by decide +kernel
theorem dX7_duel_215 : decode cX7_duel 215 = .ok (.iload_n 1, 1) := by decide +kernel
theorem dX7_duel_216 : decode cX7_duel 216 = .ok (.iconst 1, 1) := by decide +kernel
theorem dX7_duel_217 : decode cX7_duel 217 = .ok (.isub, 1) := by decide +kernel
theorem dX7_duel_218 : decode cX7_duel 218 = .ok (.if_icmp .ne 34, 3) := by decide +kernel
theorem dX7_duel_221 : decode cX7_duel 221 = .ok (.aload_n 0, 1) := by decide +kernel
theorem dX7_duel_222 : decode cX7_duel 222 = .ok (.getfield 65, 3) := by decide +kernel
theorem dX7_duel_225 : decode cX7_duel 225 = .ok (.iload_n 2, 1) := by decide +kernel
theorem dX7_duel_226 : decode cX7_duel 226 = .ok (.iload_n 2, 1) := by decide +kernel
theorem dX7_duel_227 : decode cX7_duel 227 = .ok (.aload_n 0, 1) := by decide +kernel
theorem dX7_duel_228 : decode cX7_duel 228 = .ok (.getfield 65, 3) := by decide +kernel
theorem dX7_duel_231 : decode cX7_duel 231 = .ok (.iload_n 2, 1) := by decide +kernel
theorem dX7_duel_232 : decode cX7_duel 232 = .ok (.iaload, 1) := by decide +kernel
theorem dX7_duel_233 : decode cX7_duel 233 = .ok (.iload 5, 2) := by decide +kernel
theorem dX7_duel_235 : decode cX7_duel 235 = .ok (.invokestatic 258, 3) := by decide +kernel
theorem dX7_duel_238 : decode cX7_duel 238 = .ok (.iastore, 1) := by decide +kernel
theorem dX7_duel_239 : decode cX7_duel 239 = .ok (.aload_n 0, 1) := by decide +kernel
theorem dX7_duel_240 : decode cX7_duel 240 = .ok (.getfield 56, 3) := by decide +kernel
theorem dX7_duel_243 : decode cX7_duel 243 = .ok (.iload_n 2, 1) := by decide +kernel
theorem dX7_duel_244 : decode cX7_duel 244 = .ok (.dup2, 1) := by decide +kernel
theorem dX7_duel_245 : decode cX7_duel 245 = .ok (.iaload, 1) := by decide +kernel
theorem dX7_duel_246 : decode cX7_duel 246 = .ok (.iconst 1, 1) := by decide +kernel
theorem dX7_duel_247 : decode cX7_duel 247 = .ok (.iadd, 1) := by decide +kernel
theorem dX7_duel_248 : decode cX7_duel 248 = .ok (.iastore, 1) := by decide +kernel
theorem dX7_duel_249 : decode cX7_duel 249 = .ok (.goto 58, 3) := by decide +kernel
theorem dX7_duel_252 : decode cX7_duel 252 = .ok (.iinc 2 1, 3) := by decide +kernel
theorem dX7_duel_255 : decode cX7_duel 255 = .ok (.aload_n 0, 1) := by decide +kernel
theorem dX7_duel_256 : decode cX7_duel 256 = .ok (.getfield 59, 3) := by decide +kernel
theorem dX7_duel_259 : decode cX7_duel 259 = .ok (.iload_n 2, 1) := by decide +kernel
theorem dX7_duel_260 : decode cX7_duel 260 = .ok (.iload 4, 2) := by decide +kernel
theorem dX7_duel_262 : decode cX7_duel 262 = .ok (.aload_n 0, 1) := by decide +kernel
theorem dX7_duel_263 : decode cX7_duel 263 = .ok (.getfield 150, 3) := by decide +kernel
theorem dX7_duel_266 : decode cX7_duel 266 = .ok (.if_icmp .ge 19, 3) := by decide +kernel
theorem dX7_duel_269 : decode cX7_duel 269 = .ok (.aload_n 0, 1) := by decide +kernel
theorem dX7_duel_270 : decode cX7_duel 270 = .ok (.getfield 59, 3) := by decide +kernel
theorem dX7_duel_273 : decode cX7_duel 273 = .ok (.iload_n 2, 1) := by decide +kernel
theorem dX7_duel_274 : decode cX7_duel 274 = .ok (.iconst 1, 1) := by decide +kernel
theorem dX7_duel_275 : decode cX7_duel 275 = .ok (.isub, 1) := by decide +kernel
theorem dX7_duel_276 : decode cX7_duel 276 = .ok (.iaload, 1) := by decide +kernel
theorem dX7_duel_277 : decode cX7_duel 277 = .ok (.iconst 1, 1) := by decide +kernel
theorem dX7_duel_278 : decode cX7_duel 278 = .ok (.iload 4, 2) := by decide +kernel
theorem dX7_duel_280 : decode cX7_duel 280 = .ok (.ishl, 1) := by decide +kernel
theorem dX7_duel_281 : decode cX7_duel 281 = .ok (.ior, 1) := by decide +kernel
theorem dX7_duel_282 : decode cX7_duel 282 = .ok (.goto 11, 3) := by decide +kernel
theorem dX7_duel_285 : decode cX7_duel 285 = .ok (.aload_n 0, 1) := by decide +kernel
theorem dX7_duel_286 : decode cX7_duel 286 = .ok (.getfield 59, 3) := by decide +kernel
theorem dX7_duel_289 : decode cX7_duel 289 = .ok (.iload_n 2, 1) := by decide +kernel
theorem dX7_duel_290 : decode cX7_duel 290 = .ok (.iconst 1, 1) := by decide +kernel
theorem dX7_duel_291 : decode cX7_duel 291 = .ok (.isub, 1) := by decide +kernel
theorem dX7_duel_292 : decode cX7_duel 292 = .ok (.iaload, 1) := by decide +kernel
theorem dX7_duel_293 : decode cX7_duel 293 = .ok (.iastore, 1) := by decide +kernel
theorem dX7_duel_294 : decode cX7_duel 294 = .ok (.aload_n 0, 1) := by decide +kernel
theorem dX7_duel_295 : decode cX7_duel 295 = .ok (.getfield 62, 3) := by decide +kernel
theorem dX7_duel_298 : decode cX7_duel 298 = .ok (.iload_n 2, 1) := by decide +kernel
theorem dX7_duel_299 : decode cX7_duel 299 = .ok (.iload 5, 2) := by decide +kernel
theorem dX7_duel_301 : decode cX7_duel 301 = .ok (.iastore, 1) := by decide +kernel
theorem dX7_duel_302 : decode cX7_duel 302 = .ok (.aload_n 0, 1) := by decide +kernel
theorem dX7_duel_303 : decode cX7_duel 303 = .ok (.iload_n 2, 1) := by decide +kernel
theorem dX7_duel_304 : decode cX7_duel 304 = .ok (.invokevirtual 254, 3) := by decide +kernel
theorem dX7_duel_307 : decode cX7_duel 307 = .ok (.goto (-251), 3) := by decide +kernel
theorem dX7_duel_310 : decode cX7_duel 310 = .ok (.iload_n 3, 1) := by decide +kernel
theorem dX7_duel_311 : decode cX7_duel 311 = .ok (.ireturn, 1) := by decide +kernel
theorem dX7_tellParts_0 : decode cX7_tellParts 0 = .ok (.lload_n 1, 1) := by decide +kernel
theorem dX7_tellParts_1 : decode cX7_tellParts 1 = .ok (.lstore 5, 2) := by decide +kernel
theorem dX7_tellParts_3 : decode cX7_tellParts 3 = .ok (.lload_n 3, 1) := by decide +kernel
theorem dX7_tellParts_4 : decode cX7_tellParts 4 = .ok (.lstore 7, 2) := by decide +kernel
theorem dX7_tellParts_6 : decode cX7_tellParts 6 = .ok (.lload 7, 2) := by decide +kernel
theorem dX7_tellParts_8 : decode cX7_tellParts 8 = .ok (.lconst 0, 1) := by decide +kernel
theorem dX7_tellParts_9 : decode cX7_tellParts 9 = .ok (.lcmp, 1) := by decide +kernel
theorem dX7_tellParts_10 : decode cX7_tellParts 10 = .ok (.ifCond .eq 21, 3) := by decide +kernel
theorem dX7_tellParts_13 : decode cX7_tellParts 13 = .ok (.lload 5, 2) := by decide +kernel
theorem dX7_tellParts_15 : decode cX7_tellParts 15 = .ok (.lload 7, 2) := by decide +kernel
theorem dX7_tellParts_17 : decode cX7_tellParts 17 = .ok (.lrem, 1) := by decide +kernel
theorem dX7_tellParts_18 : decode cX7_tellParts 18 = .ok (.lstore 9, 2) := by decide +kernel
theorem dX7_tellParts_20 : decode cX7_tellParts 20 = .ok (.lload 7, 2) := by decide +kernel
theorem dX7_tellParts_22 : decode cX7_tellParts 22 = .ok (.lstore 5, 2) := by decide +kernel
theorem dX7_tellParts_24 : decode cX7_tellParts 24 = .ok (.lload 9, 2) := by decide +kernel
theorem dX7_tellParts_26 : decode cX7_tellParts 26 = .ok (.lstore 7, 2) := by decide +kernel
theorem dX7_tellParts_28 : decode cX7_tellParts 28 = .ok (.goto (-22), 3) := by decide +kernel
theorem dX7_tellParts_31 : decode cX7_tellParts 31 = .ok (.aload_n 0, 1) := by decide +kernel
theorem dX7_tellParts_32 : decode cX7_tellParts 32 = .ok (.lload_n 1, 1) := by decide +kernel
theorem dX7_tellParts_33 : decode cX7_tellParts 33 = .ok (.lload 5, 2) := by decide +kernel
theorem dX7_tellParts_35 : decode cX7_tellParts 35 = .ok (.ldiv, 1) := by decide +kernel
theorem dX7_tellParts_36 : decode cX7_tellParts 36 = .ok (.putfield 261, 3) := by decide +kernel
theorem dX7_tellParts_39 : decode cX7_tellParts 39 = .ok (.aload_n 0, 1) := by decide +kernel
theorem dX7_tellParts_40 : decode cX7_tellParts 40 = .ok (.lload_n 3, 1) := by decide +kernel
theorem dX7_tellParts_41 : decode cX7_tellParts 41 = .ok (.lload 5, 2) := by decide +kernel
theorem dX7_tellParts_43 : decode cX7_tellParts 43 = .ok (.ldiv, 1) := by decide +kernel
theorem dX7_tellParts_44 : decode cX7_tellParts 44 = .ok (.putfield 37, 3) := by decide +kernel
theorem dX7_tellParts_47 : decode cX7_tellParts 47 = .ok (.return_, 1) := by decide +kernel
theorem dX7_tellCalm_0 : decode cX7_tellCalm 0 = .ok (.iconst 0, 1) := by decide +kernel
theorem dX7_tellCalm_1 : decode cX7_tellCalm 1 = .ok (.istore_n 3, 1) := by decide +kernel
theorem dX7_tellCalm_2 : decode cX7_tellCalm 2 = .ok (.iconst 0, 1) := by decide +kernel
theorem dX7_tellCalm_3 : decode cX7_tellCalm 3 = .ok (.istore 4, 2) := by decide +kernel
theorem dX7_tellCalm_5 : decode cX7_tellCalm 5 = .ok (.iload 4, 2) := by decide +kernel
theorem dX7_tellCalm_7 : decode cX7_tellCalm 7 = .ok (.aload_n 0, 1) := by decide +kernel
theorem dX7_tellCalm_8 : decode cX7_tellCalm 8 = .ok (.getfield 150, 3) := by decide +kernel
theorem dX7_tellCalm_11 : decode cX7_tellCalm 11 = .ok (.if_icmp .ge 31, 3) := by decide +kernel
theorem dX7_tellCalm_14 : decode cX7_tellCalm 14 = .ok (.iload_n 3, 1) := by decide +kernel
theorem dX7_tellCalm_15 : decode cX7_tellCalm 15 = .ok (.aload_n 0, 1) := by decide +kernel
theorem dX7_tellCalm_16 : decode cX7_tellCalm 16 = .ok (.getfield 7, 3) := by decide +kernel
theorem dX7_tellCalm_19 : decode cX7_tellCalm 19 = .ok (.iconst 2, 1) := by decide +kernel
theorem dX7_tellCalm_20 : decode cX7_tellCalm 20 = .ok (.iaload, 1) := by decide +kernel
theorem dX7_tellCalm_21 : decode cX7_tellCalm 21 = .ok (.iload 4, 2) := by decide +kernel
theorem dX7_tellCalm_23 : decode cX7_tellCalm 23 = .ok (.invokestatic 170, 3) := by decide +kernel
theorem dX7_tellCalm_26 : decode cX7_tellCalm 26 = .ok (.ifCond .eq 7, 3) := by decide +kernel
theorem dX7_tellCalm_29 : decode cX7_tellCalm 29 = .ok (.iconst 0, 1) := by decide +kernel
theorem dX7_tellCalm_30 : decode cX7_tellCalm 30 = .ok (.goto 4, 3) := by decide +kernel
theorem dX7_tellCalm_33 : decode cX7_tellCalm 33 = .ok (.iconst 1, 1) := by decide +kernel
theorem dX7_tellCalm_34 : decode cX7_tellCalm 34 = .ok (.iadd, 1) := by decide +kernel
theorem dX7_tellCalm_35 : decode cX7_tellCalm 35 = .ok (.istore_n 3, 1) := by decide +kernel
theorem dX7_tellCalm_36 : decode cX7_tellCalm 36 = .ok (.iinc 4 1, 3) := by decide +kernel
theorem dX7_tellCalm_39 : decode cX7_tellCalm 39 = .ok (.goto (-34), 3) := by decide +kernel
theorem dX7_tellCalm_42 : decode cX7_tellCalm 42 = .ok (.lconst 0, 1) := by decide +kernel
theorem dX7_tellCalm_43 : decode cX7_tellCalm 43 = .ok (.lstore 4, 2) := by decide +kernel
theorem dX7_tellCalm_45 : decode cX7_tellCalm 45 = .ok (.lconst 0, 1) := by decide +kernel
theorem dX7_tellCalm_46 : decode cX7_tellCalm 46 = .ok (.lstore 6, 2) := by decide +kernel
theorem dX7_tellCalm_48 : decode cX7_tellCalm 48 = .ok (.iconst 0, 1) := by decide +kernel
theorem dX7_tellCalm_49 : decode cX7_tellCalm 49 = .ok (.istore 8, 2) := by decide +kernel
theorem dX7_tellCalm_51 : decode cX7_tellCalm 51 = .ok (.iload 8, 2) := by decide +kernel
theorem dX7_tellCalm_53 : decode cX7_tellCalm 53 = .ok (.iconst 1, 1) := by decide +kernel
theorem dX7_tellCalm_54 : decode cX7_tellCalm 54 = .ok (.iload_n 3, 1) := by decide +kernel
theorem dX7_tellCalm_55 : decode cX7_tellCalm 55 = .ok (.ishl, 1) := by decide +kernel
theorem dX7_tellCalm_56 : decode cX7_tellCalm 56 = .ok (.if_icmp .ge 161, 3) := by decide +kernel
theorem dX7_tellCalm_59 : decode cX7_tellCalm 59 = .ok (.iconst 0, 1) := by decide +kernel
theorem dX7_tellCalm_60 : decode cX7_tellCalm 60 = .ok (.istore 9, 2) := by decide +kernel
theorem dX7_tellCalm_62 : decode cX7_tellCalm 62 = .ok (.aload_n 0, 1) := by decide +kernel
theorem dX7_tellCalm_63 : decode cX7_tellCalm 63 = .ok (.iconst 0, 1) := by decide +kernel
theorem dX7_tellCalm_64 : decode cX7_tellCalm 64 = .ok (.invokevirtual 224, 3) := by decide +kernel
theorem dX7_tellCalm_67 : decode cX7_tellCalm 67 = .ok (.istore 10, 2) := by decide +kernel
theorem dX7_tellCalm_69 : decode cX7_tellCalm 69 = .ok (.lconst 1, 1) := by decide +kernel
theorem dX7_tellCalm_70 : decode cX7_tellCalm 70 = .ok (.lstore 11, 2) := by decide +kernel
theorem dX7_tellCalm_72 : decode cX7_tellCalm 72 = .ok (.iconst 0, 1) := by decide +kernel
theorem dX7_tellCalm_73 : decode cX7_tellCalm 73 = .ok (.istore 13, 2) := by decide +kernel
theorem dX7_tellCalm_75 : decode cX7_tellCalm 75 = .ok (.iload 13, 2) := by decide +kernel
theorem dX7_tellCalm_77 : decode cX7_tellCalm 77 = .ok (.aload_n 0, 1) := by decide +kernel
theorem dX7_tellCalm_78 : decode cX7_tellCalm 78 = .ok (.getfield 150, 3) := by decide +kernel
theorem dX7_tellCalm_81 : decode cX7_tellCalm 81 = .ok (.if_icmp .ge 90, 3) := by decide +kernel
theorem dX7_tellCalm_84 : decode cX7_tellCalm 84 = .ok (.aload_n 0, 1) := by decide +kernel
theorem dX7_tellCalm_85 : decode cX7_tellCalm 85 = .ok (.getfield 7, 3) := by decide +kernel
theorem dX7_tellCalm_88 : decode cX7_tellCalm 88 = .ok (.iconst 2, 1) := by decide +kernel
theorem dX7_tellCalm_89 : decode cX7_tellCalm 89 = .ok (.iaload, 1) := by decide +kernel
theorem dX7_tellCalm_90 : decode cX7_tellCalm 90 = .ok (.iload 13, 2) := by decide +kernel
theorem dX7_tellCalm_92 : decode cX7_tellCalm 92 = .ok (.invokestatic 170, 3) := by decide +kernel
theorem dX7_tellCalm_95 : decode cX7_tellCalm 95 = .ok (.ifCond .ne 70, 3) := by decide +kernel
theorem dX7_tellCalm_98 : decode cX7_tellCalm 98 = .ok (.lload 11, 2) := by decide +kernel
theorem dX7_tellCalm_100 : decode cX7_tellCalm 100 = .ok (.iload 8, 2) := by decide +kernel
theorem dX7_tellCalm_102 : decode cX7_tellCalm 102 = .ok (.iload 9, 2) := by decide +kernel
theorem dX7_tellCalm_104 : decode cX7_tellCalm 104 = .ok (.invokestatic 170, 3) := by decide +kernel
theorem dX7_tellCalm_107 : decode cX7_tellCalm 107 = .ok (.ifCond .eq 8, 3) := by decide +kernel
theorem dX7_tellCalm_110 : decode cX7_tellCalm 110 = .ok (.iload_n 1, 1) := by decide +kernel
theorem dX7_tellCalm_111 : decode cX7_tellCalm 111 = .ok (.i2l, 1) := by decide +kernel
theorem dX7_tellCalm_112 : decode cX7_tellCalm 112 = .ok (.goto 8, 3) := by decide +kernel
theorem dX7_tellCalm_115 : decode cX7_tellCalm 115 = .ok (.bipush 12, 2) := by decide +kernel
theorem dX7_tellCalm_117 : decode cX7_tellCalm 117 = .ok (.iload_n 1, 1) := by decide +kernel
theorem dX7_tellCalm_118 : decode cX7_tellCalm 118 = .ok (.isub, 1) := by decide +kernel
theorem dX7_tellCalm_119 : decode cX7_tellCalm 119 = .ok (.i2l, 1) := by decide +kernel
theorem dX7_tellCalm_120 : decode cX7_tellCalm 120 = .ok (.lmul, 1) := by decide +kernel
theorem dX7_tellCalm_121 : decode cX7_tellCalm 121 = .ok (.lstore 11, 2) := by decide +kernel
theorem dX7_tellCalm_123 : decode cX7_tellCalm 123 = .ok (.iload 10, 2) := by decide +kernel
theorem dX7_tellCalm_125 : decode cX7_tellCalm 125 = .ok (.aload_n 0, 1) := by decide +kernel
theorem dX7_tellCalm_126 : decode cX7_tellCalm 126 = .ok (.iconst 0, 1) := by decide +kernel
theorem dX7_tellCalm_127 : decode cX7_tellCalm 127 = .ok (.iload 13, 2) := by decide +kernel
theorem dX7_tellCalm_129 : decode cX7_tellCalm 129 = .ok (.iload 8, 2) := by decide +kernel
theorem dX7_tellCalm_131 : decode cX7_tellCalm 131 = .ok (.iload 9, 2) := by decide +kernel
theorem dX7_tellCalm_133 : decode cX7_tellCalm 133 = .ok (.invokestatic 170, 3) := by decide +kernel
theorem dX7_tellCalm_136 : decode cX7_tellCalm 136 = .ok (.ifCond .eq 7, 3) := by decide +kernel
theorem dX7_tellCalm_139 : decode cX7_tellCalm 139 = .ok (.iconst 0, 1) := by decide +kernel
theorem dX7_tellCalm_140 : decode cX7_tellCalm 140 = .ok (.goto 16, 3) := by decide +kernel
theorem dX7_tellCalm_143 : decode cX7_tellCalm 143 = .ok (.aload_n 0, 1) := by decide +kernel
theorem dX7_tellCalm_144 : decode cX7_tellCalm 144 = .ok (.aload_n 0, 1) := by decide +kernel
theorem dX7_tellCalm_145 : decode cX7_tellCalm 145 = .ok (.getfield 7, 3) := by decide +kernel
theorem dX7_tellCalm_148 : decode cX7_tellCalm 148 = .ok (.iconst 1, 1) := by decide +kernel
theorem dX7_tellCalm_149 : decode cX7_tellCalm 149 = .ok (.iaload, 1) := by decide +kernel
theorem dX7_tellCalm_150 : decode cX7_tellCalm 150 = .ok (.iload 9, 2) := by decide +kernel
theorem dX7_tellCalm_152 : decode cX7_tellCalm 152 = .ok (.iadd, 1) := by decide +kernel
theorem dX7_tellCalm_153 : decode cX7_tellCalm 153 = .ok (.invokevirtual 164, 3) := by decide +kernel
theorem dX7_tellCalm_156 : decode cX7_tellCalm 156 = .ok (.invokevirtual 167, 3) := by decide +kernel
theorem dX7_tellCalm_159 : decode cX7_tellCalm 159 = .ok (.iadd, 1) := by decide +kernel
theorem dX7_tellCalm_160 : decode cX7_tellCalm 160 = .ok (.istore 10, 2) := by decide +kernel
theorem dX7_tellCalm_162 : decode cX7_tellCalm 162 = .ok (.iinc 9 1, 3) := by decide +kernel
theorem dX7_tellCalm_165 : decode cX7_tellCalm 165 = .ok (.iinc 13 1, 3) := by decide +kernel
theorem dX7_tellCalm_168 : decode cX7_tellCalm 168 = .ok (.goto (-93), 3) := by decide +kernel
theorem dX7_tellCalm_171 : decode cX7_tellCalm 171 = .ok (.lload 4, 2) := by decide +kernel
theorem dX7_tellCalm_173 : decode cX7_tellCalm 173 = .ok (.iload_n 2, 1) := by decide +kernel
theorem dX7_tellCalm_174 : decode cX7_tellCalm 174 = .ok (.ifCond .eq 12, 3) := by decide +kernel
theorem dX7_tellCalm_177 : decode cX7_tellCalm 177 = .ok (.lload 11, 2) := by decide +kernel
theorem dX7_tellCalm_179 : decode cX7_tellCalm 179 = .ok (.iload 10, 2) := by decide +kernel
theorem dX7_tellCalm_181 : decode cX7_tellCalm 181 = .ok (.i2l, 1) := by decide +kernel
theorem dX7_tellCalm_182 : decode cX7_tellCalm 182 = .ok (.lmul, 1) := by decide +kernel
theorem dX7_tellCalm_183 : decode cX7_tellCalm 183 = .ok (.goto 18, 3) := by decide +kernel
theorem dX7_tellCalm_186 : decode cX7_tellCalm 186 = .ok (.iload 10, 2) := by decide +kernel
theorem dX7_tellCalm_188 : decode cX7_tellCalm 188 = .ok (.aload_n 0, 1) := by decide +kernel
theorem dX7_tellCalm_189 : decode cX7_tellCalm 189 = .ok (.getfield 147, 3) := by decide +kernel
theorem dX7_tellCalm_192 : decode cX7_tellCalm 192 = .ok (.if_icmp .lt 8, 3) := by decide +kernel
theorem dX7_tellCalm_195 : decode cX7_tellCalm 195 = .ok (.lload 11, 2) := by decide +kernel
theorem dX7_tellCalm_197 : decode cX7_tellCalm 197 = .ok (.goto 4, 3) := by decide +kernel
theorem dX7_tellCalm_200 : decode cX7_tellCalm 200 = .ok (.lconst 0, 1) := by decide +kernel
theorem dX7_tellCalm_201 : decode cX7_tellCalm 201 = .ok (.ladd, 1) := by decide +kernel
theorem dX7_tellCalm_202 : decode cX7_tellCalm 202 = .ok (.lstore 4, 2) := by decide +kernel
theorem dX7_tellCalm_204 : decode cX7_tellCalm 204 = .ok (.lload 6, 2) := by decide +kernel
theorem dX7_tellCalm_206 : decode cX7_tellCalm 206 = .ok (.lload 11, 2) := by decide +kernel
theorem dX7_tellCalm_208 : decode cX7_tellCalm 208 = .ok (.ladd, 1) := by decide +kernel
theorem dX7_tellCalm_209 : decode cX7_tellCalm 209 = .ok (.lstore 6, 2) := by decide +kernel
theorem dX7_tellCalm_211 : decode cX7_tellCalm 211 = .ok (.iinc 8 1, 3) := by decide +kernel
theorem dX7_tellCalm_214 : decode cX7_tellCalm 214 = .ok (.goto (-163), 3) := by decide +kernel
theorem dX7_tellCalm_217 : decode cX7_tellCalm 217 = .ok (.aload_n 0, 1) := by decide +kernel
theorem dX7_tellCalm_218 : decode cX7_tellCalm 218 = .ok (.lload 4, 2) := by decide +kernel
theorem dX7_tellCalm_220 : decode cX7_tellCalm 220 = .ok (.lload 6, 2) := by decide +kernel
theorem dX7_tellCalm_222 : decode cX7_tellCalm 222 = .ok (.invokevirtual 264, 3) := by decide +kernel
theorem dX7_tellCalm_225 : decode cX7_tellCalm 225 = .ok (.iconst 1, 1) := by decide +kernel
theorem dX7_tellCalm_226 : decode cX7_tellCalm 226 = .ok (.ireturn, 1) := by decide +kernel
theorem dX7_odds_0 : decode cX7_odds 0 = .ok (.iload_n 1, 1) := by decide +kernel
theorem dX7_odds_1 : decode cX7_odds 1 = .ok (.i2l, 1) := by decide +kernel
theorem dX7_odds_2 : decode cX7_odds 2 = .ok (.lconst 0, 1) := by decide +kernel
theorem dX7_odds_3 : decode cX7_odds 3 = .ok (.ldc2_w 268, 3) := by decide +kernel
theorem dX7_odds_6 : decode cX7_odds 6 = .ok (.invokestatic 77, 3) := by decide +kernel
theorem dX7_odds_9 : decode cX7_odds 9 = .ok (.ifCond .ne 5, 3) := by decide +kernel
theorem dX7_odds_12 : decode cX7_odds 12 = .ok (.iconst (-1), 1) := by decide +kernel
theorem dX7_odds_13 : decode cX7_odds 13 = .ok (.ireturn, 1) := by decide +kernel
theorem dX7_odds_14 : decode cX7_odds 14 = .ok (.aload_n 0, 1) := by decide +kernel
theorem dX7_odds_15 : decode cX7_odds 15 = .ok (.getfield 150, 3) := by decide +kernel
theorem dX7_odds_18 : decode cX7_odds 18 = .ok (.ifCond .ne 8, 3) := by decide +kernel
theorem dX7_odds_21 : decode cX7_odds 21 = .ok (.bipush (-4), 2) := by decide +kernel
theorem dX7_odds_23 : decode cX7_odds 23 = .ok (.goto 9, 3) := by decide +kernel
theorem dX7_odds_26 : decode cX7_odds 26 = .ok (.aload_n 0, 1) := by decide +kernel
theorem dX7_odds_27 : decode cX7_odds 27 = .ok (.iload_n 1, 1) := by decide +kernel
theorem dX7_odds_28 : decode cX7_odds 28 = .ok (.iconst 0, 1) := by decide +kernel
theorem dX7_odds_29 : decode cX7_odds 29 = .ok (.invokevirtual 270, 3) := by decide +kernel
theorem dX7_odds_32 : decode cX7_odds 32 = .ok (.ireturn, 1) := by decide +kernel
theorem dX7_mid_0 : decode cX7_mid 0 = .ok (.iload_n 1, 1) := by decide +kernel
theorem dX7_mid_1 : decode cX7_mid 1 = .ok (.i2l, 1) := by decide +kernel
theorem dX7_mid_2 : decode cX7_mid 2 = .ok (.lconst 0, 1) := by decide +kernel
theorem dX7_mid_3 : decode cX7_mid 3 = .ok (.ldc2_w 268, 3) := by decide +kernel
theorem dX7_mid_6 : decode cX7_mid 6 = .ok (.invokestatic 77, 3) := by decide +kernel
theorem dX7_mid_9 : decode cX7_mid 9 = .ok (.ifCond .ne 5, 3) := by decide +kernel
theorem dX7_mid_12 : decode cX7_mid 12 = .ok (.iconst (-1), 1) := by decide +kernel
theorem dX7_mid_13 : decode cX7_mid 13 = .ok (.ireturn, 1) := by decide +kernel
theorem dX7_mid_14 : decode cX7_mid 14 = .ok (.aload_n 0, 1) := by decide +kernel
theorem dX7_mid_15 : decode cX7_mid 15 = .ok (.getfield 150, 3) := by decide +kernel
theorem dX7_mid_18 : decode cX7_mid 18 = .ok (.ifCond .ne 8, 3) := by decide +kernel
theorem dX7_mid_21 : decode cX7_mid 21 = .ok (.bipush (-4), 2) := by decide +kernel
theorem dX7_mid_23 : decode cX7_mid 23 = .ok (.goto 9, 3) := by decide +kernel
theorem dX7_mid_26 : decode cX7_mid 26 = .ok (.aload_n 0, 1) := by decide +kernel
theorem dX7_mid_27 : decode cX7_mid 27 = .ok (.iload_n 1, 1) := by decide +kernel
theorem dX7_mid_28 : decode cX7_mid 28 = .ok (.iconst 1, 1) := by decide +kernel
theorem dX7_mid_29 : decode cX7_mid 29 = .ok (.invokevirtual 270, 3) := by decide +kernel
theorem dX7_mid_32 : decode cX7_mid 32 = .ok (.ireturn, 1) := by decide +kernel
theorem dX7_lots_0 : decode cX7_lots 0 = .ok (.iload_n 1, 1) := by decide +kernel
theorem dX7_lots_1 : decode cX7_lots 1 = .ok (.i2l, 1) := by decide +kernel
theorem dX7_lots_2 : decode cX7_lots 2 = .ok (.lconst 1, 1) := by decide +kernel
theorem dX7_lots_3 : decode cX7_lots 3 = .ok (.ldc2_w 274, 3) := by decide +kernel
theorem dX7_lots_6 : decode cX7_lots 6 = .ok (.invokestatic 77, 3) := by decide +kernel
theorem dX7_lots_9 : decode cX7_lots 9 = .ok (.ifCond .eq 15, 3) := by decide +kernel
theorem dX7_lots_12 : decode cX7_lots 12 = .ok (.iload_n 2, 1) := by decide +kernel
theorem dX7_lots_13 : decode cX7_lots 13 = .ok (.i2l, 1) := by decide +kernel
theorem dX7_lots_14 : decode cX7_lots 14 = .ok (.lconst 1, 1) := by decide +kernel
theorem dX7_lots_15 : decode cX7_lots 15 = .ok (.ldc2_w 276, 3) := by decide +kernel
theorem dX7_lots_18 : decode cX7_lots 18 = .ok (.invokestatic 77, 3) := by decide +kernel
theorem dX7_lots_21 : decode cX7_lots 21 = .ok (.ifCond .ne 5, 3) := by decide +kernel
theorem dX7_lots_24 : decode cX7_lots 24 = .ok (.iconst (-1), 1) := by decide +kernel
theorem dX7_lots_25 : decode cX7_lots 25 = .ok (.ireturn, 1) := by decide +kernel
theorem dX7_lots_26 : decode cX7_lots 26 = .ok (.aload_n 0, 1) := by decide +kernel
theorem dX7_lots_27 : decode cX7_lots 27 = .ok (.getfield 150, 3) := by decide +kernel
theorem dX7_lots_30 : decode cX7_lots 30 = .ok (.ifCond .ne 6, 3) := by decide +kernel
theorem dX7_lots_33 : decode cX7_lots 33 = .ok (.bipush (-4), 2) := by decide +kernel
theorem dX7_lots_35 : decode cX7_lots 35 = .ok (.ireturn, 1) := by decide +kernel
theorem dX7_lots_36 : decode cX7_lots 36 = .ok (.aload_n 0, 1) := by decide +kernel
theorem dX7_lots_37 : decode cX7_lots 37 = .ok (.getfield 7, 3) := by decide +kernel
theorem dX7_lots_40 : decode cX7_lots 40 = .ok (.iconst 0, 1) := by decide +kernel
theorem dX7_lots_41 : decode cX7_lots 41 = .ok (.iaload, 1) := by decide +kernel
theorem dX7_lots_42 : decode cX7_lots 42 = .ok (.iload_n 1, 1) := by decide +kernel
theorem dX7_lots_43 : decode cX7_lots 43 = .ok (.iadd, 1) := by decide +kernel
theorem dX7_lots_44 : decode cX7_lots 44 = .ok (.bipush 40, 2) := by decide +kernel
theorem dX7_lots_46 : decode cX7_lots 46 = .ok (.if_icmp .le 6, 3) := by decide +kernel
theorem dX7_lots_49 : decode cX7_lots 49 = .ok (.bipush (-2), 2) := by decide +kernel
theorem dX7_lots_51 : decode cX7_lots 51 = .ok (.ireturn, 1) := by decide +kernel
theorem dX7_lots_52 : decode cX7_lots 52 = .ok (.iload_n 2, 1) := by decide +kernel
theorem dX7_lots_53 : decode cX7_lots 53 = .ok (.i2l, 1) := by decide +kernel
theorem dX7_lots_54 : decode cX7_lots 54 = .ok (.lstore_n 3, 1) := by decide +kernel
theorem dX7_lots_55 : decode cX7_lots 55 = .ok (.iconst 0, 1) := by decide +kernel
theorem dX7_lots_56 : decode cX7_lots 56 = .ok (.istore 5, 2) := by decide +kernel
theorem dX7_lots_58 : decode cX7_lots 58 = .ok (.iload 5, 2) := by decide +kernel
theorem dX7_lots_60 : decode cX7_lots 60 = .ok (.iload_n 1, 1) := by decide +kernel
theorem dX7_lots_61 : decode cX7_lots 61 = .ok (.if_icmp .ge 111, 3) := by decide +kernel
theorem dX7_lots_64 : decode cX7_lots 64 = .ok (.lload_n 3, 1) := by decide +kernel
theorem dX7_lots_65 : decode cX7_lots 65 = .ok (.ldc2_w 278, 3) := by decide +kernel
theorem dX7_lots_68 : decode cX7_lots 68 = .ok (.lmul, 1) := by decide +kernel
theorem dX7_lots_69 : decode cX7_lots 69 = .ok (.ldc2_w 280, 3) := by decide +kernel
theorem dX7_lots_72 : decode cX7_lots 72 = .ok (.lrem, 1) := by decide +kernel
theorem dX7_lots_73 : decode cX7_lots 73 = .ok (.lstore_n 3, 1) := by decide +kernel
theorem dX7_lots_74 : decode cX7_lots 74 = .ok (.lload_n 3, 1) := by decide +kernel
theorem dX7_lots_75 : decode cX7_lots 75 = .ok (.ldc2_w 282, 3) := by decide +kernel
theorem dX7_lots_78 : decode cX7_lots 78 = .ok (.ldiv, 1) := by decide +kernel
theorem dX7_lots_79 : decode cX7_lots 79 = .ok (.aload_n 0, 1) := by decide +kernel
theorem dX7_lots_80 : decode cX7_lots 80 = .ok (.getfield 150, 3) := by decide +kernel
theorem dX7_lots_83 : decode cX7_lots 83 = .ok (.i2l, 1) := by decide +kernel
theorem dX7_lots_84 : decode cX7_lots 84 = .ok (.lrem, 1) := by decide +kernel
theorem dX7_lots_85 : decode cX7_lots 85 = .ok (.l2i, 1) := by decide +kernel
theorem dX7_lots_86 : decode cX7_lots 86 = .ok (.istore 6, 2) := by decide +kernel
theorem dX7_lots_88 : decode cX7_lots 88 = .ok (.aload_n 0, 1) := by decide +kernel
theorem dX7_lots_89 : decode cX7_lots 89 = .ok (.invokevirtual 196, 3) := by decide +kernel
theorem dX7_lots_92 : decode cX7_lots 92 = .ok (.aload_n 0, 1) := by decide +kernel
theorem dX7_lots_93 : decode cX7_lots 93 = .ok (.getfield 7, 3) := by decide +kernel
theorem dX7_lots_96 : decode cX7_lots 96 = .ok (.iconst 2, 1) := by decide +kernel
theorem dX7_lots_97 : decode cX7_lots 97 = .ok (.iaload, 1) := by decide +kernel
theorem dX7_lots_98 : decode cX7_lots 98 = .ok (.iload 6, 2) := by decide +kernel
theorem dX7_lots_100 : decode cX7_lots 100 = .ok (.invokestatic 170, 3) := by decide +kernel
theorem dX7_lots_103 : decode cX7_lots 103 = .ok (.ifCond .ne 14, 3) := by decide +kernel
theorem dX7_lots_106 : decode cX7_lots 106 = .ok (.aload_n 0, 1) := by decide +kernel
theorem dX7_lots_107 : decode cX7_lots 107 = .ok (.iconst 0, 1) := by decide +kernel
theorem dX7_lots_108 : decode cX7_lots 108 = .ok (.iload 6, 2) := by decide +kernel
theorem dX7_lots_110 : decode cX7_lots 110 = .ok (.invokevirtual 199, 3) := by decide +kernel
theorem dX7_lots_113 : decode cX7_lots 113 = .ok (.pop, 1) := by decide +kernel
theorem dX7_lots_114 : decode cX7_lots 114 = .ok (.goto 52, 3) := by decide +kernel
theorem dX7_lots_117 : decode cX7_lots 117 = .ok (.aload_n 0, 1) := by decide +kernel
theorem dX7_lots_118 : decode cX7_lots 118 = .ok (.getfield 7, 3) := by decide +kernel
theorem dX7_lots_121 : decode cX7_lots 121 = .ok (.iconst 4, 1) := by decide +kernel
theorem dX7_lots_122 : decode cX7_lots 122 = .ok (.iload 6, 2) := by decide +kernel
theorem dX7_lots_124 : decode cX7_lots 124 = .ok (.iadd, 1) := by decide +kernel
theorem dX7_lots_125 : decode cX7_lots 125 = .ok (.iaload, 1) := by decide +kernel
theorem dX7_lots_126 : decode cX7_lots 126 = .ok (.iconst 3, 1) := by decide +kernel
theorem dX7_lots_127 : decode cX7_lots 127 = .ok (.if_icmp .ge 29, 3) := by decide +kernel
theorem dX7_lots_130 : decode cX7_lots 130 = .ok (.lload_n 3, 1) := by decide +kernel
theorem dX7_lots_131 : decode cX7_lots 131 = .ok (.ldc2_w 204, 3) := by decide +kernel
theorem dX7_lots_134 : decode cX7_lots 134 = .ok (.lrem, 1) := by decide +kernel
theorem dX7_lots_135 : decode cX7_lots 135 = .ok (.lconst 0, 1) := by decide +kernel
theorem dX7_lots_136 : decode cX7_lots 136 = .ok (.lcmp, 1) := by decide +kernel
theorem dX7_lots_137 : decode cX7_lots 137 = .ok (.ifCond .ne 19, 3) := by decide +kernel
theorem dX7_lots_140 : decode cX7_lots 140 = .ok (.aload_n 0, 1) := by decide +kernel
theorem dX7_lots_141 : decode cX7_lots 141 = .ok (.getfield 7, 3) := by decide +kernel
theorem dX7_lots_144 : decode cX7_lots 144 = .ok (.iconst 4, 1) := by decide +kernel
theorem dX7_lots_145 : decode cX7_lots 145 = .ok (.iload 6, 2) := by decide +kernel
theorem dX7_lots_147 : decode cX7_lots 147 = .ok (.iadd, 1) := by decide +kernel
theorem dX7_lots_148 : decode cX7_lots 148 = .ok (.dup2, 1) := by decide +kernel
theorem dX7_lots_149 : decode cX7_lots 149 = .ok (.iaload, 1) := by decide +kernel
theorem dX7_lots_150 : decode cX7_lots 150 = .ok (.iconst 1, 1) := by decide +kernel
theorem dX7_lots_151 : decode cX7_lots 151 = .ok (.iadd, 1) := by decide +kernel
theorem dX7_lots_152 : decode cX7_lots 152 = .ok (.iastore, 1) := by decide +kernel
theorem dX7_lots_153 : decode cX7_lots 153 = .ok (.goto 13, 3) := by decide +kernel
theorem dX7_lots_156 : decode cX7_lots 156 = .ok (.aload_n 0, 1) := by decide +kernel
theorem dX7_lots_157 : decode cX7_lots 157 = .ok (.getfield 7, 3) := by decide +kernel
theorem dX7_lots_160 : decode cX7_lots 160 = .ok (.iconst 1, 1) := by decide +kernel
theorem dX7_lots_161 : decode cX7_lots 161 = .ok (.dup2, 1) := by decide +kernel
theorem dX7_lots_162 : decode cX7_lots 162 = .ok (.iaload, 1) := by decide +kernel
theorem dX7_lots_163 : decode cX7_lots 163 = .ok (.iconst 1, 1) := by decide +kernel
theorem dX7_lots_164 : decode cX7_lots 164 = .ok (.iadd, 1) := by decide +kernel
theorem dX7_lots_165 : decode cX7_lots 165 = .ok (.iastore, 1) := by decide +kernel
theorem dX7_lots_166 : decode cX7_lots 166 = .ok (.iinc 5 1, 3) := by decide +kernel
theorem dX7_lots_169 : decode cX7_lots 169 = .ok (.goto (-111), 3) := by decide +kernel
theorem dX7_lots_172 : decode cX7_lots 172 = .ok (.aload_n 0, 1) := by decide +kernel
theorem dX7_lots_173 : decode cX7_lots 173 = .ok (.iconst 0, 1) := by decide +kernel
theorem dX7_lots_174 : decode cX7_lots 174 = .ok (.invokevirtual 224, 3) := by decide +kernel
theorem dX7_lots_177 : decode cX7_lots 177 = .ok (.ireturn, 1) := by decide +kernel
theorem dX7_asked_0 : decode cX7_asked 0 = .ok (.aload_n 0, 1) := by decide +kernel
theorem dX7_asked_1 : decode cX7_asked 1 = .ok (.getfield 72, 3) := by decide +kernel
theorem dX7_asked_4 : decode cX7_asked 4 = .ok (.ireturn, 1) := by decide +kernel
theorem dX7_upper_0 : decode cX7_upper 0 = .ok (.aload_n 0, 1) := by decide +kernel
theorem dX7_upper_1 : decode cX7_upper 1 = .ok (.getfield 261, 3) := by decide +kernel
theorem dX7_upper_4 : decode cX7_upper 4 = .ok (.lreturn, 1) := by decide +kernel
theorem dX7_lower_0 : decode cX7_lower 0 = .ok (.aload_n 0, 1) := by decide +kernel
theorem dX7_lower_1 : decode cX7_lower 1 = .ok (.getfield 37, 3) := by decide +kernel
theorem dX7_lower_4 : decode cX7_lower 4 = .ok (.lreturn, 1) := by decide +kernel
theorem dX7_boxes_0 : decode cX7_boxes 0 = .ok (.iconst 0, 1) := by decide +kernel
theorem dX7_boxes_1 : decode cX7_boxes 1 = .ok (.istore_n 1, 1) := by decide +kernel
theorem dX7_boxes_2 : decode cX7_boxes 2 = .ok (.iconst 0, 1) := by decide +kernel
theorem dX7_boxes_3 : decode cX7_boxes 3 = .ok (.istore_n 2, 1) := by decide +kernel
theorem dX7_boxes_4 : decode cX7_boxes 4 = .ok (.iload_n 2, 1) := by decide +kernel
theorem dX7_boxes_5 : decode cX7_boxes 5 = .ok (.aload_n 0, 1) := by decide +kernel
theorem dX7_boxes_6 : decode cX7_boxes 6 = .ok (.getfield 150, 3) := by decide +kernel
theorem dX7_boxes_9 : decode cX7_boxes 9 = .ok (.if_icmp .ge 26, 3) := by decide +kernel
theorem dX7_boxes_12 : decode cX7_boxes 12 = .ok (.iload_n 1, 1) := by decide +kernel
theorem dX7_boxes_13 : decode cX7_boxes 13 = .ok (.aload_n 0, 1) := by decide +kernel
theorem dX7_boxes_14 : decode cX7_boxes 14 = .ok (.iload_n 2, 1) := by decide +kernel
theorem dX7_boxes_15 : decode cX7_boxes 15 = .ok (.iconst 3, 1) := by decide +kernel
theorem dX7_boxes_16 : decode cX7_boxes 16 = .ok (.invokevirtual 182, 3) := by decide +kernel
theorem dX7_boxes_19 : decode cX7_boxes 19 = .ok (.ifCond .eq 7, 3) := by decide +kernel
theorem dX7_boxes_22 : decode cX7_boxes 22 = .ok (.iconst 1, 1) := by decide +kernel
theorem dX7_boxes_23 : decode cX7_boxes 23 = .ok (.goto 4, 3) := by decide +kernel
theorem dX7_boxes_26 : decode cX7_boxes 26 = .ok (.iconst 0, 1) := by decide +kernel
theorem dX7_boxes_27 : decode cX7_boxes 27 = .ok (.iadd, 1) := by decide +kernel
theorem dX7_boxes_28 : decode cX7_boxes 28 = .ok (.istore_n 1, 1) := by decide +kernel
theorem dX7_boxes_29 : decode cX7_boxes 29 = .ok (.iinc 2 1, 3) := by decide +kernel
theorem dX7_boxes_32 : decode cX7_boxes 32 = .ok (.goto (-28), 3) := by decide +kernel
theorem dX7_boxes_35 : decode cX7_boxes 35 = .ok (.iload_n 1, 1) := by decide +kernel
theorem dX7_boxes_36 : decode cX7_boxes 36 = .ok (.ireturn, 1) := by decide +kernel
theorem dX7_thereOf_0 : decode cX7_thereOf 0 = .ok (.iconst 0, 1) := by decide +kernel
theorem dX7_thereOf_1 : decode cX7_thereOf 1 = .ok (.istore_n 2, 1) := by decide +kernel
theorem dX7_thereOf_2 : decode cX7_thereOf 2 = .ok (.iconst 0, 1) := by decide +kernel
theorem dX7_thereOf_3 : decode cX7_thereOf 3 = .ok (.istore_n 3, 1) := by decide +kernel
theorem dX7_thereOf_4 : decode cX7_thereOf 4 = .ok (.iload_n 3, 1) := by decide +kernel
theorem dX7_thereOf_5 : decode cX7_thereOf 5 = .ok (.bipush 6, 2) := by decide +kernel
theorem dX7_thereOf_7 : decode cX7_thereOf 7 = .ok (.if_icmp .ge 90, 3) := by decide +kernel
theorem dX7_thereOf_10 : decode cX7_thereOf 10 = .ok (.iload_n 2, 1) := by decide +kernel
theorem dX7_thereOf_11 : decode cX7_thereOf 11 = .ok (.iload_n 1, 1) := by decide +kernel
theorem dX7_thereOf_12 : decode cX7_thereOf 12 = .ok (.bipush 8, 2) := by decide +kernel
theorem dX7_thereOf_14 : decode cX7_thereOf 14 = .ok (.if_icmp .ne 20, 3) := by decide +kernel
theorem dX7_thereOf_17 : decode cX7_thereOf 17 = .ok (.aload_n 0, 1) := by decide +kernel
theorem dX7_thereOf_18 : decode cX7_thereOf 18 = .ok (.getfield 25, 3) := by decide +kernel
theorem dX7_thereOf_21 : decode cX7_thereOf 21 = .ok (.iload_n 3, 1) := by decide +kernel
theorem dX7_thereOf_22 : decode cX7_thereOf 22 = .ok (.iaload, 1) := by decide +kernel
theorem dX7_thereOf_23 : decode cX7_thereOf 23 = .ok (.ifCond .ge 7, 3) := by decide +kernel
theorem dX7_thereOf_26 : decode cX7_thereOf 26 = .ok (.iconst 0, 1) := by decide +kernel
theorem dX7_thereOf_27 : decode cX7_thereOf 27 = .ok (.goto 62, 3) := by decide +kernel
theorem dX7_thereOf_30 : decode cX7_thereOf 30 = .ok (.iconst 1, 1) := by decide +kernel
theorem dX7_thereOf_31 : decode cX7_thereOf 31 = .ok (.goto 58, 3) := by decide +kernel
theorem dX7_thereOf_34 : decode cX7_thereOf 34 = .ok (.iload_n 1, 1) := by decide +kernel
theorem dX7_thereOf_35 : decode cX7_thereOf 35 = .ok (.bipush 9, 2) := by decide +kernel
theorem dX7_thereOf_37 : decode cX7_thereOf 37 = .ok (.if_icmp .ne 25, 3) := by decide +kernel
theorem dX7_thereOf_40 : decode cX7_thereOf 40 = .ok (.iload_n 3, 1) := by decide +kernel
theorem dX7_thereOf_41 : decode cX7_thereOf 41 = .ok (.iconst 4, 1) := by decide +kernel
theorem dX7_thereOf_42 : decode cX7_thereOf 42 = .ok (.if_icmp .ge 16, 3) := by decide +kernel
theorem dX7_thereOf_45 : decode cX7_thereOf 45 = .ok (.aload_n 0, 1) := by decide +kernel
theorem dX7_thereOf_46 : decode cX7_thereOf 46 = .ok (.getfield 31, 3) := by decide +kernel
theorem dX7_thereOf_49 : decode cX7_thereOf 49 = .ok (.iload_n 3, 1) := by decide +kernel
theorem dX7_thereOf_50 : decode cX7_thereOf 50 = .ok (.iaload, 1) := by decide +kernel
theorem dX7_thereOf_51 : decode cX7_thereOf 51 = .ok (.ifCond .lt 7, 3) := by decide +kernel
theorem dX7_thereOf_54 : decode cX7_thereOf 54 = .ok (.iconst 1, 1) := by decide +kernel
theorem dX7_thereOf_55 : decode cX7_thereOf 55 = .ok (.goto 34, 3) := by decide +kernel
theorem dX7_thereOf_58 : decode cX7_thereOf 58 = .ok (.iconst 0, 1) := by decide +kernel
theorem dX7_thereOf_59 : decode cX7_thereOf 59 = .ok (.goto 30, 3) := by decide +kernel
theorem dX7_thereOf_62 : decode cX7_thereOf 62 = .ok (.iload_n 3, 1) := by decide +kernel
theorem dX7_thereOf_63 : decode cX7_thereOf 63 = .ok (.iconst 3, 1) := by decide +kernel
theorem dX7_thereOf_64 : decode cX7_thereOf 64 = .ok (.if_icmp .ge 24, 3) := by decide +kernel
theorem dX7_thereOf_67 : decode cX7_thereOf 67 = .ok (.aload_n 0, 1) := by decide +kernel
theorem dX7_thereOf_68 : decode cX7_thereOf 68 = .ok (.getfield 7, 3) := by decide +kernel
theorem dX7_thereOf_71 : decode cX7_thereOf 71 = .ok (.sipush 616, 3) := by decide +kernel
theorem dX7_thereOf_74 : decode cX7_thereOf 74 = .ok (.iconst 1, 1) := by decide +kernel
theorem dX7_thereOf_75 : decode cX7_thereOf 75 = .ok (.iload_n 3, 1) := by decide +kernel
theorem dX7_thereOf_76 : decode cX7_thereOf 76 = .ok (.iadd, 1) := by decide +kernel
theorem dX7_thereOf_77 : decode cX7_thereOf 77 = .ok (.imul, 1) := by decide +kernel
theorem dX7_thereOf_78 : decode cX7_thereOf 78 = .ok (.iconst 0, 1) := by decide +kernel
theorem dX7_thereOf_79 : decode cX7_thereOf 79 = .ok (.iadd, 1) := by decide +kernel
theorem dX7_thereOf_80 : decode cX7_thereOf 80 = .ok (.iaload, 1) := by decide +kernel
theorem dX7_thereOf_81 : decode cX7_thereOf 81 = .ok (.ifCond .lt 7, 3) := by decide +kernel
theorem dX7_thereOf_84 : decode cX7_thereOf 84 = .ok (.iconst 1, 1) := by decide +kernel
theorem dX7_thereOf_85 : decode cX7_thereOf 85 = .ok (.goto 4, 3) := by decide +kernel
theorem dX7_thereOf_88 : decode cX7_thereOf 88 = .ok (.iconst 0, 1) := by decide +kernel
theorem dX7_thereOf_89 : decode cX7_thereOf 89 = .ok (.iadd, 1) := by decide +kernel
theorem dX7_thereOf_90 : decode cX7_thereOf 90 = .ok (.istore_n 2, 1) := by decide +kernel
theorem dX7_thereOf_91 : decode cX7_thereOf 91 = .ok (.iinc 3 1, 3) := by decide +kernel
theorem dX7_thereOf_94 : decode cX7_thereOf 94 = .ok (.goto (-90), 3) := by decide +kernel
theorem dX7_thereOf_97 : decode cX7_thereOf 97 = .ok (.iload_n 2, 1) := by decide +kernel
theorem dX7_thereOf_98 : decode cX7_thereOf 98 = .ok (.ireturn, 1) := by decide +kernel
theorem dX7_countOf_0 : decode cX7_countOf 0 = .ok (.iload_n 1, 1) := by decide +kernel
theorem dX7_countOf_1 : decode cX7_countOf 1 = .ok (.tableswitch 123 0 11 #[63, 68, 75, 82, 93, 100, 107, 113, 123, 123, 123, 118], 63) := by decide +kernel
theorem dX7_countOf_64 : decode cX7_countOf 64 = .ok (.aload_n 0, 1) := by decide +kernel
theorem dX7_countOf_65 : decode cX7_countOf 65 = .ok (.getfield 150, 3) := by decide +kernel
theorem dX7_countOf_68 : decode cX7_countOf 68 = .ok (.ireturn, 1) := by decide +kernel
theorem dX7_countOf_69 : decode cX7_countOf 69 = .ok (.aload_n 0, 1) := by decide +kernel
theorem dX7_countOf_70 : decode cX7_countOf 70 = .ok (.getfield 7, 3) := by decide +kernel
theorem dX7_countOf_73 : decode cX7_countOf 73 = .ok (.iconst 1, 1) := by decide +kernel
theorem dX7_countOf_74 : decode cX7_countOf 74 = .ok (.iaload, 1) := by decide +kernel
theorem dX7_countOf_75 : decode cX7_countOf 75 = .ok (.ireturn, 1) := by decide +kernel
theorem dX7_countOf_76 : decode cX7_countOf 76 = .ok (.aload_n 0, 1) := by decide +kernel
theorem dX7_countOf_77 : decode cX7_countOf 77 = .ok (.getfield 7, 3) := by decide +kernel
theorem dX7_countOf_80 : decode cX7_countOf 80 = .ok (.iconst 0, 1) := by decide +kernel
theorem dX7_countOf_81 : decode cX7_countOf 81 = .ok (.iaload, 1) := by decide +kernel
theorem dX7_countOf_82 : decode cX7_countOf 82 = .ok (.ireturn, 1) := by decide +kernel
theorem dX7_countOf_83 : decode cX7_countOf 83 = .ok (.aload_n 0, 1) := by decide +kernel
theorem dX7_countOf_84 : decode cX7_countOf 84 = .ok (.aload_n 0, 1) := by decide +kernel
theorem dX7_countOf_85 : decode cX7_countOf 85 = .ok (.getfield 7, 3) := by decide +kernel
theorem dX7_countOf_88 : decode cX7_countOf 88 = .ok (.iconst 1, 1) := by decide +kernel
theorem dX7_countOf_89 : decode cX7_countOf 89 = .ok (.iaload, 1) := by decide +kernel
theorem dX7_countOf_90 : decode cX7_countOf 90 = .ok (.invokevirtual 164, 3) := by decide +kernel
theorem dX7_countOf_93 : decode cX7_countOf 93 = .ok (.ireturn, 1) := by decide +kernel
theorem dX7_countOf_94 : decode cX7_countOf 94 = .ok (.aload_n 0, 1) := by decide +kernel
theorem dX7_countOf_95 : decode cX7_countOf 95 = .ok (.getfield 7, 3) := by decide +kernel
theorem dX7_countOf_98 : decode cX7_countOf 98 = .ok (.iconst 2, 1) := by decide +kernel
theorem dX7_countOf_99 : decode cX7_countOf 99 = .ok (.iaload, 1) := by decide +kernel
theorem dX7_countOf_100 : decode cX7_countOf 100 = .ok (.ireturn, 1) := by decide +kernel
theorem dX7_countOf_101 : decode cX7_countOf 101 = .ok (.aload_n 0, 1) := by decide +kernel
theorem dX7_countOf_102 : decode cX7_countOf 102 = .ok (.getfield 7, 3) := by decide +kernel
theorem dX7_countOf_105 : decode cX7_countOf 105 = .ok (.iconst 3, 1) := by decide +kernel
theorem dX7_countOf_106 : decode cX7_countOf 106 = .ok (.iaload, 1) := by decide +kernel
theorem dX7_countOf_107 : decode cX7_countOf 107 = .ok (.ireturn, 1) := by decide +kernel
theorem dX7_countOf_108 : decode cX7_countOf 108 = .ok (.aload_n 0, 1) := by decide +kernel
theorem dX7_countOf_109 : decode cX7_countOf 109 = .ok (.iconst 0, 1) := by decide +kernel
theorem dX7_countOf_110 : decode cX7_countOf 110 = .ok (.invokevirtual 224, 3) := by decide +kernel
theorem dX7_countOf_113 : decode cX7_countOf 113 = .ok (.ireturn, 1) := by decide +kernel
theorem dX7_countOf_114 : decode cX7_countOf 114 = .ok (.aload_n 0, 1) := by decide +kernel
theorem dX7_countOf_115 : decode cX7_countOf 115 = .ok (.getfield 147, 3) := by decide +kernel
theorem dX7_countOf_118 : decode cX7_countOf 118 = .ok (.ireturn, 1) := by decide +kernel
theorem dX7_countOf_119 : decode cX7_countOf 119 = .ok (.aload_n 0, 1) := by decide +kernel
theorem dX7_countOf_120 : decode cX7_countOf 120 = .ok (.invokevirtual 284, 3) := by decide +kernel
theorem dX7_countOf_123 : decode cX7_countOf 123 = .ok (.ireturn, 1) := by decide +kernel
theorem dX7_countOf_124 : decode cX7_countOf 124 = .ok (.aload_n 0, 1) := by decide +kernel
theorem dX7_countOf_125 : decode cX7_countOf 125 = .ok (.iload_n 1, 1) := by decide +kernel
theorem dX7_countOf_126 : decode cX7_countOf 126 = .ok (.invokevirtual 287, 3) := by decide +kernel
theorem dX7_countOf_129 : decode cX7_countOf 129 = .ok (.ireturn, 1) := by decide +kernel
theorem dX7_count_0 : decode cX7_count 0 = .ok (.iload_n 1, 1) := by decide +kernel
theorem dX7_count_1 : decode cX7_count 1 = .ok (.i2l, 1) := by decide +kernel
theorem dX7_count_2 : decode cX7_count 2 = .ok (.lconst 0, 1) := by decide +kernel
theorem dX7_count_3 : decode cX7_count 3 = .ok (.ldc2_w 290, 3) := by decide +kernel
theorem dX7_count_6 : decode cX7_count 6 = .ok (.invokestatic 77, 3) := by decide +kernel
theorem dX7_count_9 : decode cX7_count 9 = .ok (.ifCond .eq 11, 3) := by decide +kernel
theorem dX7_count_12 : decode cX7_count 12 = .ok (.aload_n 0, 1) := by decide +kernel
theorem dX7_count_13 : decode cX7_count 13 = .ok (.iload_n 1, 1) := by decide +kernel
theorem dX7_count_14 : decode cX7_count 14 = .ok (.invokevirtual 292, 3) := by decide +kernel
theorem dX7_count_17 : decode cX7_count 17 = .ok (.goto 4, 3) := by decide +kernel
theorem dX7_count_20 : decode cX7_count 20 = .ok (.iconst (-1), 1) := by decide +kernel
theorem dX7_count_21 : decode cX7_count 21 = .ok (.ireturn, 1) := by decide +kernel
theorem dX7_finding_0 : decode cX7_finding 0 = .ok (.aload_n 0, 1) := by decide +kernel
theorem dX7_finding_1 : decode cX7_finding 1 = .ok (.getfield 68, 3) := by decide +kernel
theorem dX7_finding_4 : decode cX7_finding 4 = .ok (.ireturn, 1) := by decide +kernel
theorem dX7_findings_0 : decode cX7_findings 0 = .ok (.iload_n 1, 1) := by decide +kernel
theorem dX7_findings_1 : decode cX7_findings 1 = .ok (.i2l, 1) := by decide +kernel
theorem dX7_findings_2 : decode cX7_findings 2 = .ok (.lconst 1, 1) := by decide +kernel
theorem dX7_findings_3 : decode cX7_findings 3 = .ok (.ldc2_w 75, 3) := by decide +kernel
theorem dX7_findings_6 : decode cX7_findings 6 = .ok (.invokestatic 77, 3) := by decide +kernel
theorem dX7_findings_9 : decode cX7_findings 9 = .ok (.ifCond .eq 12, 3) := by decide +kernel
theorem dX7_findings_12 : decode cX7_findings 12 = .ok (.aload_n 0, 1) := by decide +kernel
theorem dX7_findings_13 : decode cX7_findings 13 = .ok (.getfield 41, 3) := by decide +kernel
theorem dX7_findings_16 : decode cX7_findings 16 = .ok (.iload_n 1, 1) := by decide +kernel
theorem dX7_findings_17 : decode cX7_findings 17 = .ok (.iaload, 1) := by decide +kernel
theorem dX7_findings_18 : decode cX7_findings 18 = .ok (.goto 4, 3) := by decide +kernel
theorem dX7_findings_21 : decode cX7_findings 21 = .ok (.iconst (-1), 1) := by decide +kernel
theorem dX7_findings_22 : decode cX7_findings 22 = .ok (.ireturn, 1) := by decide +kernel
theorem dX7_digest_0 : decode cX7_digest 0 = .ok (.ldc2_w 295, 3) := by decide +kernel
theorem dX7_digest_3 : decode cX7_digest 3 = .ok (.lstore_n 1, 1) := by decide +kernel
theorem dX7_digest_4 : decode cX7_digest 4 = .ok (.iconst 0, 1) := by decide +kernel
theorem dX7_digest_5 : decode cX7_digest 5 = .ok (.istore_n 3, 1) := by decide +kernel
theorem dX7_digest_6 : decode cX7_digest 6 = .ok (.iload_n 3, 1) := by decide +kernel
theorem dX7_digest_7 : decode cX7_digest 7 = .ok (.bipush 12, 2) := by decide +kernel
theorem dX7_digest_9 : decode cX7_digest 9 = .ok (.if_icmp .ge 22, 3) := by decide +kernel
theorem dX7_digest_12 : decode cX7_digest 12 = .ok (.ldc2_w 297, 3) := by decide +kernel
theorem dX7_digest_15 : decode cX7_digest 15 = .ok (.lload_n 1, 1) := by decide +kernel
theorem dX7_digest_16 : decode cX7_digest 16 = .ok (.lmul, 1) := by decide +kernel
theorem dX7_digest_17 : decode cX7_digest 17 = .ok (.aload_n 0, 1) := by decide +kernel
theorem dX7_digest_18 : decode cX7_digest 18 = .ok (.iload_n 3, 1) := by decide +kernel
theorem dX7_digest_19 : decode cX7_digest 19 = .ok (.invokevirtual 292, 3) := by decide +kernel
theorem dX7_digest_22 : decode cX7_digest 22 = .ok (.i2l, 1) := by decide +kernel
theorem dX7_digest_23 : decode cX7_digest 23 = .ok (.ladd, 1) := by decide +kernel
theorem dX7_digest_24 : decode cX7_digest 24 = .ok (.lstore_n 1, 1) := by decide +kernel
theorem dX7_digest_25 : decode cX7_digest 25 = .ok (.iinc 3 1, 3) := by decide +kernel
theorem dX7_digest_28 : decode cX7_digest 28 = .ok (.goto (-22), 3) := by decide +kernel
theorem dX7_digest_31 : decode cX7_digest 31 = .ok (.iconst 0, 1) := by decide +kernel
theorem dX7_digest_32 : decode cX7_digest 32 = .ok (.istore_n 3, 1) := by decide +kernel
theorem dX7_digest_33 : decode cX7_digest 33 = .ok (.iload_n 3, 1) := by decide +kernel
theorem dX7_digest_34 : decode cX7_digest 34 = .ok (.iconst 4, 1) := by decide +kernel
theorem dX7_digest_35 : decode cX7_digest 35 = .ok (.if_icmp .ge 23, 3) := by decide +kernel
theorem dX7_digest_38 : decode cX7_digest 38 = .ok (.ldc2_w 297, 3) := by decide +kernel
theorem dX7_digest_41 : decode cX7_digest 41 = .ok (.lload_n 1, 1) := by decide +kernel
theorem dX7_digest_42 : decode cX7_digest 42 = .ok (.lmul, 1) := by decide +kernel
theorem dX7_digest_43 : decode cX7_digest 43 = .ok (.aload_n 0, 1) := by decide +kernel
theorem dX7_digest_44 : decode cX7_digest 44 = .ok (.getfield 13, 3) := by decide +kernel
theorem dX7_digest_47 : decode cX7_digest 47 = .ok (.iload_n 3, 1) := by decide +kernel
theorem dX7_digest_48 : decode cX7_digest 48 = .ok (.iaload, 1) := by decide +kernel
theorem dX7_digest_49 : decode cX7_digest 49 = .ok (.i2l, 1) := by decide +kernel
theorem dX7_digest_50 : decode cX7_digest 50 = .ok (.ladd, 1) := by decide +kernel
theorem dX7_digest_51 : decode cX7_digest 51 = .ok (.lstore_n 1, 1) := by decide +kernel
theorem dX7_digest_52 : decode cX7_digest 52 = .ok (.iinc 3 1, 3) := by decide +kernel
theorem dX7_digest_55 : decode cX7_digest 55 = .ok (.goto (-22), 3) := by decide +kernel
theorem dX7_digest_58 : decode cX7_digest 58 = .ok (.iconst 0, 1) := by decide +kernel
theorem dX7_digest_59 : decode cX7_digest 59 = .ok (.istore_n 3, 1) := by decide +kernel
theorem dX7_digest_60 : decode cX7_digest 60 = .ok (.iload_n 3, 1) := by decide +kernel
theorem dX7_digest_61 : decode cX7_digest 61 = .ok (.bipush 7, 2) := by decide +kernel
theorem dX7_digest_63 : decode cX7_digest 63 = .ok (.aload_n 0, 1) := by decide +kernel
theorem dX7_digest_64 : decode cX7_digest 64 = .ok (.getfield 150, 3) := by decide +kernel
theorem dX7_digest_67 : decode cX7_digest 67 = .ok (.imul, 1) := by decide +kernel
theorem dX7_digest_68 : decode cX7_digest 68 = .ok (.if_icmp .ge 29, 3) := by decide +kernel
theorem dX7_digest_71 : decode cX7_digest 71 = .ok (.ldc2_w 297, 3) := by decide +kernel
theorem dX7_digest_74 : decode cX7_digest 74 = .ok (.lload_n 1, 1) := by decide +kernel
theorem dX7_digest_75 : decode cX7_digest 75 = .ok (.lmul, 1) := by decide +kernel
theorem dX7_digest_76 : decode cX7_digest 76 = .ok (.aload_n 0, 1) := by decide +kernel
theorem dX7_digest_77 : decode cX7_digest 77 = .ok (.iload_n 3, 1) := by decide +kernel
theorem dX7_digest_78 : decode cX7_digest 78 = .ok (.bipush 7, 2) := by decide +kernel
theorem dX7_digest_80 : decode cX7_digest 80 = .ok (.idiv, 1) := by decide +kernel
theorem dX7_digest_81 : decode cX7_digest 81 = .ok (.iload_n 3, 1) := by decide +kernel
theorem dX7_digest_82 : decode cX7_digest 82 = .ok (.bipush 7, 2) := by decide +kernel
theorem dX7_digest_84 : decode cX7_digest 84 = .ok (.irem, 1) := by decide +kernel
theorem dX7_digest_85 : decode cX7_digest 85 = .ok (.invokevirtual 179, 3) := by decide +kernel
theorem dX7_digest_88 : decode cX7_digest 88 = .ok (.i2l, 1) := by decide +kernel
theorem dX7_digest_89 : decode cX7_digest 89 = .ok (.ladd, 1) := by decide +kernel
theorem dX7_digest_90 : decode cX7_digest 90 = .ok (.lstore_n 1, 1) := by decide +kernel
theorem dX7_digest_91 : decode cX7_digest 91 = .ok (.iinc 3 1, 3) := by decide +kernel
theorem dX7_digest_94 : decode cX7_digest 94 = .ok (.goto (-34), 3) := by decide +kernel
theorem dX7_digest_97 : decode cX7_digest 97 = .ok (.iconst 1, 1) := by decide +kernel
theorem dX7_digest_98 : decode cX7_digest 98 = .ok (.istore_n 3, 1) := by decide +kernel
theorem dX7_digest_99 : decode cX7_digest 99 = .ok (.iload_n 3, 1) := by decide +kernel
theorem dX7_digest_100 : decode cX7_digest 100 = .ok (.iconst 4, 1) := by decide +kernel
theorem dX7_digest_101 : decode cX7_digest 101 = .ok (.if_icmp .ge 29, 3) := by decide +kernel
theorem dX7_digest_104 : decode cX7_digest 104 = .ok (.ldc2_w 297, 3) := by decide +kernel
theorem dX7_digest_107 : decode cX7_digest 107 = .ok (.lload_n 1, 1) := by decide +kernel
theorem dX7_digest_108 : decode cX7_digest 108 = .ok (.lmul, 1) := by decide +kernel
theorem dX7_digest_109 : decode cX7_digest 109 = .ok (.aload_n 0, 1) := by decide +kernel
theorem dX7_digest_110 : decode cX7_digest 110 = .ok (.getfield 7, 3) := by decide +kernel
theorem dX7_digest_113 : decode cX7_digest 113 = .ok (.sipush 616, 3) := by decide +kernel
theorem dX7_digest_116 : decode cX7_digest 116 = .ok (.iload_n 3, 1) := by decide +kernel
theorem dX7_digest_117 : decode cX7_digest 117 = .ok (.imul, 1) := by decide +kernel
theorem dX7_digest_118 : decode cX7_digest 118 = .ok (.iconst 0, 1) := by decide +kernel
theorem dX7_digest_119 : decode cX7_digest 119 = .ok (.iadd, 1) := by decide +kernel
theorem dX7_digest_120 : decode cX7_digest 120 = .ok (.iaload, 1) := by decide +kernel
theorem dX7_digest_121 : decode cX7_digest 121 = .ok (.i2l, 1) := by decide +kernel
theorem dX7_digest_122 : decode cX7_digest 122 = .ok (.ladd, 1) := by decide +kernel
theorem dX7_digest_123 : decode cX7_digest 123 = .ok (.lstore_n 1, 1) := by decide +kernel
theorem dX7_digest_124 : decode cX7_digest 124 = .ok (.iinc 3 1, 3) := by decide +kernel
theorem dX7_digest_127 : decode cX7_digest 127 = .ok (.goto (-28), 3) := by decide +kernel
theorem dX7_digest_130 : decode cX7_digest 130 = .ok (.iconst 0, 1) := by decide +kernel
theorem dX7_digest_131 : decode cX7_digest 131 = .ok (.istore_n 3, 1) := by decide +kernel
theorem dX7_digest_132 : decode cX7_digest 132 = .ok (.iload_n 3, 1) := by decide +kernel
theorem dX7_digest_133 : decode cX7_digest 133 = .ok (.bipush 6, 2) := by decide +kernel
theorem dX7_digest_135 : decode cX7_digest 135 = .ok (.if_icmp .ge 63, 3) := by decide +kernel
theorem dX7_digest_138 : decode cX7_digest 138 = .ok (.ldc2_w 297, 3) := by decide +kernel
theorem dX7_digest_141 : decode cX7_digest 141 = .ok (.lload_n 1, 1) := by decide +kernel
theorem dX7_digest_142 : decode cX7_digest 142 = .ok (.lmul, 1) := by decide +kernel
theorem dX7_digest_143 : decode cX7_digest 143 = .ok (.aload_n 0, 1) := by decide +kernel
theorem dX7_digest_144 : decode cX7_digest 144 = .ok (.getfield 25, 3) := by decide +kernel
theorem dX7_digest_147 : decode cX7_digest 147 = .ok (.iload_n 3, 1) := by decide +kernel
theorem dX7_digest_148 : decode cX7_digest 148 = .ok (.iaload, 1) := by decide +kernel
theorem dX7_digest_149 : decode cX7_digest 149 = .ok (.i2l, 1) := by decide +kernel
theorem dX7_digest_150 : decode cX7_digest 150 = .ok (.ladd, 1) := by decide +kernel
theorem dX7_digest_151 : decode cX7_digest 151 = .ok (.lstore_n 1, 1) := by decide +kernel
theorem dX7_digest_152 : decode cX7_digest 152 = .ok (.iconst 0, 1) := by decide +kernel
theorem dX7_digest_153 : decode cX7_digest 153 = .ok (.istore 4, 2) := by decide +kernel
theorem dX7_digest_155 : decode cX7_digest 155 = .ok (.iload 4, 2) := by decide +kernel
theorem dX7_digest_157 : decode cX7_digest 157 = .ok (.aload_n 0, 1) := by decide +kernel
theorem dX7_digest_158 : decode cX7_digest 158 = .ok (.getfield 25, 3) := by decide +kernel
theorem dX7_digest_161 : decode cX7_digest 161 = .ok (.iload_n 3, 1) := by decide +kernel
theorem dX7_digest_162 : decode cX7_digest 162 = .ok (.iaload, 1) := by decide +kernel
theorem dX7_digest_163 : decode cX7_digest 163 = .ok (.if_icmp .ge 29, 3) := by decide +kernel
theorem dX7_digest_166 : decode cX7_digest 166 = .ok (.ldc2_w 297, 3) := by decide +kernel
theorem dX7_digest_169 : decode cX7_digest 169 = .ok (.lload_n 1, 1) := by decide +kernel
theorem dX7_digest_170 : decode cX7_digest 170 = .ok (.lmul, 1) := by decide +kernel
theorem dX7_digest_171 : decode cX7_digest 171 = .ok (.aload_n 0, 1) := by decide +kernel
theorem dX7_digest_172 : decode cX7_digest 172 = .ok (.getfield 28, 3) := by decide +kernel
theorem dX7_digest_175 : decode cX7_digest 175 = .ok (.bipush 40, 2) := by decide +kernel
theorem dX7_digest_177 : decode cX7_digest 177 = .ok (.iload_n 3, 1) := by decide +kernel
theorem dX7_digest_178 : decode cX7_digest 178 = .ok (.imul, 1) := by decide +kernel
theorem dX7_digest_179 : decode cX7_digest 179 = .ok (.iload 4, 2) := by decide +kernel
theorem dX7_digest_181 : decode cX7_digest 181 = .ok (.iadd, 1) := by decide +kernel
theorem dX7_digest_182 : decode cX7_digest 182 = .ok (.iaload, 1) := by decide +kernel
theorem dX7_digest_183 : decode cX7_digest 183 = .ok (.i2l, 1) := by decide +kernel
theorem dX7_digest_184 : decode cX7_digest 184 = .ok (.ladd, 1) := by decide +kernel
theorem dX7_digest_185 : decode cX7_digest 185 = .ok (.lstore_n 1, 1) := by decide +kernel
theorem dX7_digest_186 : decode cX7_digest 186 = .ok (.iinc 4 1, 3) := by decide +kernel
theorem dX7_digest_189 : decode cX7_digest 189 = .ok (.goto (-34), 3) := by decide +kernel
theorem dX7_digest_192 : decode cX7_digest 192 = .ok (.iinc 3 1, 3) := by decide +kernel
theorem dX7_digest_195 : decode cX7_digest 195 = .ok (.goto (-63), 3) := by decide +kernel
theorem dX7_digest_198 : decode cX7_digest 198 = .ok (.iconst 0, 1) := by decide +kernel
theorem dX7_digest_199 : decode cX7_digest 199 = .ok (.istore_n 3, 1) := by decide +kernel
theorem dX7_digest_200 : decode cX7_digest 200 = .ok (.iload_n 3, 1) := by decide +kernel
theorem dX7_digest_201 : decode cX7_digest 201 = .ok (.iconst 4, 1) := by decide +kernel
theorem dX7_digest_202 : decode cX7_digest 202 = .ok (.if_icmp .ge 63, 3) := by decide +kernel
theorem dX7_digest_205 : decode cX7_digest 205 = .ok (.ldc2_w 297, 3) := by decide +kernel
theorem dX7_digest_208 : decode cX7_digest 208 = .ok (.lload_n 1, 1) := by decide +kernel
theorem dX7_digest_209 : decode cX7_digest 209 = .ok (.lmul, 1) := by decide +kernel
theorem dX7_digest_210 : decode cX7_digest 210 = .ok (.aload_n 0, 1) := by decide +kernel
theorem dX7_digest_211 : decode cX7_digest 211 = .ok (.getfield 31, 3) := by decide +kernel
theorem dX7_digest_214 : decode cX7_digest 214 = .ok (.iload_n 3, 1) := by decide +kernel
theorem dX7_digest_215 : decode cX7_digest 215 = .ok (.iaload, 1) := by decide +kernel
theorem dX7_digest_216 : decode cX7_digest 216 = .ok (.i2l, 1) := by decide +kernel
theorem dX7_digest_217 : decode cX7_digest 217 = .ok (.ladd, 1) := by decide +kernel
theorem dX7_digest_218 : decode cX7_digest 218 = .ok (.lstore_n 1, 1) := by decide +kernel
theorem dX7_digest_219 : decode cX7_digest 219 = .ok (.iconst 0, 1) := by decide +kernel
theorem dX7_digest_220 : decode cX7_digest 220 = .ok (.istore 4, 2) := by decide +kernel
theorem dX7_digest_222 : decode cX7_digest 222 = .ok (.iload 4, 2) := by decide +kernel
theorem dX7_digest_224 : decode cX7_digest 224 = .ok (.aload_n 0, 1) := by decide +kernel
theorem dX7_digest_225 : decode cX7_digest 225 = .ok (.getfield 31, 3) := by decide +kernel
theorem dX7_digest_228 : decode cX7_digest 228 = .ok (.iload_n 3, 1) := by decide +kernel
theorem dX7_digest_229 : decode cX7_digest 229 = .ok (.iaload, 1) := by decide +kernel
theorem dX7_digest_230 : decode cX7_digest 230 = .ok (.if_icmp .ge 29, 3) := by decide +kernel
theorem dX7_digest_233 : decode cX7_digest 233 = .ok (.ldc2_w 297, 3) := by decide +kernel
theorem dX7_digest_236 : decode cX7_digest 236 = .ok (.lload_n 1, 1) := by decide +kernel
theorem dX7_digest_237 : decode cX7_digest 237 = .ok (.lmul, 1) := by decide +kernel
theorem dX7_digest_238 : decode cX7_digest 238 = .ok (.aload_n 0, 1) := by decide +kernel
theorem dX7_digest_239 : decode cX7_digest 239 = .ok (.getfield 34, 3) := by decide +kernel
theorem dX7_digest_242 : decode cX7_digest 242 = .ok (.bipush 60, 2) := by decide +kernel
theorem dX7_digest_244 : decode cX7_digest 244 = .ok (.iload_n 3, 1) := by decide +kernel
theorem dX7_digest_245 : decode cX7_digest 245 = .ok (.imul, 1) := by decide +kernel
theorem dX7_digest_246 : decode cX7_digest 246 = .ok (.iload 4, 2) := by decide +kernel
theorem dX7_digest_248 : decode cX7_digest 248 = .ok (.iadd, 1) := by decide +kernel
theorem dX7_digest_249 : decode cX7_digest 249 = .ok (.iaload, 1) := by decide +kernel
theorem dX7_digest_250 : decode cX7_digest 250 = .ok (.i2l, 1) := by decide +kernel
theorem dX7_digest_251 : decode cX7_digest 251 = .ok (.ladd, 1) := by decide +kernel
theorem dX7_digest_252 : decode cX7_digest 252 = .ok (.lstore_n 1, 1) := by decide +kernel
theorem dX7_digest_253 : decode cX7_digest 253 = .ok (.iinc 4 1, 3) := by decide +kernel
theorem dX7_digest_256 : decode cX7_digest 256 = .ok (.goto (-34), 3) := by decide +kernel
theorem dX7_digest_259 : decode cX7_digest 259 = .ok (.iinc 3 1, 3) := by decide +kernel
theorem dX7_digest_262 : decode cX7_digest 262 = .ok (.goto (-62), 3) := by decide +kernel
theorem dX7_digest_265 : decode cX7_digest 265 = .ok (.lload_n 1, 1) := by decide +kernel
theorem dX7_digest_266 : decode cX7_digest 266 = .ok (.lreturn, 1) := by decide +kernel
