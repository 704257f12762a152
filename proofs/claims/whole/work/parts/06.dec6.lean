theorem dX6_init_0 : decode cX6_init 0 = .ok (.aload_n 0, 1) := by decide +kernel
theorem dX6_init_1 : decode cX6_init 1 = .ok (.invokespecial 1, 3) := by decide +kernel
theorem dX6_init_4 : decode cX6_init 4 = .ok (.aload_n 0, 1) := by decide +kernel
theorem dX6_init_5 : decode cX6_init 5 = .ok (.bipush 6, 2) := by decide +kernel
theorem dX6_init_7 : decode cX6_init 7 = .ok (.anewarray 9, 3) := by decide +kernel
theorem dX6_init_10 : decode cX6_init 10 = .ok (.putfield 11, 3) := by decide +kernel
theorem dX6_init_13 : decode cX6_init 13 = .ok (.aload_n 0, 1) := by decide +kernel
theorem dX6_init_14 : decode cX6_init 14 = .ok (.iconst 4, 1) := by decide +kernel
theorem dX6_init_15 : decode cX6_init 15 = .ok (.anewarray 9, 3) := by decide +kernel
theorem dX6_init_18 : decode cX6_init 18 = .ok (.putfield 15, 3) := by decide +kernel
theorem dX6_init_21 : decode cX6_init 21 = .ok (.aload_n 0, 1) := by decide +kernel
theorem dX6_init_22 : decode cX6_init 22 = .ok (.iconst 3, 1) := by decide +kernel
theorem dX6_init_23 : decode cX6_init 23 = .ok (.anewarray 18, 3) := by decide +kernel
theorem dX6_init_26 : decode cX6_init 26 = .ok (.putfield 20, 3) := by decide +kernel
theorem dX6_init_29 : decode cX6_init 29 = .ok (.aload_n 0, 1) := by decide +kernel
theorem dX6_init_30 : decode cX6_init 30 = .ok (.new 18, 3) := by decide +kernel
theorem dX6_init_33 : decode cX6_init 33 = .ok (.dup, 1) := by decide +kernel
theorem dX6_init_34 : decode cX6_init 34 = .ok (.invokespecial 24, 3) := by decide +kernel
theorem dX6_init_37 : decode cX6_init 37 = .ok (.putfield 25, 3) := by decide +kernel
theorem dX6_init_40 : decode cX6_init 40 = .ok (.aload_n 0, 1) := by decide +kernel
theorem dX6_init_41 : decode cX6_init 41 = .ok (.new 18, 3) := by decide +kernel
theorem dX6_init_44 : decode cX6_init 44 = .ok (.dup, 1) := by decide +kernel
theorem dX6_init_45 : decode cX6_init 45 = .ok (.invokespecial 24, 3) := by decide +kernel
theorem dX6_init_48 : decode cX6_init 48 = .ok (.putfield 29, 3) := by decide +kernel
theorem dX6_init_51 : decode cX6_init 51 = .ok (.aload_n 0, 1) := by decide +kernel
theorem dX6_init_52 : decode cX6_init 52 = .ok (.new 32, 3) := by decide +kernel
theorem dX6_init_55 : decode cX6_init 55 = .ok (.dup, 1) := by decide +kernel
theorem dX6_init_56 : decode cX6_init 56 = .ok (.invokespecial 34, 3) := by decide +kernel
theorem dX6_init_59 : decode cX6_init 59 = .ok (.putfield 35, 3) := by decide +kernel
theorem dX6_init_62 : decode cX6_init 62 = .ok (.aload_n 0, 1) := by decide +kernel
theorem dX6_init_63 : decode cX6_init 63 = .ok (.new 39, 3) := by decide +kernel
theorem dX6_init_66 : decode cX6_init 66 = .ok (.dup, 1) := by decide +kernel
theorem dX6_init_67 : decode cX6_init 67 = .ok (.invokespecial 41, 3) := by decide +kernel
theorem dX6_init_70 : decode cX6_init 70 = .ok (.putfield 42, 3) := by decide +kernel
theorem dX6_init_73 : decode cX6_init 73 = .ok (.aload_n 0, 1) := by decide +kernel
theorem dX6_init_74 : decode cX6_init 74 = .ok (.new 46, 3) := by decide +kernel
theorem dX6_init_77 : decode cX6_init 77 = .ok (.dup, 1) := by decide +kernel
theorem dX6_init_78 : decode cX6_init 78 = .ok (.invokespecial 48, 3) := by decide +kernel
theorem dX6_init_81 : decode cX6_init 81 = .ok (.putfield 49, 3) := by decide +kernel
theorem dX6_init_84 : decode cX6_init 84 = .ok (.aload_n 0, 1) := by decide +kernel
theorem dX6_init_85 : decode cX6_init 85 = .ok (.bipush 6, 2) := by decide +kernel
theorem dX6_init_87 : decode cX6_init 87 = .ok (.newarray .int, 2) := by decide +kernel
theorem dX6_init_89 : decode cX6_init 89 = .ok (.putfield 53, 3) := by decide +kernel
theorem dX6_init_92 : decode cX6_init 92 = .ok (.aload_n 0, 1) := by decide +kernel
theorem dX6_init_93 : decode cX6_init 93 = .ok (.iconst 0, 1) := by decide +kernel
theorem dX6_init_94 : decode cX6_init 94 = .ok (.putfield 57, 3) := by decide +kernel
theorem dX6_init_97 : decode cX6_init 97 = .ok (.aload_n 0, 1) := by decide +kernel
theorem dX6_init_98 : decode cX6_init 98 = .ok (.iconst 0, 1) := by decide +kernel
theorem dX6_init_99 : decode cX6_init 99 = .ok (.putfield 61, 3) := by decide +kernel
theorem dX6_init_102 : decode cX6_init 102 = .ok (.aload_n 0, 1) := by decide +kernel
theorem dX6_init_103 : decode cX6_init 103 = .ok (.lconst 0, 1) := by decide +kernel
theorem dX6_init_104 : decode cX6_init 104 = .ok (.putfield 64, 3) := by decide +kernel
theorem dX6_init_107 : decode cX6_init 107 = .ok (.aload_n 0, 1) := by decide +kernel
theorem dX6_init_108 : decode cX6_init 108 = .ok (.lconst 1, 1) := by decide +kernel
theorem dX6_init_109 : decode cX6_init 109 = .ok (.putfield 68, 3) := by decide +kernel
theorem dX6_init_112 : decode cX6_init 112 = .ok (.iconst 0, 1) := by decide +kernel
theorem dX6_init_113 : decode cX6_init 113 = .ok (.istore_n 1, 1) := by decide +kernel
theorem dX6_init_114 : decode cX6_init 114 = .ok (.iload_n 1, 1) := by decide +kernel
theorem dX6_init_115 : decode cX6_init 115 = .ok (.aload_n 0, 1) := by decide +kernel
theorem dX6_init_116 : decode cX6_init 116 = .ok (.getfield 11, 3) := by decide +kernel
theorem dX6_init_119 : decode cX6_init 119 = .ok (.arraylength, 1) := by decide +kernel
theorem dX6_init_120 : decode cX6_init 120 = .ok (.if_icmp .ge 24, 3) := by decide +kernel
theorem dX6_init_123 : decode cX6_init 123 = .ok (.aload_n 0, 1) := by decide +kernel
theorem dX6_init_124 : decode cX6_init 124 = .ok (.getfield 11, 3) := by decide +kernel
theorem dX6_init_127 : decode cX6_init 127 = .ok (.iload_n 1, 1) := by decide +kernel
theorem dX6_init_128 : decode cX6_init 128 = .ok (.new 9, 3) := by decide +kernel
theorem dX6_init_131 : decode cX6_init 131 = .ok (.dup, 1) := by decide +kernel
theorem dX6_init_132 : decode cX6_init 132 = .ok (.bipush 40, 2) := by decide +kernel
theorem dX6_init_134 : decode cX6_init 134 = .ok (.invokespecial 71, 3) := by decide +kernel
theorem dX6_init_137 : decode cX6_init 137 = .ok (.aastore, 1) := by decide +kernel
theorem dX6_init_138 : decode cX6_init 138 = .ok (.iinc 1 1, 3) := by decide +kernel
theorem dX6_init_141 : decode cX6_init 141 = .ok (.goto (-27), 3) := by decide +kernel
theorem dX6_init_144 : decode cX6_init 144 = .ok (.iconst 0, 1) := by decide +kernel
theorem dX6_init_145 : decode cX6_init 145 = .ok (.istore_n 1, 1) := by decide +kernel
theorem dX6_init_146 : decode cX6_init 146 = .ok (.iload_n 1, 1) := by decide +kernel
theorem dX6_init_147 : decode cX6_init 147 = .ok (.aload_n 0, 1) := by decide +kernel
theorem dX6_init_148 : decode cX6_init 148 = .ok (.getfield 15, 3) := by decide +kernel
theorem dX6_init_151 : decode cX6_init 151 = .ok (.arraylength, 1) := by decide +kernel
theorem dX6_init_152 : decode cX6_init 152 = .ok (.if_icmp .ge 24, 3) := by decide +kernel
theorem dX6_init_155 : decode cX6_init 155 = .ok (.aload_n 0, 1) := by decide +kernel
theorem dX6_init_156 : decode cX6_init 156 = .ok (.getfield 15, 3) := by decide +kernel
theorem dX6_init_159 : decode cX6_init 159 = .ok (.iload_n 1, 1) := by decide +kernel
theorem dX6_init_160 : decode cX6_init 160 = .ok (.new 9, 3) := by decide +kernel
theorem dX6_init_163 : decode cX6_init 163 = .ok (.dup, 1) := by decide +kernel
theorem dX6_init_164 : decode cX6_init 164 = .ok (.bipush 60, 2) := by decide +kernel
theorem dX6_init_166 : decode cX6_init 166 = .ok (.invokespecial 71, 3) := by decide +kernel
theorem dX6_init_169 : decode cX6_init 169 = .ok (.aastore, 1) := by decide +kernel
theorem dX6_init_170 : decode cX6_init 170 = .ok (.iinc 1 1, 3) := by decide +kernel
theorem dX6_init_173 : decode cX6_init 173 = .ok (.goto (-27), 3) := by decide +kernel
theorem dX6_init_176 : decode cX6_init 176 = .ok (.iconst 0, 1) := by decide +kernel
theorem dX6_init_177 : decode cX6_init 177 = .ok (.istore_n 1, 1) := by decide +kernel
theorem dX6_init_178 : decode cX6_init 178 = .ok (.iload_n 1, 1) := by decide +kernel
theorem dX6_init_179 : decode cX6_init 179 = .ok (.aload_n 0, 1) := by decide +kernel
theorem dX6_init_180 : decode cX6_init 180 = .ok (.getfield 20, 3) := by decide +kernel
theorem dX6_init_183 : decode cX6_init 183 = .ok (.arraylength, 1) := by decide +kernel
theorem dX6_init_184 : decode cX6_init 184 = .ok (.if_icmp .ge 22, 3) := by decide +kernel
theorem dX6_init_187 : decode cX6_init 187 = .ok (.aload_n 0, 1) := by decide +kernel
theorem dX6_init_188 : decode cX6_init 188 = .ok (.getfield 20, 3) := by decide +kernel
theorem dX6_init_191 : decode cX6_init 191 = .ok (.iload_n 1, 1) := by decide +kernel
theorem dX6_init_192 : decode cX6_init 192 = .ok (.new 18, 3) := by decide +kernel
theorem dX6_init_195 : decode cX6_init 195 = .ok (.dup, 1) := by decide +kernel
theorem dX6_init_196 : decode cX6_init 196 = .ok (.invokespecial 24, 3) := by decide +kernel
theorem dX6_init_199 : decode cX6_init 199 = .ok (.aastore, 1) := by decide +kernel
theorem dX6_init_200 : decode cX6_init 200 = .ok (.iinc 1 1, 3) := by decide +kernel
theorem dX6_init_203 : decode cX6_init 203 = .ok (.goto (-25), 3) := by decide +kernel
theorem dX6_init_206 : decode cX6_init 206 = .ok (.return_, 1) := by decide +kernel
theorem dX6_row_0 : decode cX6_row 0 = .ok (.aload_n 0, 1) := by decide +kernel
theorem dX6_row_1 : decode cX6_row 1 = .ok (.aload_n 0, 1) := by decide +kernel
theorem dX6_row_2 : decode cX6_row 2 = .ok (.getfield 11, 3) := by decide +kernel
theorem dX6_row_5 : decode cX6_row 5 = .ok (.iload_n 1, 1) := by decide +kernel
theorem dX6_row_6 : decode cX6_row 6 = .ok (.invokestatic 74, 3) := by decide +kernel
theorem dX6_row_9 : decode cX6_row 9 = .ok (.iload_n 2, 1) := by decide +kernel
theorem dX6_row_10 : decode cX6_row 10 = .ok (.iconst 0, 1) := by decide +kernel
theorem dX6_row_11 : decode cX6_row 11 = .ok (.invokevirtual 78, 3) := by decide +kernel
theorem dX6_row_14 : decode cX6_row 14 = .ok (.ireturn, 1) := by decide +kernel
theorem dX6_lay_0 : decode cX6_lay 0 = .ok (.aload_n 0, 1) := by decide +kernel
theorem dX6_lay_1 : decode cX6_lay 1 = .ok (.getfield 11, 3) := by decide +kernel
theorem dX6_lay_4 : decode cX6_lay 4 = .ok (.iload_n 1, 1) := by decide +kernel
theorem dX6_lay_5 : decode cX6_lay 5 = .ok (.invokestatic 74, 3) := by decide +kernel
theorem dX6_lay_8 : decode cX6_lay 8 = .ok (.astore 4, 2) := by decide +kernel
theorem dX6_lay_10 : decode cX6_lay 10 = .ok (.aload 4, 2) := by decide +kernel
theorem dX6_lay_12 : decode cX6_lay 12 = .ok (.ifnonnull 5, 3) := by decide +kernel
theorem dX6_lay_15 : decode cX6_lay 15 = .ok (.iconst (-1), 1) := by decide +kernel
theorem dX6_lay_16 : decode cX6_lay 16 = .ok (.ireturn, 1) := by decide +kernel
theorem dX6_lay_17 : decode cX6_lay 17 = .ok (.aload 4, 2) := by decide +kernel
theorem dX6_lay_19 : decode cX6_lay 19 = .ok (.invokevirtual 82, 3) := by decide +kernel
theorem dX6_lay_22 : decode cX6_lay 22 = .ok (.ifCond .ne 9, 3) := by decide +kernel
theorem dX6_lay_25 : decode cX6_lay 25 = .ok (.aload_n 0, 1) := by decide +kernel
theorem dX6_lay_26 : decode cX6_lay 26 = .ok (.iconst 1, 1) := by decide +kernel
theorem dX6_lay_27 : decode cX6_lay 27 = .ok (.invokevirtual 86, 3) := by decide +kernel
theorem dX6_lay_30 : decode cX6_lay 30 = .ok (.ireturn, 1) := by decide +kernel
theorem dX6_lay_31 : decode cX6_lay 31 = .ok (.aload 4, 2) := by decide +kernel
theorem dX6_lay_33 : decode cX6_lay 33 = .ok (.iload_n 2, 1) := by decide +kernel
theorem dX6_lay_34 : decode cX6_lay 34 = .ok (.invokevirtual 90, 3) := by decide +kernel
theorem dX6_lay_37 : decode cX6_lay 37 = .ok (.ifCond .ne 9, 3) := by decide +kernel
theorem dX6_lay_40 : decode cX6_lay 40 = .ok (.aload_n 0, 1) := by decide +kernel
theorem dX6_lay_41 : decode cX6_lay 41 = .ok (.iconst 2, 1) := by decide +kernel
theorem dX6_lay_42 : decode cX6_lay 42 = .ok (.invokevirtual 86, 3) := by decide +kernel
theorem dX6_lay_45 : decode cX6_lay 45 = .ok (.ireturn, 1) := by decide +kernel
theorem dX6_lay_46 : decode cX6_lay 46 = .ok (.aload_n 0, 1) := by decide +kernel
theorem dX6_lay_47 : decode cX6_lay 47 = .ok (.aload 4, 2) := by decide +kernel
theorem dX6_lay_49 : decode cX6_lay 49 = .ok (.iload_n 2, 1) := by decide +kernel
theorem dX6_lay_50 : decode cX6_lay 50 = .ok (.invokevirtual 94, 3) := by decide +kernel
theorem dX6_lay_53 : decode cX6_lay 53 = .ok (.putfield 61, 3) := by decide +kernel
theorem dX6_lay_56 : decode cX6_lay 56 = .ok (.aload 4, 2) := by decide +kernel
theorem dX6_lay_58 : decode cX6_lay 58 = .ok (.iload_n 2, 1) := by decide +kernel
theorem dX6_lay_59 : decode cX6_lay 59 = .ok (.iload_n 3, 1) := by decide +kernel
theorem dX6_lay_60 : decode cX6_lay 60 = .ok (.invokevirtual 97, 3) := by decide +kernel
theorem dX6_lay_63 : decode cX6_lay 63 = .ok (.iconst 1, 1) := by decide +kernel
theorem dX6_lay_64 : decode cX6_lay 64 = .ok (.ireturn, 1) := by decide +kernel
theorem dX6_at_0 : decode cX6_at 0 = .ok (.aload_n 0, 1) := by decide +kernel
theorem dX6_at_1 : decode cX6_at 1 = .ok (.getfield 11, 3) := by decide +kernel
theorem dX6_at_4 : decode cX6_at 4 = .ok (.iload_n 1, 1) := by decide +kernel
theorem dX6_at_5 : decode cX6_at 5 = .ok (.invokestatic 74, 3) := by decide +kernel
theorem dX6_at_8 : decode cX6_at 8 = .ok (.astore_n 3, 1) := by decide +kernel
theorem dX6_at_9 : decode cX6_at 9 = .ok (.aload_n 3, 1) := by decide +kernel
theorem dX6_at_10 : decode cX6_at 10 = .ok (.ifnonnull 5, 3) := by decide +kernel
theorem dX6_at_13 : decode cX6_at 13 = .ok (.iconst (-1), 1) := by decide +kernel
theorem dX6_at_14 : decode cX6_at 14 = .ok (.ireturn, 1) := by decide +kernel
theorem dX6_at_15 : decode cX6_at 15 = .ok (.aload_n 3, 1) := by decide +kernel
theorem dX6_at_16 : decode cX6_at 16 = .ok (.invokevirtual 82, 3) := by decide +kernel
theorem dX6_at_19 : decode cX6_at 19 = .ok (.ifCond .ne 9, 3) := by decide +kernel
theorem dX6_at_22 : decode cX6_at 22 = .ok (.aload_n 0, 1) := by decide +kernel
theorem dX6_at_23 : decode cX6_at 23 = .ok (.iconst 1, 1) := by decide +kernel
theorem dX6_at_24 : decode cX6_at 24 = .ok (.invokevirtual 86, 3) := by decide +kernel
theorem dX6_at_27 : decode cX6_at 27 = .ok (.ireturn, 1) := by decide +kernel
theorem dX6_at_28 : decode cX6_at 28 = .ok (.aload_n 3, 1) := by decide +kernel
theorem dX6_at_29 : decode cX6_at 29 = .ok (.iload_n 2, 1) := by decide +kernel
theorem dX6_at_30 : decode cX6_at 30 = .ok (.invokevirtual 90, 3) := by decide +kernel
theorem dX6_at_33 : decode cX6_at 33 = .ok (.ifCond .ne 9, 3) := by decide +kernel
theorem dX6_at_36 : decode cX6_at 36 = .ok (.aload_n 0, 1) := by decide +kernel
theorem dX6_at_37 : decode cX6_at 37 = .ok (.iconst 2, 1) := by decide +kernel
theorem dX6_at_38 : decode cX6_at 38 = .ok (.invokevirtual 86, 3) := by decide +kernel
theorem dX6_at_41 : decode cX6_at 41 = .ok (.ireturn, 1) := by decide +kernel
theorem dX6_at_42 : decode cX6_at 42 = .ok (.aload_n 0, 1) := by decide +kernel
theorem dX6_at_43 : decode cX6_at 43 = .ok (.aload_n 3, 1) := by decide +kernel
theorem dX6_at_44 : decode cX6_at 44 = .ok (.iload_n 2, 1) := by decide +kernel
theorem dX6_at_45 : decode cX6_at 45 = .ok (.invokevirtual 94, 3) := by decide +kernel
theorem dX6_at_48 : decode cX6_at 48 = .ok (.putfield 61, 3) := by decide +kernel
theorem dX6_at_51 : decode cX6_at 51 = .ok (.iconst 1, 1) := by decide +kernel
theorem dX6_at_52 : decode cX6_at 52 = .ok (.ireturn, 1) := by decide +kernel
theorem dX6_tear_0 : decode cX6_tear 0 = .ok (.aload_n 0, 1) := by decide +kernel
theorem dX6_tear_1 : decode cX6_tear 1 = .ok (.getfield 11, 3) := by decide +kernel
theorem dX6_tear_4 : decode cX6_tear 4 = .ok (.iload_n 1, 1) := by decide +kernel
theorem dX6_tear_5 : decode cX6_tear 5 = .ok (.invokestatic 74, 3) := by decide +kernel
theorem dX6_tear_8 : decode cX6_tear 8 = .ok (.astore_n 2, 1) := by decide +kernel
theorem dX6_tear_9 : decode cX6_tear 9 = .ok (.aload_n 2, 1) := by decide +kernel
theorem dX6_tear_10 : decode cX6_tear 10 = .ok (.ifnonnull 5, 3) := by decide +kernel
theorem dX6_tear_13 : decode cX6_tear 13 = .ok (.iconst (-1), 1) := by decide +kernel
theorem dX6_tear_14 : decode cX6_tear 14 = .ok (.ireturn, 1) := by decide +kernel
theorem dX6_tear_15 : decode cX6_tear 15 = .ok (.aload_n 2, 1) := by decide +kernel
theorem dX6_tear_16 : decode cX6_tear 16 = .ok (.invokevirtual 82, 3) := by decide +kernel
theorem dX6_tear_19 : decode cX6_tear 19 = .ok (.ifCond .ne 9, 3) := by decide +kernel
theorem dX6_tear_22 : decode cX6_tear 22 = .ok (.aload_n 0, 1) := by decide +kernel
theorem dX6_tear_23 : decode cX6_tear 23 = .ok (.iconst 1, 1) := by decide +kernel
theorem dX6_tear_24 : decode cX6_tear 24 = .ok (.invokevirtual 86, 3) := by decide +kernel
theorem dX6_tear_27 : decode cX6_tear 27 = .ok (.ireturn, 1) := by decide +kernel
theorem dX6_tear_28 : decode cX6_tear 28 = .ok (.aload_n 2, 1) := by decide +kernel
theorem dX6_tear_29 : decode cX6_tear 29 = .ok (.invokevirtual 101, 3) := by decide +kernel
theorem dX6_tear_32 : decode cX6_tear 32 = .ok (.iconst 1, 1) := by decide +kernel
theorem dX6_tear_33 : decode cX6_tear 33 = .ok (.ireturn, 1) := by decide +kernel
theorem dX6_copy_0 : decode cX6_copy 0 = .ok (.aload_n 0, 1) := by decide +kernel
theorem dX6_copy_1 : decode cX6_copy 1 = .ok (.getfield 11, 3) := by decide +kernel
theorem dX6_copy_4 : decode cX6_copy 4 = .ok (.iload_n 1, 1) := by decide +kernel
theorem dX6_copy_5 : decode cX6_copy 5 = .ok (.invokestatic 74, 3) := by decide +kernel
theorem dX6_copy_8 : decode cX6_copy 8 = .ok (.astore 6, 2) := by decide +kernel
theorem dX6_copy_10 : decode cX6_copy 10 = .ok (.aload_n 0, 1) := by decide +kernel
theorem dX6_copy_11 : decode cX6_copy 11 = .ok (.getfield 11, 3) := by decide +kernel
theorem dX6_copy_14 : decode cX6_copy 14 = .ok (.iload_n 3, 1) := by decide +kernel
theorem dX6_copy_15 : decode cX6_copy 15 = .ok (.invokestatic 74, 3) := by decide +kernel
theorem dX6_copy_18 : decode cX6_copy 18 = .ok (.astore 7, 2) := by decide +kernel
theorem dX6_copy_20 : decode cX6_copy 20 = .ok (.aload 6, 2) := by decide +kernel
theorem dX6_copy_22 : decode cX6_copy 22 = .ok (.ifnull 8, 3) := by decide +kernel
theorem dX6_copy_25 : decode cX6_copy 25 = .ok (.aload 7, 2) := by decide +kernel
theorem dX6_copy_27 : decode cX6_copy 27 = .ok (.ifnonnull 5, 3) := by decide +kernel
theorem dX6_copy_30 : decode cX6_copy 30 = .ok (.iconst (-1), 1) := by decide +kernel
theorem dX6_copy_31 : decode cX6_copy 31 = .ok (.ireturn, 1) := by decide +kernel
theorem dX6_copy_32 : decode cX6_copy 32 = .ok (.iload 5, 2) := by decide +kernel
theorem dX6_copy_34 : decode cX6_copy 34 = .ok (.ifCond .ge 9, 3) := by decide +kernel
theorem dX6_copy_37 : decode cX6_copy 37 = .ok (.aload_n 0, 1) := by decide +kernel
theorem dX6_copy_38 : decode cX6_copy 38 = .ok (.iconst 5, 1) := by decide +kernel
theorem dX6_copy_39 : decode cX6_copy 39 = .ok (.invokevirtual 86, 3) := by decide +kernel
theorem dX6_copy_42 : decode cX6_copy 42 = .ok (.ireturn, 1) := by decide +kernel
theorem dX6_copy_43 : decode cX6_copy 43 = .ok (.aload 6, 2) := by decide +kernel
theorem dX6_copy_45 : decode cX6_copy 45 = .ok (.invokevirtual 82, 3) := by decide +kernel
theorem dX6_copy_48 : decode cX6_copy 48 = .ok (.ifCond .eq 11, 3) := by decide +kernel
theorem dX6_copy_51 : decode cX6_copy 51 = .ok (.aload 7, 2) := by decide +kernel
theorem dX6_copy_53 : decode cX6_copy 53 = .ok (.invokevirtual 82, 3) := by decide +kernel
theorem dX6_copy_56 : decode cX6_copy 56 = .ok (.ifCond .ne 9, 3) := by decide +kernel
theorem dX6_copy_59 : decode cX6_copy 59 = .ok (.aload_n 0, 1) := by decide +kernel
theorem dX6_copy_60 : decode cX6_copy 60 = .ok (.iconst 1, 1) := by decide +kernel
theorem dX6_copy_61 : decode cX6_copy 61 = .ok (.invokevirtual 86, 3) := by decide +kernel
theorem dX6_copy_64 : decode cX6_copy 64 = .ok (.ireturn, 1) := by decide +kernel
theorem dX6_copy_65 : decode cX6_copy 65 = .ok (.aload 6, 2) := by decide +kernel
theorem dX6_copy_67 : decode cX6_copy 67 = .ok (.iload_n 2, 1) := by decide +kernel
theorem dX6_copy_68 : decode cX6_copy 68 = .ok (.iload 5, 2) := by decide +kernel
theorem dX6_copy_70 : decode cX6_copy 70 = .ok (.invokevirtual 104, 3) := by decide +kernel
theorem dX6_copy_73 : decode cX6_copy 73 = .ok (.ifCond .eq 15, 3) := by decide +kernel
theorem dX6_copy_76 : decode cX6_copy 76 = .ok (.aload 7, 2) := by decide +kernel
theorem dX6_copy_78 : decode cX6_copy 78 = .ok (.iload 4, 2) := by decide +kernel
theorem dX6_copy_80 : decode cX6_copy 80 = .ok (.iload 5, 2) := by decide +kernel
theorem dX6_copy_82 : decode cX6_copy 82 = .ok (.invokevirtual 104, 3) := by decide +kernel
theorem dX6_copy_85 : decode cX6_copy 85 = .ok (.ifCond .ne 9, 3) := by decide +kernel
theorem dX6_copy_88 : decode cX6_copy 88 = .ok (.aload_n 0, 1) := by decide +kernel
theorem dX6_copy_89 : decode cX6_copy 89 = .ok (.iconst 2, 1) := by decide +kernel
theorem dX6_copy_90 : decode cX6_copy 90 = .ok (.invokevirtual 86, 3) := by decide +kernel
theorem dX6_copy_93 : decode cX6_copy 93 = .ok (.ireturn, 1) := by decide +kernel
theorem dX6_copy_94 : decode cX6_copy 94 = .ok (.aload 6, 2) := by decide +kernel
theorem dX6_copy_96 : decode cX6_copy 96 = .ok (.getfield 108, 3) := by decide +kernel
theorem dX6_copy_99 : decode cX6_copy 99 = .ok (.iload_n 2, 1) := by decide +kernel
theorem dX6_copy_100 : decode cX6_copy 100 = .ok (.aload 7, 2) := by decide +kernel
theorem dX6_copy_102 : decode cX6_copy 102 = .ok (.getfield 108, 3) := by decide +kernel
theorem dX6_copy_105 : decode cX6_copy 105 = .ok (.iload 4, 2) := by decide +kernel
theorem dX6_copy_107 : decode cX6_copy 107 = .ok (.iload 5, 2) := by decide +kernel
theorem dX6_copy_109 : decode cX6_copy 109 = .ok (.invokestatic 111, 3) := by decide +kernel
theorem dX6_copy_112 : decode cX6_copy 112 = .ok (.iconst 1, 1) := by decide +kernel
theorem dX6_copy_113 : decode cX6_copy 113 = .ok (.ireturn, 1) := by decide +kernel
theorem dX6_mean_0 : decode cX6_mean 0 = .ok (.aload_n 0, 1) := by decide +kernel
theorem dX6_mean_1 : decode cX6_mean 1 = .ok (.getfield 11, 3) := by decide +kernel
theorem dX6_mean_4 : decode cX6_mean 4 = .ok (.iload_n 1, 1) := by decide +kernel
theorem dX6_mean_5 : decode cX6_mean 5 = .ok (.invokestatic 74, 3) := by decide +kernel
theorem dX6_mean_8 : decode cX6_mean 8 = .ok (.astore_n 2, 1) := by decide +kernel
theorem dX6_mean_9 : decode cX6_mean 9 = .ok (.aload_n 2, 1) := by decide +kernel
theorem dX6_mean_10 : decode cX6_mean 10 = .ok (.ifnonnull 5, 3) := by decide +kernel
theorem dX6_mean_13 : decode cX6_mean 13 = .ok (.iconst (-1), 1) := by decide +kernel
theorem dX6_mean_14 : decode cX6_mean 14 = .ok (.ireturn, 1) := by decide +kernel
theorem dX6_mean_15 : decode cX6_mean 15 = .ok (.aload_n 2, 1) := by decide +kernel
theorem dX6_mean_16 : decode cX6_mean 16 = .ok (.invokevirtual 82, 3) := by decide +kernel
theorem dX6_mean_19 : decode cX6_mean 19 = .ok (.ifCond .ne 9, 3) := by decide +kernel
theorem dX6_mean_22 : decode cX6_mean 22 = .ok (.aload_n 0, 1) := by decide +kernel
theorem dX6_mean_23 : decode cX6_mean 23 = .ok (.iconst 1, 1) := by decide +kernel
theorem dX6_mean_24 : decode cX6_mean 24 = .ok (.invokevirtual 86, 3) := by decide +kernel
theorem dX6_mean_27 : decode cX6_mean 27 = .ok (.ireturn, 1) := by decide +kernel
theorem dX6_mean_28 : decode cX6_mean 28 = .ok (.aload_n 2, 1) := by decide +kernel
theorem dX6_mean_29 : decode cX6_mean 29 = .ok (.getfield 117, 3) := by decide +kernel
theorem dX6_mean_32 : decode cX6_mean 32 = .ok (.ifCond .ne 9, 3) := by decide +kernel
theorem dX6_mean_35 : decode cX6_mean 35 = .ok (.aload_n 0, 1) := by decide +kernel
theorem dX6_mean_36 : decode cX6_mean 36 = .ok (.iconst 4, 1) := by decide +kernel
theorem dX6_mean_37 : decode cX6_mean 37 = .ok (.invokevirtual 86, 3) := by decide +kernel
theorem dX6_mean_40 : decode cX6_mean 40 = .ok (.ireturn, 1) := by decide +kernel
theorem dX6_mean_41 : decode cX6_mean 41 = .ok (.lconst 0, 1) := by decide +kernel
theorem dX6_mean_42 : decode cX6_mean 42 = .ok (.lstore_n 3, 1) := by decide +kernel
theorem dX6_mean_43 : decode cX6_mean 43 = .ok (.iconst 0, 1) := by decide +kernel
theorem dX6_mean_44 : decode cX6_mean 44 = .ok (.istore 5, 2) := by decide +kernel
theorem dX6_mean_46 : decode cX6_mean 46 = .ok (.iload 5, 2) := by decide +kernel
theorem dX6_mean_48 : decode cX6_mean 48 = .ok (.aload_n 2, 1) := by decide +kernel
theorem dX6_mean_49 : decode cX6_mean 49 = .ok (.getfield 117, 3) := by decide +kernel
theorem dX6_mean_52 : decode cX6_mean 52 = .ok (.if_icmp .ge 19, 3) := by decide +kernel
theorem dX6_mean_55 : decode cX6_mean 55 = .ok (.lload_n 3, 1) := by decide +kernel
theorem dX6_mean_56 : decode cX6_mean 56 = .ok (.aload_n 2, 1) := by decide +kernel
theorem dX6_mean_57 : decode cX6_mean 57 = .ok (.iload 5, 2) := by decide +kernel
theorem dX6_mean_59 : decode cX6_mean 59 = .ok (.invokevirtual 94, 3) := by decide +kernel
theorem dX6_mean_62 : decode cX6_mean 62 = .ok (.i2l, 1) := by decide +kernel
theorem dX6_mean_63 : decode cX6_mean 63 = .ok (.ladd, 1) := by decide +kernel
theorem dX6_mean_64 : decode cX6_mean 64 = .ok (.lstore_n 3, 1) := by decide +kernel
theorem dX6_mean_65 : decode cX6_mean 65 = .ok (.iinc 5 1, 3) := by decide +kernel
theorem dX6_mean_68 : decode cX6_mean 68 = .ok (.goto (-22), 3) := by decide +kernel
theorem dX6_mean_71 : decode cX6_mean 71 = .ok (.aload_n 0, 1) := by decide +kernel
theorem dX6_mean_72 : decode cX6_mean 72 = .ok (.lload_n 3, 1) := by decide +kernel
theorem dX6_mean_73 : decode cX6_mean 73 = .ok (.aload_n 2, 1) := by decide +kernel
theorem dX6_mean_74 : decode cX6_mean 74 = .ok (.getfield 117, 3) := by decide +kernel
theorem dX6_mean_77 : decode cX6_mean 77 = .ok (.i2l, 1) := by decide +kernel
theorem dX6_mean_78 : decode cX6_mean 78 = .ok (.ldiv, 1) := by decide +kernel
theorem dX6_mean_79 : decode cX6_mean 79 = .ok (.l2i, 1) := by decide +kernel
theorem dX6_mean_80 : decode cX6_mean 80 = .ok (.putfield 61, 3) := by decide +kernel
theorem dX6_mean_83 : decode cX6_mean 83 = .ok (.iconst 1, 1) := by decide +kernel
theorem dX6_mean_84 : decode cX6_mean 84 = .ok (.ireturn, 1) := by decide +kernel
theorem dX6_text_0 : decode cX6_text 0 = .ok (.aload_n 0, 1) := by decide +kernel
theorem dX6_text_1 : decode cX6_text 1 = .ok (.aload_n 0, 1) := by decide +kernel
theorem dX6_text_2 : decode cX6_text 2 = .ok (.getfield 15, 3) := by decide +kernel
theorem dX6_text_5 : decode cX6_text 5 = .ok (.iload_n 1, 1) := by decide +kernel
theorem dX6_text_6 : decode cX6_text 6 = .ok (.invokestatic 74, 3) := by decide +kernel
theorem dX6_text_9 : decode cX6_text 9 = .ok (.iload_n 2, 1) := by decide +kernel
theorem dX6_text_10 : decode cX6_text 10 = .ok (.bipush 32, 2) := by decide +kernel
theorem dX6_text_12 : decode cX6_text 12 = .ok (.invokevirtual 78, 3) := by decide +kernel
theorem dX6_text_15 : decode cX6_text 15 = .ok (.ireturn, 1) := by decide +kernel
theorem dX6_put_0 : decode cX6_put 0 = .ok (.aload_n 0, 1) := by decide +kernel
theorem dX6_put_1 : decode cX6_put 1 = .ok (.getfield 15, 3) := by decide +kernel
theorem dX6_put_4 : decode cX6_put 4 = .ok (.iload_n 1, 1) := by decide +kernel
theorem dX6_put_5 : decode cX6_put 5 = .ok (.invokestatic 74, 3) := by decide +kernel
theorem dX6_put_8 : decode cX6_put 8 = .ok (.astore 4, 2) := by decide +kernel
theorem dX6_put_10 : decode cX6_put 10 = .ok (.aload 4, 2) := by decide +kernel
theorem dX6_put_12 : decode cX6_put 12 = .ok (.ifnonnull 5, 3) := by decide +kernel
theorem dX6_put_15 : decode cX6_put 15 = .ok (.iconst (-1), 1) := by decide +kernel
theorem dX6_put_16 : decode cX6_put 16 = .ok (.ireturn, 1) := by decide +kernel
theorem dX6_put_17 : decode cX6_put 17 = .ok (.aload 4, 2) := by decide +kernel
theorem dX6_put_19 : decode cX6_put 19 = .ok (.invokevirtual 82, 3) := by decide +kernel
theorem dX6_put_22 : decode cX6_put 22 = .ok (.ifCond .ne 9, 3) := by decide +kernel
theorem dX6_put_25 : decode cX6_put 25 = .ok (.aload_n 0, 1) := by decide +kernel
theorem dX6_put_26 : decode cX6_put 26 = .ok (.iconst 1, 1) := by decide +kernel
theorem dX6_put_27 : decode cX6_put 27 = .ok (.invokevirtual 86, 3) := by decide +kernel
theorem dX6_put_30 : decode cX6_put 30 = .ok (.ireturn, 1) := by decide +kernel
theorem dX6_put_31 : decode cX6_put 31 = .ok (.aload 4, 2) := by decide +kernel
theorem dX6_put_33 : decode cX6_put 33 = .ok (.iload_n 2, 1) := by decide +kernel
theorem dX6_put_34 : decode cX6_put 34 = .ok (.invokevirtual 90, 3) := by decide +kernel
theorem dX6_put_37 : decode cX6_put 37 = .ok (.ifCond .ne 9, 3) := by decide +kernel
theorem dX6_put_40 : decode cX6_put 40 = .ok (.aload_n 0, 1) := by decide +kernel
theorem dX6_put_41 : decode cX6_put 41 = .ok (.iconst 2, 1) := by decide +kernel
theorem dX6_put_42 : decode cX6_put 42 = .ok (.invokevirtual 86, 3) := by decide +kernel
theorem dX6_put_45 : decode cX6_put 45 = .ok (.ireturn, 1) := by decide +kernel
theorem dX6_put_46 : decode cX6_put 46 = .ok (.aload 4, 2) := by decide +kernel
theorem dX6_put_48 : decode cX6_put 48 = .ok (.iload_n 2, 1) := by decide +kernel
theorem dX6_put_49 : decode cX6_put 49 = .ok (.invokevirtual 94, 3) := by decide +kernel
theorem dX6_put_52 : decode cX6_put 52 = .ok (.istore 5, 2) := by decide +kernel
theorem dX6_put_54 : decode cX6_put 54 = .ok (.aload 4, 2) := by decide +kernel
theorem dX6_put_56 : decode cX6_put 56 = .ok (.iload_n 2, 1) := by decide +kernel
theorem dX6_put_57 : decode cX6_put 57 = .ok (.iload_n 3, 1) := by decide +kernel
theorem dX6_put_58 : decode cX6_put 58 = .ok (.i2b, 1) := by decide +kernel
theorem dX6_put_59 : decode cX6_put 59 = .ok (.invokevirtual 97, 3) := by decide +kernel
theorem dX6_put_62 : decode cX6_put 62 = .ok (.iload 5, 2) := by decide +kernel
theorem dX6_put_64 : decode cX6_put 64 = .ok (.sipush 1000, 3) := by decide +kernel
theorem dX6_put_67 : decode cX6_put 67 = .ok (.iadd, 1) := by decide +kernel
theorem dX6_put_68 : decode cX6_put 68 = .ok (.ireturn, 1) := by decide +kernel
theorem dX6_fault_0 : decode cX6_fault 0 = .ok (.aload_n 0, 1) := by decide +kernel
theorem dX6_fault_1 : decode cX6_fault 1 = .ok (.getfield 15, 3) := by decide +kernel
theorem dX6_fault_4 : decode cX6_fault 4 = .ok (.iload_n 1, 1) := by decide +kernel
theorem dX6_fault_5 : decode cX6_fault 5 = .ok (.invokestatic 74, 3) := by decide +kernel
theorem dX6_fault_8 : decode cX6_fault 8 = .ok (.astore_n 2, 1) := by decide +kernel
theorem dX6_fault_9 : decode cX6_fault 9 = .ok (.aload_n 2, 1) := by decide +kernel
theorem dX6_fault_10 : decode cX6_fault 10 = .ok (.ifnonnull 5, 3) := by decide +kernel
theorem dX6_fault_13 : decode cX6_fault 13 = .ok (.iconst (-1), 1) := by decide +kernel
theorem dX6_fault_14 : decode cX6_fault 14 = .ok (.ireturn, 1) := by decide +kernel
theorem dX6_fault_15 : decode cX6_fault 15 = .ok (.aload_n 2, 1) := by decide +kernel
theorem dX6_fault_16 : decode cX6_fault 16 = .ok (.invokevirtual 82, 3) := by decide +kernel
theorem dX6_fault_19 : decode cX6_fault 19 = .ok (.ifCond .ne 9, 3) := by decide +kernel
theorem dX6_fault_22 : decode cX6_fault 22 = .ok (.aload_n 0, 1) := by decide +kernel
theorem dX6_fault_23 : decode cX6_fault 23 = .ok (.iconst 1, 1) := by decide +kernel
theorem dX6_fault_24 : decode cX6_fault 24 = .ok (.invokevirtual 86, 3) := by decide +kernel
theorem dX6_fault_27 : decode cX6_fault 27 = .ok (.ireturn, 1) := by decide +kernel
theorem dX6_fault_28 : decode cX6_fault 28 = .ok (.aload_n 0, 1) := by decide +kernel
theorem dX6_fault_29 : decode cX6_fault 29 = .ok (.getfield 35, 3) := by decide +kernel
theorem dX6_fault_32 : decode cX6_fault 32 = .ok (.aload_n 2, 1) := by decide +kernel
theorem dX6_fault_33 : decode cX6_fault 33 = .ok (.aload_n 0, 1) := by decide +kernel
theorem dX6_fault_34 : decode cX6_fault 34 = .ok (.getfield 29, 3) := by decide +kernel
theorem dX6_fault_37 : decode cX6_fault 37 = .ok (.invokevirtual 120, 3) := by decide +kernel
theorem dX6_fault_40 : decode cX6_fault 40 = .ok (.ireturn, 1) := by decide +kernel
theorem dX6_parish_0 : decode cX6_parish 0 = .ok (.aload_n 0, 1) := by decide +kernel
theorem dX6_parish_1 : decode cX6_parish 1 = .ok (.getfield 15, 3) := by decide +kernel
theorem dX6_parish_4 : decode cX6_parish 4 = .ok (.iload_n 1, 1) := by decide +kernel
theorem dX6_parish_5 : decode cX6_parish 5 = .ok (.invokestatic 74, 3) := by decide +kernel
theorem dX6_parish_8 : decode cX6_parish 8 = .ok (.astore_n 2, 1) := by decide +kernel
theorem dX6_parish_9 : decode cX6_parish 9 = .ok (.aload_n 2, 1) := by decide +kernel
theorem dX6_parish_10 : decode cX6_parish 10 = .ok (.ifnonnull 5, 3) := by decide +kernel
theorem dX6_parish_13 : decode cX6_parish 13 = .ok (.iconst (-1), 1) := by decide +kernel
theorem dX6_parish_14 : decode cX6_parish 14 = .ok (.ireturn, 1) := by decide +kernel
theorem dX6_parish_15 : decode cX6_parish 15 = .ok (.aload_n 2, 1) := by decide +kernel
theorem dX6_parish_16 : decode cX6_parish 16 = .ok (.invokevirtual 82, 3) := by decide +kernel
theorem dX6_parish_19 : decode cX6_parish 19 = .ok (.ifCond .ne 9, 3) := by decide +kernel
theorem dX6_parish_22 : decode cX6_parish 22 = .ok (.aload_n 0, 1) := by decide +kernel
theorem dX6_parish_23 : decode cX6_parish 23 = .ok (.iconst 1, 1) := by decide +kernel
theorem dX6_parish_24 : decode cX6_parish 24 = .ok (.invokevirtual 86, 3) := by decide +kernel
theorem dX6_parish_27 : decode cX6_parish 27 = .ok (.ireturn, 1) := by decide +kernel
theorem dX6_parish_28 : decode cX6_parish 28 = .ok (.aload_n 0, 1) := by decide +kernel
theorem dX6_parish_29 : decode cX6_parish 29 = .ok (.getfield 35, 3) := by decide +kernel
theorem dX6_parish_32 : decode cX6_parish 32 = .ok (.aload_n 2, 1) := by decide +kernel
theorem dX6_parish_33 : decode cX6_parish 33 = .ok (.aload_n 0, 1) := by decide +kernel
theorem dX6_parish_34 : decode cX6_parish 34 = .ok (.getfield 29, 3) := by decide +kernel
theorem dX6_parish_37 : decode cX6_parish 37 = .ok (.invokevirtual 120, 3) := by decide +kernel
theorem dX6_parish_40 : decode cX6_parish 40 = .ok (.bipush (-9), 2) := by decide +kernel
theorem dX6_parish_42 : decode cX6_parish 42 = .ok (.if_icmp .eq 6, 3) := by decide +kernel
theorem dX6_parish_45 : decode cX6_parish 45 = .ok (.bipush (-4), 2) := by decide +kernel
theorem dX6_parish_47 : decode cX6_parish 47 = .ok (.ireturn, 1) := by decide +kernel
theorem dX6_parish_48 : decode cX6_parish 48 = .ok (.aload_n 0, 1) := by decide +kernel
theorem dX6_parish_49 : decode cX6_parish 49 = .ok (.getfield 25, 3) := by decide +kernel
theorem dX6_parish_52 : decode cX6_parish 52 = .ok (.aload_n 0, 1) := by decide +kernel
theorem dX6_parish_53 : decode cX6_parish 53 = .ok (.getfield 29, 3) := by decide +kernel
theorem dX6_parish_56 : decode cX6_parish 56 = .ok (.invokevirtual 124, 3) := by decide +kernel
theorem dX6_parish_59 : decode cX6_parish 59 = .ok (.iconst 0, 1) := by decide +kernel
theorem dX6_parish_60 : decode cX6_parish 60 = .ok (.istore_n 3, 1) := by decide +kernel
theorem dX6_parish_61 : decode cX6_parish 61 = .ok (.iload_n 3, 1) := by decide +kernel
theorem dX6_parish_62 : decode cX6_parish 62 = .ok (.aload_n 0, 1) := by decide +kernel
theorem dX6_parish_63 : decode cX6_parish 63 = .ok (.getfield 20, 3) := by decide +kernel
theorem dX6_parish_66 : decode cX6_parish 66 = .ok (.arraylength, 1) := by decide +kernel
theorem dX6_parish_67 : decode cX6_parish 67 = .ok (.if_icmp .ge 19, 3) := by decide +kernel
theorem dX6_parish_70 : decode cX6_parish 70 = .ok (.aload_n 0, 1) := by decide +kernel
theorem dX6_parish_71 : decode cX6_parish 71 = .ok (.getfield 20, 3) := by decide +kernel
theorem dX6_parish_74 : decode cX6_parish 74 = .ok (.iload_n 3, 1) := by decide +kernel
theorem dX6_parish_75 : decode cX6_parish 75 = .ok (.aaload, 1) := by decide +kernel
theorem dX6_parish_76 : decode cX6_parish 76 = .ok (.iconst 0, 1) := by decide +kernel
theorem dX6_parish_77 : decode cX6_parish 77 = .ok (.putfield 128, 3) := by decide +kernel
theorem dX6_parish_80 : decode cX6_parish 80 = .ok (.iinc 3 1, 3) := by decide +kernel
theorem dX6_parish_83 : decode cX6_parish 83 = .ok (.goto (-22), 3) := by decide +kernel
theorem dX6_parish_86 : decode cX6_parish 86 = .ok (.aload_n 0, 1) := by decide +kernel
theorem dX6_parish_87 : decode cX6_parish 87 = .ok (.getfield 25, 3) := by decide +kernel
theorem dX6_parish_90 : decode cX6_parish 90 = .ok (.getfield 128, 3) := by decide +kernel
theorem dX6_parish_93 : decode cX6_parish 93 = .ok (.ireturn, 1) := by decide +kernel
theorem dX6_kite_0 : decode cX6_kite 0 = .ok (.aload_n 0, 1) := by decide +kernel
theorem dX6_kite_1 : decode cX6_kite 1 = .ok (.getfield 25, 3) := by decide +kernel
theorem dX6_kite_4 : decode cX6_kite 4 = .ok (.iload_n 1, 1) := by decide +kernel
theorem dX6_kite_5 : decode cX6_kite 5 = .ok (.invokevirtual 131, 3) := by decide +kernel
theorem dX6_kite_8 : decode cX6_kite 8 = .ok (.astore_n 3, 1) := by decide +kernel
theorem dX6_kite_9 : decode cX6_kite 9 = .ok (.aload_n 3, 1) := by decide +kernel
theorem dX6_kite_10 : decode cX6_kite 10 = .ok (.ifnull 13, 3) := by decide +kernel
theorem dX6_kite_13 : decode cX6_kite 13 = .ok (.iload_n 2, 1) := by decide +kernel
theorem dX6_kite_14 : decode cX6_kite 14 = .ok (.ifCond .lt 9, 3) := by decide +kernel
theorem dX6_kite_17 : decode cX6_kite 17 = .ok (.iload_n 2, 1) := by decide +kernel
theorem dX6_kite_18 : decode cX6_kite 18 = .ok (.bipush 7, 2) := by decide +kernel
theorem dX6_kite_20 : decode cX6_kite 20 = .ok (.if_icmp .lt 5, 3) := by decide +kernel
theorem dX6_kite_23 : decode cX6_kite 23 = .ok (.iconst (-1), 1) := by decide +kernel
theorem dX6_kite_24 : decode cX6_kite 24 = .ok (.ireturn, 1) := by decide +kernel
theorem dX6_kite_25 : decode cX6_kite 25 = .ok (.aload_n 0, 1) := by decide +kernel
theorem dX6_kite_26 : decode cX6_kite 26 = .ok (.aload_n 0, 1) := by decide +kernel
theorem dX6_kite_27 : decode cX6_kite 27 = .ok (.aload_n 3, 1) := by decide +kernel
theorem dX6_kite_28 : decode cX6_kite 28 = .ok (.iload_n 2, 1) := by decide +kernel
theorem dX6_kite_29 : decode cX6_kite 29 = .ok (.invokevirtual 135, 3) := by decide +kernel
theorem dX6_kite_32 : decode cX6_kite 32 = .ok (.putfield 61, 3) := by decide +kernel
theorem dX6_kite_35 : decode cX6_kite 35 = .ok (.iconst 1, 1) := by decide +kernel
theorem dX6_kite_36 : decode cX6_kite 36 = .ok (.ireturn, 1) := by decide +kernel
theorem dX6_mark_0 : decode cX6_mark 0 = .ok (.aload_n 0, 1) := by decide +kernel
theorem dX6_mark_1 : decode cX6_mark 1 = .ok (.getfield 25, 3) := by decide +kernel
theorem dX6_mark_4 : decode cX6_mark 4 = .ok (.iload_n 1, 1) := by decide +kernel
theorem dX6_mark_5 : decode cX6_mark 5 = .ok (.invokevirtual 131, 3) := by decide +kernel
theorem dX6_mark_8 : decode cX6_mark 8 = .ok (.astore_n 3, 1) := by decide +kernel
theorem dX6_mark_9 : decode cX6_mark 9 = .ok (.aload_n 3, 1) := by decide +kernel
theorem dX6_mark_10 : decode cX6_mark 10 = .ok (.ifnull 13, 3) := by decide +kernel
theorem dX6_mark_13 : decode cX6_mark 13 = .ok (.iload_n 2, 1) := by decide +kernel
theorem dX6_mark_14 : decode cX6_mark 14 = .ok (.ifCond .le 9, 3) := by decide +kernel
theorem dX6_mark_17 : decode cX6_mark 17 = .ok (.iload_n 2, 1) := by decide +kernel
theorem dX6_mark_18 : decode cX6_mark 18 = .ok (.bipush 6, 2) := by decide +kernel
theorem dX6_mark_20 : decode cX6_mark 20 = .ok (.if_icmp .lt 5, 3) := by decide +kernel
theorem dX6_mark_23 : decode cX6_mark 23 = .ok (.iconst (-1), 1) := by decide +kernel
theorem dX6_mark_24 : decode cX6_mark 24 = .ok (.ireturn, 1) := by decide +kernel
theorem dX6_mark_25 : decode cX6_mark 25 = .ok (.aload_n 3, 1) := by decide +kernel
theorem dX6_mark_26 : decode cX6_mark 26 = .ok (.iload_n 2, 1) := by decide +kernel
theorem dX6_mark_27 : decode cX6_mark 27 = .ok (.invokevirtual 139, 3) := by decide +kernel
theorem dX6_mark_30 : decode cX6_mark 30 = .ok (.ifCond .ne 9, 3) := by decide +kernel
theorem dX6_mark_33 : decode cX6_mark 33 = .ok (.aload_n 0, 1) := by decide +kernel
theorem dX6_mark_34 : decode cX6_mark 34 = .ok (.iconst 3, 1) := by decide +kernel
theorem dX6_mark_35 : decode cX6_mark 35 = .ok (.invokevirtual 86, 3) := by decide +kernel
theorem dX6_mark_38 : decode cX6_mark 38 = .ok (.ireturn, 1) := by decide +kernel
theorem dX6_mark_39 : decode cX6_mark 39 = .ok (.aload_n 0, 1) := by decide +kernel
theorem dX6_mark_40 : decode cX6_mark 40 = .ok (.getfield 25, 3) := by decide +kernel
theorem dX6_mark_43 : decode cX6_mark 43 = .ok (.iconst 0, 1) := by decide +kernel
theorem dX6_mark_44 : decode cX6_mark 44 = .ok (.invokevirtual 144, 3) := by decide +kernel
theorem dX6_mark_47 : decode cX6_mark 47 = .ok (.istore 4, 2) := by decide +kernel
theorem dX6_mark_49 : decode cX6_mark 49 = .ok (.iload_n 2, 1) := by decide +kernel
theorem dX6_mark_50 : decode cX6_mark 50 = .ok (.tableswitch 81 1 4 #[30, 52, 57, 76], 30) := by decide +kernel
theorem dX6_mark_80 : decode cX6_mark 80 = .ok (.bipush 100, 2) := by decide +kernel
theorem dX6_mark_82 : decode cX6_mark 82 = .ok (.aload_n 3, 1) := by decide +kernel
theorem dX6_mark_83 : decode cX6_mark 83 = .ok (.iconst 0, 1) := by decide +kernel
theorem dX6_mark_84 : decode cX6_mark 84 = .ok (.aload_n 3, 1) := by decide +kernel
theorem dX6_mark_85 : decode cX6_mark 85 = .ok (.getfield 147, 3) := by decide +kernel
theorem dX6_mark_88 : decode cX6_mark 88 = .ok (.iload 4, 2) := by decide +kernel
theorem dX6_mark_90 : decode cX6_mark 90 = .ok (.invokevirtual 150, 3) := by decide +kernel
theorem dX6_mark_93 : decode cX6_mark 93 = .ok (.iadd, 1) := by decide +kernel
theorem dX6_mark_94 : decode cX6_mark 94 = .ok (.aload_n 3, 1) := by decide +kernel
theorem dX6_mark_95 : decode cX6_mark 95 = .ok (.iload 4, 2) := by decide +kernel
theorem dX6_mark_97 : decode cX6_mark 97 = .ok (.invokevirtual 154, 3) := by decide +kernel
theorem dX6_mark_100 : decode cX6_mark 100 = .ok (.isub, 1) := by decide +kernel
theorem dX6_mark_101 : decode cX6_mark 101 = .ok (.ireturn, 1) := by decide +kernel
theorem dX6_mark_102 : decode cX6_mark 102 = .ok (.aload_n 3, 1) := by decide +kernel
theorem dX6_mark_103 : decode cX6_mark 103 = .ok (.invokestatic 157, 3) := by decide +kernel
theorem dX6_mark_106 : decode cX6_mark 106 = .ok (.ireturn, 1) := by decide +kernel
theorem dX6_mark_107 : decode cX6_mark 107 = .ok (.aload_n 3, 1) := by decide +kernel
theorem dX6_mark_108 : decode cX6_mark 108 = .ok (.iload 4, 2) := by decide +kernel
theorem dX6_mark_110 : decode cX6_mark 110 = .ok (.invokevirtual 154, 3) := by decide +kernel
theorem dX6_mark_113 : decode cX6_mark 113 = .ok (.aload_n 3, 1) := by decide +kernel
theorem dX6_mark_114 : decode cX6_mark 114 = .ok (.iconst 0, 1) := by decide +kernel
theorem dX6_mark_115 : decode cX6_mark 115 = .ok (.aload_n 3, 1) := by decide +kernel
theorem dX6_mark_116 : decode cX6_mark 116 = .ok (.getfield 147, 3) := by decide +kernel
theorem dX6_mark_119 : decode cX6_mark 119 = .ok (.iload 4, 2) := by decide +kernel
theorem dX6_mark_121 : decode cX6_mark 121 = .ok (.invokevirtual 150, 3) := by decide +kernel
theorem dX6_mark_124 : decode cX6_mark 124 = .ok (.isub, 1) := by decide +kernel
theorem dX6_mark_125 : decode cX6_mark 125 = .ok (.ireturn, 1) := by decide +kernel
theorem dX6_mark_126 : decode cX6_mark 126 = .ok (.aload_n 3, 1) := by decide +kernel
theorem dX6_mark_127 : decode cX6_mark 127 = .ok (.invokestatic 161, 3) := by decide +kernel
theorem dX6_mark_130 : decode cX6_mark 130 = .ok (.ireturn, 1) := by decide +kernel
theorem dX6_mark_131 : decode cX6_mark 131 = .ok (.aload_n 3, 1) := by decide +kernel
theorem dX6_mark_132 : decode cX6_mark 132 = .ok (.invokestatic 164, 3) := by decide +kernel
theorem dX6_mark_135 : decode cX6_mark 135 = .ok (.ireturn, 1) := by decide +kernel
theorem dX6_lifts_0 : decode cX6_lifts 0 = .ok (.aload_n 0, 1) := by decide +kernel
theorem dX6_lifts_1 : decode cX6_lifts 1 = .ok (.getfield 25, 3) := by decide +kernel
theorem dX6_lifts_4 : decode cX6_lifts 4 = .ok (.iload_n 1, 1) := by decide +kernel
theorem dX6_lifts_5 : decode cX6_lifts 5 = .ok (.invokevirtual 131, 3) := by decide +kernel
theorem dX6_lifts_8 : decode cX6_lifts 8 = .ok (.astore_n 3, 1) := by decide +kernel
theorem dX6_lifts_9 : decode cX6_lifts 9 = .ok (.aload_n 3, 1) := by decide +kernel
theorem dX6_lifts_10 : decode cX6_lifts 10 = .ok (.ifnull 10, 3) := by decide +kernel
theorem dX6_lifts_13 : decode cX6_lifts 13 = .ok (.iload_n 2, 1) := by decide +kernel
theorem dX6_lifts_14 : decode cX6_lifts 14 = .ok (.invokestatic 167, 3) := by decide +kernel
theorem dX6_lifts_17 : decode cX6_lifts 17 = .ok (.ifCond .ne 5, 3) := by decide +kernel
theorem dX6_lifts_20 : decode cX6_lifts 20 = .ok (.iconst (-1), 1) := by decide +kernel
theorem dX6_lifts_21 : decode cX6_lifts 21 = .ok (.ireturn, 1) := by decide +kernel
theorem dX6_lifts_22 : decode cX6_lifts 22 = .ok (.aload_n 3, 1) := by decide +kernel
theorem dX6_lifts_23 : decode cX6_lifts 23 = .ok (.iload_n 2, 1) := by decide +kernel
theorem dX6_lifts_24 : decode cX6_lifts 24 = .ok (.invokevirtual 154, 3) := by decide +kernel
theorem dX6_lifts_27 : decode cX6_lifts 27 = .ok (.ireturn, 1) := by decide +kernel
theorem dX6_pays_0 : decode cX6_pays 0 = .ok (.aload_n 0, 1) := by decide +kernel
theorem dX6_pays_1 : decode cX6_pays 1 = .ok (.getfield 25, 3) := by decide +kernel
theorem dX6_pays_4 : decode cX6_pays 4 = .ok (.iload_n 1, 1) := by decide +kernel
theorem dX6_pays_5 : decode cX6_pays 5 = .ok (.invokevirtual 131, 3) := by decide +kernel
theorem dX6_pays_8 : decode cX6_pays 8 = .ok (.astore_n 3, 1) := by decide +kernel
theorem dX6_pays_9 : decode cX6_pays 9 = .ok (.aload_n 3, 1) := by decide +kernel
theorem dX6_pays_10 : decode cX6_pays 10 = .ok (.ifnull 10, 3) := by decide +kernel
theorem dX6_pays_13 : decode cX6_pays 13 = .ok (.iload_n 2, 1) := by decide +kernel
theorem dX6_pays_14 : decode cX6_pays 14 = .ok (.invokestatic 167, 3) := by decide +kernel
theorem dX6_pays_17 : decode cX6_pays 17 = .ok (.ifCond .ne 5, 3) := by decide +kernel
theorem dX6_pays_20 : decode cX6_pays 20 = .ok (.iconst (-1), 1) := by decide +kernel
theorem dX6_pays_21 : decode cX6_pays 21 = .ok (.ireturn, 1) := by decide +kernel
theorem dX6_pays_22 : decode cX6_pays 22 = .ok (.aload_n 3, 1) := by decide +kernel
theorem dX6_pays_23 : decode cX6_pays 23 = .ok (.iload_n 2, 1) := by decide +kernel
theorem dX6_pays_24 : decode cX6_pays 24 = .ok (.invokevirtual 170, 3) := by decide +kernel
theorem dX6_pays_27 : decode cX6_pays 27 = .ok (.ifCond .eq 8, 3) := by decide +kernel
theorem dX6_pays_30 : decode cX6_pays 30 = .ok (.bipush (-9), 2) := by decide +kernel
theorem dX6_pays_32 : decode cX6_pays 32 = .ok (.goto 8, 3) := by decide +kernel
theorem dX6_pays_35 : decode cX6_pays 35 = .ok (.aload_n 3, 1) := by decide +kernel
theorem dX6_pays_36 : decode cX6_pays 36 = .ok (.iload_n 2, 1) := by decide +kernel
theorem dX6_pays_37 : decode cX6_pays 37 = .ok (.invokevirtual 173, 3) := by decide +kernel
theorem dX6_pays_40 : decode cX6_pays 40 = .ok (.ireturn, 1) := by decide +kernel
theorem dX6_fly_0 : decode cX6_fly 0 = .ok (.aload_n 0, 1) := by decide +kernel
theorem dX6_fly_1 : decode cX6_fly 1 = .ok (.getfield 25, 3) := by decide +kernel
theorem dX6_fly_4 : decode cX6_fly 4 = .ok (.iload_n 1, 1) := by decide +kernel
theorem dX6_fly_5 : decode cX6_fly 5 = .ok (.invokevirtual 131, 3) := by decide +kernel
theorem dX6_fly_8 : decode cX6_fly 8 = .ok (.astore_n 2, 1) := by decide +kernel
theorem dX6_fly_9 : decode cX6_fly 9 = .ok (.aload_n 2, 1) := by decide +kernel
theorem dX6_fly_10 : decode cX6_fly 10 = .ok (.ifnonnull 5, 3) := by decide +kernel
theorem dX6_fly_13 : decode cX6_fly 13 = .ok (.iconst (-1), 1) := by decide +kernel
theorem dX6_fly_14 : decode cX6_fly 14 = .ok (.ireturn, 1) := by decide +kernel
theorem dX6_fly_15 : decode cX6_fly 15 = .ok (.aload_n 2, 1) := by decide +kernel
theorem dX6_fly_16 : decode cX6_fly 16 = .ok (.invokevirtual 176, 3) := by decide +kernel
theorem dX6_fly_19 : decode cX6_fly 19 = .ok (.ifCond .eq 6, 3) := by decide +kernel
theorem dX6_fly_22 : decode cX6_fly 22 = .ok (.bipush (-4), 2) := by decide +kernel
theorem dX6_fly_24 : decode cX6_fly 24 = .ok (.ireturn, 1) := by decide +kernel
theorem dX6_fly_25 : decode cX6_fly 25 = .ok (.aload_n 0, 1) := by decide +kernel
theorem dX6_fly_26 : decode cX6_fly 26 = .ok (.getfield 25, 3) := by decide +kernel
theorem dX6_fly_29 : decode cX6_fly 29 = .ok (.invokevirtual 179, 3) := by decide +kernel
theorem dX6_fly_32 : decode cX6_fly 32 = .ok (.ifCond .eq 6, 3) := by decide +kernel
theorem dX6_fly_35 : decode cX6_fly 35 = .ok (.bipush (-2), 2) := by decide +kernel
theorem dX6_fly_37 : decode cX6_fly 37 = .ok (.ireturn, 1) := by decide +kernel
theorem dX6_fly_38 : decode cX6_fly 38 = .ok (.aload_n 0, 1) := by decide +kernel
theorem dX6_fly_39 : decode cX6_fly 39 = .ok (.getfield 25, 3) := by decide +kernel
theorem dX6_fly_42 : decode cX6_fly 42 = .ok (.iload_n 1, 1) := by decide +kernel
theorem dX6_fly_43 : decode cX6_fly 43 = .ok (.invokevirtual 182, 3) := by decide +kernel
theorem dX6_fly_46 : decode cX6_fly 46 = .ok (.aload_n 2, 1) := by decide +kernel
theorem dX6_fly_47 : decode cX6_fly 47 = .ok (.getfield 185, 3) := by decide +kernel
theorem dX6_fly_50 : decode cX6_fly 50 = .ok (.ireturn, 1) := by decide +kernel
theorem dX6_rest_0 : decode cX6_rest 0 = .ok (.aload_n 0, 1) := by decide +kernel
theorem dX6_rest_1 : decode cX6_rest 1 = .ok (.getfield 25, 3) := by decide +kernel
theorem dX6_rest_4 : decode cX6_rest 4 = .ok (.invokevirtual 188, 3) := by decide +kernel
theorem dX6_rest_7 : decode cX6_rest 7 = .ok (.ifCond .eq 6, 3) := by decide +kernel
theorem dX6_rest_10 : decode cX6_rest 10 = .ok (.bipush (-4), 2) := by decide +kernel
theorem dX6_rest_12 : decode cX6_rest 12 = .ok (.ireturn, 1) := by decide +kernel
theorem dX6_rest_13 : decode cX6_rest 13 = .ok (.aload_n 0, 1) := by decide +kernel
theorem dX6_rest_14 : decode cX6_rest 14 = .ok (.getfield 25, 3) := by decide +kernel
theorem dX6_rest_17 : decode cX6_rest 17 = .ok (.invokevirtual 179, 3) := by decide +kernel
theorem dX6_rest_20 : decode cX6_rest 20 = .ok (.ifCond .eq 6, 3) := by decide +kernel
theorem dX6_rest_23 : decode cX6_rest 23 = .ok (.bipush (-2), 2) := by decide +kernel
theorem dX6_rest_25 : decode cX6_rest 25 = .ok (.ireturn, 1) := by decide +kernel
theorem dX6_rest_26 : decode cX6_rest 26 = .ok (.aload_n 0, 1) := by decide +kernel
theorem dX6_rest_27 : decode cX6_rest 27 = .ok (.getfield 25, 3) := by decide +kernel
theorem dX6_rest_30 : decode cX6_rest 30 = .ok (.invokevirtual 191, 3) := by decide +kernel
theorem dX6_rest_33 : decode cX6_rest 33 = .ok (.aload_n 0, 1) := by decide +kernel
theorem dX6_rest_34 : decode cX6_rest 34 = .ok (.getfield 25, 3) := by decide +kernel
theorem dX6_rest_37 : decode cX6_rest 37 = .ok (.getfield 194, 3) := by decide +kernel
theorem dX6_rest_40 : decode cX6_rest 40 = .ok (.ireturn, 1) := by decide +kernel
theorem dX6_tie_0 : decode cX6_tie 0 = .ok (.aload_n 0, 1) := by decide +kernel
theorem dX6_tie_1 : decode cX6_tie 1 = .ok (.getfield 25, 3) := by decide +kernel
theorem dX6_tie_4 : decode cX6_tie 4 = .ok (.iload_n 1, 1) := by decide +kernel
theorem dX6_tie_5 : decode cX6_tie 5 = .ok (.invokevirtual 131, 3) := by decide +kernel
theorem dX6_tie_8 : decode cX6_tie 8 = .ok (.astore_n 2, 1) := by decide +kernel
theorem dX6_tie_9 : decode cX6_tie 9 = .ok (.aload_n 2, 1) := by decide +kernel
theorem dX6_tie_10 : decode cX6_tie 10 = .ok (.ifnonnull 5, 3) := by decide +kernel
theorem dX6_tie_13 : decode cX6_tie 13 = .ok (.iconst (-1), 1) := by decide +kernel
theorem dX6_tie_14 : decode cX6_tie 14 = .ok (.ireturn, 1) := by decide +kernel
theorem dX6_tie_15 : decode cX6_tie 15 = .ok (.aload_n 2, 1) := by decide +kernel
theorem dX6_tie_16 : decode cX6_tie 16 = .ok (.getfield 147, 3) := by decide +kernel
theorem dX6_tie_19 : decode cX6_tie 19 = .ok (.iconst 3, 1) := by decide +kernel
theorem dX6_tie_20 : decode cX6_tie 20 = .ok (.if_icmp .lt 6, 3) := by decide +kernel
theorem dX6_tie_23 : decode cX6_tie 23 = .ok (.bipush (-4), 2) := by decide +kernel
theorem dX6_tie_25 : decode cX6_tie 25 = .ok (.ireturn, 1) := by decide +kernel
theorem dX6_tie_26 : decode cX6_tie 26 = .ok (.aload_n 0, 1) := by decide +kernel
theorem dX6_tie_27 : decode cX6_tie 27 = .ok (.getfield 25, 3) := by decide +kernel
theorem dX6_tie_30 : decode cX6_tie 30 = .ok (.invokevirtual 179, 3) := by decide +kernel
theorem dX6_tie_33 : decode cX6_tie 33 = .ok (.ifCond .eq 6, 3) := by decide +kernel
theorem dX6_tie_36 : decode cX6_tie 36 = .ok (.bipush (-2), 2) := by decide +kernel
theorem dX6_tie_38 : decode cX6_tie 38 = .ok (.ireturn, 1) := by decide +kernel
theorem dX6_tie_39 : decode cX6_tie 39 = .ok (.aload_n 0, 1) := by decide +kernel
theorem dX6_tie_40 : decode cX6_tie 40 = .ok (.getfield 25, 3) := by decide +kernel
theorem dX6_tie_43 : decode cX6_tie 43 = .ok (.iload_n 1, 1) := by decide +kernel
theorem dX6_tie_44 : decode cX6_tie 44 = .ok (.invokevirtual 197, 3) := by decide +kernel
theorem dX6_tie_47 : decode cX6_tie 47 = .ok (.aload_n 2, 1) := by decide +kernel
theorem dX6_tie_48 : decode cX6_tie 48 = .ok (.getfield 147, 3) := by decide +kernel
theorem dX6_tie_51 : decode cX6_tie 51 = .ok (.ireturn, 1) := by decide +kernel
theorem dX6_cut_0 : decode cX6_cut 0 = .ok (.aload_n 0, 1) := by decide +kernel
theorem dX6_cut_1 : decode cX6_cut 1 = .ok (.getfield 25, 3) := by decide +kernel
theorem dX6_cut_4 : decode cX6_cut 4 = .ok (.iload_n 1, 1) := by decide +kernel
theorem dX6_cut_5 : decode cX6_cut 5 = .ok (.invokevirtual 131, 3) := by decide +kernel
theorem dX6_cut_8 : decode cX6_cut 8 = .ok (.astore_n 2, 1) := by decide +kernel
theorem dX6_cut_9 : decode cX6_cut 9 = .ok (.aload_n 2, 1) := by decide +kernel
theorem dX6_cut_10 : decode cX6_cut 10 = .ok (.ifnonnull 5, 3) := by decide +kernel
theorem dX6_cut_13 : decode cX6_cut 13 = .ok (.iconst (-1), 1) := by decide +kernel
theorem dX6_cut_14 : decode cX6_cut 14 = .ok (.ireturn, 1) := by decide +kernel
theorem dX6_cut_15 : decode cX6_cut 15 = .ok (.aload_n 2, 1) := by decide +kernel
theorem dX6_cut_16 : decode cX6_cut 16 = .ok (.getfield 147, 3) := by decide +kernel
theorem dX6_cut_19 : decode cX6_cut 19 = .ok (.ifCond .gt 6, 3) := by decide +kernel
theorem dX6_cut_22 : decode cX6_cut 22 = .ok (.bipush (-4), 2) := by decide +kernel
theorem dX6_cut_24 : decode cX6_cut 24 = .ok (.ireturn, 1) := by decide +kernel
theorem dX6_cut_25 : decode cX6_cut 25 = .ok (.aload_n 0, 1) := by decide +kernel
theorem dX6_cut_26 : decode cX6_cut 26 = .ok (.getfield 25, 3) := by decide +kernel
theorem dX6_cut_29 : decode cX6_cut 29 = .ok (.invokevirtual 179, 3) := by decide +kernel
theorem dX6_cut_32 : decode cX6_cut 32 = .ok (.ifCond .eq 6, 3) := by decide +kernel
theorem dX6_cut_35 : decode cX6_cut 35 = .ok (.bipush (-2), 2) := by decide +kernel
theorem dX6_cut_37 : decode cX6_cut 37 = .ok (.ireturn, 1) := by decide +kernel
theorem dX6_cut_38 : decode cX6_cut 38 = .ok (.aload_n 0, 1) := by decide +kernel
theorem dX6_cut_39 : decode cX6_cut 39 = .ok (.getfield 25, 3) := by decide +kernel
theorem dX6_cut_42 : decode cX6_cut 42 = .ok (.iload_n 1, 1) := by decide +kernel
theorem dX6_cut_43 : decode cX6_cut 43 = .ok (.invokevirtual 200, 3) := by decide +kernel
theorem dX6_cut_46 : decode cX6_cut 46 = .ok (.aload_n 2, 1) := by decide +kernel
theorem dX6_cut_47 : decode cX6_cut 47 = .ok (.getfield 147, 3) := by decide +kernel
theorem dX6_cut_50 : decode cX6_cut 50 = .ok (.ireturn, 1) := by decide +kernel
theorem dX6_undo_0 : decode cX6_undo 0 = .ok (.iload_n 1, 1) := by decide +kernel
theorem dX6_undo_1 : decode cX6_undo 1 = .ok (.ifCond .lt 14, 3) := by decide +kernel
theorem dX6_undo_4 : decode cX6_undo 4 = .ok (.iload_n 1, 1) := by decide +kernel
theorem dX6_undo_5 : decode cX6_undo 5 = .ok (.aload_n 0, 1) := by decide +kernel
theorem dX6_undo_6 : decode cX6_undo 6 = .ok (.getfield 25, 3) := by decide +kernel
theorem dX6_undo_9 : decode cX6_undo 9 = .ok (.getfield 203, 3) := by decide +kernel
theorem dX6_undo_12 : decode cX6_undo 12 = .ok (.if_icmp .le 5, 3) := by decide +kernel
theorem dX6_undo_15 : decode cX6_undo 15 = .ok (.iconst (-1), 1) := by decide +kernel
theorem dX6_undo_16 : decode cX6_undo 16 = .ok (.ireturn, 1) := by decide +kernel
theorem dX6_undo_17 : decode cX6_undo 17 = .ok (.aload_n 0, 1) := by decide +kernel
theorem dX6_undo_18 : decode cX6_undo 18 = .ok (.getfield 25, 3) := by decide +kernel
theorem dX6_undo_21 : decode cX6_undo 21 = .ok (.getfield 203, 3) := by decide +kernel
theorem dX6_undo_24 : decode cX6_undo 24 = .ok (.iload_n 1, 1) := by decide +kernel
theorem dX6_undo_25 : decode cX6_undo 25 = .ok (.isub, 1) := by decide +kernel
theorem dX6_undo_26 : decode cX6_undo 26 = .ok (.istore_n 2, 1) := by decide +kernel
theorem dX6_undo_27 : decode cX6_undo 27 = .ok (.iconst 0, 1) := by decide +kernel
theorem dX6_undo_28 : decode cX6_undo 28 = .ok (.istore_n 3, 1) := by decide +kernel
theorem dX6_undo_29 : decode cX6_undo 29 = .ok (.iload_n 3, 1) := by decide +kernel
theorem dX6_undo_30 : decode cX6_undo 30 = .ok (.iload_n 2, 1) := by decide +kernel
theorem dX6_undo_31 : decode cX6_undo 31 = .ok (.if_icmp .ge 16, 3) := by decide +kernel
theorem dX6_undo_34 : decode cX6_undo 34 = .ok (.aload_n 0, 1) := by decide +kernel
theorem dX6_undo_35 : decode cX6_undo 35 = .ok (.getfield 25, 3) := by decide +kernel
theorem dX6_undo_38 : decode cX6_undo 38 = .ok (.invokevirtual 206, 3) := by decide +kernel
theorem dX6_undo_41 : decode cX6_undo 41 = .ok (.iinc 3 1, 3) := by decide +kernel
theorem dX6_undo_44 : decode cX6_undo 44 = .ok (.goto (-15), 3) := by decide +kernel
theorem dX6_undo_47 : decode cX6_undo 47 = .ok (.iload_n 2, 1) := by decide +kernel
theorem dX6_undo_48 : decode cX6_undo 48 = .ok (.ireturn, 1) := by decide +kernel
theorem dX6_keep_0 : decode cX6_keep 0 = .ok (.iload_n 1, 1) := by decide +kernel
theorem dX6_keep_1 : decode cX6_keep 1 = .ok (.ifCond .lt 12, 3) := by decide +kernel
theorem dX6_keep_4 : decode cX6_keep 4 = .ok (.iload_n 1, 1) := by decide +kernel
theorem dX6_keep_5 : decode cX6_keep 5 = .ok (.aload_n 0, 1) := by decide +kernel
theorem dX6_keep_6 : decode cX6_keep 6 = .ok (.getfield 20, 3) := by decide +kernel
theorem dX6_keep_9 : decode cX6_keep 9 = .ok (.arraylength, 1) := by decide +kernel
theorem dX6_keep_10 : decode cX6_keep 10 = .ok (.if_icmp .lt 5, 3) := by decide +kernel
theorem dX6_keep_13 : decode cX6_keep 13 = .ok (.iconst (-1), 1) := by decide +kernel
theorem dX6_keep_14 : decode cX6_keep 14 = .ok (.ireturn, 1) := by decide +kernel
theorem dX6_keep_15 : decode cX6_keep 15 = .ok (.aload_n 0, 1) := by decide +kernel
theorem dX6_keep_16 : decode cX6_keep 16 = .ok (.getfield 25, 3) := by decide +kernel
theorem dX6_keep_19 : decode cX6_keep 19 = .ok (.invokevirtual 188, 3) := by decide +kernel
theorem dX6_keep_22 : decode cX6_keep 22 = .ok (.ifCond .eq 6, 3) := by decide +kernel
theorem dX6_keep_25 : decode cX6_keep 25 = .ok (.bipush (-4), 2) := by decide +kernel
theorem dX6_keep_27 : decode cX6_keep 27 = .ok (.ireturn, 1) := by decide +kernel
theorem dX6_keep_28 : decode cX6_keep 28 = .ok (.aload_n 0, 1) := by decide +kernel
theorem dX6_keep_29 : decode cX6_keep 29 = .ok (.getfield 20, 3) := by decide +kernel
theorem dX6_keep_32 : decode cX6_keep 32 = .ok (.iload_n 1, 1) := by decide +kernel
theorem dX6_keep_33 : decode cX6_keep 33 = .ok (.aaload, 1) := by decide +kernel
theorem dX6_keep_34 : decode cX6_keep 34 = .ok (.aload_n 0, 1) := by decide +kernel
theorem dX6_keep_35 : decode cX6_keep 35 = .ok (.getfield 25, 3) := by decide +kernel
theorem dX6_keep_38 : decode cX6_keep 38 = .ok (.invokevirtual 124, 3) := by decide +kernel
theorem dX6_keep_41 : decode cX6_keep 41 = .ok (.aload_n 0, 1) := by decide +kernel
theorem dX6_keep_42 : decode cX6_keep 42 = .ok (.getfield 25, 3) := by decide +kernel
theorem dX6_keep_45 : decode cX6_keep 45 = .ok (.getfield 203, 3) := by decide +kernel
theorem dX6_keep_48 : decode cX6_keep 48 = .ok (.ireturn, 1) := by decide +kernel
theorem dX6_on_0 : decode cX6_on 0 = .ok (.iload_n 1, 1) := by decide +kernel
theorem dX6_on_1 : decode cX6_on 1 = .ok (.ifCond .lt 12, 3) := by decide +kernel
theorem dX6_on_4 : decode cX6_on 4 = .ok (.iload_n 1, 1) := by decide +kernel
theorem dX6_on_5 : decode cX6_on 5 = .ok (.aload_n 0, 1) := by decide +kernel
theorem dX6_on_6 : decode cX6_on 6 = .ok (.getfield 20, 3) := by decide +kernel
theorem dX6_on_9 : decode cX6_on 9 = .ok (.arraylength, 1) := by decide +kernel
theorem dX6_on_10 : decode cX6_on 10 = .ok (.if_icmp .lt 5, 3) := by decide +kernel
theorem dX6_on_13 : decode cX6_on 13 = .ok (.iconst (-1), 1) := by decide +kernel
theorem dX6_on_14 : decode cX6_on 14 = .ok (.ireturn, 1) := by decide +kernel
theorem dX6_on_15 : decode cX6_on 15 = .ok (.aload_n 0, 1) := by decide +kernel
theorem dX6_on_16 : decode cX6_on 16 = .ok (.getfield 20, 3) := by decide +kernel
theorem dX6_on_19 : decode cX6_on 19 = .ok (.iload_n 1, 1) := by decide +kernel
theorem dX6_on_20 : decode cX6_on 20 = .ok (.aaload, 1) := by decide +kernel
theorem dX6_on_21 : decode cX6_on 21 = .ok (.invokevirtual 188, 3) := by decide +kernel
theorem dX6_on_24 : decode cX6_on 24 = .ok (.ifCond .eq 9, 3) := by decide +kernel
theorem dX6_on_27 : decode cX6_on 27 = .ok (.aload_n 0, 1) := by decide +kernel
theorem dX6_on_28 : decode cX6_on 28 = .ok (.iconst 1, 1) := by decide +kernel
theorem dX6_on_29 : decode cX6_on 29 = .ok (.invokevirtual 86, 3) := by decide +kernel
theorem dX6_on_32 : decode cX6_on 32 = .ok (.ireturn, 1) := by decide +kernel
theorem dX6_on_33 : decode cX6_on 33 = .ok (.aload_n 0, 1) := by decide +kernel
theorem dX6_on_34 : decode cX6_on 34 = .ok (.getfield 25, 3) := by decide +kernel
theorem dX6_on_37 : decode cX6_on 37 = .ok (.aload_n 0, 1) := by decide +kernel
theorem dX6_on_38 : decode cX6_on 38 = .ok (.getfield 20, 3) := by decide +kernel
theorem dX6_on_41 : decode cX6_on 41 = .ok (.iload_n 1, 1) := by decide +kernel
theorem dX6_on_42 : decode cX6_on 42 = .ok (.aaload, 1) := by decide +kernel
theorem dX6_on_43 : decode cX6_on 43 = .ok (.invokevirtual 124, 3) := by decide +kernel
theorem dX6_on_46 : decode cX6_on 46 = .ok (.aload_n 0, 1) := by decide +kernel
theorem dX6_on_47 : decode cX6_on 47 = .ok (.getfield 25, 3) := by decide +kernel
theorem dX6_on_50 : decode cX6_on 50 = .ok (.getfield 203, 3) := by decide +kernel
theorem dX6_on_53 : decode cX6_on 53 = .ok (.ireturn, 1) := by decide +kernel
theorem dX6_most_0 : decode cX6_most 0 = .ok (.aload_n 0, 1) := by decide +kernel
theorem dX6_most_1 : decode cX6_most 1 = .ok (.getfield 11, 3) := by decide +kernel
theorem dX6_most_4 : decode cX6_most 4 = .ok (.iload_n 2, 1) := by decide +kernel
theorem dX6_most_5 : decode cX6_most 5 = .ok (.invokestatic 74, 3) := by decide +kernel
theorem dX6_most_8 : decode cX6_most 8 = .ok (.astore_n 3, 1) := by decide +kernel
theorem dX6_most_9 : decode cX6_most 9 = .ok (.aload_n 3, 1) := by decide +kernel
theorem dX6_most_10 : decode cX6_most 10 = .ok (.ifnull 12, 3) := by decide +kernel
theorem dX6_most_13 : decode cX6_most 13 = .ok (.iload_n 1, 1) := by decide +kernel
theorem dX6_most_14 : decode cX6_most 14 = .ok (.ifCond .lt 8, 3) := by decide +kernel
theorem dX6_most_17 : decode cX6_most 17 = .ok (.iload_n 1, 1) := by decide +kernel
theorem dX6_most_18 : decode cX6_most 18 = .ok (.iconst 5, 1) := by decide +kernel
theorem dX6_most_19 : decode cX6_most 19 = .ok (.if_icmp .le 5, 3) := by decide +kernel
theorem dX6_most_22 : decode cX6_most 22 = .ok (.iconst (-1), 1) := by decide +kernel
theorem dX6_most_23 : decode cX6_most 23 = .ok (.ireturn, 1) := by decide +kernel
theorem dX6_most_24 : decode cX6_most 24 = .ok (.aload_n 0, 1) := by decide +kernel
theorem dX6_most_25 : decode cX6_most 25 = .ok (.getfield 25, 3) := by decide +kernel
theorem dX6_most_28 : decode cX6_most 28 = .ok (.invokevirtual 188, 3) := by decide +kernel
theorem dX6_most_31 : decode cX6_most 31 = .ok (.ifCond .eq 6, 3) := by decide +kernel
theorem dX6_most_34 : decode cX6_most 34 = .ok (.bipush (-4), 2) := by decide +kernel
theorem dX6_most_36 : decode cX6_most 36 = .ok (.ireturn, 1) := by decide +kernel
theorem dX6_most_37 : decode cX6_most 37 = .ok (.aload_n 0, 1) := by decide +kernel
theorem dX6_most_38 : decode cX6_most 38 = .ok (.getfield 42, 3) := by decide +kernel
theorem dX6_most_41 : decode cX6_most 41 = .ok (.aload_n 0, 1) := by decide +kernel
theorem dX6_most_42 : decode cX6_most 42 = .ok (.getfield 25, 3) := by decide +kernel
theorem dX6_most_45 : decode cX6_most 45 = .ok (.iload_n 1, 1) := by decide +kernel
theorem dX6_most_46 : decode cX6_most 46 = .ok (.invokevirtual 209, 3) := by decide +kernel
theorem dX6_most_49 : decode cX6_most 49 = .ok (.istore 4, 2) := by decide +kernel
theorem dX6_most_51 : decode cX6_most 51 = .ok (.aload_n 0, 1) := by decide +kernel
theorem dX6_most_52 : decode cX6_most 52 = .ok (.getfield 42, 3) := by decide +kernel
theorem dX6_most_55 : decode cX6_most 55 = .ok (.aload_n 0, 1) := by decide +kernel
theorem dX6_most_56 : decode cX6_most 56 = .ok (.getfield 25, 3) := by decide +kernel
theorem dX6_most_59 : decode cX6_most 59 = .ok (.iload_n 1, 1) := by decide +kernel
theorem dX6_most_60 : decode cX6_most 60 = .ok (.aload_n 3, 1) := by decide +kernel
theorem dX6_most_61 : decode cX6_most 61 = .ok (.invokevirtual 213, 3) := by decide +kernel
theorem dX6_most_64 : decode cX6_most 64 = .ok (.iload 4, 2) := by decide +kernel
theorem dX6_most_66 : decode cX6_most 66 = .ok (.ireturn, 1) := by decide +kernel
theorem dX6_school_0 : decode cX6_school 0 = .ok (.aload_n 0, 1) := by decide +kernel
theorem dX6_school_1 : decode cX6_school 1 = .ok (.getfield 11, 3) := by decide +kernel
theorem dX6_school_4 : decode cX6_school 4 = .ok (.iload_n 1, 1) := by decide +kernel
theorem dX6_school_5 : decode cX6_school 5 = .ok (.invokestatic 74, 3) := by decide +kernel
theorem dX6_school_8 : decode cX6_school 8 = .ok (.astore_n 2, 1) := by decide +kernel
theorem dX6_school_9 : decode cX6_school 9 = .ok (.aload_n 2, 1) := by decide +kernel
theorem dX6_school_10 : decode cX6_school 10 = .ok (.ifnonnull 5, 3) := by decide +kernel
theorem dX6_school_13 : decode cX6_school 13 = .ok (.iconst (-1), 1) := by decide +kernel
theorem dX6_school_14 : decode cX6_school 14 = .ok (.ireturn, 1) := by decide +kernel
theorem dX6_school_15 : decode cX6_school 15 = .ok (.aload_n 0, 1) := by decide +kernel
theorem dX6_school_16 : decode cX6_school 16 = .ok (.getfield 25, 3) := by decide +kernel
theorem dX6_school_19 : decode cX6_school 19 = .ok (.invokevirtual 188, 3) := by decide +kernel
theorem dX6_school_22 : decode cX6_school 22 = .ok (.ifCond .eq 6, 3) := by decide +kernel
theorem dX6_school_25 : decode cX6_school 25 = .ok (.bipush (-4), 2) := by decide +kernel
theorem dX6_school_27 : decode cX6_school 27 = .ok (.ireturn, 1) := by decide +kernel
theorem dX6_school_28 : decode cX6_school 28 = .ok (.iconst 0, 1) := by decide +kernel
theorem dX6_school_29 : decode cX6_school 29 = .ok (.istore_n 3, 1) := by decide +kernel
theorem dX6_school_30 : decode cX6_school 30 = .ok (.iload_n 3, 1) := by decide +kernel
theorem dX6_school_31 : decode cX6_school 31 = .ok (.iconst 5, 1) := by decide +kernel
theorem dX6_school_32 : decode cX6_school 32 = .ok (.if_icmp .gt 54, 3) := by decide +kernel
theorem dX6_school_35 : decode cX6_school 35 = .ok (.aload_n 0, 1) := by decide +kernel
theorem dX6_school_36 : decode cX6_school 36 = .ok (.getfield 25, 3) := by decide +kernel
theorem dX6_school_39 : decode cX6_school 39 = .ok (.getfield 217, 3) := by decide +kernel
theorem dX6_school_42 : decode cX6_school 42 = .ok (.aload_n 0, 1) := by decide +kernel
theorem dX6_school_43 : decode cX6_school 43 = .ok (.getfield 42, 3) := by decide +kernel
theorem dX6_school_46 : decode cX6_school 46 = .ok (.aload_n 0, 1) := by decide +kernel
theorem dX6_school_47 : decode cX6_school 47 = .ok (.getfield 25, 3) := by decide +kernel
theorem dX6_school_50 : decode cX6_school 50 = .ok (.iload_n 3, 1) := by decide +kernel
theorem dX6_school_51 : decode cX6_school 51 = .ok (.invokevirtual 209, 3) := by decide +kernel
theorem dX6_school_54 : decode cX6_school 54 = .ok (.iadd, 1) := by decide +kernel
theorem dX6_school_55 : decode cX6_school 55 = .ok (.aload_n 0, 1) := by decide +kernel
theorem dX6_school_56 : decode cX6_school 56 = .ok (.getfield 25, 3) := by decide +kernel
theorem dX6_school_59 : decode cX6_school 59 = .ok (.getfield 218, 3) := by decide +kernel
theorem dX6_school_62 : decode cX6_school 62 = .ok (.if_icmp .lt 18, 3) := by decide +kernel
theorem dX6_school_65 : decode cX6_school 65 = .ok (.aload_n 0, 1) := by decide +kernel
theorem dX6_school_66 : decode cX6_school 66 = .ok (.getfield 42, 3) := by decide +kernel
theorem dX6_school_69 : decode cX6_school 69 = .ok (.aload_n 0, 1) := by decide +kernel
theorem dX6_school_70 : decode cX6_school 70 = .ok (.getfield 25, 3) := by decide +kernel
theorem dX6_school_73 : decode cX6_school 73 = .ok (.iload_n 3, 1) := by decide +kernel
theorem dX6_school_74 : decode cX6_school 74 = .ok (.aload_n 2, 1) := by decide +kernel
theorem dX6_school_75 : decode cX6_school 75 = .ok (.invokevirtual 213, 3) := by decide +kernel
theorem dX6_school_78 : decode cX6_school 78 = .ok (.iload_n 3, 1) := by decide +kernel
theorem dX6_school_79 : decode cX6_school 79 = .ok (.ireturn, 1) := by decide +kernel
theorem dX6_school_80 : decode cX6_school 80 = .ok (.iinc 3 1, 3) := by decide +kernel
theorem dX6_school_83 : decode cX6_school 83 = .ok (.goto (-53), 3) := by decide +kernel
theorem dX6_school_86 : decode cX6_school 86 = .ok (.bipush (-9), 2) := by decide +kernel
theorem dX6_school_88 : decode cX6_school 88 = .ok (.ireturn, 1) := by decide +kernel
theorem dX6_flown_0 : decode cX6_flown 0 = .ok (.aload_n 0, 1) := by decide +kernel
theorem dX6_flown_1 : decode cX6_flown 1 = .ok (.getfield 11, 3) := by decide +kernel
theorem dX6_flown_4 : decode cX6_flown 4 = .ok (.iload_n 1, 1) := by decide +kernel
theorem dX6_flown_5 : decode cX6_flown 5 = .ok (.invokestatic 74, 3) := by decide +kernel
theorem dX6_flown_8 : decode cX6_flown 8 = .ok (.astore_n 2, 1) := by decide +kernel
theorem dX6_flown_9 : decode cX6_flown 9 = .ok (.aload_n 2, 1) := by decide +kernel
theorem dX6_flown_10 : decode cX6_flown 10 = .ok (.ifnonnull 5, 3) := by decide +kernel
theorem dX6_flown_13 : decode cX6_flown 13 = .ok (.iconst (-1), 1) := by decide +kernel
theorem dX6_flown_14 : decode cX6_flown 14 = .ok (.ireturn, 1) := by decide +kernel
theorem dX6_flown_15 : decode cX6_flown 15 = .ok (.aload_n 0, 1) := by decide +kernel
theorem dX6_flown_16 : decode cX6_flown 16 = .ok (.getfield 25, 3) := by decide +kernel
theorem dX6_flown_19 : decode cX6_flown 19 = .ok (.invokevirtual 188, 3) := by decide +kernel
theorem dX6_flown_22 : decode cX6_flown 22 = .ok (.ifCond .eq 6, 3) := by decide +kernel
theorem dX6_flown_25 : decode cX6_flown 25 = .ok (.bipush (-4), 2) := by decide +kernel
theorem dX6_flown_27 : decode cX6_flown 27 = .ok (.ireturn, 1) := by decide +kernel
theorem dX6_flown_28 : decode cX6_flown 28 = .ok (.aload_n 2, 1) := by decide +kernel
theorem dX6_flown_29 : decode cX6_flown 29 = .ok (.invokevirtual 82, 3) := by decide +kernel
theorem dX6_flown_32 : decode cX6_flown 32 = .ok (.ifCond .ne 9, 3) := by decide +kernel
theorem dX6_flown_35 : decode cX6_flown 35 = .ok (.aload_n 0, 1) := by decide +kernel
theorem dX6_flown_36 : decode cX6_flown 36 = .ok (.iconst 1, 1) := by decide +kernel
theorem dX6_flown_37 : decode cX6_flown 37 = .ok (.invokevirtual 86, 3) := by decide +kernel
theorem dX6_flown_40 : decode cX6_flown 40 = .ok (.ireturn, 1) := by decide +kernel
theorem dX6_flown_41 : decode cX6_flown 41 = .ok (.aload_n 2, 1) := by decide +kernel
theorem dX6_flown_42 : decode cX6_flown 42 = .ok (.getfield 117, 3) := by decide +kernel
theorem dX6_flown_45 : decode cX6_flown 45 = .ok (.bipush 20, 2) := by decide +kernel
theorem dX6_flown_47 : decode cX6_flown 47 = .ok (.if_icmp .le 9, 3) := by decide +kernel
theorem dX6_flown_50 : decode cX6_flown 50 = .ok (.aload_n 0, 1) := by decide +kernel
theorem dX6_flown_51 : decode cX6_flown 51 = .ok (.iconst 5, 1) := by decide +kernel
theorem dX6_flown_52 : decode cX6_flown 52 = .ok (.invokevirtual 86, 3) := by decide +kernel
theorem dX6_flown_55 : decode cX6_flown 55 = .ok (.ireturn, 1) := by decide +kernel
theorem dX6_flown_56 : decode cX6_flown 56 = .ok (.aload_n 0, 1) := by decide +kernel
theorem dX6_flown_57 : decode cX6_flown 57 = .ok (.aload_n 2, 1) := by decide +kernel
theorem dX6_flown_58 : decode cX6_flown 58 = .ok (.invokevirtual 221, 3) := by decide +kernel
theorem dX6_flown_61 : decode cX6_flown 61 = .ok (.ifCond .ne 9, 3) := by decide +kernel
theorem dX6_flown_64 : decode cX6_flown 64 = .ok (.aload_n 0, 1) := by decide +kernel
theorem dX6_flown_65 : decode cX6_flown 65 = .ok (.iconst 3, 1) := by decide +kernel
theorem dX6_flown_66 : decode cX6_flown 66 = .ok (.invokevirtual 86, 3) := by decide +kernel
theorem dX6_flown_69 : decode cX6_flown 69 = .ok (.ireturn, 1) := by decide +kernel
theorem dX6_flown_70 : decode cX6_flown 70 = .ok (.iconst 0, 1) := by decide +kernel
theorem dX6_flown_71 : decode cX6_flown 71 = .ok (.istore_n 3, 1) := by decide +kernel
theorem dX6_flown_72 : decode cX6_flown 72 = .ok (.iconst 0, 1) := by decide +kernel
theorem dX6_flown_73 : decode cX6_flown 73 = .ok (.istore 4, 2) := by decide +kernel
theorem dX6_flown_75 : decode cX6_flown 75 = .ok (.iconst 0, 1) := by decide +kernel
theorem dX6_flown_76 : decode cX6_flown 76 = .ok (.istore 5, 2) := by decide +kernel
theorem dX6_flown_78 : decode cX6_flown 78 = .ok (.iload 5, 2) := by decide +kernel
theorem dX6_flown_80 : decode cX6_flown 80 = .ok (.aload_n 2, 1) := by decide +kernel
theorem dX6_flown_81 : decode cX6_flown 81 = .ok (.getfield 117, 3) := by decide +kernel
theorem dX6_flown_84 : decode cX6_flown 84 = .ok (.if_icmp .ge 77, 3) := by decide +kernel
theorem dX6_flown_87 : decode cX6_flown 87 = .ok (.aload_n 0, 1) := by decide +kernel
theorem dX6_flown_88 : decode cX6_flown 88 = .ok (.getfield 25, 3) := by decide +kernel
theorem dX6_flown_91 : decode cX6_flown 91 = .ok (.aload_n 2, 1) := by decide +kernel
theorem dX6_flown_92 : decode cX6_flown 92 = .ok (.iload 5, 2) := by decide +kernel
theorem dX6_flown_94 : decode cX6_flown 94 = .ok (.invokevirtual 94, 3) := by decide +kernel
theorem dX6_flown_97 : decode cX6_flown 97 = .ok (.invokevirtual 131, 3) := by decide +kernel
theorem dX6_flown_100 : decode cX6_flown 100 = .ok (.astore 6, 2) := by decide +kernel
theorem dX6_flown_102 : decode cX6_flown 102 = .ok (.aload 6, 2) := by decide +kernel
theorem dX6_flown_104 : decode cX6_flown 104 = .ok (.ifnull 51, 3) := by decide +kernel
theorem dX6_flown_107 : decode cX6_flown 107 = .ok (.aload_n 0, 1) := by decide +kernel
theorem dX6_flown_108 : decode cX6_flown 108 = .ok (.getfield 25, 3) := by decide +kernel
theorem dX6_flown_111 : decode cX6_flown 111 = .ok (.iload 5, 2) := by decide +kernel
theorem dX6_flown_113 : decode cX6_flown 113 = .ok (.invokevirtual 144, 3) := by decide +kernel
theorem dX6_flown_116 : decode cX6_flown 116 = .ok (.istore 7, 2) := by decide +kernel
theorem dX6_flown_118 : decode cX6_flown 118 = .ok (.iload_n 3, 1) := by decide +kernel
theorem dX6_flown_119 : decode cX6_flown 119 = .ok (.aload 6, 2) := by decide +kernel
theorem dX6_flown_121 : decode cX6_flown 121 = .ok (.iload 7, 2) := by decide +kernel
theorem dX6_flown_123 : decode cX6_flown 123 = .ok (.invokevirtual 173, 3) := by decide +kernel
theorem dX6_flown_126 : decode cX6_flown 126 = .ok (.iadd, 1) := by decide +kernel
theorem dX6_flown_127 : decode cX6_flown 127 = .ok (.istore_n 3, 1) := by decide +kernel
theorem dX6_flown_128 : decode cX6_flown 128 = .ok (.iload 4, 2) := by decide +kernel
theorem dX6_flown_130 : decode cX6_flown 130 = .ok (.aload 6, 2) := by decide +kernel
theorem dX6_flown_132 : decode cX6_flown 132 = .ok (.iload 7, 2) := by decide +kernel
theorem dX6_flown_134 : decode cX6_flown 134 = .ok (.invokevirtual 170, 3) := by decide +kernel
theorem dX6_flown_137 : decode cX6_flown 137 = .ok (.ifCond .eq 14, 3) := by decide +kernel
theorem dX6_flown_140 : decode cX6_flown 140 = .ok (.iconst 1, 1) := by decide +kernel
theorem dX6_flown_141 : decode cX6_flown 141 = .ok (.aload_n 2, 1) := by decide +kernel
theorem dX6_flown_142 : decode cX6_flown 142 = .ok (.iload 5, 2) := by decide +kernel
theorem dX6_flown_144 : decode cX6_flown 144 = .ok (.invokevirtual 94, 3) := by decide +kernel
theorem dX6_flown_147 : decode cX6_flown 147 = .ok (.ishl, 1) := by decide +kernel
theorem dX6_flown_148 : decode cX6_flown 148 = .ok (.goto 4, 3) := by decide +kernel
theorem dX6_flown_151 : decode cX6_flown 151 = .ok (.iconst 0, 1) := by decide +kernel
theorem dX6_flown_152 : decode cX6_flown 152 = .ok (.ior, 1) := by decide +kernel
theorem dX6_flown_153 : decode cX6_flown 153 = .ok (.istore 4, 2) := by decide +kernel
theorem dX6_flown_155 : decode cX6_flown 155 = .ok (.iinc 5 1, 3) := by decide +kernel
theorem dX6_flown_158 : decode cX6_flown 158 = .ok (.goto (-80), 3) := by decide +kernel
theorem dX6_flown_161 : decode cX6_flown 161 = .ok (.aload_n 0, 1) := by decide +kernel
theorem dX6_flown_162 : decode cX6_flown 162 = .ok (.iload 4, 2) := by decide +kernel
theorem dX6_flown_164 : decode cX6_flown 164 = .ok (.putfield 61, 3) := by decide +kernel
theorem dX6_flown_167 : decode cX6_flown 167 = .ok (.iload_n 3, 1) := by decide +kernel
theorem dX6_flown_168 : decode cX6_flown 168 = .ok (.ireturn, 1) := by decide +kernel
theorem dX6_when_0 : decode cX6_when 0 = .ok (.aload_n 0, 1) := by decide +kernel
theorem dX6_when_1 : decode cX6_when 1 = .ok (.getfield 25, 3) := by decide +kernel
theorem dX6_when_4 : decode cX6_when 4 = .ok (.iload_n 1, 1) := by decide +kernel
theorem dX6_when_5 : decode cX6_when 5 = .ok (.invokevirtual 131, 3) := by decide +kernel
theorem dX6_when_8 : decode cX6_when 8 = .ok (.astore_n 2, 1) := by decide +kernel
theorem dX6_when_9 : decode cX6_when 9 = .ok (.aload_n 2, 1) := by decide +kernel
theorem dX6_when_10 : decode cX6_when 10 = .ok (.ifnonnull 5, 3) := by decide +kernel
theorem dX6_when_13 : decode cX6_when 13 = .ok (.iconst (-1), 1) := by decide +kernel
theorem dX6_when_14 : decode cX6_when 14 = .ok (.ireturn, 1) := by decide +kernel
theorem dX6_when_15 : decode cX6_when 15 = .ok (.iconst 0, 1) := by decide +kernel
theorem dX6_when_16 : decode cX6_when 16 = .ok (.istore_n 3, 1) := by decide +kernel
theorem dX6_when_17 : decode cX6_when 17 = .ok (.iconst 1, 1) := by decide +kernel
theorem dX6_when_18 : decode cX6_when 18 = .ok (.istore 4, 2) := by decide +kernel
theorem dX6_when_20 : decode cX6_when 20 = .ok (.iload 4, 2) := by decide +kernel
theorem dX6_when_22 : decode cX6_when 22 = .ok (.iconst 4, 1) := by decide +kernel
theorem dX6_when_23 : decode cX6_when 23 = .ok (.if_icmp .ge 40, 3) := by decide +kernel
theorem dX6_when_26 : decode cX6_when 26 = .ok (.aload_n 2, 1) := by decide +kernel
theorem dX6_when_27 : decode cX6_when 27 = .ok (.aload_n 0, 1) := by decide +kernel
theorem dX6_when_28 : decode cX6_when 28 = .ok (.getfield 25, 3) := by decide +kernel
theorem dX6_when_31 : decode cX6_when 31 = .ok (.iload 4, 2) := by decide +kernel
theorem dX6_when_33 : decode cX6_when 33 = .ok (.invokevirtual 144, 3) := by decide +kernel
theorem dX6_when_36 : decode cX6_when 36 = .ok (.invokevirtual 173, 3) := by decide +kernel
theorem dX6_when_39 : decode cX6_when 39 = .ok (.aload_n 2, 1) := by decide +kernel
theorem dX6_when_40 : decode cX6_when 40 = .ok (.aload_n 0, 1) := by decide +kernel
theorem dX6_when_41 : decode cX6_when 41 = .ok (.getfield 25, 3) := by decide +kernel
theorem dX6_when_44 : decode cX6_when 44 = .ok (.iload_n 3, 1) := by decide +kernel
theorem dX6_when_45 : decode cX6_when 45 = .ok (.invokevirtual 144, 3) := by decide +kernel
theorem dX6_when_48 : decode cX6_when 48 = .ok (.invokevirtual 173, 3) := by decide +kernel
theorem dX6_when_51 : decode cX6_when 51 = .ok (.if_icmp .le 6, 3) := by decide +kernel
theorem dX6_when_54 : decode cX6_when 54 = .ok (.iload 4, 2) := by decide +kernel
theorem dX6_when_56 : decode cX6_when 56 = .ok (.istore_n 3, 1) := by decide +kernel
theorem dX6_when_57 : decode cX6_when 57 = .ok (.iinc 4 1, 3) := by decide +kernel
theorem dX6_when_60 : decode cX6_when 60 = .ok (.goto (-40), 3) := by decide +kernel
theorem dX6_when_63 : decode cX6_when 63 = .ok (.aload_n 0, 1) := by decide +kernel
theorem dX6_when_64 : decode cX6_when 64 = .ok (.aload_n 2, 1) := by decide +kernel
theorem dX6_when_65 : decode cX6_when 65 = .ok (.aload_n 0, 1) := by decide +kernel
theorem dX6_when_66 : decode cX6_when 66 = .ok (.getfield 25, 3) := by decide +kernel
theorem dX6_when_69 : decode cX6_when 69 = .ok (.iload_n 3, 1) := by decide +kernel
theorem dX6_when_70 : decode cX6_when 70 = .ok (.invokevirtual 144, 3) := by decide +kernel
theorem dX6_when_73 : decode cX6_when 73 = .ok (.invokevirtual 173, 3) := by decide +kernel
theorem dX6_when_76 : decode cX6_when 76 = .ok (.putfield 61, 3) := by decide +kernel
theorem dX6_when_79 : decode cX6_when 79 = .ok (.iload_n 3, 1) := by decide +kernel
theorem dX6_when_80 : decode cX6_when 80 = .ok (.ireturn, 1) := by decide +kernel
theorem dX6_cross_0 : decode cX6_cross 0 = .ok (.aload_n 0, 1) := by decide +kernel
theorem dX6_cross_1 : decode cX6_cross 1 = .ok (.getfield 25, 3) := by decide +kernel
theorem dX6_cross_4 : decode cX6_cross 4 = .ok (.iload_n 1, 1) := by decide +kernel
theorem dX6_cross_5 : decode cX6_cross 5 = .ok (.invokevirtual 131, 3) := by decide +kernel
theorem dX6_cross_8 : decode cX6_cross 8 = .ok (.ifnull 26, 3) := by decide +kernel
theorem dX6_cross_11 : decode cX6_cross 11 = .ok (.aload_n 0, 1) := by decide +kernel
theorem dX6_cross_12 : decode cX6_cross 12 = .ok (.getfield 25, 3) := by decide +kernel
theorem dX6_cross_15 : decode cX6_cross 15 = .ok (.iload_n 2, 1) := by decide +kernel
theorem dX6_cross_16 : decode cX6_cross 16 = .ok (.invokevirtual 131, 3) := by decide +kernel
theorem dX6_cross_19 : decode cX6_cross 19 = .ok (.ifnull 15, 3) := by decide +kernel
theorem dX6_cross_22 : decode cX6_cross 22 = .ok (.iload_n 1, 1) := by decide +kernel
theorem dX6_cross_23 : decode cX6_cross 23 = .ok (.iload_n 2, 1) := by decide +kernel
theorem dX6_cross_24 : decode cX6_cross 24 = .ok (.if_icmp .eq 10, 3) := by decide +kernel
theorem dX6_cross_27 : decode cX6_cross 27 = .ok (.iload_n 3, 1) := by decide +kernel
theorem dX6_cross_28 : decode cX6_cross 28 = .ok (.invokestatic 167, 3) := by decide +kernel
theorem dX6_cross_31 : decode cX6_cross 31 = .ok (.ifCond .ne 5, 3) := by decide +kernel
theorem dX6_cross_34 : decode cX6_cross 34 = .ok (.iconst (-1), 1) := by decide +kernel
theorem dX6_cross_35 : decode cX6_cross 35 = .ok (.ireturn, 1) := by decide +kernel
theorem dX6_cross_36 : decode cX6_cross 36 = .ok (.aload_n 0, 1) := by decide +kernel
theorem dX6_cross_37 : decode cX6_cross 37 = .ok (.getfield 25, 3) := by decide +kernel
theorem dX6_cross_40 : decode cX6_cross 40 = .ok (.iload_n 1, 1) := by decide +kernel
theorem dX6_cross_41 : decode cX6_cross 41 = .ok (.iload_n 2, 1) := by decide +kernel
theorem dX6_cross_42 : decode cX6_cross 42 = .ok (.iload_n 3, 1) := by decide +kernel
theorem dX6_cross_43 : decode cX6_cross 43 = .ok (.invokevirtual 225, 3) := by decide +kernel
theorem dX6_cross_46 : decode cX6_cross 46 = .ok (.ireturn, 1) := by decide +kernel
theorem dX6_crossed_0 : decode cX6_crossed 0 = .ok (.iload_n 1, 1) := by decide +kernel
theorem dX6_crossed_1 : decode cX6_crossed 1 = .ok (.ifCond .lt 17, 3) := by decide +kernel
theorem dX6_crossed_4 : decode cX6_crossed 4 = .ok (.iload_n 1, 1) := by decide +kernel
theorem dX6_crossed_5 : decode cX6_crossed 5 = .ok (.sipush 200, 3) := by decide +kernel
theorem dX6_crossed_8 : decode cX6_crossed 8 = .ok (.if_icmp .gt 10, 3) := by decide +kernel
theorem dX6_crossed_11 : decode cX6_crossed 11 = .ok (.iload_n 2, 1) := by decide +kernel
theorem dX6_crossed_12 : decode cX6_crossed 12 = .ok (.invokestatic 167, 3) := by decide +kernel
theorem dX6_crossed_15 : decode cX6_crossed 15 = .ok (.ifCond .ne 5, 3) := by decide +kernel
theorem dX6_crossed_18 : decode cX6_crossed 18 = .ok (.iconst (-1), 1) := by decide +kernel
theorem dX6_crossed_19 : decode cX6_crossed 19 = .ok (.ireturn, 1) := by decide +kernel
theorem dX6_crossed_20 : decode cX6_crossed 20 = .ok (.aload_n 0, 1) := by decide +kernel
theorem dX6_crossed_21 : decode cX6_crossed 21 = .ok (.getfield 25, 3) := by decide +kernel
theorem dX6_crossed_24 : decode cX6_crossed 24 = .ok (.invokevirtual 188, 3) := by decide +kernel
theorem dX6_crossed_27 : decode cX6_crossed 27 = .ok (.ifCond .eq 6, 3) := by decide +kernel
theorem dX6_crossed_30 : decode cX6_crossed 30 = .ok (.bipush (-4), 2) := by decide +kernel
theorem dX6_crossed_32 : decode cX6_crossed 32 = .ok (.ireturn, 1) := by decide +kernel
theorem dX6_crossed_33 : decode cX6_crossed 33 = .ok (.iconst 0, 1) := by decide +kernel
theorem dX6_crossed_34 : decode cX6_crossed 34 = .ok (.istore_n 3, 1) := by decide +kernel
theorem dX6_crossed_35 : decode cX6_crossed 35 = .ok (.iconst 0, 1) := by decide +kernel
theorem dX6_crossed_36 : decode cX6_crossed 36 = .ok (.istore 4, 2) := by decide +kernel
theorem dX6_crossed_38 : decode cX6_crossed 38 = .ok (.iconst 0, 1) := by decide +kernel
theorem dX6_crossed_39 : decode cX6_crossed 39 = .ok (.istore 5, 2) := by decide +kernel
theorem dX6_crossed_41 : decode cX6_crossed 41 = .ok (.iload 5, 2) := by decide +kernel
theorem dX6_crossed_43 : decode cX6_crossed 43 = .ok (.aload_n 0, 1) := by decide +kernel
theorem dX6_crossed_44 : decode cX6_crossed 44 = .ok (.getfield 25, 3) := by decide +kernel
theorem dX6_crossed_47 : decode cX6_crossed 47 = .ok (.getfield 128, 3) := by decide +kernel
theorem dX6_crossed_50 : decode cX6_crossed 50 = .ok (.if_icmp .ge 71, 3) := by decide +kernel
theorem dX6_crossed_53 : decode cX6_crossed 53 = .ok (.iload 5, 2) := by decide +kernel
theorem dX6_crossed_55 : decode cX6_crossed 55 = .ok (.iconst 1, 1) := by decide +kernel
theorem dX6_crossed_56 : decode cX6_crossed 56 = .ok (.iadd, 1) := by decide +kernel
theorem dX6_crossed_57 : decode cX6_crossed 57 = .ok (.istore 6, 2) := by decide +kernel
theorem dX6_crossed_59 : decode cX6_crossed 59 = .ok (.iload 6, 2) := by decide +kernel
theorem dX6_crossed_61 : decode cX6_crossed 61 = .ok (.aload_n 0, 1) := by decide +kernel
theorem dX6_crossed_62 : decode cX6_crossed 62 = .ok (.getfield 25, 3) := by decide +kernel
theorem dX6_crossed_65 : decode cX6_crossed 65 = .ok (.getfield 128, 3) := by decide +kernel
theorem dX6_crossed_68 : decode cX6_crossed 68 = .ok (.if_icmp .ge 47, 3) := by decide +kernel
theorem dX6_crossed_71 : decode cX6_crossed 71 = .ok (.aload_n 0, 1) := by decide +kernel
theorem dX6_crossed_72 : decode cX6_crossed 72 = .ok (.getfield 25, 3) := by decide +kernel
theorem dX6_crossed_75 : decode cX6_crossed 75 = .ok (.iload 5, 2) := by decide +kernel
theorem dX6_crossed_77 : decode cX6_crossed 77 = .ok (.iload 6, 2) := by decide +kernel
theorem dX6_crossed_79 : decode cX6_crossed 79 = .ok (.iload_n 2, 1) := by decide +kernel
theorem dX6_crossed_80 : decode cX6_crossed 80 = .ok (.invokevirtual 225, 3) := by decide +kernel
theorem dX6_crossed_83 : decode cX6_crossed 83 = .ok (.iload_n 1, 1) := by decide +kernel
theorem dX6_crossed_84 : decode cX6_crossed 84 = .ok (.if_icmp .ne 25, 3) := by decide +kernel
theorem dX6_crossed_87 : decode cX6_crossed 87 = .ok (.iload_n 3, 1) := by decide +kernel
theorem dX6_crossed_88 : decode cX6_crossed 88 = .ok (.ifCond .ne 14, 3) := by decide +kernel
theorem dX6_crossed_91 : decode cX6_crossed 91 = .ok (.bipush 10, 2) := by decide +kernel
theorem dX6_crossed_93 : decode cX6_crossed 93 = .ok (.iload 5, 2) := by decide +kernel
theorem dX6_crossed_95 : decode cX6_crossed 95 = .ok (.imul, 1) := by decide +kernel
theorem dX6_crossed_96 : decode cX6_crossed 96 = .ok (.iload 6, 2) := by decide +kernel
theorem dX6_crossed_98 : decode cX6_crossed 98 = .ok (.iadd, 1) := by decide +kernel
theorem dX6_crossed_99 : decode cX6_crossed 99 = .ok (.goto 5, 3) := by decide +kernel
theorem dX6_crossed_102 : decode cX6_crossed 102 = .ok (.iload 4, 2) := by decide +kernel
theorem dX6_crossed_104 : decode cX6_crossed 104 = .ok (.istore 4, 2) := by decide +kernel
theorem dX6_crossed_106 : decode cX6_crossed 106 = .ok (.iinc 3 1, 3) := by decide +kernel
theorem dX6_crossed_109 : decode cX6_crossed 109 = .ok (.iinc 6 1, 3) := by decide +kernel
theorem dX6_crossed_112 : decode cX6_crossed 112 = .ok (.goto (-53), 3) := by decide +kernel
theorem dX6_crossed_115 : decode cX6_crossed 115 = .ok (.iinc 5 1, 3) := by decide +kernel
theorem dX6_crossed_118 : decode cX6_crossed 118 = .ok (.goto (-77), 3) := by decide +kernel
theorem dX6_crossed_121 : decode cX6_crossed 121 = .ok (.iload_n 3, 1) := by decide +kernel
theorem dX6_crossed_122 : decode cX6_crossed 122 = .ok (.ifCond .ne 6, 3) := by decide +kernel
theorem dX6_crossed_125 : decode cX6_crossed 125 = .ok (.bipush (-9), 2) := by decide +kernel
theorem dX6_crossed_127 : decode cX6_crossed 127 = .ok (.ireturn, 1) := by decide +kernel
theorem dX6_crossed_128 : decode cX6_crossed 128 = .ok (.aload_n 0, 1) := by decide +kernel
theorem dX6_crossed_129 : decode cX6_crossed 129 = .ok (.iload 4, 2) := by decide +kernel
theorem dX6_crossed_131 : decode cX6_crossed 131 = .ok (.putfield 61, 3) := by decide +kernel
theorem dX6_crossed_134 : decode cX6_crossed 134 = .ok (.iload_n 3, 1) := by decide +kernel
theorem dX6_crossed_135 : decode cX6_crossed 135 = .ok (.ireturn, 1) := by decide +kernel
theorem dX6_merge_0 : decode cX6_merge 0 = .ok (.aload_n 0, 1) := by decide +kernel
theorem dX6_merge_1 : decode cX6_merge 1 = .ok (.getfield 11, 3) := by decide +kernel
theorem dX6_merge_4 : decode cX6_merge 4 = .ok (.iload_n 2, 1) := by decide +kernel
theorem dX6_merge_5 : decode cX6_merge 5 = .ok (.invokestatic 74, 3) := by decide +kernel
theorem dX6_merge_8 : decode cX6_merge 8 = .ok (.astore_n 3, 1) := by decide +kernel
theorem dX6_merge_9 : decode cX6_merge 9 = .ok (.aload_n 3, 1) := by decide +kernel
theorem dX6_merge_10 : decode cX6_merge 10 = .ok (.ifnull 10, 3) := by decide +kernel
theorem dX6_merge_13 : decode cX6_merge 13 = .ok (.iload_n 1, 1) := by decide +kernel
theorem dX6_merge_14 : decode cX6_merge 14 = .ok (.invokestatic 167, 3) := by decide +kernel
theorem dX6_merge_17 : decode cX6_merge 17 = .ok (.ifCond .ne 5, 3) := by decide +kernel
theorem dX6_merge_20 : decode cX6_merge 20 = .ok (.iconst (-1), 1) := by decide +kernel
theorem dX6_merge_21 : decode cX6_merge 21 = .ok (.ireturn, 1) := by decide +kernel
theorem dX6_merge_22 : decode cX6_merge 22 = .ok (.aload_n 0, 1) := by decide +kernel
theorem dX6_merge_23 : decode cX6_merge 23 = .ok (.getfield 25, 3) := by decide +kernel
theorem dX6_merge_26 : decode cX6_merge 26 = .ok (.invokevirtual 188, 3) := by decide +kernel
theorem dX6_merge_29 : decode cX6_merge 29 = .ok (.ifCond .eq 6, 3) := by decide +kernel
theorem dX6_merge_32 : decode cX6_merge 32 = .ok (.bipush (-4), 2) := by decide +kernel
theorem dX6_merge_34 : decode cX6_merge 34 = .ok (.ireturn, 1) := by decide +kernel
theorem dX6_merge_35 : decode cX6_merge 35 = .ok (.aload_n 0, 1) := by decide +kernel
theorem dX6_merge_36 : decode cX6_merge 36 = .ok (.getfield 49, 3) := by decide +kernel
theorem dX6_merge_39 : decode cX6_merge 39 = .ok (.aload_n 0, 1) := by decide +kernel
theorem dX6_merge_40 : decode cX6_merge 40 = .ok (.getfield 25, 3) := by decide +kernel
theorem dX6_merge_43 : decode cX6_merge 43 = .ok (.iload_n 1, 1) := by decide +kernel
theorem dX6_merge_44 : decode cX6_merge 44 = .ok (.invokevirtual 228, 3) := by decide +kernel
theorem dX6_merge_47 : decode cX6_merge 47 = .ok (.istore 4, 2) := by decide +kernel
theorem dX6_merge_49 : decode cX6_merge 49 = .ok (.aload_n 0, 1) := by decide +kernel
theorem dX6_merge_50 : decode cX6_merge 50 = .ok (.getfield 49, 3) := by decide +kernel
theorem dX6_merge_53 : decode cX6_merge 53 = .ok (.aload_n 0, 1) := by decide +kernel
theorem dX6_merge_54 : decode cX6_merge 54 = .ok (.getfield 25, 3) := by decide +kernel
theorem dX6_merge_57 : decode cX6_merge 57 = .ok (.iload_n 1, 1) := by decide +kernel
theorem dX6_merge_58 : decode cX6_merge 58 = .ok (.aload_n 3, 1) := by decide +kernel
theorem dX6_merge_59 : decode cX6_merge 59 = .ok (.invokevirtual 231, 3) := by decide +kernel
theorem dX6_merge_62 : decode cX6_merge 62 = .ok (.iload 4, 2) := by decide +kernel
theorem dX6_merge_64 : decode cX6_merge 64 = .ok (.ireturn, 1) := by decide +kernel
theorem dX6_tails_0 : decode cX6_tails 0 = .ok (.aload_n 0, 1) := by decide +kernel
theorem dX6_tails_1 : decode cX6_tails 1 = .ok (.getfield 25, 3) := by decide +kernel
theorem dX6_tails_4 : decode cX6_tails 4 = .ok (.iload_n 1, 1) := by decide +kernel
theorem dX6_tails_5 : decode cX6_tails 5 = .ok (.invokevirtual 131, 3) := by decide +kernel
theorem dX6_tails_8 : decode cX6_tails 8 = .ok (.astore_n 3, 1) := by decide +kernel
theorem dX6_tails_9 : decode cX6_tails 9 = .ok (.aload_n 0, 1) := by decide +kernel
theorem dX6_tails_10 : decode cX6_tails 10 = .ok (.getfield 11, 3) := by decide +kernel
theorem dX6_tails_13 : decode cX6_tails 13 = .ok (.iload_n 2, 1) := by decide +kernel
theorem dX6_tails_14 : decode cX6_tails 14 = .ok (.invokestatic 74, 3) := by decide +kernel
theorem dX6_tails_17 : decode cX6_tails 17 = .ok (.astore 4, 2) := by decide +kernel
theorem dX6_tails_19 : decode cX6_tails 19 = .ok (.aload_n 3, 1) := by decide +kernel
theorem dX6_tails_20 : decode cX6_tails 20 = .ok (.ifnull 8, 3) := by decide +kernel
theorem dX6_tails_23 : decode cX6_tails 23 = .ok (.aload 4, 2) := by decide +kernel
theorem dX6_tails_25 : decode cX6_tails 25 = .ok (.ifnonnull 5, 3) := by decide +kernel
theorem dX6_tails_28 : decode cX6_tails 28 = .ok (.iconst (-1), 1) := by decide +kernel
theorem dX6_tails_29 : decode cX6_tails 29 = .ok (.ireturn, 1) := by decide +kernel
theorem dX6_tails_30 : decode cX6_tails 30 = .ok (.aload 4, 2) := by decide +kernel
theorem dX6_tails_32 : decode cX6_tails 32 = .ok (.invokestatic 232, 3) := by decide +kernel
theorem dX6_tails_35 : decode cX6_tails 35 = .ok (.istore 5, 2) := by decide +kernel
theorem dX6_tails_37 : decode cX6_tails 37 = .ok (.iload 5, 2) := by decide +kernel
theorem dX6_tails_39 : decode cX6_tails 39 = .ok (.ifCond .eq 10, 3) := by decide +kernel
theorem dX6_tails_42 : decode cX6_tails 42 = .ok (.aload_n 0, 1) := by decide +kernel
theorem dX6_tails_43 : decode cX6_tails 43 = .ok (.iload 5, 2) := by decide +kernel
theorem dX6_tails_45 : decode cX6_tails 45 = .ok (.invokevirtual 86, 3) := by decide +kernel
theorem dX6_tails_48 : decode cX6_tails 48 = .ok (.ireturn, 1) := by decide +kernel
theorem dX6_tails_49 : decode cX6_tails 49 = .ok (.iconst 0, 1) := by decide +kernel
theorem dX6_tails_50 : decode cX6_tails 50 = .ok (.istore 6, 2) := by decide +kernel
theorem dX6_tails_52 : decode cX6_tails 52 = .ok (.iconst 0, 1) := by decide +kernel
theorem dX6_tails_53 : decode cX6_tails 53 = .ok (.istore 7, 2) := by decide +kernel
theorem dX6_tails_55 : decode cX6_tails 55 = .ok (.iload 7, 2) := by decide +kernel
theorem dX6_tails_57 : decode cX6_tails 57 = .ok (.iconst 4, 1) := by decide +kernel
theorem dX6_tails_58 : decode cX6_tails 58 = .ok (.if_icmp .ge 37, 3) := by decide +kernel
theorem dX6_tails_61 : decode cX6_tails 61 = .ok (.iload 6, 2) := by decide +kernel
theorem dX6_tails_63 : decode cX6_tails 63 = .ok (.aload_n 3, 1) := by decide +kernel
theorem dX6_tails_64 : decode cX6_tails 64 = .ok (.aload_n 3, 1) := by decide +kernel
theorem dX6_tails_65 : decode cX6_tails 65 = .ok (.getfield 236, 3) := by decide +kernel
theorem dX6_tails_68 : decode cX6_tails 68 = .ok (.iload 7, 2) := by decide +kernel
theorem dX6_tails_70 : decode cX6_tails 70 = .ok (.aload 4, 2) := by decide +kernel
theorem dX6_tails_72 : decode cX6_tails 72 = .ok (.invokestatic 239, 3) := by decide +kernel
theorem dX6_tails_75 : decode cX6_tails 75 = .ok (.ifCond .eq 10, 3) := by decide +kernel
theorem dX6_tails_78 : decode cX6_tails 78 = .ok (.iconst 1, 1) := by decide +kernel
theorem dX6_tails_79 : decode cX6_tails 79 = .ok (.iload 7, 2) := by decide +kernel
theorem dX6_tails_81 : decode cX6_tails 81 = .ok (.ishl, 1) := by decide +kernel
theorem dX6_tails_82 : decode cX6_tails 82 = .ok (.goto 4, 3) := by decide +kernel
theorem dX6_tails_85 : decode cX6_tails 85 = .ok (.iconst 0, 1) := by decide +kernel
theorem dX6_tails_86 : decode cX6_tails 86 = .ok (.ior, 1) := by decide +kernel
theorem dX6_tails_87 : decode cX6_tails 87 = .ok (.istore 6, 2) := by decide +kernel
theorem dX6_tails_89 : decode cX6_tails 89 = .ok (.iinc 7 1, 3) := by decide +kernel
theorem dX6_tails_92 : decode cX6_tails 92 = .ok (.goto (-37), 3) := by decide +kernel
theorem dX6_tails_95 : decode cX6_tails 95 = .ok (.iload 6, 2) := by decide +kernel
theorem dX6_tails_97 : decode cX6_tails 97 = .ok (.ireturn, 1) := by decide +kernel
theorem dX6_kinds_0 : decode cX6_kinds 0 = .ok (.aload_n 0, 1) := by decide +kernel
theorem dX6_kinds_1 : decode cX6_kinds 1 = .ok (.getfield 25, 3) := by decide +kernel
theorem dX6_kinds_4 : decode cX6_kinds 4 = .ok (.iload_n 1, 1) := by decide +kernel
theorem dX6_kinds_5 : decode cX6_kinds 5 = .ok (.invokevirtual 131, 3) := by decide +kernel
theorem dX6_kinds_8 : decode cX6_kinds 8 = .ok (.astore_n 3, 1) := by decide +kernel
theorem dX6_kinds_9 : decode cX6_kinds 9 = .ok (.aload_n 0, 1) := by decide +kernel
theorem dX6_kinds_10 : decode cX6_kinds 10 = .ok (.getfield 11, 3) := by decide +kernel
theorem dX6_kinds_13 : decode cX6_kinds 13 = .ok (.iload_n 2, 1) := by decide +kernel
theorem dX6_kinds_14 : decode cX6_kinds 14 = .ok (.invokestatic 74, 3) := by decide +kernel
theorem dX6_kinds_17 : decode cX6_kinds 17 = .ok (.astore 4, 2) := by decide +kernel
theorem dX6_kinds_19 : decode cX6_kinds 19 = .ok (.aload_n 3, 1) := by decide +kernel
theorem dX6_kinds_20 : decode cX6_kinds 20 = .ok (.ifnull 8, 3) := by decide +kernel
theorem dX6_kinds_23 : decode cX6_kinds 23 = .ok (.aload 4, 2) := by decide +kernel
theorem dX6_kinds_25 : decode cX6_kinds 25 = .ok (.ifnonnull 5, 3) := by decide +kernel
theorem dX6_kinds_28 : decode cX6_kinds 28 = .ok (.iconst (-1), 1) := by decide +kernel
theorem dX6_kinds_29 : decode cX6_kinds 29 = .ok (.ireturn, 1) := by decide +kernel
theorem dX6_kinds_30 : decode cX6_kinds 30 = .ok (.aload 4, 2) := by decide +kernel
theorem dX6_kinds_32 : decode cX6_kinds 32 = .ok (.invokestatic 232, 3) := by decide +kernel
theorem dX6_kinds_35 : decode cX6_kinds 35 = .ok (.istore 5, 2) := by decide +kernel
theorem dX6_kinds_37 : decode cX6_kinds 37 = .ok (.iload 5, 2) := by decide +kernel
theorem dX6_kinds_39 : decode cX6_kinds 39 = .ok (.ifCond .eq 12, 3) := by decide +kernel
theorem dX6_kinds_42 : decode cX6_kinds 42 = .ok (.aload_n 0, 1) := by decide +kernel
theorem dX6_kinds_43 : decode cX6_kinds 43 = .ok (.iload 5, 2) := by decide +kernel
theorem dX6_kinds_45 : decode cX6_kinds 45 = .ok (.invokevirtual 86, 3) := by decide +kernel
theorem dX6_kinds_48 : decode cX6_kinds 48 = .ok (.goto 9, 3) := by decide +kernel
theorem dX6_kinds_51 : decode cX6_kinds 51 = .ok (.aload_n 3, 1) := by decide +kernel
theorem dX6_kinds_52 : decode cX6_kinds 52 = .ok (.aload 4, 2) := by decide +kernel
theorem dX6_kinds_54 : decode cX6_kinds 54 = .ok (.invokestatic 243, 3) := by decide +kernel
theorem dX6_kinds_57 : decode cX6_kinds 57 = .ok (.ireturn, 1) := by decide +kernel
theorem dX6_test_0 : decode cX6_test 0 = .ok (.aload_n 0, 1) := by decide +kernel
theorem dX6_test_1 : decode cX6_test 1 = .ok (.getfield 25, 3) := by decide +kernel
theorem dX6_test_4 : decode cX6_test 4 = .ok (.iload_n 1, 1) := by decide +kernel
theorem dX6_test_5 : decode cX6_test 5 = .ok (.invokevirtual 131, 3) := by decide +kernel
theorem dX6_test_8 : decode cX6_test 8 = .ok (.astore_n 3, 1) := by decide +kernel
theorem dX6_test_9 : decode cX6_test 9 = .ok (.aload_n 0, 1) := by decide +kernel
theorem dX6_test_10 : decode cX6_test 10 = .ok (.getfield 11, 3) := by decide +kernel
theorem dX6_test_13 : decode cX6_test 13 = .ok (.iload_n 2, 1) := by decide +kernel
theorem dX6_test_14 : decode cX6_test 14 = .ok (.invokestatic 74, 3) := by decide +kernel
theorem dX6_test_17 : decode cX6_test 17 = .ok (.astore 4, 2) := by decide +kernel
theorem dX6_test_19 : decode cX6_test 19 = .ok (.aload_n 3, 1) := by decide +kernel
theorem dX6_test_20 : decode cX6_test 20 = .ok (.ifnull 8, 3) := by decide +kernel
theorem dX6_test_23 : decode cX6_test 23 = .ok (.aload 4, 2) := by decide +kernel
theorem dX6_test_25 : decode cX6_test 25 = .ok (.ifnonnull 5, 3) := by decide +kernel
theorem dX6_test_28 : decode cX6_test 28 = .ok (.iconst (-1), 1) := by decide +kernel
theorem dX6_test_29 : decode cX6_test 29 = .ok (.ireturn, 1) := by decide +kernel
theorem dX6_test_30 : decode cX6_test 30 = .ok (.aload 4, 2) := by decide +kernel
theorem dX6_test_32 : decode cX6_test 32 = .ok (.invokestatic 232, 3) := by decide +kernel
theorem dX6_test_35 : decode cX6_test 35 = .ok (.istore 5, 2) := by decide +kernel
theorem dX6_test_37 : decode cX6_test 37 = .ok (.iload 5, 2) := by decide +kernel
theorem dX6_test_39 : decode cX6_test 39 = .ok (.ifCond .eq 10, 3) := by decide +kernel
theorem dX6_test_42 : decode cX6_test 42 = .ok (.aload_n 0, 1) := by decide +kernel
theorem dX6_test_43 : decode cX6_test 43 = .ok (.iload 5, 2) := by decide +kernel
theorem dX6_test_45 : decode cX6_test 45 = .ok (.invokevirtual 86, 3) := by decide +kernel
theorem dX6_test_48 : decode cX6_test 48 = .ok (.ireturn, 1) := by decide +kernel
theorem dX6_test_49 : decode cX6_test 49 = .ok (.aload_n 3, 1) := by decide +kernel
theorem dX6_test_50 : decode cX6_test 50 = .ok (.aload 4, 2) := by decide +kernel
theorem dX6_test_52 : decode cX6_test 52 = .ok (.invokestatic 243, 3) := by decide +kernel
theorem dX6_test_55 : decode cX6_test 55 = .ok (.istore 6, 2) := by decide +kernel
theorem dX6_test_57 : decode cX6_test 57 = .ok (.iload 6, 2) := by decide +kernel
theorem dX6_test_59 : decode cX6_test 59 = .ok (.ifCond .ne 6, 3) := by decide +kernel
theorem dX6_test_62 : decode cX6_test 62 = .ok (.bipush (-9), 2) := by decide +kernel
theorem dX6_test_64 : decode cX6_test 64 = .ok (.ireturn, 1) := by decide +kernel
theorem dX6_test_65 : decode cX6_test 65 = .ok (.iconst 0, 1) := by decide +kernel
theorem dX6_test_66 : decode cX6_test 66 = .ok (.istore 7, 2) := by decide +kernel
theorem dX6_test_68 : decode cX6_test 68 = .ok (.aload_n 3, 1) := by decide +kernel
theorem dX6_test_69 : decode cX6_test 69 = .ok (.iload 6, 2) := by decide +kernel
theorem dX6_test_71 : decode cX6_test 71 = .ok (.iconst 0, 1) := by decide +kernel
theorem dX6_test_72 : decode cX6_test 72 = .ok (.invokestatic 247, 3) := by decide +kernel
theorem dX6_test_75 : decode cX6_test 75 = .ok (.istore 8, 2) := by decide +kernel
theorem dX6_test_77 : decode cX6_test 77 = .ok (.iconst 1, 1) := by decide +kernel
theorem dX6_test_78 : decode cX6_test 78 = .ok (.istore 9, 2) := by decide +kernel
theorem dX6_test_80 : decode cX6_test 80 = .ok (.iload 9, 2) := by decide +kernel
theorem dX6_test_82 : decode cX6_test 82 = .ok (.bipush 9, 2) := by decide +kernel
theorem dX6_test_84 : decode cX6_test 84 = .ok (.if_icmp .gt 34, 3) := by decide +kernel
theorem dX6_test_87 : decode cX6_test 87 = .ok (.aload_n 3, 1) := by decide +kernel
theorem dX6_test_88 : decode cX6_test 88 = .ok (.iload 6, 2) := by decide +kernel
theorem dX6_test_90 : decode cX6_test 90 = .ok (.iload 9, 2) := by decide +kernel
theorem dX6_test_92 : decode cX6_test 92 = .ok (.invokestatic 247, 3) := by decide +kernel
theorem dX6_test_95 : decode cX6_test 95 = .ok (.istore 10, 2) := by decide +kernel
theorem dX6_test_97 : decode cX6_test 97 = .ok (.iload 10, 2) := by decide +kernel
theorem dX6_test_99 : decode cX6_test 99 = .ok (.iload 8, 2) := by decide +kernel
theorem dX6_test_101 : decode cX6_test 101 = .ok (.if_icmp .ge 11, 3) := by decide +kernel
theorem dX6_test_104 : decode cX6_test 104 = .ok (.iload 10, 2) := by decide +kernel
theorem dX6_test_106 : decode cX6_test 106 = .ok (.istore 8, 2) := by decide +kernel
theorem dX6_test_108 : decode cX6_test 108 = .ok (.iload 9, 2) := by decide +kernel
theorem dX6_test_110 : decode cX6_test 110 = .ok (.istore 7, 2) := by decide +kernel
theorem dX6_test_112 : decode cX6_test 112 = .ok (.iinc 9 1, 3) := by decide +kernel
theorem dX6_test_115 : decode cX6_test 115 = .ok (.goto (-35), 3) := by decide +kernel
theorem dX6_test_118 : decode cX6_test 118 = .ok (.aload_n 0, 1) := by decide +kernel
theorem dX6_test_119 : decode cX6_test 119 = .ok (.iload 8, 2) := by decide +kernel
theorem dX6_test_121 : decode cX6_test 121 = .ok (.putfield 61, 3) := by decide +kernel
theorem dX6_test_124 : decode cX6_test 124 = .ok (.iload 7, 2) := by decide +kernel
theorem dX6_test_126 : decode cX6_test 126 = .ok (.ireturn, 1) := by decide +kernel
theorem dX6_duel_0 : decode cX6_duel 0 = .ok (.iload_n 1, 1) := by decide +kernel
theorem dX6_duel_1 : decode cX6_duel 1 = .ok (.ifCond .lt 9, 3) := by decide +kernel
theorem dX6_duel_4 : decode cX6_duel 4 = .ok (.iload_n 1, 1) := by decide +kernel
theorem dX6_duel_5 : decode cX6_duel 5 = .ok (.bipush 6, 2) := by decide +kernel
theorem dX6_duel_7 : decode cX6_duel 7 = .ok (.if_icmp .le 5, 3) := by decide +kernel
theorem dX6_duel_10 : decode cX6_duel 10 = .ok (.iconst (-1), 1) := by decide +kernel
theorem dX6_duel_11 : decode cX6_duel 11 = .ok (.ireturn, 1) := by decide +kernel
theorem dX6_duel_12 : decode cX6_duel 12 = .ok (.aload_n 0, 1) := by decide +kernel
theorem dX6_duel_13 : decode cX6_duel 13 = .ok (.getfield 25, 3) := by decide +kernel
theorem dX6_duel_16 : decode cX6_duel 16 = .ok (.invokevirtual 188, 3) := by decide +kernel
theorem dX6_duel_19 : decode cX6_duel 19 = .ok (.ifCond .eq 6, 3) := by decide +kernel
theorem dX6_duel_22 : decode cX6_duel 22 = .ok (.bipush (-4), 2) := by decide +kernel
theorem dX6_duel_24 : decode cX6_duel 24 = .ok (.ireturn, 1) := by decide +kernel
theorem dX6_duel_25 : decode cX6_duel 25 = .ok (.aload_n 0, 1) := by decide +kernel
theorem dX6_duel_26 : decode cX6_duel 26 = .ok (.getfield 42, 3) := by decide +kernel
theorem dX6_duel_29 : decode cX6_duel 29 = .ok (.aload_n 0, 1) := by decide +kernel
theorem dX6_duel_30 : decode cX6_duel 30 = .ok (.getfield 25, 3) := by decide +kernel
theorem dX6_duel_33 : decode cX6_duel 33 = .ok (.iload_n 1, 1) := by decide +kernel
theorem dX6_duel_34 : decode cX6_duel 34 = .ok (.invokevirtual 251, 3) := by decide +kernel
theorem dX6_duel_37 : decode cX6_duel 37 = .ok (.ireturn, 1) := by decide +kernel
theorem dX6_odds_0 : decode cX6_odds 0 = .ok (.iload_n 1, 1) := by decide +kernel
theorem dX6_odds_1 : decode cX6_odds 1 = .ok (.ifCond .lt 9, 3) := by decide +kernel
theorem dX6_odds_4 : decode cX6_odds 4 = .ok (.iload_n 1, 1) := by decide +kernel
theorem dX6_odds_5 : decode cX6_odds 5 = .ok (.bipush 12, 2) := by decide +kernel
theorem dX6_odds_7 : decode cX6_odds 7 = .ok (.if_icmp .le 5, 3) := by decide +kernel
theorem dX6_odds_10 : decode cX6_odds 10 = .ok (.iconst (-1), 1) := by decide +kernel
theorem dX6_odds_11 : decode cX6_odds 11 = .ok (.ireturn, 1) := by decide +kernel
theorem dX6_odds_12 : decode cX6_odds 12 = .ok (.aload_n 0, 1) := by decide +kernel
theorem dX6_odds_13 : decode cX6_odds 13 = .ok (.getfield 25, 3) := by decide +kernel
theorem dX6_odds_16 : decode cX6_odds 16 = .ok (.invokevirtual 188, 3) := by decide +kernel
theorem dX6_odds_19 : decode cX6_odds 19 = .ok (.ifCond .eq 6, 3) := by decide +kernel
theorem dX6_odds_22 : decode cX6_odds 22 = .ok (.bipush (-4), 2) := by decide +kernel
theorem dX6_odds_24 : decode cX6_odds 24 = .ok (.ireturn, 1) := by decide +kernel
theorem dX6_odds_25 : decode cX6_odds 25 = .ok (.aload_n 0, 1) := by decide +kernel
theorem dX6_odds_26 : decode cX6_odds 26 = .ok (.getfield 25, 3) := by decide +kernel
theorem dX6_odds_29 : decode cX6_odds 29 = .ok (.getfield 128, 3) := by decide +kernel
theorem dX6_odds_32 : decode cX6_odds 32 = .ok (.aload_n 0, 1) := by decide +kernel
theorem dX6_odds_33 : decode cX6_odds 33 = .ok (.getfield 25, 3) := by decide +kernel
theorem dX6_odds_36 : decode cX6_odds 36 = .ok (.invokevirtual 254, 3) := by decide +kernel
theorem dX6_odds_39 : decode cX6_odds 39 = .ok (.invokestatic 258, 3) := by decide +kernel
theorem dX6_odds_42 : decode cX6_odds 42 = .ok (.isub, 1) := by decide +kernel
theorem dX6_odds_43 : decode cX6_odds 43 = .ok (.istore_n 2, 1) := by decide +kernel
theorem dX6_odds_44 : decode cX6_odds 44 = .ok (.lconst 1, 1) := by decide +kernel
theorem dX6_odds_45 : decode cX6_odds 45 = .ok (.lstore_n 3, 1) := by decide +kernel
theorem dX6_odds_46 : decode cX6_odds 46 = .ok (.iconst 0, 1) := by decide +kernel
theorem dX6_odds_47 : decode cX6_odds 47 = .ok (.istore 5, 2) := by decide +kernel
theorem dX6_odds_49 : decode cX6_odds 49 = .ok (.iload 5, 2) := by decide +kernel
theorem dX6_odds_51 : decode cX6_odds 51 = .ok (.iload_n 2, 1) := by decide +kernel
theorem dX6_odds_52 : decode cX6_odds 52 = .ok (.if_icmp .ge 15, 3) := by decide +kernel
theorem dX6_odds_55 : decode cX6_odds 55 = .ok (.lload_n 3, 1) := by decide +kernel
theorem dX6_odds_56 : decode cX6_odds 56 = .ok (.ldc2_w 263, 3) := by decide +kernel
theorem dX6_odds_59 : decode cX6_odds 59 = .ok (.lmul, 1) := by decide +kernel
theorem dX6_odds_60 : decode cX6_odds 60 = .ok (.lstore_n 3, 1) := by decide +kernel
theorem dX6_odds_61 : decode cX6_odds 61 = .ok (.iinc 5 1, 3) := by decide +kernel
theorem dX6_odds_64 : decode cX6_odds 64 = .ok (.goto (-15), 3) := by decide +kernel
theorem dX6_odds_67 : decode cX6_odds 67 = .ok (.lconst 0, 1) := by decide +kernel
theorem dX6_odds_68 : decode cX6_odds 68 = .ok (.lstore 5, 2) := by decide +kernel
theorem dX6_odds_70 : decode cX6_odds 70 = .ok (.iconst 0, 1) := by decide +kernel
theorem dX6_odds_71 : decode cX6_odds 71 = .ok (.istore 7, 2) := by decide +kernel
theorem dX6_odds_73 : decode cX6_odds 73 = .ok (.iload 7, 2) := by decide +kernel
theorem dX6_odds_75 : decode cX6_odds 75 = .ok (.iconst 1, 1) := by decide +kernel
theorem dX6_odds_76 : decode cX6_odds 76 = .ok (.iload_n 2, 1) := by decide +kernel
theorem dX6_odds_77 : decode cX6_odds 77 = .ok (.ishl, 1) := by decide +kernel
theorem dX6_odds_78 : decode cX6_odds 78 = .ok (.if_icmp .ge 45, 3) := by decide +kernel
theorem dX6_odds_81 : decode cX6_odds 81 = .ok (.aload_n 0, 1) := by decide +kernel
theorem dX6_odds_82 : decode cX6_odds 82 = .ok (.getfield 25, 3) := by decide +kernel
theorem dX6_odds_85 : decode cX6_odds 85 = .ok (.getfield 217, 3) := by decide +kernel
theorem dX6_odds_88 : decode cX6_odds 88 = .ok (.aload_n 0, 1) := by decide +kernel
theorem dX6_odds_89 : decode cX6_odds 89 = .ok (.iload 7, 2) := by decide +kernel
theorem dX6_odds_91 : decode cX6_odds 91 = .ok (.invokevirtual 265, 3) := by decide +kernel
theorem dX6_odds_94 : decode cX6_odds 94 = .ok (.iadd, 1) := by decide +kernel
theorem dX6_odds_95 : decode cX6_odds 95 = .ok (.aload_n 0, 1) := by decide +kernel
theorem dX6_odds_96 : decode cX6_odds 96 = .ok (.getfield 25, 3) := by decide +kernel
theorem dX6_odds_99 : decode cX6_odds 99 = .ok (.getfield 218, 3) := by decide +kernel
theorem dX6_odds_102 : decode cX6_odds 102 = .ok (.if_icmp .lt 15, 3) := by decide +kernel
theorem dX6_odds_105 : decode cX6_odds 105 = .ok (.lload 5, 2) := by decide +kernel
theorem dX6_odds_107 : decode cX6_odds 107 = .ok (.iload 7, 2) := by decide +kernel
theorem dX6_odds_109 : decode cX6_odds 109 = .ok (.iload_n 2, 1) := by decide +kernel
theorem dX6_odds_110 : decode cX6_odds 110 = .ok (.iload_n 1, 1) := by decide +kernel
theorem dX6_odds_111 : decode cX6_odds 111 = .ok (.invokestatic 268, 3) := by decide +kernel
theorem dX6_odds_114 : decode cX6_odds 114 = .ok (.ladd, 1) := by decide +kernel
theorem dX6_odds_115 : decode cX6_odds 115 = .ok (.lstore 5, 2) := by decide +kernel
theorem dX6_odds_117 : decode cX6_odds 117 = .ok (.iinc 7 1, 3) := by decide +kernel
theorem dX6_odds_120 : decode cX6_odds 120 = .ok (.goto (-47), 3) := by decide +kernel
theorem dX6_odds_123 : decode cX6_odds 123 = .ok (.aload_n 0, 1) := by decide +kernel
theorem dX6_odds_124 : decode cX6_odds 124 = .ok (.lload 5, 2) := by decide +kernel
theorem dX6_odds_126 : decode cX6_odds 126 = .ok (.lload_n 3, 1) := by decide +kernel
theorem dX6_odds_127 : decode cX6_odds 127 = .ok (.invokevirtual 272, 3) := by decide +kernel
theorem dX6_odds_130 : decode cX6_odds 130 = .ok (.iconst 1, 1) := by decide +kernel
theorem dX6_odds_131 : decode cX6_odds 131 = .ok (.ireturn, 1) := by decide +kernel
theorem dX6_mid_0 : decode cX6_mid 0 = .ok (.iload_n 1, 1) := by decide +kernel
theorem dX6_mid_1 : decode cX6_mid 1 = .ok (.ifCond .lt 9, 3) := by decide +kernel
theorem dX6_mid_4 : decode cX6_mid 4 = .ok (.iload_n 1, 1) := by decide +kernel
theorem dX6_mid_5 : decode cX6_mid 5 = .ok (.bipush 12, 2) := by decide +kernel
theorem dX6_mid_7 : decode cX6_mid 7 = .ok (.if_icmp .le 5, 3) := by decide +kernel
theorem dX6_mid_10 : decode cX6_mid 10 = .ok (.iconst (-1), 1) := by decide +kernel
theorem dX6_mid_11 : decode cX6_mid 11 = .ok (.ireturn, 1) := by decide +kernel
theorem dX6_mid_12 : decode cX6_mid 12 = .ok (.aload_n 0, 1) := by decide +kernel
theorem dX6_mid_13 : decode cX6_mid 13 = .ok (.getfield 25, 3) := by decide +kernel
theorem dX6_mid_16 : decode cX6_mid 16 = .ok (.invokevirtual 188, 3) := by decide +kernel
theorem dX6_mid_19 : decode cX6_mid 19 = .ok (.ifCond .eq 6, 3) := by decide +kernel
theorem dX6_mid_22 : decode cX6_mid 22 = .ok (.bipush (-4), 2) := by decide +kernel
theorem dX6_mid_24 : decode cX6_mid 24 = .ok (.ireturn, 1) := by decide +kernel
theorem dX6_mid_25 : decode cX6_mid 25 = .ok (.aload_n 0, 1) := by decide +kernel
theorem dX6_mid_26 : decode cX6_mid 26 = .ok (.iconst 0, 1) := by decide +kernel
theorem dX6_mid_27 : decode cX6_mid 27 = .ok (.invokevirtual 265, 3) := by decide +kernel
theorem dX6_mid_30 : decode cX6_mid 30 = .ok (.i2l, 1) := by decide +kernel
theorem dX6_mid_31 : decode cX6_mid 31 = .ok (.lstore_n 2, 1) := by decide +kernel
theorem dX6_mid_32 : decode cX6_mid 32 = .ok (.aload_n 0, 1) := by decide +kernel
theorem dX6_mid_33 : decode cX6_mid 33 = .ok (.bipush 63, 2) := by decide +kernel
theorem dX6_mid_35 : decode cX6_mid 35 = .ok (.invokevirtual 265, 3) := by decide +kernel
theorem dX6_mid_38 : decode cX6_mid 38 = .ok (.i2l, 1) := by decide +kernel
theorem dX6_mid_39 : decode cX6_mid 39 = .ok (.lstore 4, 2) := by decide +kernel
theorem dX6_mid_41 : decode cX6_mid 41 = .ok (.aload_n 0, 1) := by decide +kernel
theorem dX6_mid_42 : decode cX6_mid 42 = .ok (.ldc2_w 263, 3) := by decide +kernel
theorem dX6_mid_45 : decode cX6_mid 45 = .ok (.aload_n 0, 1) := by decide +kernel
theorem dX6_mid_46 : decode cX6_mid 46 = .ok (.getfield 25, 3) := by decide +kernel
theorem dX6_mid_49 : decode cX6_mid 49 = .ok (.getfield 217, 3) := by decide +kernel
theorem dX6_mid_52 : decode cX6_mid 52 = .ok (.i2l, 1) := by decide +kernel
theorem dX6_mid_53 : decode cX6_mid 53 = .ok (.lmul, 1) := by decide +kernel
theorem dX6_mid_54 : decode cX6_mid 54 = .ok (.bipush 12, 2) := by decide +kernel
theorem dX6_mid_56 : decode cX6_mid 56 = .ok (.iload_n 1, 1) := by decide +kernel
theorem dX6_mid_57 : decode cX6_mid 57 = .ok (.isub, 1) := by decide +kernel
theorem dX6_mid_58 : decode cX6_mid 58 = .ok (.i2l, 1) := by decide +kernel
theorem dX6_mid_59 : decode cX6_mid 59 = .ok (.lload_n 2, 1) := by decide +kernel
theorem dX6_mid_60 : decode cX6_mid 60 = .ok (.lmul, 1) := by decide +kernel
theorem dX6_mid_61 : decode cX6_mid 61 = .ok (.ladd, 1) := by decide +kernel
theorem dX6_mid_62 : decode cX6_mid 62 = .ok (.iload_n 1, 1) := by decide +kernel
theorem dX6_mid_63 : decode cX6_mid 63 = .ok (.i2l, 1) := by decide +kernel
theorem dX6_mid_64 : decode cX6_mid 64 = .ok (.lload 4, 2) := by decide +kernel
theorem dX6_mid_66 : decode cX6_mid 66 = .ok (.lmul, 1) := by decide +kernel
theorem dX6_mid_67 : decode cX6_mid 67 = .ok (.ladd, 1) := by decide +kernel
theorem dX6_mid_68 : decode cX6_mid 68 = .ok (.ldc2_w 263, 3) := by decide +kernel
theorem dX6_mid_71 : decode cX6_mid 71 = .ok (.invokevirtual 272, 3) := by decide +kernel
theorem dX6_mid_74 : decode cX6_mid 74 = .ok (.iconst 1, 1) := by decide +kernel
theorem dX6_mid_75 : decode cX6_mid 75 = .ok (.ireturn, 1) := by decide +kernel
theorem dX6_lots_0 : decode cX6_lots 0 = .ok (.iload_n 1, 1) := by decide +kernel
theorem dX6_lots_1 : decode cX6_lots 1 = .ok (.iconst 1, 1) := by decide +kernel
theorem dX6_lots_2 : decode cX6_lots 2 = .ok (.if_icmp .lt 23, 3) := by decide +kernel
theorem dX6_lots_5 : decode cX6_lots 5 = .ok (.iload_n 1, 1) := by decide +kernel
theorem dX6_lots_6 : decode cX6_lots 6 = .ok (.bipush 20, 2) := by decide +kernel
theorem dX6_lots_8 : decode cX6_lots 8 = .ok (.if_icmp .gt 17, 3) := by decide +kernel
theorem dX6_lots_11 : decode cX6_lots 11 = .ok (.iload_n 2, 1) := by decide +kernel
theorem dX6_lots_12 : decode cX6_lots 12 = .ok (.iconst 1, 1) := by decide +kernel
theorem dX6_lots_13 : decode cX6_lots 13 = .ok (.if_icmp .lt 12, 3) := by decide +kernel
theorem dX6_lots_16 : decode cX6_lots 16 = .ok (.iload_n 2, 1) := by decide +kernel
theorem dX6_lots_17 : decode cX6_lots 17 = .ok (.i2l, 1) := by decide +kernel
theorem dX6_lots_18 : decode cX6_lots 18 = .ok (.ldc2_w 276, 3) := by decide +kernel
theorem dX6_lots_21 : decode cX6_lots 21 = .ok (.lcmp, 1) := by decide +kernel
theorem dX6_lots_22 : decode cX6_lots 22 = .ok (.ifCond .lt 5, 3) := by decide +kernel
theorem dX6_lots_25 : decode cX6_lots 25 = .ok (.iconst (-1), 1) := by decide +kernel
theorem dX6_lots_26 : decode cX6_lots 26 = .ok (.ireturn, 1) := by decide +kernel
theorem dX6_lots_27 : decode cX6_lots 27 = .ok (.aload_n 0, 1) := by decide +kernel
theorem dX6_lots_28 : decode cX6_lots 28 = .ok (.getfield 25, 3) := by decide +kernel
theorem dX6_lots_31 : decode cX6_lots 31 = .ok (.invokevirtual 188, 3) := by decide +kernel
theorem dX6_lots_34 : decode cX6_lots 34 = .ok (.ifCond .eq 6, 3) := by decide +kernel
theorem dX6_lots_37 : decode cX6_lots 37 = .ok (.bipush (-4), 2) := by decide +kernel
theorem dX6_lots_39 : decode cX6_lots 39 = .ok (.ireturn, 1) := by decide +kernel
theorem dX6_lots_40 : decode cX6_lots 40 = .ok (.aload_n 0, 1) := by decide +kernel
theorem dX6_lots_41 : decode cX6_lots 41 = .ok (.getfield 25, 3) := by decide +kernel
theorem dX6_lots_44 : decode cX6_lots 44 = .ok (.getfield 203, 3) := by decide +kernel
theorem dX6_lots_47 : decode cX6_lots 47 = .ok (.iload_n 1, 1) := by decide +kernel
theorem dX6_lots_48 : decode cX6_lots 48 = .ok (.iadd, 1) := by decide +kernel
theorem dX6_lots_49 : decode cX6_lots 49 = .ok (.bipush 40, 2) := by decide +kernel
theorem dX6_lots_51 : decode cX6_lots 51 = .ok (.if_icmp .le 6, 3) := by decide +kernel
theorem dX6_lots_54 : decode cX6_lots 54 = .ok (.bipush (-2), 2) := by decide +kernel
theorem dX6_lots_56 : decode cX6_lots 56 = .ok (.ireturn, 1) := by decide +kernel
theorem dX6_lots_57 : decode cX6_lots 57 = .ok (.iload_n 2, 1) := by decide +kernel
theorem dX6_lots_58 : decode cX6_lots 58 = .ok (.i2l, 1) := by decide +kernel
theorem dX6_lots_59 : decode cX6_lots 59 = .ok (.lstore_n 3, 1) := by decide +kernel
theorem dX6_lots_60 : decode cX6_lots 60 = .ok (.iconst 0, 1) := by decide +kernel
theorem dX6_lots_61 : decode cX6_lots 61 = .ok (.istore 5, 2) := by decide +kernel
theorem dX6_lots_63 : decode cX6_lots 63 = .ok (.iload 5, 2) := by decide +kernel
theorem dX6_lots_65 : decode cX6_lots 65 = .ok (.iload_n 1, 1) := by decide +kernel
theorem dX6_lots_66 : decode cX6_lots 66 = .ok (.if_icmp .ge 24, 3) := by decide +kernel
theorem dX6_lots_69 : decode cX6_lots 69 = .ok (.lload_n 3, 1) := by decide +kernel
theorem dX6_lots_70 : decode cX6_lots 70 = .ok (.ldc2_w 278, 3) := by decide +kernel
theorem dX6_lots_73 : decode cX6_lots 73 = .ok (.lmul, 1) := by decide +kernel
theorem dX6_lots_74 : decode cX6_lots 74 = .ok (.ldc2_w 276, 3) := by decide +kernel
theorem dX6_lots_77 : decode cX6_lots 77 = .ok (.lrem, 1) := by decide +kernel
theorem dX6_lots_78 : decode cX6_lots 78 = .ok (.lstore_n 3, 1) := by decide +kernel
theorem dX6_lots_79 : decode cX6_lots 79 = .ok (.aload_n 0, 1) := by decide +kernel
theorem dX6_lots_80 : decode cX6_lots 80 = .ok (.lload_n 3, 1) := by decide +kernel
theorem dX6_lots_81 : decode cX6_lots 81 = .ok (.invokevirtual 280, 3) := by decide +kernel
theorem dX6_lots_84 : decode cX6_lots 84 = .ok (.iinc 5 1, 3) := by decide +kernel
theorem dX6_lots_87 : decode cX6_lots 87 = .ok (.goto (-24), 3) := by decide +kernel
theorem dX6_lots_90 : decode cX6_lots 90 = .ok (.aload_n 0, 1) := by decide +kernel
theorem dX6_lots_91 : decode cX6_lots 91 = .ok (.getfield 25, 3) := by decide +kernel
theorem dX6_lots_94 : decode cX6_lots 94 = .ok (.getfield 217, 3) := by decide +kernel
theorem dX6_lots_97 : decode cX6_lots 97 = .ok (.ireturn, 1) := by decide +kernel
theorem dX6_asked_0 : decode cX6_asked 0 = .ok (.aload_n 0, 1) := by decide +kernel
theorem dX6_asked_1 : decode cX6_asked 1 = .ok (.getfield 61, 3) := by decide +kernel
theorem dX6_asked_4 : decode cX6_asked 4 = .ok (.ireturn, 1) := by decide +kernel
theorem dX6_upper_0 : decode cX6_upper 0 = .ok (.aload_n 0, 1) := by decide +kernel
theorem dX6_upper_1 : decode cX6_upper 1 = .ok (.getfield 64, 3) := by decide +kernel
theorem dX6_upper_4 : decode cX6_upper 4 = .ok (.lreturn, 1) := by decide +kernel
theorem dX6_lower_0 : decode cX6_lower 0 = .ok (.aload_n 0, 1) := by decide +kernel
theorem dX6_lower_1 : decode cX6_lower 1 = .ok (.getfield 68, 3) := by decide +kernel
theorem dX6_lower_4 : decode cX6_lower 4 = .ok (.lreturn, 1) := by decide +kernel
theorem dX6_count_0 : decode cX6_count 0 = .ok (.iload_n 1, 1) := by decide +kernel
theorem dX6_count_1 : decode cX6_count 1 = .ok (.tableswitch 157 0 11 #[63, 71, 79, 87, 96, 104, 112, 120, 128, 136, 144, 149], 63) := by decide +kernel
theorem dX6_count_64 : decode cX6_count 64 = .ok (.aload_n 0, 1) := by decide +kernel
theorem dX6_count_65 : decode cX6_count 65 = .ok (.getfield 25, 3) := by decide +kernel
theorem dX6_count_68 : decode cX6_count 68 = .ok (.getfield 128, 3) := by decide +kernel
theorem dX6_count_71 : decode cX6_count 71 = .ok (.ireturn, 1) := by decide +kernel
theorem dX6_count_72 : decode cX6_count 72 = .ok (.aload_n 0, 1) := by decide +kernel
theorem dX6_count_73 : decode cX6_count 73 = .ok (.getfield 25, 3) := by decide +kernel
theorem dX6_count_76 : decode cX6_count 76 = .ok (.getfield 194, 3) := by decide +kernel
theorem dX6_count_79 : decode cX6_count 79 = .ok (.ireturn, 1) := by decide +kernel
theorem dX6_count_80 : decode cX6_count 80 = .ok (.aload_n 0, 1) := by decide +kernel
theorem dX6_count_81 : decode cX6_count 81 = .ok (.getfield 25, 3) := by decide +kernel
theorem dX6_count_84 : decode cX6_count 84 = .ok (.getfield 203, 3) := by decide +kernel
theorem dX6_count_87 : decode cX6_count 87 = .ok (.ireturn, 1) := by decide +kernel
theorem dX6_count_88 : decode cX6_count 88 = .ok (.aload_n 0, 1) := by decide +kernel
theorem dX6_count_89 : decode cX6_count 89 = .ok (.getfield 25, 3) := by decide +kernel
theorem dX6_count_92 : decode cX6_count 92 = .ok (.iconst 0, 1) := by decide +kernel
theorem dX6_count_93 : decode cX6_count 93 = .ok (.invokevirtual 144, 3) := by decide +kernel
theorem dX6_count_96 : decode cX6_count 96 = .ok (.ireturn, 1) := by decide +kernel
theorem dX6_count_97 : decode cX6_count 97 = .ok (.aload_n 0, 1) := by decide +kernel
theorem dX6_count_98 : decode cX6_count 98 = .ok (.getfield 25, 3) := by decide +kernel
theorem dX6_count_101 : decode cX6_count 101 = .ok (.invokevirtual 254, 3) := by decide +kernel
theorem dX6_count_104 : decode cX6_count 104 = .ok (.ireturn, 1) := by decide +kernel
theorem dX6_count_105 : decode cX6_count 105 = .ok (.aload_n 0, 1) := by decide +kernel
theorem dX6_count_106 : decode cX6_count 106 = .ok (.getfield 25, 3) := by decide +kernel
theorem dX6_count_109 : decode cX6_count 109 = .ok (.invokevirtual 284, 3) := by decide +kernel
theorem dX6_count_112 : decode cX6_count 112 = .ok (.ireturn, 1) := by decide +kernel
theorem dX6_count_113 : decode cX6_count 113 = .ok (.aload_n 0, 1) := by decide +kernel
theorem dX6_count_114 : decode cX6_count 114 = .ok (.getfield 25, 3) := by decide +kernel
theorem dX6_count_117 : decode cX6_count 117 = .ok (.getfield 217, 3) := by decide +kernel
theorem dX6_count_120 : decode cX6_count 120 = .ok (.ireturn, 1) := by decide +kernel
theorem dX6_count_121 : decode cX6_count 121 = .ok (.aload_n 0, 1) := by decide +kernel
theorem dX6_count_122 : decode cX6_count 122 = .ok (.getfield 25, 3) := by decide +kernel
theorem dX6_count_125 : decode cX6_count 125 = .ok (.getfield 218, 3) := by decide +kernel
theorem dX6_count_128 : decode cX6_count 128 = .ok (.ireturn, 1) := by decide +kernel
theorem dX6_count_129 : decode cX6_count 129 = .ok (.aload_n 0, 1) := by decide +kernel
theorem dX6_count_130 : decode cX6_count 130 = .ok (.getfield 11, 3) := by decide +kernel
theorem dX6_count_133 : decode cX6_count 133 = .ok (.invokestatic 287, 3) := by decide +kernel
theorem dX6_count_136 : decode cX6_count 136 = .ok (.ireturn, 1) := by decide +kernel
theorem dX6_count_137 : decode cX6_count 137 = .ok (.aload_n 0, 1) := by decide +kernel
theorem dX6_count_138 : decode cX6_count 138 = .ok (.getfield 15, 3) := by decide +kernel
theorem dX6_count_141 : decode cX6_count 141 = .ok (.invokestatic 287, 3) := by decide +kernel
theorem dX6_count_144 : decode cX6_count 144 = .ok (.ireturn, 1) := by decide +kernel
theorem dX6_count_145 : decode cX6_count 145 = .ok (.aload_n 0, 1) := by decide +kernel
theorem dX6_count_146 : decode cX6_count 146 = .ok (.invokevirtual 291, 3) := by decide +kernel
theorem dX6_count_149 : decode cX6_count 149 = .ok (.ireturn, 1) := by decide +kernel
theorem dX6_count_150 : decode cX6_count 150 = .ok (.aload_n 0, 1) := by decide +kernel
theorem dX6_count_151 : decode cX6_count 151 = .ok (.getfield 25, 3) := by decide +kernel
theorem dX6_count_154 : decode cX6_count 154 = .ok (.invokevirtual 294, 3) := by decide +kernel
theorem dX6_count_157 : decode cX6_count 157 = .ok (.ireturn, 1) := by decide +kernel
theorem dX6_count_158 : decode cX6_count 158 = .ok (.iconst (-1), 1) := by decide +kernel
theorem dX6_count_159 : decode cX6_count 159 = .ok (.ireturn, 1) := by decide +kernel
theorem dX6_finding_0 : decode cX6_finding 0 = .ok (.aload_n 0, 1) := by decide +kernel
theorem dX6_finding_1 : decode cX6_finding 1 = .ok (.getfield 57, 3) := by decide +kernel
theorem dX6_finding_4 : decode cX6_finding 4 = .ok (.ireturn, 1) := by decide +kernel
theorem dX6_findings_0 : decode cX6_findings 0 = .ok (.iload_n 1, 1) := by decide +kernel
theorem dX6_findings_1 : decode cX6_findings 1 = .ok (.iconst 1, 1) := by decide +kernel
theorem dX6_findings_2 : decode cX6_findings 2 = .ok (.if_icmp .lt 12, 3) := by decide +kernel
theorem dX6_findings_5 : decode cX6_findings 5 = .ok (.iload_n 1, 1) := by decide +kernel
theorem dX6_findings_6 : decode cX6_findings 6 = .ok (.aload_n 0, 1) := by decide +kernel
theorem dX6_findings_7 : decode cX6_findings 7 = .ok (.getfield 53, 3) := by decide +kernel
theorem dX6_findings_10 : decode cX6_findings 10 = .ok (.arraylength, 1) := by decide +kernel
theorem dX6_findings_11 : decode cX6_findings 11 = .ok (.if_icmp .lt 5, 3) := by decide +kernel
theorem dX6_findings_14 : decode cX6_findings 14 = .ok (.iconst (-1), 1) := by decide +kernel
theorem dX6_findings_15 : decode cX6_findings 15 = .ok (.ireturn, 1) := by decide +kernel
theorem dX6_findings_16 : decode cX6_findings 16 = .ok (.aload_n 0, 1) := by decide +kernel
theorem dX6_findings_17 : decode cX6_findings 17 = .ok (.getfield 53, 3) := by decide +kernel
theorem dX6_findings_20 : decode cX6_findings 20 = .ok (.iload_n 1, 1) := by decide +kernel
theorem dX6_findings_21 : decode cX6_findings 21 = .ok (.iaload, 1) := by decide +kernel
theorem dX6_findings_22 : decode cX6_findings 22 = .ok (.ireturn, 1) := by decide +kernel
theorem dX6_digest_0 : decode cX6_digest 0 = .ok (.ldc2_w 297, 3) := by decide +kernel
theorem dX6_digest_3 : decode cX6_digest 3 = .ok (.lstore_n 1, 1) := by decide +kernel
theorem dX6_digest_4 : decode cX6_digest 4 = .ok (.iconst 0, 1) := by decide +kernel
theorem dX6_digest_5 : decode cX6_digest 5 = .ok (.istore_n 3, 1) := by decide +kernel
theorem dX6_digest_6 : decode cX6_digest 6 = .ok (.iload_n 3, 1) := by decide +kernel
theorem dX6_digest_7 : decode cX6_digest 7 = .ok (.bipush 12, 2) := by decide +kernel
theorem dX6_digest_9 : decode cX6_digest 9 = .ok (.if_icmp .ge 22, 3) := by decide +kernel
theorem dX6_digest_12 : decode cX6_digest 12 = .ok (.ldc2_w 299, 3) := by decide +kernel
theorem dX6_digest_15 : decode cX6_digest 15 = .ok (.lload_n 1, 1) := by decide +kernel
theorem dX6_digest_16 : decode cX6_digest 16 = .ok (.lmul, 1) := by decide +kernel
theorem dX6_digest_17 : decode cX6_digest 17 = .ok (.aload_n 0, 1) := by decide +kernel
theorem dX6_digest_18 : decode cX6_digest 18 = .ok (.iload_n 3, 1) := by decide +kernel
theorem dX6_digest_19 : decode cX6_digest 19 = .ok (.invokevirtual 301, 3) := by decide +kernel
theorem dX6_digest_22 : decode cX6_digest 22 = .ok (.i2l, 1) := by decide +kernel
theorem dX6_digest_23 : decode cX6_digest 23 = .ok (.ladd, 1) := by decide +kernel
theorem dX6_digest_24 : decode cX6_digest 24 = .ok (.lstore_n 1, 1) := by decide +kernel
theorem dX6_digest_25 : decode cX6_digest 25 = .ok (.iinc 3 1, 3) := by decide +kernel
theorem dX6_digest_28 : decode cX6_digest 28 = .ok (.goto (-22), 3) := by decide +kernel
theorem dX6_digest_31 : decode cX6_digest 31 = .ok (.iconst 0, 1) := by decide +kernel
theorem dX6_digest_32 : decode cX6_digest 32 = .ok (.istore_n 3, 1) := by decide +kernel
theorem dX6_digest_33 : decode cX6_digest 33 = .ok (.iload_n 3, 1) := by decide +kernel
theorem dX6_digest_34 : decode cX6_digest 34 = .ok (.aload_n 0, 1) := by decide +kernel
theorem dX6_digest_35 : decode cX6_digest 35 = .ok (.getfield 25, 3) := by decide +kernel
theorem dX6_digest_38 : decode cX6_digest 38 = .ok (.getfield 304, 3) := by decide +kernel
theorem dX6_digest_41 : decode cX6_digest 41 = .ok (.arraylength, 1) := by decide +kernel
theorem dX6_digest_42 : decode cX6_digest 42 = .ok (.if_icmp .ge 26, 3) := by decide +kernel
theorem dX6_digest_45 : decode cX6_digest 45 = .ok (.ldc2_w 299, 3) := by decide +kernel
theorem dX6_digest_48 : decode cX6_digest 48 = .ok (.lload_n 1, 1) := by decide +kernel
theorem dX6_digest_49 : decode cX6_digest 49 = .ok (.lmul, 1) := by decide +kernel
theorem dX6_digest_50 : decode cX6_digest 50 = .ok (.aload_n 0, 1) := by decide +kernel
theorem dX6_digest_51 : decode cX6_digest 51 = .ok (.getfield 25, 3) := by decide +kernel
theorem dX6_digest_54 : decode cX6_digest 54 = .ok (.getfield 304, 3) := by decide +kernel
theorem dX6_digest_57 : decode cX6_digest 57 = .ok (.iload_n 3, 1) := by decide +kernel
theorem dX6_digest_58 : decode cX6_digest 58 = .ok (.iaload, 1) := by decide +kernel
theorem dX6_digest_59 : decode cX6_digest 59 = .ok (.i2l, 1) := by decide +kernel
theorem dX6_digest_60 : decode cX6_digest 60 = .ok (.ladd, 1) := by decide +kernel
theorem dX6_digest_61 : decode cX6_digest 61 = .ok (.lstore_n 1, 1) := by decide +kernel
theorem dX6_digest_62 : decode cX6_digest 62 = .ok (.iinc 3 1, 3) := by decide +kernel
theorem dX6_digest_65 : decode cX6_digest 65 = .ok (.goto (-32), 3) := by decide +kernel
theorem dX6_digest_68 : decode cX6_digest 68 = .ok (.iconst 0, 1) := by decide +kernel
theorem dX6_digest_69 : decode cX6_digest 69 = .ok (.istore_n 3, 1) := by decide +kernel
theorem dX6_digest_70 : decode cX6_digest 70 = .ok (.iload_n 3, 1) := by decide +kernel
theorem dX6_digest_71 : decode cX6_digest 71 = .ok (.aload_n 0, 1) := by decide +kernel
theorem dX6_digest_72 : decode cX6_digest 72 = .ok (.getfield 25, 3) := by decide +kernel
theorem dX6_digest_75 : decode cX6_digest 75 = .ok (.getfield 128, 3) := by decide +kernel
theorem dX6_digest_78 : decode cX6_digest 78 = .ok (.if_icmp .ge 56, 3) := by decide +kernel
theorem dX6_digest_81 : decode cX6_digest 81 = .ok (.aload_n 0, 1) := by decide +kernel
theorem dX6_digest_82 : decode cX6_digest 82 = .ok (.getfield 25, 3) := by decide +kernel
theorem dX6_digest_85 : decode cX6_digest 85 = .ok (.iload_n 3, 1) := by decide +kernel
theorem dX6_digest_86 : decode cX6_digest 86 = .ok (.invokevirtual 131, 3) := by decide +kernel
theorem dX6_digest_89 : decode cX6_digest 89 = .ok (.astore 4, 2) := by decide +kernel
theorem dX6_digest_91 : decode cX6_digest 91 = .ok (.iconst 0, 1) := by decide +kernel
theorem dX6_digest_92 : decode cX6_digest 92 = .ok (.istore 5, 2) := by decide +kernel
theorem dX6_digest_94 : decode cX6_digest 94 = .ok (.aload 4, 2) := by decide +kernel
theorem dX6_digest_96 : decode cX6_digest 96 = .ok (.ifnull 32, 3) := by decide +kernel
theorem dX6_digest_99 : decode cX6_digest 99 = .ok (.iload 5, 2) := by decide +kernel
theorem dX6_digest_101 : decode cX6_digest 101 = .ok (.bipush 7, 2) := by decide +kernel
theorem dX6_digest_103 : decode cX6_digest 103 = .ok (.if_icmp .ge 25, 3) := by decide +kernel
theorem dX6_digest_106 : decode cX6_digest 106 = .ok (.ldc2_w 299, 3) := by decide +kernel
theorem dX6_digest_109 : decode cX6_digest 109 = .ok (.lload_n 1, 1) := by decide +kernel
theorem dX6_digest_110 : decode cX6_digest 110 = .ok (.lmul, 1) := by decide +kernel
theorem dX6_digest_111 : decode cX6_digest 111 = .ok (.aload_n 0, 1) := by decide +kernel
theorem dX6_digest_112 : decode cX6_digest 112 = .ok (.aload 4, 2) := by decide +kernel
theorem dX6_digest_114 : decode cX6_digest 114 = .ok (.iload 5, 2) := by decide +kernel
theorem dX6_digest_116 : decode cX6_digest 116 = .ok (.invokevirtual 135, 3) := by decide +kernel
theorem dX6_digest_119 : decode cX6_digest 119 = .ok (.i2l, 1) := by decide +kernel
theorem dX6_digest_120 : decode cX6_digest 120 = .ok (.ladd, 1) := by decide +kernel
theorem dX6_digest_121 : decode cX6_digest 121 = .ok (.lstore_n 1, 1) := by decide +kernel
theorem dX6_digest_122 : decode cX6_digest 122 = .ok (.iinc 5 1, 3) := by decide +kernel
theorem dX6_digest_125 : decode cX6_digest 125 = .ok (.goto (-31), 3) := by decide +kernel
theorem dX6_digest_128 : decode cX6_digest 128 = .ok (.iinc 3 1, 3) := by decide +kernel
theorem dX6_digest_131 : decode cX6_digest 131 = .ok (.goto (-61), 3) := by decide +kernel
theorem dX6_digest_134 : decode cX6_digest 134 = .ok (.iconst 0, 1) := by decide +kernel
theorem dX6_digest_135 : decode cX6_digest 135 = .ok (.istore_n 3, 1) := by decide +kernel
theorem dX6_digest_136 : decode cX6_digest 136 = .ok (.iload_n 3, 1) := by decide +kernel
theorem dX6_digest_137 : decode cX6_digest 137 = .ok (.aload_n 0, 1) := by decide +kernel
theorem dX6_digest_138 : decode cX6_digest 138 = .ok (.getfield 20, 3) := by decide +kernel
theorem dX6_digest_141 : decode cX6_digest 141 = .ok (.arraylength, 1) := by decide +kernel
theorem dX6_digest_142 : decode cX6_digest 142 = .ok (.if_icmp .ge 42, 3) := by decide +kernel
theorem dX6_digest_145 : decode cX6_digest 145 = .ok (.ldc2_w 299, 3) := by decide +kernel
theorem dX6_digest_148 : decode cX6_digest 148 = .ok (.lload_n 1, 1) := by decide +kernel
theorem dX6_digest_149 : decode cX6_digest 149 = .ok (.lmul, 1) := by decide +kernel
theorem dX6_digest_150 : decode cX6_digest 150 = .ok (.aload_n 0, 1) := by decide +kernel
theorem dX6_digest_151 : decode cX6_digest 151 = .ok (.getfield 20, 3) := by decide +kernel
theorem dX6_digest_154 : decode cX6_digest 154 = .ok (.iload_n 3, 1) := by decide +kernel
theorem dX6_digest_155 : decode cX6_digest 155 = .ok (.aaload, 1) := by decide +kernel
theorem dX6_digest_156 : decode cX6_digest 156 = .ok (.invokevirtual 188, 3) := by decide +kernel
theorem dX6_digest_159 : decode cX6_digest 159 = .ok (.ifCond .eq 7, 3) := by decide +kernel
theorem dX6_digest_162 : decode cX6_digest 162 = .ok (.iconst (-1), 1) := by decide +kernel
theorem dX6_digest_163 : decode cX6_digest 163 = .ok (.goto 12, 3) := by decide +kernel
theorem dX6_digest_166 : decode cX6_digest 166 = .ok (.aload_n 0, 1) := by decide +kernel
theorem dX6_digest_167 : decode cX6_digest 167 = .ok (.getfield 20, 3) := by decide +kernel
theorem dX6_digest_170 : decode cX6_digest 170 = .ok (.iload_n 3, 1) := by decide +kernel
theorem dX6_digest_171 : decode cX6_digest 171 = .ok (.aaload, 1) := by decide +kernel
theorem dX6_digest_172 : decode cX6_digest 172 = .ok (.getfield 203, 3) := by decide +kernel
theorem dX6_digest_175 : decode cX6_digest 175 = .ok (.i2l, 1) := by decide +kernel
theorem dX6_digest_176 : decode cX6_digest 176 = .ok (.ladd, 1) := by decide +kernel
theorem dX6_digest_177 : decode cX6_digest 177 = .ok (.lstore_n 1, 1) := by decide +kernel
theorem dX6_digest_178 : decode cX6_digest 178 = .ok (.iinc 3 1, 3) := by decide +kernel
theorem dX6_digest_181 : decode cX6_digest 181 = .ok (.goto (-45), 3) := by decide +kernel
theorem dX6_digest_184 : decode cX6_digest 184 = .ok (.aload_n 0, 1) := by decide +kernel
theorem dX6_digest_185 : decode cX6_digest 185 = .ok (.getfield 15, 3) := by decide +kernel
theorem dX6_digest_188 : decode cX6_digest 188 = .ok (.aload_n 0, 1) := by decide +kernel
theorem dX6_digest_189 : decode cX6_digest 189 = .ok (.getfield 11, 3) := by decide +kernel
theorem dX6_digest_192 : decode cX6_digest 192 = .ok (.lload_n 1, 1) := by decide +kernel
theorem dX6_digest_193 : decode cX6_digest 193 = .ok (.invokestatic 307, 3) := by decide +kernel
theorem dX6_digest_196 : decode cX6_digest 196 = .ok (.invokestatic 307, 3) := by decide +kernel
theorem dX6_digest_199 : decode cX6_digest 199 = .ok (.lreturn, 1) := by decide +kernel
theorem dX6_found_0 : decode cX6_found 0 = .ok (.iload_n 1, 1) := by decide +kernel
theorem dX6_found_1 : decode cX6_found 1 = .ok (.ifCond .lt 27, 3) := by decide +kernel
theorem dX6_found_4 : decode cX6_found 4 = .ok (.iload_n 1, 1) := by decide +kernel
theorem dX6_found_5 : decode cX6_found 5 = .ok (.aload_n 0, 1) := by decide +kernel
theorem dX6_found_6 : decode cX6_found 6 = .ok (.getfield 53, 3) := by decide +kernel
theorem dX6_found_9 : decode cX6_found 9 = .ok (.arraylength, 1) := by decide +kernel
theorem dX6_found_10 : decode cX6_found 10 = .ok (.if_icmp .ge 18, 3) := by decide +kernel
theorem dX6_found_13 : decode cX6_found 13 = .ok (.aload_n 0, 1) := by decide +kernel
theorem dX6_found_14 : decode cX6_found 14 = .ok (.iload_n 1, 1) := by decide +kernel
theorem dX6_found_15 : decode cX6_found 15 = .ok (.putfield 57, 3) := by decide +kernel
theorem dX6_found_18 : decode cX6_found 18 = .ok (.aload_n 0, 1) := by decide +kernel
theorem dX6_found_19 : decode cX6_found 19 = .ok (.getfield 53, 3) := by decide +kernel
theorem dX6_found_22 : decode cX6_found 22 = .ok (.iload_n 1, 1) := by decide +kernel
theorem dX6_found_23 : decode cX6_found 23 = .ok (.dup2, 1) := by decide +kernel
theorem dX6_found_24 : decode cX6_found 24 = .ok (.iaload, 1) := by decide +kernel
theorem dX6_found_25 : decode cX6_found 25 = .ok (.iconst 1, 1) := by decide +kernel
theorem dX6_found_26 : decode cX6_found 26 = .ok (.iadd, 1) := by decide +kernel
theorem dX6_found_27 : decode cX6_found 27 = .ok (.iastore, 1) := by decide +kernel
theorem dX6_found_28 : decode cX6_found 28 = .ok (.bipush (-3), 2) := by decide +kernel
theorem dX6_found_30 : decode cX6_found 30 = .ok (.ireturn, 1) := by decide +kernel
theorem dX6_pick_0 : decode cX6_pick 0 = .ok (.iload_n 1, 1) := by decide +kernel
theorem dX6_pick_1 : decode cX6_pick 1 = .ok (.ifCond .lt 15, 3) := by decide +kernel
theorem dX6_pick_4 : decode cX6_pick 4 = .ok (.iload_n 1, 1) := by decide +kernel
theorem dX6_pick_5 : decode cX6_pick 5 = .ok (.aload_n 0, 1) := by decide +kernel
theorem dX6_pick_6 : decode cX6_pick 6 = .ok (.arraylength, 1) := by decide +kernel
theorem dX6_pick_7 : decode cX6_pick 7 = .ok (.if_icmp .ge 9, 3) := by decide +kernel
theorem dX6_pick_10 : decode cX6_pick 10 = .ok (.aload_n 0, 1) := by decide +kernel
theorem dX6_pick_11 : decode cX6_pick 11 = .ok (.iload_n 1, 1) := by decide +kernel
theorem dX6_pick_12 : decode cX6_pick 12 = .ok (.aaload, 1) := by decide +kernel
theorem dX6_pick_13 : decode cX6_pick 13 = .ok (.goto 4, 3) := by decide +kernel
theorem dX6_pick_16 : decode cX6_pick 16 = .ok (.aconst_null, 1) := by decide +kernel
theorem dX6_pick_17 : decode cX6_pick 17 = .ok (.areturn, 1) := by decide +kernel
theorem dX6_begin_0 : decode cX6_begin 0 = .ok (.aload_n 1, 1) := by decide +kernel
theorem dX6_begin_1 : decode cX6_begin 1 = .ok (.ifnull 12, 3) := by decide +kernel
theorem dX6_begin_4 : decode cX6_begin 4 = .ok (.iload_n 2, 1) := by decide +kernel
theorem dX6_begin_5 : decode cX6_begin 5 = .ok (.aload_n 1, 1) := by decide +kernel
theorem dX6_begin_6 : decode cX6_begin 6 = .ok (.getfield 108, 3) := by decide +kernel
theorem dX6_begin_9 : decode cX6_begin 9 = .ok (.arraylength, 1) := by decide +kernel
theorem dX6_begin_10 : decode cX6_begin 10 = .ok (.if_icmp .le 5, 3) := by decide +kernel
theorem dX6_begin_13 : decode cX6_begin 13 = .ok (.iconst (-1), 1) := by decide +kernel
theorem dX6_begin_14 : decode cX6_begin 14 = .ok (.ireturn, 1) := by decide +kernel
theorem dX6_begin_15 : decode cX6_begin 15 = .ok (.iload_n 2, 1) := by decide +kernel
theorem dX6_begin_16 : decode cX6_begin 16 = .ok (.ifCond .ge 9, 3) := by decide +kernel
theorem dX6_begin_19 : decode cX6_begin 19 = .ok (.aload_n 0, 1) := by decide +kernel
theorem dX6_begin_20 : decode cX6_begin 20 = .ok (.iconst 5, 1) := by decide +kernel
theorem dX6_begin_21 : decode cX6_begin 21 = .ok (.invokevirtual 86, 3) := by decide +kernel
theorem dX6_begin_24 : decode cX6_begin 24 = .ok (.ireturn, 1) := by decide +kernel
theorem dX6_begin_25 : decode cX6_begin 25 = .ok (.aload_n 1, 1) := by decide +kernel
theorem dX6_begin_26 : decode cX6_begin 26 = .ok (.iload_n 2, 1) := by decide +kernel
theorem dX6_begin_27 : decode cX6_begin 27 = .ok (.iload_n 3, 1) := by decide +kernel
theorem dX6_begin_28 : decode cX6_begin 28 = .ok (.invokevirtual 311, 3) := by decide +kernel
theorem dX6_begin_31 : decode cX6_begin 31 = .ok (.iload_n 2, 1) := by decide +kernel
theorem dX6_begin_32 : decode cX6_begin 32 = .ok (.ireturn, 1) := by decide +kernel
theorem dX6_isWind_0 : decode cX6_isWind 0 = .ok (.iload_n 0, 1) := by decide +kernel
theorem dX6_isWind_1 : decode cX6_isWind 1 = .ok (.ifCond .lt 13, 3) := by decide +kernel
theorem dX6_isWind_4 : decode cX6_isWind 4 = .ok (.iload_n 0, 1) := by decide +kernel
theorem dX6_isWind_5 : decode cX6_isWind 5 = .ok (.bipush 9, 2) := by decide +kernel
theorem dX6_isWind_7 : decode cX6_isWind 7 = .ok (.if_icmp .gt 7, 3) := by decide +kernel
theorem dX6_isWind_10 : decode cX6_isWind 10 = .ok (.iconst 1, 1) := by decide +kernel
theorem dX6_isWind_11 : decode cX6_isWind 11 = .ok (.goto 4, 3) := by decide +kernel
theorem dX6_isWind_14 : decode cX6_isWind 14 = .ok (.iconst 0, 1) := by decide +kernel
theorem dX6_isWind_15 : decode cX6_isWind 15 = .ok (.ireturn, 1) := by decide +kernel
theorem dX6_ofKite_0 : decode cX6_ofKite 0 = .ok (.aload_n 0, 1) := by decide +kernel
theorem dX6_ofKite_1 : decode cX6_ofKite 1 = .ok (.getfield 25, 3) := by decide +kernel
theorem dX6_ofKite_4 : decode cX6_ofKite 4 = .ok (.iconst 0, 1) := by decide +kernel
theorem dX6_ofKite_5 : decode cX6_ofKite 5 = .ok (.invokevirtual 144, 3) := by decide +kernel
theorem dX6_ofKite_8 : decode cX6_ofKite 8 = .ok (.istore_n 3, 1) := by decide +kernel
theorem dX6_ofKite_9 : decode cX6_ofKite 9 = .ok (.iload_n 2, 1) := by decide +kernel
theorem dX6_ofKite_10 : decode cX6_ofKite 10 = .ok (.tableswitch 70 0 5 #[38, 43, 48, 53, 58, 64], 38) := by decide +kernel
theorem dX6_ofKite_48 : decode cX6_ofKite 48 = .ok (.aload_n 1, 1) := by decide +kernel
theorem dX6_ofKite_49 : decode cX6_ofKite 49 = .ok (.getfield 236, 3) := by decide +kernel
theorem dX6_ofKite_52 : decode cX6_ofKite 52 = .ok (.ireturn, 1) := by decide +kernel
theorem dX6_ofKite_53 : decode cX6_ofKite 53 = .ok (.aload_n 1, 1) := by decide +kernel
theorem dX6_ofKite_54 : decode cX6_ofKite 54 = .ok (.getfield 313, 3) := by decide +kernel
theorem dX6_ofKite_57 : decode cX6_ofKite 57 = .ok (.ireturn, 1) := by decide +kernel
theorem dX6_ofKite_58 : decode cX6_ofKite 58 = .ok (.aload_n 1, 1) := by decide +kernel
theorem dX6_ofKite_59 : decode cX6_ofKite 59 = .ok (.getfield 316, 3) := by decide +kernel
theorem dX6_ofKite_62 : decode cX6_ofKite 62 = .ok (.ireturn, 1) := by decide +kernel
theorem dX6_ofKite_63 : decode cX6_ofKite 63 = .ok (.aload_n 1, 1) := by decide +kernel
theorem dX6_ofKite_64 : decode cX6_ofKite 64 = .ok (.getfield 147, 3) := by decide +kernel
theorem dX6_ofKite_67 : decode cX6_ofKite 67 = .ok (.ireturn, 1) := by decide +kernel
theorem dX6_ofKite_68 : decode cX6_ofKite 68 = .ok (.aload_n 1, 1) := by decide +kernel
theorem dX6_ofKite_69 : decode cX6_ofKite 69 = .ok (.iload_n 3, 1) := by decide +kernel
theorem dX6_ofKite_70 : decode cX6_ofKite 70 = .ok (.invokevirtual 154, 3) := by decide +kernel
theorem dX6_ofKite_73 : decode cX6_ofKite 73 = .ok (.ireturn, 1) := by decide +kernel
theorem dX6_ofKite_74 : decode cX6_ofKite 74 = .ok (.aload_n 1, 1) := by decide +kernel
theorem dX6_ofKite_75 : decode cX6_ofKite 75 = .ok (.iload_n 3, 1) := by decide +kernel
theorem dX6_ofKite_76 : decode cX6_ofKite 76 = .ok (.invokevirtual 173, 3) := by decide +kernel
theorem dX6_ofKite_79 : decode cX6_ofKite 79 = .ok (.ireturn, 1) := by decide +kernel
theorem dX6_ofKite_80 : decode cX6_ofKite 80 = .ok (.aload_n 1, 1) := by decide +kernel
theorem dX6_ofKite_81 : decode cX6_ofKite 81 = .ok (.getfield 185, 3) := by decide +kernel
theorem dX6_ofKite_84 : decode cX6_ofKite 84 = .ok (.ireturn, 1) := by decide +kernel
theorem dX6_greatestWindLifting_0 : decode cX6_greatestWindLifting 0 = .ok (.bipush 9, 2) := by decide +kernel
theorem dX6_greatestWindLifting_2 : decode cX6_greatestWindLifting 2 = .ok (.istore_n 1, 1) := by decide +kernel
theorem dX6_greatestWindLifting_3 : decode cX6_greatestWindLifting 3 = .ok (.iload_n 1, 1) := by decide +kernel
theorem dX6_greatestWindLifting_4 : decode cX6_greatestWindLifting 4 = .ok (.ifCond .lt 19, 3) := by decide +kernel
theorem dX6_greatestWindLifting_7 : decode cX6_greatestWindLifting 7 = .ok (.aload_n 0, 1) := by decide +kernel
theorem dX6_greatestWindLifting_8 : decode cX6_greatestWindLifting 8 = .ok (.iload_n 1, 1) := by decide +kernel
theorem dX6_greatestWindLifting_9 : decode cX6_greatestWindLifting 9 = .ok (.invokevirtual 154, 3) := by decide +kernel
theorem dX6_greatestWindLifting_12 : decode cX6_greatestWindLifting 12 = .ok (.ifCond .le 5, 3) := by decide +kernel
theorem dX6_greatestWindLifting_15 : decode cX6_greatestWindLifting 15 = .ok (.iload_n 1, 1) := by decide +kernel
theorem dX6_greatestWindLifting_16 : decode cX6_greatestWindLifting 16 = .ok (.ireturn, 1) := by decide +kernel
theorem dX6_greatestWindLifting_17 : decode cX6_greatestWindLifting 17 = .ok (.iinc 1 (-1), 3) := by decide +kernel
theorem dX6_greatestWindLifting_20 : decode cX6_greatestWindLifting 20 = .ok (.goto (-17), 3) := by decide +kernel
theorem dX6_greatestWindLifting_23 : decode cX6_greatestWindLifting 23 = .ok (.bipush (-9), 2) := by decide +kernel
theorem dX6_greatestWindLifting_25 : decode cX6_greatestWindLifting 25 = .ok (.ireturn, 1) := by decide +kernel
theorem dX6_windsAboveHandkerchief_0 : decode cX6_windsAboveHandkerchief 0 = .ok (.iconst 0, 1) := by decide +kernel
theorem dX6_windsAboveHandkerchief_1 : decode cX6_windsAboveHandkerchief 1 = .ok (.istore_n 1, 1) := by decide +kernel
theorem dX6_windsAboveHandkerchief_2 : decode cX6_windsAboveHandkerchief 2 = .ok (.iconst 0, 1) := by decide +kernel
theorem dX6_windsAboveHandkerchief_3 : decode cX6_windsAboveHandkerchief 3 = .ok (.istore_n 2, 1) := by decide +kernel
theorem dX6_windsAboveHandkerchief_4 : decode cX6_windsAboveHandkerchief 4 = .ok (.iload_n 2, 1) := by decide +kernel
theorem dX6_windsAboveHandkerchief_5 : decode cX6_windsAboveHandkerchief 5 = .ok (.bipush 9, 2) := by decide +kernel
theorem dX6_windsAboveHandkerchief_7 : decode cX6_windsAboveHandkerchief 7 = .ok (.if_icmp .gt 30, 3) := by decide +kernel
theorem dX6_windsAboveHandkerchief_10 : decode cX6_windsAboveHandkerchief 10 = .ok (.aload_n 0, 1) := by decide +kernel
theorem dX6_windsAboveHandkerchief_11 : decode cX6_windsAboveHandkerchief 11 = .ok (.iload_n 2, 1) := by decide +kernel
theorem dX6_windsAboveHandkerchief_12 : decode cX6_windsAboveHandkerchief 12 = .ok (.invokevirtual 154, 3) := by decide +kernel
theorem dX6_windsAboveHandkerchief_15 : decode cX6_windsAboveHandkerchief 15 = .ok (.aload_n 0, 1) := by decide +kernel
theorem dX6_windsAboveHandkerchief_16 : decode cX6_windsAboveHandkerchief 16 = .ok (.iconst 1, 1) := by decide +kernel
theorem dX6_windsAboveHandkerchief_17 : decode cX6_windsAboveHandkerchief 17 = .ok (.aload_n 0, 1) := by decide +kernel
theorem dX6_windsAboveHandkerchief_18 : decode cX6_windsAboveHandkerchief 18 = .ok (.getfield 147, 3) := by decide +kernel
theorem dX6_windsAboveHandkerchief_21 : decode cX6_windsAboveHandkerchief 21 = .ok (.iload_n 2, 1) := by decide +kernel
theorem dX6_windsAboveHandkerchief_22 : decode cX6_windsAboveHandkerchief 22 = .ok (.invokevirtual 150, 3) := by decide +kernel
theorem dX6_windsAboveHandkerchief_25 : decode cX6_windsAboveHandkerchief 25 = .ok (.if_icmp .le 6, 3) := by decide +kernel
theorem dX6_windsAboveHandkerchief_28 : decode cX6_windsAboveHandkerchief 28 = .ok (.iinc 1 1, 3) := by decide +kernel
theorem dX6_windsAboveHandkerchief_31 : decode cX6_windsAboveHandkerchief 31 = .ok (.iinc 2 1, 3) := by decide +kernel
theorem dX6_windsAboveHandkerchief_34 : decode cX6_windsAboveHandkerchief 34 = .ok (.goto (-30), 3) := by decide +kernel
theorem dX6_windsAboveHandkerchief_37 : decode cX6_windsAboveHandkerchief 37 = .ok (.iload_n 1, 1) := by decide +kernel
theorem dX6_windsAboveHandkerchief_38 : decode cX6_windsAboveHandkerchief 38 = .ok (.ireturn, 1) := by decide +kernel
theorem dX6_leastWindLifted_0 : decode cX6_leastWindLifted 0 = .ok (.iconst 0, 1) := by decide +kernel
theorem dX6_leastWindLifted_1 : decode cX6_leastWindLifted 1 = .ok (.istore_n 1, 1) := by decide +kernel
theorem dX6_leastWindLifted_2 : decode cX6_leastWindLifted 2 = .ok (.iload_n 1, 1) := by decide +kernel
theorem dX6_leastWindLifted_3 : decode cX6_leastWindLifted 3 = .ok (.bipush 9, 2) := by decide +kernel
theorem dX6_leastWindLifted_5 : decode cX6_leastWindLifted 5 = .ok (.if_icmp .gt 19, 3) := by decide +kernel
theorem dX6_leastWindLifted_8 : decode cX6_leastWindLifted 8 = .ok (.aload_n 0, 1) := by decide +kernel
theorem dX6_leastWindLifted_9 : decode cX6_leastWindLifted 9 = .ok (.iload_n 1, 1) := by decide +kernel
theorem dX6_leastWindLifted_10 : decode cX6_leastWindLifted 10 = .ok (.invokevirtual 170, 3) := by decide +kernel
theorem dX6_leastWindLifted_13 : decode cX6_leastWindLifted 13 = .ok (.ifCond .eq 5, 3) := by decide +kernel
theorem dX6_leastWindLifted_16 : decode cX6_leastWindLifted 16 = .ok (.iload_n 1, 1) := by decide +kernel
theorem dX6_leastWindLifted_17 : decode cX6_leastWindLifted 17 = .ok (.ireturn, 1) := by decide +kernel
theorem dX6_leastWindLifted_18 : decode cX6_leastWindLifted 18 = .ok (.iinc 1 1, 3) := by decide +kernel
theorem dX6_leastWindLifted_21 : decode cX6_leastWindLifted 21 = .ok (.goto (-19), 3) := by decide +kernel
theorem dX6_leastWindLifted_24 : decode cX6_leastWindLifted 24 = .ok (.bipush (-9), 2) := by decide +kernel
theorem dX6_leastWindLifted_26 : decode cX6_leastWindLifted 26 = .ok (.ireturn, 1) := by decide +kernel
theorem dX6_isFlying_0 : decode cX6_isFlying 0 = .ok (.aload_n 0, 1) := by decide +kernel
theorem dX6_isFlying_1 : decode cX6_isFlying 1 = .ok (.getfield 25, 3) := by decide +kernel
theorem dX6_isFlying_4 : decode cX6_isFlying 4 = .ok (.invokevirtual 254, 3) := by decide +kernel
theorem dX6_isFlying_7 : decode cX6_isFlying 7 = .ok (.istore_n 2, 1) := by decide +kernel
theorem dX6_isFlying_8 : decode cX6_isFlying 8 = .ok (.iconst 0, 1) := by decide +kernel
theorem dX6_isFlying_9 : decode cX6_isFlying 9 = .ok (.istore_n 3, 1) := by decide +kernel
theorem dX6_isFlying_10 : decode cX6_isFlying 10 = .ok (.iload_n 3, 1) := by decide +kernel
theorem dX6_isFlying_11 : decode cX6_isFlying 11 = .ok (.aload_n 1, 1) := by decide +kernel
theorem dX6_isFlying_12 : decode cX6_isFlying 12 = .ok (.getfield 117, 3) := by decide +kernel
theorem dX6_isFlying_15 : decode cX6_isFlying 15 = .ok (.if_icmp .ge 57, 3) := by decide +kernel
theorem dX6_isFlying_18 : decode cX6_isFlying 18 = .ok (.aload_n 1, 1) := by decide +kernel
theorem dX6_isFlying_19 : decode cX6_isFlying 19 = .ok (.iload_n 3, 1) := by decide +kernel
theorem dX6_isFlying_20 : decode cX6_isFlying 20 = .ok (.invokevirtual 94, 3) := by decide +kernel
theorem dX6_isFlying_23 : decode cX6_isFlying 23 = .ok (.istore 4, 2) := by decide +kernel
theorem dX6_isFlying_25 : decode cX6_isFlying 25 = .ok (.iload 4, 2) := by decide +kernel
theorem dX6_isFlying_27 : decode cX6_isFlying 27 = .ok (.bipush (-9), 2) := by decide +kernel
theorem dX6_isFlying_29 : decode cX6_isFlying 29 = .ok (.if_icmp .ne 6, 3) := by decide +kernel
theorem dX6_isFlying_32 : decode cX6_isFlying 32 = .ok (.goto 34, 3) := by decide +kernel
theorem dX6_isFlying_35 : decode cX6_isFlying 35 = .ok (.aload_n 0, 1) := by decide +kernel
theorem dX6_isFlying_36 : decode cX6_isFlying 36 = .ok (.getfield 25, 3) := by decide +kernel
theorem dX6_isFlying_39 : decode cX6_isFlying 39 = .ok (.iload 4, 2) := by decide +kernel
theorem dX6_isFlying_41 : decode cX6_isFlying 41 = .ok (.invokevirtual 131, 3) := by decide +kernel
theorem dX6_isFlying_44 : decode cX6_isFlying 44 = .ok (.ifnull 13, 3) := by decide +kernel
theorem dX6_isFlying_47 : decode cX6_isFlying 47 = .ok (.iload_n 2, 1) := by decide +kernel
theorem dX6_isFlying_48 : decode cX6_isFlying 48 = .ok (.iload 4, 2) := by decide +kernel
theorem dX6_isFlying_50 : decode cX6_isFlying 50 = .ok (.ishr, 1) := by decide +kernel
theorem dX6_isFlying_51 : decode cX6_isFlying 51 = .ok (.iconst 1, 1) := by decide +kernel
theorem dX6_isFlying_52 : decode cX6_isFlying 52 = .ok (.iand, 1) := by decide +kernel
theorem dX6_isFlying_53 : decode cX6_isFlying 53 = .ok (.iconst 1, 1) := by decide +kernel
theorem dX6_isFlying_54 : decode cX6_isFlying 54 = .ok (.if_icmp .ne 5, 3) := by decide +kernel
theorem dX6_isFlying_57 : decode cX6_isFlying 57 = .ok (.iconst 0, 1) := by decide +kernel
theorem dX6_isFlying_58 : decode cX6_isFlying 58 = .ok (.ireturn, 1) := by decide +kernel
theorem dX6_isFlying_59 : decode cX6_isFlying 59 = .ok (.iload_n 2, 1) := by decide +kernel
theorem dX6_isFlying_60 : decode cX6_isFlying 60 = .ok (.iconst 1, 1) := by decide +kernel
theorem dX6_isFlying_61 : decode cX6_isFlying 61 = .ok (.iload 4, 2) := by decide +kernel
theorem dX6_isFlying_63 : decode cX6_isFlying 63 = .ok (.ishl, 1) := by decide +kernel
theorem dX6_isFlying_64 : decode cX6_isFlying 64 = .ok (.ior, 1) := by decide +kernel
theorem dX6_isFlying_65 : decode cX6_isFlying 65 = .ok (.istore_n 2, 1) := by decide +kernel
theorem dX6_isFlying_66 : decode cX6_isFlying 66 = .ok (.iinc 3 1, 3) := by decide +kernel
theorem dX6_isFlying_69 : decode cX6_isFlying 69 = .ok (.goto (-59), 3) := by decide +kernel
theorem dX6_isFlying_72 : decode cX6_isFlying 72 = .ok (.iconst 1, 1) := by decide +kernel
theorem dX6_isFlying_73 : decode cX6_isFlying 73 = .ok (.ireturn, 1) := by decide +kernel
theorem dX6_findingOfPairs_0 : decode cX6_findingOfPairs 0 = .ok (.aload_n 0, 1) := by decide +kernel
theorem dX6_findingOfPairs_1 : decode cX6_findingOfPairs 1 = .ok (.invokevirtual 82, 3) := by decide +kernel
theorem dX6_findingOfPairs_4 : decode cX6_findingOfPairs 4 = .ok (.ifCond .ne 5, 3) := by decide +kernel
theorem dX6_findingOfPairs_7 : decode cX6_findingOfPairs 7 = .ok (.iconst 1, 1) := by decide +kernel
theorem dX6_findingOfPairs_8 : decode cX6_findingOfPairs 8 = .ok (.ireturn, 1) := by decide +kernel
theorem dX6_findingOfPairs_9 : decode cX6_findingOfPairs 9 = .ok (.aload_n 0, 1) := by decide +kernel
theorem dX6_findingOfPairs_10 : decode cX6_findingOfPairs 10 = .ok (.getfield 117, 3) := by decide +kernel
theorem dX6_findingOfPairs_13 : decode cX6_findingOfPairs 13 = .ok (.iconst 2, 1) := by decide +kernel
theorem dX6_findingOfPairs_14 : decode cX6_findingOfPairs 14 = .ok (.irem, 1) := by decide +kernel
theorem dX6_findingOfPairs_15 : decode cX6_findingOfPairs 15 = .ok (.ifCond .eq 5, 3) := by decide +kernel
theorem dX6_findingOfPairs_18 : decode cX6_findingOfPairs 18 = .ok (.iconst 5, 1) := by decide +kernel
theorem dX6_findingOfPairs_19 : decode cX6_findingOfPairs 19 = .ok (.ireturn, 1) := by decide +kernel
theorem dX6_findingOfPairs_20 : decode cX6_findingOfPairs 20 = .ok (.iconst 0, 1) := by decide +kernel
theorem dX6_findingOfPairs_21 : decode cX6_findingOfPairs 21 = .ok (.istore_n 1, 1) := by decide +kernel
theorem dX6_findingOfPairs_22 : decode cX6_findingOfPairs 22 = .ok (.iload_n 1, 1) := by decide +kernel
theorem dX6_findingOfPairs_23 : decode cX6_findingOfPairs 23 = .ok (.aload_n 0, 1) := by decide +kernel
theorem dX6_findingOfPairs_24 : decode cX6_findingOfPairs 24 = .ok (.getfield 117, 3) := by decide +kernel
theorem dX6_findingOfPairs_27 : decode cX6_findingOfPairs 27 = .ok (.if_icmp .ge 40, 3) := by decide +kernel
theorem dX6_findingOfPairs_30 : decode cX6_findingOfPairs 30 = .ok (.aload_n 0, 1) := by decide +kernel
theorem dX6_findingOfPairs_31 : decode cX6_findingOfPairs 31 = .ok (.iload_n 1, 1) := by decide +kernel
theorem dX6_findingOfPairs_32 : decode cX6_findingOfPairs 32 = .ok (.iconst 1, 1) := by decide +kernel
theorem dX6_findingOfPairs_33 : decode cX6_findingOfPairs 33 = .ok (.iadd, 1) := by decide +kernel
theorem dX6_findingOfPairs_34 : decode cX6_findingOfPairs 34 = .ok (.invokevirtual 94, 3) := by decide +kernel
theorem dX6_findingOfPairs_37 : decode cX6_findingOfPairs 37 = .ok (.istore_n 2, 1) := by decide +kernel
theorem dX6_findingOfPairs_38 : decode cX6_findingOfPairs 38 = .ok (.aload_n 0, 1) := by decide +kernel
theorem dX6_findingOfPairs_39 : decode cX6_findingOfPairs 39 = .ok (.iload_n 1, 1) := by decide +kernel
theorem dX6_findingOfPairs_40 : decode cX6_findingOfPairs 40 = .ok (.invokevirtual 94, 3) := by decide +kernel
theorem dX6_findingOfPairs_43 : decode cX6_findingOfPairs 43 = .ok (.invokestatic 167, 3) := by decide +kernel
theorem dX6_findingOfPairs_46 : decode cX6_findingOfPairs 46 = .ok (.ifCond .eq 13, 3) := by decide +kernel
theorem dX6_findingOfPairs_49 : decode cX6_findingOfPairs 49 = .ok (.iload_n 2, 1) := by decide +kernel
theorem dX6_findingOfPairs_50 : decode cX6_findingOfPairs 50 = .ok (.ifCond .lt 9, 3) := by decide +kernel
theorem dX6_findingOfPairs_53 : decode cX6_findingOfPairs 53 = .ok (.iload_n 2, 1) := by decide +kernel
theorem dX6_findingOfPairs_54 : decode cX6_findingOfPairs 54 = .ok (.bipush 99, 2) := by decide +kernel
theorem dX6_findingOfPairs_56 : decode cX6_findingOfPairs 56 = .ok (.if_icmp .le 5, 3) := by decide +kernel
theorem dX6_findingOfPairs_59 : decode cX6_findingOfPairs 59 = .ok (.iconst 3, 1) := by decide +kernel
theorem dX6_findingOfPairs_60 : decode cX6_findingOfPairs 60 = .ok (.ireturn, 1) := by decide +kernel
theorem dX6_findingOfPairs_61 : decode cX6_findingOfPairs 61 = .ok (.iinc 1 2, 3) := by decide +kernel
theorem dX6_findingOfPairs_64 : decode cX6_findingOfPairs 64 = .ok (.goto (-42), 3) := by decide +kernel
theorem dX6_findingOfPairs_67 : decode cX6_findingOfPairs 67 = .ok (.iconst 0, 1) := by decide +kernel
theorem dX6_findingOfPairs_68 : decode cX6_findingOfPairs 68 = .ok (.ireturn, 1) := by decide +kernel
theorem dX6_fits_0 : decode cX6_fits 0 = .ok (.iconst 0, 1) := by decide +kernel
theorem dX6_fits_1 : decode cX6_fits 1 = .ok (.istore 4, 2) := by decide +kernel
theorem dX6_fits_3 : decode cX6_fits 3 = .ok (.iload 4, 2) := by decide +kernel
theorem dX6_fits_5 : decode cX6_fits 5 = .ok (.aload_n 3, 1) := by decide +kernel
theorem dX6_fits_6 : decode cX6_fits 6 = .ok (.getfield 117, 3) := by decide +kernel
theorem dX6_fits_9 : decode cX6_fits 9 = .ok (.if_icmp .ge 34, 3) := by decide +kernel
theorem dX6_fits_12 : decode cX6_fits 12 = .ok (.aload_n 0, 1) := by decide +kernel
theorem dX6_fits_13 : decode cX6_fits 13 = .ok (.iload_n 1, 1) := by decide +kernel
theorem dX6_fits_14 : decode cX6_fits 14 = .ok (.iload_n 2, 1) := by decide +kernel
theorem dX6_fits_15 : decode cX6_fits 15 = .ok (.aload_n 3, 1) := by decide +kernel
theorem dX6_fits_16 : decode cX6_fits 16 = .ok (.iload 4, 2) := by decide +kernel
theorem dX6_fits_18 : decode cX6_fits 18 = .ok (.invokevirtual 94, 3) := by decide +kernel
theorem dX6_fits_21 : decode cX6_fits 21 = .ok (.invokevirtual 150, 3) := by decide +kernel
theorem dX6_fits_24 : decode cX6_fits 24 = .ok (.aload_n 3, 1) := by decide +kernel
theorem dX6_fits_25 : decode cX6_fits 25 = .ok (.iload 4, 2) := by decide +kernel
theorem dX6_fits_27 : decode cX6_fits 27 = .ok (.iconst 1, 1) := by decide +kernel
theorem dX6_fits_28 : decode cX6_fits 28 = .ok (.iadd, 1) := by decide +kernel
theorem dX6_fits_29 : decode cX6_fits 29 = .ok (.invokevirtual 94, 3) := by decide +kernel
theorem dX6_fits_32 : decode cX6_fits 32 = .ok (.if_icmp .eq 5, 3) := by decide +kernel
theorem dX6_fits_35 : decode cX6_fits 35 = .ok (.iconst 0, 1) := by decide +kernel
theorem dX6_fits_36 : decode cX6_fits 36 = .ok (.ireturn, 1) := by decide +kernel
theorem dX6_fits_37 : decode cX6_fits 37 = .ok (.iinc 4 2, 3) := by decide +kernel
theorem dX6_fits_40 : decode cX6_fits 40 = .ok (.goto (-37), 3) := by decide +kernel
theorem dX6_fits_43 : decode cX6_fits 43 = .ok (.iconst 1, 1) := by decide +kernel
theorem dX6_fits_44 : decode cX6_fits 44 = .ok (.ireturn, 1) := by decide +kernel
theorem dX6_fittingKinds_0 : decode cX6_fittingKinds 0 = .ok (.iconst 0, 1) := by decide +kernel
theorem dX6_fittingKinds_1 : decode cX6_fittingKinds 1 = .ok (.istore_n 2, 1) := by decide +kernel
theorem dX6_fittingKinds_2 : decode cX6_fittingKinds 2 = .ok (.iconst 0, 1) := by decide +kernel
theorem dX6_fittingKinds_3 : decode cX6_fittingKinds 3 = .ok (.istore_n 3, 1) := by decide +kernel
theorem dX6_fittingKinds_4 : decode cX6_fittingKinds 4 = .ok (.iload_n 3, 1) := by decide +kernel
theorem dX6_fittingKinds_5 : decode cX6_fittingKinds 5 = .ok (.bipush 6, 2) := by decide +kernel
theorem dX6_fittingKinds_7 : decode cX6_fittingKinds 7 = .ok (.if_icmp .ge 32, 3) := by decide +kernel
theorem dX6_fittingKinds_10 : decode cX6_fittingKinds 10 = .ok (.iload_n 2, 1) := by decide +kernel
theorem dX6_fittingKinds_11 : decode cX6_fittingKinds 11 = .ok (.aload_n 0, 1) := by decide +kernel
theorem dX6_fittingKinds_12 : decode cX6_fittingKinds 12 = .ok (.iload_n 3, 1) := by decide +kernel
theorem dX6_fittingKinds_13 : decode cX6_fittingKinds 13 = .ok (.aload_n 0, 1) := by decide +kernel
theorem dX6_fittingKinds_14 : decode cX6_fittingKinds 14 = .ok (.getfield 147, 3) := by decide +kernel
theorem dX6_fittingKinds_17 : decode cX6_fittingKinds 17 = .ok (.aload_n 1, 1) := by decide +kernel
theorem dX6_fittingKinds_18 : decode cX6_fittingKinds 18 = .ok (.invokestatic 239, 3) := by decide +kernel
theorem dX6_fittingKinds_21 : decode cX6_fittingKinds 21 = .ok (.ifCond .eq 9, 3) := by decide +kernel
theorem dX6_fittingKinds_24 : decode cX6_fittingKinds 24 = .ok (.iconst 1, 1) := by decide +kernel
theorem dX6_fittingKinds_25 : decode cX6_fittingKinds 25 = .ok (.iload_n 3, 1) := by decide +kernel
theorem dX6_fittingKinds_26 : decode cX6_fittingKinds 26 = .ok (.ishl, 1) := by decide +kernel
theorem dX6_fittingKinds_27 : decode cX6_fittingKinds 27 = .ok (.goto 4, 3) := by decide +kernel
theorem dX6_fittingKinds_30 : decode cX6_fittingKinds 30 = .ok (.iconst 0, 1) := by decide +kernel
theorem dX6_fittingKinds_31 : decode cX6_fittingKinds 31 = .ok (.ior, 1) := by decide +kernel
theorem dX6_fittingKinds_32 : decode cX6_fittingKinds 32 = .ok (.istore_n 2, 1) := by decide +kernel
theorem dX6_fittingKinds_33 : decode cX6_fittingKinds 33 = .ok (.iinc 3 1, 3) := by decide +kernel
theorem dX6_fittingKinds_36 : decode cX6_fittingKinds 36 = .ok (.goto (-32), 3) := by decide +kernel
theorem dX6_fittingKinds_39 : decode cX6_fittingKinds 39 = .ok (.iload_n 2, 1) := by decide +kernel
theorem dX6_fittingKinds_40 : decode cX6_fittingKinds 40 = .ok (.ireturn, 1) := by decide +kernel
theorem dX6_greatestPart_0 : decode cX6_greatestPart 0 = .ok (.iconst 0, 1) := by decide +kernel
theorem dX6_greatestPart_1 : decode cX6_greatestPart 1 = .ok (.istore_n 3, 1) := by decide +kernel
theorem dX6_greatestPart_2 : decode cX6_greatestPart 2 = .ok (.iconst 0, 1) := by decide +kernel
theorem dX6_greatestPart_3 : decode cX6_greatestPart 3 = .ok (.istore 4, 2) := by decide +kernel
theorem dX6_greatestPart_5 : decode cX6_greatestPart 5 = .ok (.iload 4, 2) := by decide +kernel
theorem dX6_greatestPart_7 : decode cX6_greatestPart 7 = .ok (.bipush 6, 2) := by decide +kernel
theorem dX6_greatestPart_9 : decode cX6_greatestPart 9 = .ok (.if_icmp .ge 32, 3) := by decide +kernel
theorem dX6_greatestPart_12 : decode cX6_greatestPart 12 = .ok (.iload_n 1, 1) := by decide +kernel
theorem dX6_greatestPart_13 : decode cX6_greatestPart 13 = .ok (.iload 4, 2) := by decide +kernel
theorem dX6_greatestPart_15 : decode cX6_greatestPart 15 = .ok (.ishr, 1) := by decide +kernel
theorem dX6_greatestPart_16 : decode cX6_greatestPart 16 = .ok (.iconst 1, 1) := by decide +kernel
theorem dX6_greatestPart_17 : decode cX6_greatestPart 17 = .ok (.iand, 1) := by decide +kernel
theorem dX6_greatestPart_18 : decode cX6_greatestPart 18 = .ok (.iconst 1, 1) := by decide +kernel
theorem dX6_greatestPart_19 : decode cX6_greatestPart 19 = .ok (.if_icmp .ne 16, 3) := by decide +kernel
theorem dX6_greatestPart_22 : decode cX6_greatestPart 22 = .ok (.iload_n 3, 1) := by decide +kernel
theorem dX6_greatestPart_23 : decode cX6_greatestPart 23 = .ok (.aload_n 0, 1) := by decide +kernel
theorem dX6_greatestPart_24 : decode cX6_greatestPart 24 = .ok (.iload_n 1, 1) := by decide +kernel
theorem dX6_greatestPart_25 : decode cX6_greatestPart 25 = .ok (.iload_n 2, 1) := by decide +kernel
theorem dX6_greatestPart_26 : decode cX6_greatestPart 26 = .ok (.iload 4, 2) := by decide +kernel
theorem dX6_greatestPart_28 : decode cX6_greatestPart 28 = .ok (.invokestatic 319, 3) := by decide +kernel
theorem dX6_greatestPart_31 : decode cX6_greatestPart 31 = .ok (.invokestatic 323, 3) := by decide +kernel
theorem dX6_greatestPart_34 : decode cX6_greatestPart 34 = .ok (.istore_n 3, 1) := by decide +kernel
theorem dX6_greatestPart_35 : decode cX6_greatestPart 35 = .ok (.iinc 4 1, 3) := by decide +kernel
theorem dX6_greatestPart_38 : decode cX6_greatestPart 38 = .ok (.goto (-33), 3) := by decide +kernel
theorem dX6_greatestPart_41 : decode cX6_greatestPart 41 = .ok (.iload_n 3, 1) := by decide +kernel
theorem dX6_greatestPart_42 : decode cX6_greatestPart 42 = .ok (.ireturn, 1) := by decide +kernel
theorem dX6_liftingAlike_0 : decode cX6_liftingAlike 0 = .ok (.aload_n 0, 1) := by decide +kernel
theorem dX6_liftingAlike_1 : decode cX6_liftingAlike 1 = .ok (.iload_n 3, 1) := by decide +kernel
theorem dX6_liftingAlike_2 : decode cX6_liftingAlike 2 = .ok (.aload_n 0, 1) := by decide +kernel
theorem dX6_liftingAlike_3 : decode cX6_liftingAlike 3 = .ok (.getfield 147, 3) := by decide +kernel
theorem dX6_liftingAlike_6 : decode cX6_liftingAlike 6 = .ok (.iload_n 2, 1) := by decide +kernel
theorem dX6_liftingAlike_7 : decode cX6_liftingAlike 7 = .ok (.invokevirtual 150, 3) := by decide +kernel
theorem dX6_liftingAlike_10 : decode cX6_liftingAlike 10 = .ok (.istore 4, 2) := by decide +kernel
theorem dX6_liftingAlike_12 : decode cX6_liftingAlike 12 = .ok (.iconst 0, 1) := by decide +kernel
theorem dX6_liftingAlike_13 : decode cX6_liftingAlike 13 = .ok (.istore 5, 2) := by decide +kernel
theorem dX6_liftingAlike_15 : decode cX6_liftingAlike 15 = .ok (.iconst 0, 1) := by decide +kernel
theorem dX6_liftingAlike_16 : decode cX6_liftingAlike 16 = .ok (.istore 6, 2) := by decide +kernel
theorem dX6_liftingAlike_18 : decode cX6_liftingAlike 18 = .ok (.iload 6, 2) := by decide +kernel
theorem dX6_liftingAlike_20 : decode cX6_liftingAlike 20 = .ok (.bipush 6, 2) := by decide +kernel
theorem dX6_liftingAlike_22 : decode cX6_liftingAlike 22 = .ok (.if_icmp .ge 38, 3) := by decide +kernel
theorem dX6_liftingAlike_25 : decode cX6_liftingAlike 25 = .ok (.iload_n 1, 1) := by decide +kernel
theorem dX6_liftingAlike_26 : decode cX6_liftingAlike 26 = .ok (.iload 6, 2) := by decide +kernel
theorem dX6_liftingAlike_28 : decode cX6_liftingAlike 28 = .ok (.ishr, 1) := by decide +kernel
theorem dX6_liftingAlike_29 : decode cX6_liftingAlike 29 = .ok (.iconst 1, 1) := by decide +kernel
theorem dX6_liftingAlike_30 : decode cX6_liftingAlike 30 = .ok (.iand, 1) := by decide +kernel
theorem dX6_liftingAlike_31 : decode cX6_liftingAlike 31 = .ok (.iconst 1, 1) := by decide +kernel
theorem dX6_liftingAlike_32 : decode cX6_liftingAlike 32 = .ok (.if_icmp .ne 22, 3) := by decide +kernel
theorem dX6_liftingAlike_35 : decode cX6_liftingAlike 35 = .ok (.aload_n 0, 1) := by decide +kernel
theorem dX6_liftingAlike_36 : decode cX6_liftingAlike 36 = .ok (.iload 6, 2) := by decide +kernel
theorem dX6_liftingAlike_38 : decode cX6_liftingAlike 38 = .ok (.aload_n 0, 1) := by decide +kernel
theorem dX6_liftingAlike_39 : decode cX6_liftingAlike 39 = .ok (.getfield 147, 3) := by decide +kernel
theorem dX6_liftingAlike_42 : decode cX6_liftingAlike 42 = .ok (.iload_n 2, 1) := by decide +kernel
theorem dX6_liftingAlike_43 : decode cX6_liftingAlike 43 = .ok (.invokevirtual 150, 3) := by decide +kernel
theorem dX6_liftingAlike_46 : decode cX6_liftingAlike 46 = .ok (.iload 4, 2) := by decide +kernel
theorem dX6_liftingAlike_48 : decode cX6_liftingAlike 48 = .ok (.if_icmp .ne 6, 3) := by decide +kernel
theorem dX6_liftingAlike_51 : decode cX6_liftingAlike 51 = .ok (.iinc 5 1, 3) := by decide +kernel
theorem dX6_liftingAlike_54 : decode cX6_liftingAlike 54 = .ok (.iinc 6 1, 3) := by decide +kernel
theorem dX6_liftingAlike_57 : decode cX6_liftingAlike 57 = .ok (.goto (-39), 3) := by decide +kernel
theorem dX6_liftingAlike_60 : decode cX6_liftingAlike 60 = .ok (.iload 5, 2) := by decide +kernel
theorem dX6_liftingAlike_62 : decode cX6_liftingAlike 62 = .ok (.ireturn, 1) := by decide +kernel
theorem dX6_paidWithCalms_0 : decode cX6_paidWithCalms 0 = .ok (.iconst 0, 1) := by decide +kernel
theorem dX6_paidWithCalms_1 : decode cX6_paidWithCalms 1 = .ok (.istore_n 2, 1) := by decide +kernel
theorem dX6_paidWithCalms_2 : decode cX6_paidWithCalms 2 = .ok (.iconst 0, 1) := by decide +kernel
theorem dX6_paidWithCalms_3 : decode cX6_paidWithCalms 3 = .ok (.istore_n 3, 1) := by decide +kernel
theorem dX6_paidWithCalms_4 : decode cX6_paidWithCalms 4 = .ok (.iconst 0, 1) := by decide +kernel
theorem dX6_paidWithCalms_5 : decode cX6_paidWithCalms 5 = .ok (.istore 4, 2) := by decide +kernel
theorem dX6_paidWithCalms_7 : decode cX6_paidWithCalms 7 = .ok (.iload 4, 2) := by decide +kernel
theorem dX6_paidWithCalms_9 : decode cX6_paidWithCalms 9 = .ok (.aload_n 0, 1) := by decide +kernel
theorem dX6_paidWithCalms_10 : decode cX6_paidWithCalms 10 = .ok (.getfield 25, 3) := by decide +kernel
theorem dX6_paidWithCalms_13 : decode cX6_paidWithCalms 13 = .ok (.getfield 128, 3) := by decide +kernel
theorem dX6_paidWithCalms_16 : decode cX6_paidWithCalms 16 = .ok (.if_icmp .ge 65, 3) := by decide +kernel
theorem dX6_paidWithCalms_19 : decode cX6_paidWithCalms 19 = .ok (.aload_n 0, 1) := by decide +kernel
theorem dX6_paidWithCalms_20 : decode cX6_paidWithCalms 20 = .ok (.getfield 25, 3) := by decide +kernel
theorem dX6_paidWithCalms_23 : decode cX6_paidWithCalms 23 = .ok (.iload 4, 2) := by decide +kernel
theorem dX6_paidWithCalms_25 : decode cX6_paidWithCalms 25 = .ok (.invokevirtual 131, 3) := by decide +kernel
theorem dX6_paidWithCalms_28 : decode cX6_paidWithCalms 28 = .ok (.astore 5, 2) := by decide +kernel
theorem dX6_paidWithCalms_30 : decode cX6_paidWithCalms 30 = .ok (.aload 5, 2) := by decide +kernel
theorem dX6_paidWithCalms_32 : decode cX6_paidWithCalms 32 = .ok (.ifnull 43, 3) := by decide +kernel
theorem dX6_paidWithCalms_35 : decode cX6_paidWithCalms 35 = .ok (.aload 5, 2) := by decide +kernel
theorem dX6_paidWithCalms_37 : decode cX6_paidWithCalms 37 = .ok (.invokevirtual 176, 3) := by decide +kernel
theorem dX6_paidWithCalms_40 : decode cX6_paidWithCalms 40 = .ok (.ifCond .ne 35, 3) := by decide +kernel
theorem dX6_paidWithCalms_43 : decode cX6_paidWithCalms 43 = .ok (.iload_n 2, 1) := by decide +kernel
theorem dX6_paidWithCalms_44 : decode cX6_paidWithCalms 44 = .ok (.aload 5, 2) := by decide +kernel
theorem dX6_paidWithCalms_46 : decode cX6_paidWithCalms 46 = .ok (.iload_n 1, 1) := by decide +kernel
theorem dX6_paidWithCalms_47 : decode cX6_paidWithCalms 47 = .ok (.iload_n 3, 1) := by decide +kernel
theorem dX6_paidWithCalms_48 : decode cX6_paidWithCalms 48 = .ok (.ishr, 1) := by decide +kernel
theorem dX6_paidWithCalms_49 : decode cX6_paidWithCalms 49 = .ok (.iconst 1, 1) := by decide +kernel
theorem dX6_paidWithCalms_50 : decode cX6_paidWithCalms 50 = .ok (.iand, 1) := by decide +kernel
theorem dX6_paidWithCalms_51 : decode cX6_paidWithCalms 51 = .ok (.iconst 1, 1) := by decide +kernel
theorem dX6_paidWithCalms_52 : decode cX6_paidWithCalms 52 = .ok (.if_icmp .ne 7, 3) := by decide +kernel
theorem dX6_paidWithCalms_55 : decode cX6_paidWithCalms 55 = .ok (.iconst 0, 1) := by decide +kernel
theorem dX6_paidWithCalms_56 : decode cX6_paidWithCalms 56 = .ok (.goto 11, 3) := by decide +kernel
theorem dX6_paidWithCalms_59 : decode cX6_paidWithCalms 59 = .ok (.aload_n 0, 1) := by decide +kernel
theorem dX6_paidWithCalms_60 : decode cX6_paidWithCalms 60 = .ok (.getfield 25, 3) := by decide +kernel
theorem dX6_paidWithCalms_63 : decode cX6_paidWithCalms 63 = .ok (.iload_n 3, 1) := by decide +kernel
theorem dX6_paidWithCalms_64 : decode cX6_paidWithCalms 64 = .ok (.invokevirtual 144, 3) := by decide +kernel
theorem dX6_paidWithCalms_67 : decode cX6_paidWithCalms 67 = .ok (.invokevirtual 173, 3) := by decide +kernel
theorem dX6_paidWithCalms_70 : decode cX6_paidWithCalms 70 = .ok (.iadd, 1) := by decide +kernel
theorem dX6_paidWithCalms_71 : decode cX6_paidWithCalms 71 = .ok (.istore_n 2, 1) := by decide +kernel
theorem dX6_paidWithCalms_72 : decode cX6_paidWithCalms 72 = .ok (.iinc 3 1, 3) := by decide +kernel
theorem dX6_paidWithCalms_75 : decode cX6_paidWithCalms 75 = .ok (.iinc 4 1, 3) := by decide +kernel
theorem dX6_paidWithCalms_78 : decode cX6_paidWithCalms 78 = .ok (.goto (-71), 3) := by decide +kernel
theorem dX6_paidWithCalms_81 : decode cX6_paidWithCalms 81 = .ok (.iload_n 2, 1) := by decide +kernel
theorem dX6_paidWithCalms_82 : decode cX6_paidWithCalms 82 = .ok (.ireturn, 1) := by decide +kernel
theorem dX6_weightOfCalms_0 : decode cX6_weightOfCalms 0 = .ok (.lconst 1, 1) := by decide +kernel
theorem dX6_weightOfCalms_1 : decode cX6_weightOfCalms 1 = .ok (.lstore_n 3, 1) := by decide +kernel
theorem dX6_weightOfCalms_2 : decode cX6_weightOfCalms 2 = .ok (.iconst 0, 1) := by decide +kernel
theorem dX6_weightOfCalms_3 : decode cX6_weightOfCalms 3 = .ok (.istore 5, 2) := by decide +kernel
theorem dX6_weightOfCalms_5 : decode cX6_weightOfCalms 5 = .ok (.iload 5, 2) := by decide +kernel
theorem dX6_weightOfCalms_7 : decode cX6_weightOfCalms 7 = .ok (.iload_n 1, 1) := by decide +kernel
theorem dX6_weightOfCalms_8 : decode cX6_weightOfCalms 8 = .ok (.if_icmp .ge 32, 3) := by decide +kernel
theorem dX6_weightOfCalms_11 : decode cX6_weightOfCalms 11 = .ok (.lload_n 3, 1) := by decide +kernel
theorem dX6_weightOfCalms_12 : decode cX6_weightOfCalms 12 = .ok (.iload_n 0, 1) := by decide +kernel
theorem dX6_weightOfCalms_13 : decode cX6_weightOfCalms 13 = .ok (.iload 5, 2) := by decide +kernel
theorem dX6_weightOfCalms_15 : decode cX6_weightOfCalms 15 = .ok (.ishr, 1) := by decide +kernel
theorem dX6_weightOfCalms_16 : decode cX6_weightOfCalms 16 = .ok (.iconst 1, 1) := by decide +kernel
theorem dX6_weightOfCalms_17 : decode cX6_weightOfCalms 17 = .ok (.iand, 1) := by decide +kernel
theorem dX6_weightOfCalms_18 : decode cX6_weightOfCalms 18 = .ok (.iconst 1, 1) := by decide +kernel
theorem dX6_weightOfCalms_19 : decode cX6_weightOfCalms 19 = .ok (.if_icmp .ne 8, 3) := by decide +kernel
theorem dX6_weightOfCalms_22 : decode cX6_weightOfCalms 22 = .ok (.iload_n 2, 1) := by decide +kernel
theorem dX6_weightOfCalms_23 : decode cX6_weightOfCalms 23 = .ok (.i2l, 1) := by decide +kernel
theorem dX6_weightOfCalms_24 : decode cX6_weightOfCalms 24 = .ok (.goto 8, 3) := by decide +kernel
theorem dX6_weightOfCalms_27 : decode cX6_weightOfCalms 27 = .ok (.bipush 12, 2) := by decide +kernel
theorem dX6_weightOfCalms_29 : decode cX6_weightOfCalms 29 = .ok (.iload_n 2, 1) := by decide +kernel
theorem dX6_weightOfCalms_30 : decode cX6_weightOfCalms 30 = .ok (.isub, 1) := by decide +kernel
theorem dX6_weightOfCalms_31 : decode cX6_weightOfCalms 31 = .ok (.i2l, 1) := by decide +kernel
theorem dX6_weightOfCalms_32 : decode cX6_weightOfCalms 32 = .ok (.lmul, 1) := by decide +kernel
theorem dX6_weightOfCalms_33 : decode cX6_weightOfCalms 33 = .ok (.lstore_n 3, 1) := by decide +kernel
theorem dX6_weightOfCalms_34 : decode cX6_weightOfCalms 34 = .ok (.iinc 5 1, 3) := by decide +kernel
theorem dX6_weightOfCalms_37 : decode cX6_weightOfCalms 37 = .ok (.goto (-32), 3) := by decide +kernel
theorem dX6_weightOfCalms_40 : decode cX6_weightOfCalms 40 = .ok (.lload_n 3, 1) := by decide +kernel
theorem dX6_weightOfCalms_41 : decode cX6_weightOfCalms 41 = .ok (.lreturn, 1) := by decide +kernel
theorem dX6_tellParts_0 : decode cX6_tellParts 0 = .ok (.lload_n 1, 1) := by decide +kernel
theorem dX6_tellParts_1 : decode cX6_tellParts 1 = .ok (.lload_n 3, 1) := by decide +kernel
theorem dX6_tellParts_2 : decode cX6_tellParts 2 = .ok (.invokestatic 329, 3) := by decide +kernel
theorem dX6_tellParts_5 : decode cX6_tellParts 5 = .ok (.lstore 5, 2) := by decide +kernel
theorem dX6_tellParts_7 : decode cX6_tellParts 7 = .ok (.lload 5, 2) := by decide +kernel
theorem dX6_tellParts_9 : decode cX6_tellParts 9 = .ok (.lconst 0, 1) := by decide +kernel
theorem dX6_tellParts_10 : decode cX6_tellParts 10 = .ok (.lcmp, 1) := by decide +kernel
theorem dX6_tellParts_11 : decode cX6_tellParts 11 = .ok (.ifCond .le 19, 3) := by decide +kernel
theorem dX6_tellParts_14 : decode cX6_tellParts 14 = .ok (.aload_n 0, 1) := by decide +kernel
theorem dX6_tellParts_15 : decode cX6_tellParts 15 = .ok (.lload_n 1, 1) := by decide +kernel
theorem dX6_tellParts_16 : decode cX6_tellParts 16 = .ok (.lload 5, 2) := by decide +kernel
theorem dX6_tellParts_18 : decode cX6_tellParts 18 = .ok (.ldiv, 1) := by decide +kernel
theorem dX6_tellParts_19 : decode cX6_tellParts 19 = .ok (.putfield 64, 3) := by decide +kernel
theorem dX6_tellParts_22 : decode cX6_tellParts 22 = .ok (.aload_n 0, 1) := by decide +kernel
theorem dX6_tellParts_23 : decode cX6_tellParts 23 = .ok (.lload_n 3, 1) := by decide +kernel
theorem dX6_tellParts_24 : decode cX6_tellParts 24 = .ok (.lload 5, 2) := by decide +kernel
theorem dX6_tellParts_26 : decode cX6_tellParts 26 = .ok (.ldiv, 1) := by decide +kernel
theorem dX6_tellParts_27 : decode cX6_tellParts 27 = .ok (.putfield 68, 3) := by decide +kernel
theorem dX6_tellParts_30 : decode cX6_tellParts 30 = .ok (.return_, 1) := by decide +kernel
theorem dX6_greatestDivisor_0 : decode cX6_greatestDivisor 0 = .ok (.lload_n 0, 1) := by decide +kernel
theorem dX6_greatestDivisor_1 : decode cX6_greatestDivisor 1 = .ok (.lstore 4, 2) := by decide +kernel
theorem dX6_greatestDivisor_3 : decode cX6_greatestDivisor 3 = .ok (.lload_n 2, 1) := by decide +kernel
theorem dX6_greatestDivisor_4 : decode cX6_greatestDivisor 4 = .ok (.lstore 6, 2) := by decide +kernel
theorem dX6_greatestDivisor_6 : decode cX6_greatestDivisor 6 = .ok (.iconst 0, 1) := by decide +kernel
theorem dX6_greatestDivisor_7 : decode cX6_greatestDivisor 7 = .ok (.istore 8, 2) := by decide +kernel
theorem dX6_greatestDivisor_9 : decode cX6_greatestDivisor 9 = .ok (.iload 8, 2) := by decide +kernel
theorem dX6_greatestDivisor_11 : decode cX6_greatestDivisor 11 = .ok (.sipush 200, 3) := by decide +kernel
theorem dX6_greatestDivisor_14 : decode cX6_greatestDivisor 14 = .ok (.if_icmp .ge 31, 3) := by decide +kernel
theorem dX6_greatestDivisor_17 : decode cX6_greatestDivisor 17 = .ok (.lload 6, 2) := by decide +kernel
theorem dX6_greatestDivisor_19 : decode cX6_greatestDivisor 19 = .ok (.lconst 0, 1) := by decide +kernel
theorem dX6_greatestDivisor_20 : decode cX6_greatestDivisor 20 = .ok (.lcmp, 1) := by decide +kernel
theorem dX6_greatestDivisor_21 : decode cX6_greatestDivisor 21 = .ok (.ifCond .eq 24, 3) := by decide +kernel
theorem dX6_greatestDivisor_24 : decode cX6_greatestDivisor 24 = .ok (.lload 4, 2) := by decide +kernel
theorem dX6_greatestDivisor_26 : decode cX6_greatestDivisor 26 = .ok (.lload 6, 2) := by decide +kernel
theorem dX6_greatestDivisor_28 : decode cX6_greatestDivisor 28 = .ok (.lrem, 1) := by decide +kernel
theorem dX6_greatestDivisor_29 : decode cX6_greatestDivisor 29 = .ok (.lstore 9, 2) := by decide +kernel
theorem dX6_greatestDivisor_31 : decode cX6_greatestDivisor 31 = .ok (.lload 6, 2) := by decide +kernel
theorem dX6_greatestDivisor_33 : decode cX6_greatestDivisor 33 = .ok (.lstore 4, 2) := by decide +kernel
theorem dX6_greatestDivisor_35 : decode cX6_greatestDivisor 35 = .ok (.lload 9, 2) := by decide +kernel
theorem dX6_greatestDivisor_37 : decode cX6_greatestDivisor 37 = .ok (.lstore 6, 2) := by decide +kernel
theorem dX6_greatestDivisor_39 : decode cX6_greatestDivisor 39 = .ok (.iinc 8 1, 3) := by decide +kernel
theorem dX6_greatestDivisor_42 : decode cX6_greatestDivisor 42 = .ok (.goto (-33), 3) := by decide +kernel
theorem dX6_greatestDivisor_45 : decode cX6_greatestDivisor 45 = .ok (.lload 4, 2) := by decide +kernel
theorem dX6_greatestDivisor_47 : decode cX6_greatestDivisor 47 = .ok (.lreturn, 1) := by decide +kernel
theorem dX6_doByLot_0 : decode cX6_doByLot 0 = .ok (.aload_n 0, 1) := by decide +kernel
theorem dX6_doByLot_1 : decode cX6_doByLot 1 = .ok (.getfield 25, 3) := by decide +kernel
theorem dX6_doByLot_4 : decode cX6_doByLot 4 = .ok (.getfield 128, 3) := by decide +kernel
theorem dX6_doByLot_7 : decode cX6_doByLot 7 = .ok (.ifCond .gt 4, 3) := by decide +kernel
theorem dX6_doByLot_10 : decode cX6_doByLot 10 = .ok (.return_, 1) := by decide +kernel
theorem dX6_doByLot_11 : decode cX6_doByLot 11 = .ok (.lload_n 1, 1) := by decide +kernel
theorem dX6_doByLot_12 : decode cX6_doByLot 12 = .ok (.ldc2_w 333, 3) := by decide +kernel
theorem dX6_doByLot_15 : decode cX6_doByLot 15 = .ok (.ldiv, 1) := by decide +kernel
theorem dX6_doByLot_16 : decode cX6_doByLot 16 = .ok (.aload_n 0, 1) := by decide +kernel
theorem dX6_doByLot_17 : decode cX6_doByLot 17 = .ok (.getfield 25, 3) := by decide +kernel
theorem dX6_doByLot_20 : decode cX6_doByLot 20 = .ok (.getfield 128, 3) := by decide +kernel
theorem dX6_doByLot_23 : decode cX6_doByLot 23 = .ok (.i2l, 1) := by decide +kernel
theorem dX6_doByLot_24 : decode cX6_doByLot 24 = .ok (.lrem, 1) := by decide +kernel
theorem dX6_doByLot_25 : decode cX6_doByLot 25 = .ok (.l2i, 1) := by decide +kernel
theorem dX6_doByLot_26 : decode cX6_doByLot 26 = .ok (.istore_n 3, 1) := by decide +kernel
theorem dX6_doByLot_27 : decode cX6_doByLot 27 = .ok (.aload_n 0, 1) := by decide +kernel
theorem dX6_doByLot_28 : decode cX6_doByLot 28 = .ok (.getfield 25, 3) := by decide +kernel
theorem dX6_doByLot_31 : decode cX6_doByLot 31 = .ok (.iload_n 3, 1) := by decide +kernel
theorem dX6_doByLot_32 : decode cX6_doByLot 32 = .ok (.invokevirtual 131, 3) := by decide +kernel
theorem dX6_doByLot_35 : decode cX6_doByLot 35 = .ok (.astore 4, 2) := by decide +kernel
theorem dX6_doByLot_37 : decode cX6_doByLot 37 = .ok (.aload 4, 2) := by decide +kernel
theorem dX6_doByLot_39 : decode cX6_doByLot 39 = .ok (.ifnonnull 4, 3) := by decide +kernel
theorem dX6_doByLot_42 : decode cX6_doByLot 42 = .ok (.return_, 1) := by decide +kernel
theorem dX6_doByLot_43 : decode cX6_doByLot 43 = .ok (.aload 4, 2) := by decide +kernel
theorem dX6_doByLot_45 : decode cX6_doByLot 45 = .ok (.invokevirtual 176, 3) := by decide +kernel
theorem dX6_doByLot_48 : decode cX6_doByLot 48 = .ok (.ifCond .ne 14, 3) := by decide +kernel
theorem dX6_doByLot_51 : decode cX6_doByLot 51 = .ok (.aload_n 0, 1) := by decide +kernel
theorem dX6_doByLot_52 : decode cX6_doByLot 52 = .ok (.getfield 25, 3) := by decide +kernel
theorem dX6_doByLot_55 : decode cX6_doByLot 55 = .ok (.iload_n 3, 1) := by decide +kernel
theorem dX6_doByLot_56 : decode cX6_doByLot 56 = .ok (.invokevirtual 182, 3) := by decide +kernel
theorem dX6_doByLot_59 : decode cX6_doByLot 59 = .ok (.goto 40, 3) := by decide +kernel
theorem dX6_doByLot_62 : decode cX6_doByLot 62 = .ok (.aload 4, 2) := by decide +kernel
theorem dX6_doByLot_64 : decode cX6_doByLot 64 = .ok (.getfield 147, 3) := by decide +kernel
theorem dX6_doByLot_67 : decode cX6_doByLot 67 = .ok (.iconst 3, 1) := by decide +kernel
theorem dX6_doByLot_68 : decode cX6_doByLot 68 = .ok (.if_icmp .ge 24, 3) := by decide +kernel
theorem dX6_doByLot_71 : decode cX6_doByLot 71 = .ok (.lload_n 1, 1) := by decide +kernel
theorem dX6_doByLot_72 : decode cX6_doByLot 72 = .ok (.ldc2_w 335, 3) := by decide +kernel
theorem dX6_doByLot_75 : decode cX6_doByLot 75 = .ok (.lrem, 1) := by decide +kernel
theorem dX6_doByLot_76 : decode cX6_doByLot 76 = .ok (.lconst 0, 1) := by decide +kernel
theorem dX6_doByLot_77 : decode cX6_doByLot 77 = .ok (.lcmp, 1) := by decide +kernel
theorem dX6_doByLot_78 : decode cX6_doByLot 78 = .ok (.ifCond .ne 14, 3) := by decide +kernel
theorem dX6_doByLot_81 : decode cX6_doByLot 81 = .ok (.aload_n 0, 1) := by decide +kernel
theorem dX6_doByLot_82 : decode cX6_doByLot 82 = .ok (.getfield 25, 3) := by decide +kernel
theorem dX6_doByLot_85 : decode cX6_doByLot 85 = .ok (.iload_n 3, 1) := by decide +kernel
theorem dX6_doByLot_86 : decode cX6_doByLot 86 = .ok (.invokevirtual 197, 3) := by decide +kernel
theorem dX6_doByLot_89 : decode cX6_doByLot 89 = .ok (.goto 10, 3) := by decide +kernel
theorem dX6_doByLot_92 : decode cX6_doByLot 92 = .ok (.aload_n 0, 1) := by decide +kernel
theorem dX6_doByLot_93 : decode cX6_doByLot 93 = .ok (.getfield 25, 3) := by decide +kernel
theorem dX6_doByLot_96 : decode cX6_doByLot 96 = .ok (.invokevirtual 191, 3) := by decide +kernel
theorem dX6_doByLot_99 : decode cX6_doByLot 99 = .ok (.return_, 1) := by decide +kernel
theorem dX6_thoseThere_0 : decode cX6_thoseThere 0 = .ok (.iconst 0, 1) := by decide +kernel
theorem dX6_thoseThere_1 : decode cX6_thoseThere 1 = .ok (.istore_n 1, 1) := by decide +kernel
theorem dX6_thoseThere_2 : decode cX6_thoseThere 2 = .ok (.iconst 0, 1) := by decide +kernel
theorem dX6_thoseThere_3 : decode cX6_thoseThere 3 = .ok (.istore_n 2, 1) := by decide +kernel
theorem dX6_thoseThere_4 : decode cX6_thoseThere 4 = .ok (.iload_n 2, 1) := by decide +kernel
theorem dX6_thoseThere_5 : decode cX6_thoseThere 5 = .ok (.aload_n 0, 1) := by decide +kernel
theorem dX6_thoseThere_6 : decode cX6_thoseThere 6 = .ok (.arraylength, 1) := by decide +kernel
theorem dX6_thoseThere_7 : decode cX6_thoseThere 7 = .ok (.if_icmp .ge 21, 3) := by decide +kernel
theorem dX6_thoseThere_10 : decode cX6_thoseThere 10 = .ok (.aload_n 0, 1) := by decide +kernel
theorem dX6_thoseThere_11 : decode cX6_thoseThere 11 = .ok (.iload_n 2, 1) := by decide +kernel
theorem dX6_thoseThere_12 : decode cX6_thoseThere 12 = .ok (.aaload, 1) := by decide +kernel
theorem dX6_thoseThere_13 : decode cX6_thoseThere 13 = .ok (.invokevirtual 82, 3) := by decide +kernel
theorem dX6_thoseThere_16 : decode cX6_thoseThere 16 = .ok (.ifCond .eq 6, 3) := by decide +kernel
theorem dX6_thoseThere_19 : decode cX6_thoseThere 19 = .ok (.iinc 1 1, 3) := by decide +kernel
theorem dX6_thoseThere_22 : decode cX6_thoseThere 22 = .ok (.iinc 2 1, 3) := by decide +kernel
theorem dX6_thoseThere_25 : decode cX6_thoseThere 25 = .ok (.goto (-21), 3) := by decide +kernel
theorem dX6_thoseThere_28 : decode cX6_thoseThere 28 = .ok (.iload_n 1, 1) := by decide +kernel
theorem dX6_thoseThere_29 : decode cX6_thoseThere 29 = .ok (.ireturn, 1) := by decide +kernel
theorem dX6_keptParishes_0 : decode cX6_keptParishes 0 = .ok (.iconst 0, 1) := by decide +kernel
theorem dX6_keptParishes_1 : decode cX6_keptParishes 1 = .ok (.istore_n 1, 1) := by decide +kernel
theorem dX6_keptParishes_2 : decode cX6_keptParishes 2 = .ok (.iconst 0, 1) := by decide +kernel
theorem dX6_keptParishes_3 : decode cX6_keptParishes 3 = .ok (.istore_n 2, 1) := by decide +kernel
theorem dX6_keptParishes_4 : decode cX6_keptParishes 4 = .ok (.iload_n 2, 1) := by decide +kernel
theorem dX6_keptParishes_5 : decode cX6_keptParishes 5 = .ok (.aload_n 0, 1) := by decide +kernel
theorem dX6_keptParishes_6 : decode cX6_keptParishes 6 = .ok (.getfield 20, 3) := by decide +kernel
theorem dX6_keptParishes_9 : decode cX6_keptParishes 9 = .ok (.arraylength, 1) := by decide +kernel
theorem dX6_keptParishes_10 : decode cX6_keptParishes 10 = .ok (.if_icmp .ge 24, 3) := by decide +kernel
theorem dX6_keptParishes_13 : decode cX6_keptParishes 13 = .ok (.aload_n 0, 1) := by decide +kernel
theorem dX6_keptParishes_14 : decode cX6_keptParishes 14 = .ok (.getfield 20, 3) := by decide +kernel
theorem dX6_keptParishes_17 : decode cX6_keptParishes 17 = .ok (.iload_n 2, 1) := by decide +kernel
theorem dX6_keptParishes_18 : decode cX6_keptParishes 18 = .ok (.aaload, 1) := by decide +kernel
theorem dX6_keptParishes_19 : decode cX6_keptParishes 19 = .ok (.invokevirtual 188, 3) := by decide +kernel
theorem dX6_keptParishes_22 : decode cX6_keptParishes 22 = .ok (.ifCond .ne 6, 3) := by decide +kernel
theorem dX6_keptParishes_25 : decode cX6_keptParishes 25 = .ok (.iinc 1 1, 3) := by decide +kernel
theorem dX6_keptParishes_28 : decode cX6_keptParishes 28 = .ok (.iinc 2 1, 3) := by decide +kernel
theorem dX6_keptParishes_31 : decode cX6_keptParishes 31 = .ok (.goto (-27), 3) := by decide +kernel
theorem dX6_keptParishes_34 : decode cX6_keptParishes 34 = .ok (.iload_n 1, 1) := by decide +kernel
theorem dX6_keptParishes_35 : decode cX6_keptParishes 35 = .ok (.ireturn, 1) := by decide +kernel
theorem dX6_digestOf_0 : decode cX6_digestOf 0 = .ok (.lload_n 1, 1) := by decide +kernel
theorem dX6_digestOf_1 : decode cX6_digestOf 1 = .ok (.lstore_n 3, 1) := by decide +kernel
theorem dX6_digestOf_2 : decode cX6_digestOf 2 = .ok (.iconst 0, 1) := by decide +kernel
theorem dX6_digestOf_3 : decode cX6_digestOf 3 = .ok (.istore 5, 2) := by decide +kernel
theorem dX6_digestOf_5 : decode cX6_digestOf 5 = .ok (.iload 5, 2) := by decide +kernel
theorem dX6_digestOf_7 : decode cX6_digestOf 7 = .ok (.aload_n 0, 1) := by decide +kernel
theorem dX6_digestOf_8 : decode cX6_digestOf 8 = .ok (.arraylength, 1) := by decide +kernel
theorem dX6_digestOf_9 : decode cX6_digestOf 9 = .ok (.if_icmp .ge 62, 3) := by decide +kernel
theorem dX6_digestOf_12 : decode cX6_digestOf 12 = .ok (.ldc2_w 299, 3) := by decide +kernel
theorem dX6_digestOf_15 : decode cX6_digestOf 15 = .ok (.lload_n 3, 1) := by decide +kernel
theorem dX6_digestOf_16 : decode cX6_digestOf 16 = .ok (.lmul, 1) := by decide +kernel
theorem dX6_digestOf_17 : decode cX6_digestOf 17 = .ok (.aload_n 0, 1) := by decide +kernel
theorem dX6_digestOf_18 : decode cX6_digestOf 18 = .ok (.iload 5, 2) := by decide +kernel
theorem dX6_digestOf_20 : decode cX6_digestOf 20 = .ok (.aaload, 1) := by decide +kernel
theorem dX6_digestOf_21 : decode cX6_digestOf 21 = .ok (.getfield 117, 3) := by decide +kernel
theorem dX6_digestOf_24 : decode cX6_digestOf 24 = .ok (.i2l, 1) := by decide +kernel
theorem dX6_digestOf_25 : decode cX6_digestOf 25 = .ok (.ladd, 1) := by decide +kernel
theorem dX6_digestOf_26 : decode cX6_digestOf 26 = .ok (.lstore_n 3, 1) := by decide +kernel
theorem dX6_digestOf_27 : decode cX6_digestOf 27 = .ok (.iconst 0, 1) := by decide +kernel
theorem dX6_digestOf_28 : decode cX6_digestOf 28 = .ok (.istore 6, 2) := by decide +kernel
theorem dX6_digestOf_30 : decode cX6_digestOf 30 = .ok (.iload 6, 2) := by decide +kernel
theorem dX6_digestOf_32 : decode cX6_digestOf 32 = .ok (.aload_n 0, 1) := by decide +kernel
theorem dX6_digestOf_33 : decode cX6_digestOf 33 = .ok (.iload 5, 2) := by decide +kernel
theorem dX6_digestOf_35 : decode cX6_digestOf 35 = .ok (.aaload, 1) := by decide +kernel
theorem dX6_digestOf_36 : decode cX6_digestOf 36 = .ok (.getfield 117, 3) := by decide +kernel
theorem dX6_digestOf_39 : decode cX6_digestOf 39 = .ok (.if_icmp .ge 26, 3) := by decide +kernel
theorem dX6_digestOf_42 : decode cX6_digestOf 42 = .ok (.ldc2_w 299, 3) := by decide +kernel
theorem dX6_digestOf_45 : decode cX6_digestOf 45 = .ok (.lload_n 3, 1) := by decide +kernel
theorem dX6_digestOf_46 : decode cX6_digestOf 46 = .ok (.lmul, 1) := by decide +kernel
theorem dX6_digestOf_47 : decode cX6_digestOf 47 = .ok (.aload_n 0, 1) := by decide +kernel
theorem dX6_digestOf_48 : decode cX6_digestOf 48 = .ok (.iload 5, 2) := by decide +kernel
theorem dX6_digestOf_50 : decode cX6_digestOf 50 = .ok (.aaload, 1) := by decide +kernel
theorem dX6_digestOf_51 : decode cX6_digestOf 51 = .ok (.iload 6, 2) := by decide +kernel
theorem dX6_digestOf_53 : decode cX6_digestOf 53 = .ok (.invokevirtual 94, 3) := by decide +kernel
theorem dX6_digestOf_56 : decode cX6_digestOf 56 = .ok (.i2l, 1) := by decide +kernel
theorem dX6_digestOf_57 : decode cX6_digestOf 57 = .ok (.ladd, 1) := by decide +kernel
theorem dX6_digestOf_58 : decode cX6_digestOf 58 = .ok (.lstore_n 3, 1) := by decide +kernel
theorem dX6_digestOf_59 : decode cX6_digestOf 59 = .ok (.iinc 6 1, 3) := by decide +kernel
theorem dX6_digestOf_62 : decode cX6_digestOf 62 = .ok (.goto (-32), 3) := by decide +kernel
theorem dX6_digestOf_65 : decode cX6_digestOf 65 = .ok (.iinc 5 1, 3) := by decide +kernel
theorem dX6_digestOf_68 : decode cX6_digestOf 68 = .ok (.goto (-63), 3) := by decide +kernel
theorem dX6_digestOf_71 : decode cX6_digestOf 71 = .ok (.lload_n 3, 1) := by decide +kernel
theorem dX6_digestOf_72 : decode cX6_digestOf 72 = .ok (.lreturn, 1) := by decide +kernel
