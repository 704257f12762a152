theorem dX0_init_0 : decode cX0_init 0 = .ok (.aload_n 0, 1) := by decide +kernel
theorem dX0_init_1 : decode cX0_init 1 = .ok (.invokespecial 3, 3) := by decide +kernel
theorem dX0_init_4 : decode cX0_init 4 = .ok (.aload_n 0, 1) := by decide +kernel
theorem dX0_init_5 : decode cX0_init 5 = .ok (.bipush 6, 2) := by decide +kernel
theorem dX0_init_7 : decode cX0_init 7 = .ok (.bipush 6, 2) := by decide +kernel
theorem dX0_init_9 : decode cX0_init 9 = .ok (.multianewarray 9 2, 4) := by decide +kernel
theorem dX0_init_13 : decode cX0_init 13 = .ok (.putfield 11, 3) := by decide +kernel
theorem dX0_init_16 : decode cX0_init 16 = .ok (.aload_n 0, 1) := by decide +kernel
theorem dX0_init_17 : decode cX0_init 17 = .ok (.bipush 7, 2) := by decide +kernel
theorem dX0_init_19 : decode cX0_init 19 = .ok (.bipush 64, 2) := by decide +kernel
theorem dX0_init_21 : decode cX0_init 21 = .ok (.multianewarray 9 2, 4) := by decide +kernel
theorem dX0_init_25 : decode cX0_init 25 = .ok (.putfield 16, 3) := by decide +kernel
theorem dX0_init_28 : decode cX0_init 28 = .ok (.return_, 1) := by decide +kernel
theorem dX0_weighMost_0 : decode cX0_weighMost 0 = .ok (.aload_n 0, 1) := by decide +kernel
theorem dX0_weighMost_1 : decode cX0_weighMost 1 = .ok (.aload_n 1, 1) := by decide +kernel
theorem dX0_weighMost_2 : decode cX0_weighMost 2 = .ok (.iload_n 2, 1) := by decide +kernel
theorem dX0_weighMost_3 : decode cX0_weighMost 3 = .ok (.iconst 0, 1) := by decide +kernel
theorem dX0_weighMost_4 : decode cX0_weighMost 4 = .ok (.invokevirtual 19, 3) := by decide +kernel
theorem dX0_weighMost_7 : decode cX0_weighMost 7 = .ok (.ireturn, 1) := by decide +kernel
theorem dX0_weighDuel_0 : decode cX0_weighDuel 0 = .ok (.aload_n 0, 1) := by decide +kernel
theorem dX0_weighDuel_1 : decode cX0_weighDuel 1 = .ok (.aload_n 1, 1) := by decide +kernel
theorem dX0_weighDuel_2 : decode cX0_weighDuel 2 = .ok (.iload_n 2, 1) := by decide +kernel
theorem dX0_weighDuel_3 : decode cX0_weighDuel 3 = .ok (.iconst 1, 1) := by decide +kernel
theorem dX0_weighDuel_4 : decode cX0_weighDuel 4 = .ok (.invokevirtual 19, 3) := by decide +kernel
theorem dX0_weighDuel_7 : decode cX0_weighDuel 7 = .ok (.ireturn, 1) := by decide +kernel
theorem dX0_tellFirst_0 : decode cX0_tellFirst 0 = .ok (.aload_n 3, 1) := by decide +kernel
theorem dX0_tellFirst_1 : decode cX0_tellFirst 1 = .ok (.iload_n 2, 1) := by decide +kernel
theorem dX0_tellFirst_2 : decode cX0_tellFirst 2 = .ok (.bipush (-9), 2) := by decide +kernel
theorem dX0_tellFirst_4 : decode cX0_tellFirst 4 = .ok (.invokevirtual 23, 3) := by decide +kernel
theorem dX0_tellFirst_7 : decode cX0_tellFirst 7 = .ok (.aload_n 1, 1) := by decide +kernel
theorem dX0_tellFirst_8 : decode cX0_tellFirst 8 = .ok (.invokevirtual 29, 3) := by decide +kernel
theorem dX0_tellFirst_11 : decode cX0_tellFirst 11 = .ok (.istore 4, 2) := by decide +kernel
theorem dX0_tellFirst_13 : decode cX0_tellFirst 13 = .ok (.iconst 0, 1) := by decide +kernel
theorem dX0_tellFirst_14 : decode cX0_tellFirst 14 = .ok (.istore 5, 2) := by decide +kernel
theorem dX0_tellFirst_16 : decode cX0_tellFirst 16 = .ok (.iload 5, 2) := by decide +kernel
theorem dX0_tellFirst_18 : decode cX0_tellFirst 18 = .ok (.iload_n 2, 1) := by decide +kernel
theorem dX0_tellFirst_19 : decode cX0_tellFirst 19 = .ok (.if_icmp .ge 47, 3) := by decide +kernel
theorem dX0_tellFirst_22 : decode cX0_tellFirst 22 = .ok (.aload_n 0, 1) := by decide +kernel
theorem dX0_tellFirst_23 : decode cX0_tellFirst 23 = .ok (.iload 5, 2) := by decide +kernel
theorem dX0_tellFirst_25 : decode cX0_tellFirst 25 = .ok (.iload 4, 2) := by decide +kernel
theorem dX0_tellFirst_27 : decode cX0_tellFirst 27 = .ok (.invokevirtual 35, 3) := by decide +kernel
theorem dX0_tellFirst_30 : decode cX0_tellFirst 30 = .ok (.istore 6, 2) := by decide +kernel
theorem dX0_tellFirst_32 : decode cX0_tellFirst 32 = .ok (.aload_n 3, 1) := by decide +kernel
theorem dX0_tellFirst_33 : decode cX0_tellFirst 33 = .ok (.iload 5, 2) := by decide +kernel
theorem dX0_tellFirst_35 : decode cX0_tellFirst 35 = .ok (.iload 6, 2) := by decide +kernel
theorem dX0_tellFirst_37 : decode cX0_tellFirst 37 = .ok (.invokevirtual 39, 3) := by decide +kernel
theorem dX0_tellFirst_40 : decode cX0_tellFirst 40 = .ok (.iload 4, 2) := by decide +kernel
theorem dX0_tellFirst_42 : decode cX0_tellFirst 42 = .ok (.iload 6, 2) := by decide +kernel
theorem dX0_tellFirst_44 : decode cX0_tellFirst 44 = .ok (.bipush (-9), 2) := by decide +kernel
theorem dX0_tellFirst_46 : decode cX0_tellFirst 46 = .ok (.if_icmp .ne 7, 3) := by decide +kernel
theorem dX0_tellFirst_49 : decode cX0_tellFirst 49 = .ok (.iconst 0, 1) := by decide +kernel
theorem dX0_tellFirst_50 : decode cX0_tellFirst 50 = .ok (.goto 7, 3) := by decide +kernel
theorem dX0_tellFirst_53 : decode cX0_tellFirst 53 = .ok (.iconst 1, 1) := by decide +kernel
theorem dX0_tellFirst_54 : decode cX0_tellFirst 54 = .ok (.iload 6, 2) := by decide +kernel
theorem dX0_tellFirst_56 : decode cX0_tellFirst 56 = .ok (.ishl, 1) := by decide +kernel
theorem dX0_tellFirst_57 : decode cX0_tellFirst 57 = .ok (.ior, 1) := by decide +kernel
theorem dX0_tellFirst_58 : decode cX0_tellFirst 58 = .ok (.istore 4, 2) := by decide +kernel
theorem dX0_tellFirst_60 : decode cX0_tellFirst 60 = .ok (.iinc 5 1, 3) := by decide +kernel
theorem dX0_tellFirst_63 : decode cX0_tellFirst 63 = .ok (.goto (-47), 3) := by decide +kernel
theorem dX0_tellFirst_66 : decode cX0_tellFirst 66 = .ok (.return_, 1) := by decide +kernel
theorem dX0_firstBest_0 : decode cX0_firstBest 0 = .ok (.aload_n 0, 1) := by decide +kernel
theorem dX0_firstBest_1 : decode cX0_firstBest 1 = .ok (.iload_n 1, 1) := by decide +kernel
theorem dX0_firstBest_2 : decode cX0_firstBest 2 = .ok (.iload_n 2, 1) := by decide +kernel
theorem dX0_firstBest_3 : decode cX0_firstBest 3 = .ok (.invokevirtual 42, 3) := by decide +kernel
theorem dX0_firstBest_6 : decode cX0_firstBest 6 = .ok (.istore_n 3, 1) := by decide +kernel
theorem dX0_firstBest_7 : decode cX0_firstBest 7 = .ok (.iload_n 3, 1) := by decide +kernel
theorem dX0_firstBest_8 : decode cX0_firstBest 8 = .ok (.aload_n 0, 1) := by decide +kernel
theorem dX0_firstBest_9 : decode cX0_firstBest 9 = .ok (.iload_n 1, 1) := by decide +kernel
theorem dX0_firstBest_10 : decode cX0_firstBest 10 = .ok (.iconst 1, 1) := by decide +kernel
theorem dX0_firstBest_11 : decode cX0_firstBest 11 = .ok (.iadd, 1) := by decide +kernel
theorem dX0_firstBest_12 : decode cX0_firstBest 12 = .ok (.iload_n 2, 1) := by decide +kernel
theorem dX0_firstBest_13 : decode cX0_firstBest 13 = .ok (.invokevirtual 42, 3) := by decide +kernel
theorem dX0_firstBest_16 : decode cX0_firstBest 16 = .ok (.if_icmp .ne 6, 3) := by decide +kernel
theorem dX0_firstBest_19 : decode cX0_firstBest 19 = .ok (.bipush (-9), 2) := by decide +kernel
theorem dX0_firstBest_21 : decode cX0_firstBest 21 = .ok (.ireturn, 1) := by decide +kernel
theorem dX0_firstBest_22 : decode cX0_firstBest 22 = .ok (.iconst 0, 1) := by decide +kernel
theorem dX0_firstBest_23 : decode cX0_firstBest 23 = .ok (.istore 4, 2) := by decide +kernel
theorem dX0_firstBest_25 : decode cX0_firstBest 25 = .ok (.iload 4, 2) := by decide +kernel
theorem dX0_firstBest_27 : decode cX0_firstBest 27 = .ok (.aload_n 0, 1) := by decide +kernel
theorem dX0_firstBest_28 : decode cX0_firstBest 28 = .ok (.getfield 45, 3) := by decide +kernel
theorem dX0_firstBest_31 : decode cX0_firstBest 31 = .ok (.if_icmp .ge 50, 3) := by decide +kernel
theorem dX0_firstBest_34 : decode cX0_firstBest 34 = .ok (.aload_n 0, 1) := by decide +kernel
theorem dX0_firstBest_35 : decode cX0_firstBest 35 = .ok (.iload_n 1, 1) := by decide +kernel
theorem dX0_firstBest_36 : decode cX0_firstBest 36 = .ok (.iload 4, 2) := by decide +kernel
theorem dX0_firstBest_38 : decode cX0_firstBest 38 = .ok (.iload_n 2, 1) := by decide +kernel
theorem dX0_firstBest_39 : decode cX0_firstBest 39 = .ok (.invokevirtual 49, 3) := by decide +kernel
theorem dX0_firstBest_42 : decode cX0_firstBest 42 = .ok (.ifCond .eq 33, 3) := by decide +kernel
theorem dX0_firstBest_45 : decode cX0_firstBest 45 = .ok (.aload_n 0, 1) := by decide +kernel
theorem dX0_firstBest_46 : decode cX0_firstBest 46 = .ok (.getfield 11, 3) := by decide +kernel
theorem dX0_firstBest_49 : decode cX0_firstBest 49 = .ok (.iload_n 1, 1) := by decide +kernel
theorem dX0_firstBest_50 : decode cX0_firstBest 50 = .ok (.aaload, 1) := by decide +kernel
theorem dX0_firstBest_51 : decode cX0_firstBest 51 = .ok (.iload 4, 2) := by decide +kernel
theorem dX0_firstBest_53 : decode cX0_firstBest 53 = .ok (.iaload, 1) := by decide +kernel
theorem dX0_firstBest_54 : decode cX0_firstBest 54 = .ok (.aload_n 0, 1) := by decide +kernel
theorem dX0_firstBest_55 : decode cX0_firstBest 55 = .ok (.iload_n 1, 1) := by decide +kernel
theorem dX0_firstBest_56 : decode cX0_firstBest 56 = .ok (.iconst 1, 1) := by decide +kernel
theorem dX0_firstBest_57 : decode cX0_firstBest 57 = .ok (.iadd, 1) := by decide +kernel
theorem dX0_firstBest_58 : decode cX0_firstBest 58 = .ok (.iload_n 2, 1) := by decide +kernel
theorem dX0_firstBest_59 : decode cX0_firstBest 59 = .ok (.iconst 1, 1) := by decide +kernel
theorem dX0_firstBest_60 : decode cX0_firstBest 60 = .ok (.iload 4, 2) := by decide +kernel
theorem dX0_firstBest_62 : decode cX0_firstBest 62 = .ok (.ishl, 1) := by decide +kernel
theorem dX0_firstBest_63 : decode cX0_firstBest 63 = .ok (.ior, 1) := by decide +kernel
theorem dX0_firstBest_64 : decode cX0_firstBest 64 = .ok (.invokevirtual 42, 3) := by decide +kernel
theorem dX0_firstBest_67 : decode cX0_firstBest 67 = .ok (.iadd, 1) := by decide +kernel
theorem dX0_firstBest_68 : decode cX0_firstBest 68 = .ok (.iload_n 3, 1) := by decide +kernel
theorem dX0_firstBest_69 : decode cX0_firstBest 69 = .ok (.if_icmp .ne 6, 3) := by decide +kernel
theorem dX0_firstBest_72 : decode cX0_firstBest 72 = .ok (.iload 4, 2) := by decide +kernel
theorem dX0_firstBest_74 : decode cX0_firstBest 74 = .ok (.ireturn, 1) := by decide +kernel
theorem dX0_firstBest_75 : decode cX0_firstBest 75 = .ok (.iinc 4 1, 3) := by decide +kernel
theorem dX0_firstBest_78 : decode cX0_firstBest 78 = .ok (.goto (-53), 3) := by decide +kernel
theorem dX0_firstBest_81 : decode cX0_firstBest 81 = .ok (.bipush (-9), 2) := by decide +kernel
theorem dX0_firstBest_83 : decode cX0_firstBest 83 = .ok (.ireturn, 1) := by decide +kernel
theorem dX0_weigh_0 : decode cX0_weigh 0 = .ok (.iload_n 2, 1) := by decide +kernel
theorem dX0_weigh_1 : decode cX0_weigh 1 = .ok (.ifCond .lt 9, 3) := by decide +kernel
theorem dX0_weigh_4 : decode cX0_weigh 4 = .ok (.iload_n 2, 1) := by decide +kernel
theorem dX0_weigh_5 : decode cX0_weigh 5 = .ok (.bipush 6, 2) := by decide +kernel
theorem dX0_weigh_7 : decode cX0_weigh 7 = .ok (.if_icmp .le 5, 3) := by decide +kernel
theorem dX0_weigh_10 : decode cX0_weigh 10 = .ok (.iconst 0, 1) := by decide +kernel
theorem dX0_weigh_11 : decode cX0_weigh 11 = .ok (.ireturn, 1) := by decide +kernel
theorem dX0_weigh_12 : decode cX0_weigh 12 = .ok (.aload_n 0, 1) := by decide +kernel
theorem dX0_weigh_13 : decode cX0_weigh 13 = .ok (.aload_n 1, 1) := by decide +kernel
theorem dX0_weigh_14 : decode cX0_weigh 14 = .ok (.getfield 53, 3) := by decide +kernel
theorem dX0_weigh_17 : decode cX0_weigh 17 = .ok (.bipush 6, 2) := by decide +kernel
theorem dX0_weigh_19 : decode cX0_weigh 19 = .ok (.invokestatic 54, 3) := by decide +kernel
theorem dX0_weigh_22 : decode cX0_weigh 22 = .ok (.putfield 45, 3) := by decide +kernel
theorem dX0_weigh_25 : decode cX0_weigh 25 = .ok (.aload_n 0, 1) := by decide +kernel
theorem dX0_weigh_26 : decode cX0_weigh 26 = .ok (.aload_n 1, 1) := by decide +kernel
theorem dX0_weigh_27 : decode cX0_weigh 27 = .ok (.iload_n 2, 1) := by decide +kernel
theorem dX0_weigh_28 : decode cX0_weigh 28 = .ok (.iload_n 3, 1) := by decide +kernel
theorem dX0_weigh_29 : decode cX0_weigh 29 = .ok (.invokevirtual 59, 3) := by decide +kernel
theorem dX0_weigh_32 : decode cX0_weigh 32 = .ok (.iconst 0, 1) := by decide +kernel
theorem dX0_weigh_33 : decode cX0_weigh 33 = .ok (.istore 4, 2) := by decide +kernel
theorem dX0_weigh_35 : decode cX0_weigh 35 = .ok (.iload 4, 2) := by decide +kernel
theorem dX0_weigh_37 : decode cX0_weigh 37 = .ok (.bipush 64, 2) := by decide +kernel
theorem dX0_weigh_39 : decode cX0_weigh 39 = .ok (.if_icmp .ge 19, 3) := by decide +kernel
theorem dX0_weigh_42 : decode cX0_weigh 42 = .ok (.aload_n 0, 1) := by decide +kernel
theorem dX0_weigh_43 : decode cX0_weigh 43 = .ok (.getfield 16, 3) := by decide +kernel
theorem dX0_weigh_46 : decode cX0_weigh 46 = .ok (.iload_n 2, 1) := by decide +kernel
theorem dX0_weigh_47 : decode cX0_weigh 47 = .ok (.aaload, 1) := by decide +kernel
theorem dX0_weigh_48 : decode cX0_weigh 48 = .ok (.iload 4, 2) := by decide +kernel
theorem dX0_weigh_50 : decode cX0_weigh 50 = .ok (.iconst 0, 1) := by decide +kernel
theorem dX0_weigh_51 : decode cX0_weigh 51 = .ok (.iastore, 1) := by decide +kernel
theorem dX0_weigh_52 : decode cX0_weigh 52 = .ok (.iinc 4 1, 3) := by decide +kernel
theorem dX0_weigh_55 : decode cX0_weigh 55 = .ok (.goto (-20), 3) := by decide +kernel
theorem dX0_weigh_58 : decode cX0_weigh 58 = .ok (.iload_n 2, 1) := by decide +kernel
theorem dX0_weigh_59 : decode cX0_weigh 59 = .ok (.iconst 1, 1) := by decide +kernel
theorem dX0_weigh_60 : decode cX0_weigh 60 = .ok (.isub, 1) := by decide +kernel
theorem dX0_weigh_61 : decode cX0_weigh 61 = .ok (.istore 4, 2) := by decide +kernel
theorem dX0_weigh_63 : decode cX0_weigh 63 = .ok (.iload 4, 2) := by decide +kernel
theorem dX0_weigh_65 : decode cX0_weigh 65 = .ok (.ifCond .lt 68, 3) := by decide +kernel
theorem dX0_weigh_68 : decode cX0_weigh 68 = .ok (.iload_n 3, 1) := by decide +kernel
theorem dX0_weigh_69 : decode cX0_weigh 69 = .ok (.ifCond .eq 15, 3) := by decide +kernel
theorem dX0_weigh_72 : decode cX0_weigh 72 = .ok (.iload 4, 2) := by decide +kernel
theorem dX0_weigh_74 : decode cX0_weigh 74 = .ok (.iconst 2, 1) := by decide +kernel
theorem dX0_weigh_75 : decode cX0_weigh 75 = .ok (.irem, 1) := by decide +kernel
theorem dX0_weigh_76 : decode cX0_weigh 76 = .ok (.iconst 1, 1) := by decide +kernel
theorem dX0_weigh_77 : decode cX0_weigh 77 = .ok (.if_icmp .ne 7, 3) := by decide +kernel
theorem dX0_weigh_80 : decode cX0_weigh 80 = .ok (.iconst 1, 1) := by decide +kernel
theorem dX0_weigh_81 : decode cX0_weigh 81 = .ok (.goto 4, 3) := by decide +kernel
theorem dX0_weigh_84 : decode cX0_weigh 84 = .ok (.iconst 0, 1) := by decide +kernel
theorem dX0_weigh_85 : decode cX0_weigh 85 = .ok (.istore 5, 2) := by decide +kernel
theorem dX0_weigh_87 : decode cX0_weigh 87 = .ok (.iconst 0, 1) := by decide +kernel
theorem dX0_weigh_88 : decode cX0_weigh 88 = .ok (.istore 6, 2) := by decide +kernel
theorem dX0_weigh_90 : decode cX0_weigh 90 = .ok (.iload 6, 2) := by decide +kernel
theorem dX0_weigh_92 : decode cX0_weigh 92 = .ok (.iconst 1, 1) := by decide +kernel
theorem dX0_weigh_93 : decode cX0_weigh 93 = .ok (.aload_n 0, 1) := by decide +kernel
theorem dX0_weigh_94 : decode cX0_weigh 94 = .ok (.getfield 45, 3) := by decide +kernel
theorem dX0_weigh_97 : decode cX0_weigh 97 = .ok (.ishl, 1) := by decide +kernel
theorem dX0_weigh_98 : decode cX0_weigh 98 = .ok (.if_icmp .ge 29, 3) := by decide +kernel
theorem dX0_weigh_101 : decode cX0_weigh 101 = .ok (.aload_n 0, 1) := by decide +kernel
theorem dX0_weigh_102 : decode cX0_weigh 102 = .ok (.getfield 16, 3) := by decide +kernel
theorem dX0_weigh_105 : decode cX0_weigh 105 = .ok (.iload 4, 2) := by decide +kernel
theorem dX0_weigh_107 : decode cX0_weigh 107 = .ok (.aaload, 1) := by decide +kernel
theorem dX0_weigh_108 : decode cX0_weigh 108 = .ok (.iload 6, 2) := by decide +kernel
theorem dX0_weigh_110 : decode cX0_weigh 110 = .ok (.aload_n 0, 1) := by decide +kernel
theorem dX0_weigh_111 : decode cX0_weigh 111 = .ok (.iload 4, 2) := by decide +kernel
theorem dX0_weigh_113 : decode cX0_weigh 113 = .ok (.iload 6, 2) := by decide +kernel
theorem dX0_weigh_115 : decode cX0_weigh 115 = .ok (.iload 5, 2) := by decide +kernel
theorem dX0_weigh_117 : decode cX0_weigh 117 = .ok (.invokevirtual 63, 3) := by decide +kernel
theorem dX0_weigh_120 : decode cX0_weigh 120 = .ok (.iastore, 1) := by decide +kernel
theorem dX0_weigh_121 : decode cX0_weigh 121 = .ok (.iinc 6 1, 3) := by decide +kernel
theorem dX0_weigh_124 : decode cX0_weigh 124 = .ok (.goto (-34), 3) := by decide +kernel
theorem dX0_weigh_127 : decode cX0_weigh 127 = .ok (.iinc 4 (-1), 3) := by decide +kernel
theorem dX0_weigh_130 : decode cX0_weigh 130 = .ok (.goto (-67), 3) := by decide +kernel
theorem dX0_weigh_133 : decode cX0_weigh 133 = .ok (.aload_n 0, 1) := by decide +kernel
theorem dX0_weigh_134 : decode cX0_weigh 134 = .ok (.iconst 0, 1) := by decide +kernel
theorem dX0_weigh_135 : decode cX0_weigh 135 = .ok (.aload_n 1, 1) := by decide +kernel
theorem dX0_weigh_136 : decode cX0_weigh 136 = .ok (.invokevirtual 29, 3) := by decide +kernel
theorem dX0_weigh_139 : decode cX0_weigh 139 = .ok (.invokevirtual 42, 3) := by decide +kernel
theorem dX0_weigh_142 : decode cX0_weigh 142 = .ok (.ireturn, 1) := by decide +kernel
theorem dX0_fillGains_0 : decode cX0_fillGains 0 = .ok (.iconst 0, 1) := by decide +kernel
theorem dX0_fillGains_1 : decode cX0_fillGains 1 = .ok (.istore 4, 2) := by decide +kernel
theorem dX0_fillGains_3 : decode cX0_fillGains 3 = .ok (.iload 4, 2) := by decide +kernel
theorem dX0_fillGains_5 : decode cX0_fillGains 5 = .ok (.iload_n 2, 1) := by decide +kernel
theorem dX0_fillGains_6 : decode cX0_fillGains 6 = .ok (.if_icmp .ge 95, 3) := by decide +kernel
theorem dX0_fillGains_9 : decode cX0_fillGains 9 = .ok (.aload_n 1, 1) := by decide +kernel
theorem dX0_fillGains_10 : decode cX0_fillGains 10 = .ok (.iload 4, 2) := by decide +kernel
theorem dX0_fillGains_12 : decode cX0_fillGains 12 = .ok (.invokevirtual 67, 3) := by decide +kernel
theorem dX0_fillGains_15 : decode cX0_fillGains 15 = .ok (.istore 5, 2) := by decide +kernel
theorem dX0_fillGains_17 : decode cX0_fillGains 17 = .ok (.iconst 0, 1) := by decide +kernel
theorem dX0_fillGains_18 : decode cX0_fillGains 18 = .ok (.istore 6, 2) := by decide +kernel
theorem dX0_fillGains_20 : decode cX0_fillGains 20 = .ok (.iload 6, 2) := by decide +kernel
theorem dX0_fillGains_22 : decode cX0_fillGains 22 = .ok (.aload_n 0, 1) := by decide +kernel
theorem dX0_fillGains_23 : decode cX0_fillGains 23 = .ok (.getfield 45, 3) := by decide +kernel
theorem dX0_fillGains_26 : decode cX0_fillGains 26 = .ok (.if_icmp .ge 69, 3) := by decide +kernel
theorem dX0_fillGains_29 : decode cX0_fillGains 29 = .ok (.aload_n 1, 1) := by decide +kernel
theorem dX0_fillGains_30 : decode cX0_fillGains 30 = .ok (.iload 6, 2) := by decide +kernel
theorem dX0_fillGains_32 : decode cX0_fillGains 32 = .ok (.invokevirtual 71, 3) := by decide +kernel
theorem dX0_fillGains_35 : decode cX0_fillGains 35 = .ok (.astore 7, 2) := by decide +kernel
theorem dX0_fillGains_37 : decode cX0_fillGains 37 = .ok (.aload 7, 2) := by decide +kernel
theorem dX0_fillGains_39 : decode cX0_fillGains 39 = .ok (.ifnull 17, 3) := by decide +kernel
theorem dX0_fillGains_42 : decode cX0_fillGains 42 = .ok (.iload_n 3, 1) := by decide +kernel
theorem dX0_fillGains_43 : decode cX0_fillGains 43 = .ok (.ifCond .ne 17, 3) := by decide +kernel
theorem dX0_fillGains_46 : decode cX0_fillGains 46 = .ok (.aload 7, 2) := by decide +kernel
theorem dX0_fillGains_48 : decode cX0_fillGains 48 = .ok (.iload 5, 2) := by decide +kernel
theorem dX0_fillGains_50 : decode cX0_fillGains 50 = .ok (.invokevirtual 75, 3) := by decide +kernel
theorem dX0_fillGains_53 : decode cX0_fillGains 53 = .ok (.ifCond .eq 7, 3) := by decide +kernel
theorem dX0_fillGains_56 : decode cX0_fillGains 56 = .ok (.iconst 1, 1) := by decide +kernel
theorem dX0_fillGains_57 : decode cX0_fillGains 57 = .ok (.goto 4, 3) := by decide +kernel
theorem dX0_fillGains_60 : decode cX0_fillGains 60 = .ok (.iconst 0, 1) := by decide +kernel
theorem dX0_fillGains_61 : decode cX0_fillGains 61 = .ok (.istore 8, 2) := by decide +kernel
theorem dX0_fillGains_63 : decode cX0_fillGains 63 = .ok (.aload_n 0, 1) := by decide +kernel
theorem dX0_fillGains_64 : decode cX0_fillGains 64 = .ok (.getfield 11, 3) := by decide +kernel
theorem dX0_fillGains_67 : decode cX0_fillGains 67 = .ok (.iload 4, 2) := by decide +kernel
theorem dX0_fillGains_69 : decode cX0_fillGains 69 = .ok (.aaload, 1) := by decide +kernel
theorem dX0_fillGains_70 : decode cX0_fillGains 70 = .ok (.iload 6, 2) := by decide +kernel
theorem dX0_fillGains_72 : decode cX0_fillGains 72 = .ok (.iload 8, 2) := by decide +kernel
theorem dX0_fillGains_74 : decode cX0_fillGains 74 = .ok (.ifCond .eq 7, 3) := by decide +kernel
theorem dX0_fillGains_77 : decode cX0_fillGains 77 = .ok (.iconst (-1), 1) := by decide +kernel
theorem dX0_fillGains_78 : decode cX0_fillGains 78 = .ok (.goto 10, 3) := by decide +kernel
theorem dX0_fillGains_81 : decode cX0_fillGains 81 = .ok (.aload 7, 2) := by decide +kernel
theorem dX0_fillGains_83 : decode cX0_fillGains 83 = .ok (.iload 5, 2) := by decide +kernel
theorem dX0_fillGains_85 : decode cX0_fillGains 85 = .ok (.invokevirtual 81, 3) := by decide +kernel
theorem dX0_fillGains_88 : decode cX0_fillGains 88 = .ok (.iastore, 1) := by decide +kernel
theorem dX0_fillGains_89 : decode cX0_fillGains 89 = .ok (.iinc 6 1, 3) := by decide +kernel
theorem dX0_fillGains_92 : decode cX0_fillGains 92 = .ok (.goto (-72), 3) := by decide +kernel
theorem dX0_fillGains_95 : decode cX0_fillGains 95 = .ok (.iinc 4 1, 3) := by decide +kernel
theorem dX0_fillGains_98 : decode cX0_fillGains 98 = .ok (.goto (-95), 3) := by decide +kernel
theorem dX0_fillGains_101 : decode cX0_fillGains 101 = .ok (.return_, 1) := by decide +kernel
theorem dX0_bestOf_0 : decode cX0_bestOf 0 = .ok (.aload_n 0, 1) := by decide +kernel
theorem dX0_bestOf_1 : decode cX0_bestOf 1 = .ok (.iload_n 1, 1) := by decide +kernel
theorem dX0_bestOf_2 : decode cX0_bestOf 2 = .ok (.iconst 1, 1) := by decide +kernel
theorem dX0_bestOf_3 : decode cX0_bestOf 3 = .ok (.iadd, 1) := by decide +kernel
theorem dX0_bestOf_4 : decode cX0_bestOf 4 = .ok (.iload_n 2, 1) := by decide +kernel
theorem dX0_bestOf_5 : decode cX0_bestOf 5 = .ok (.invokevirtual 42, 3) := by decide +kernel
theorem dX0_bestOf_8 : decode cX0_bestOf 8 = .ok (.istore 4, 2) := by decide +kernel
theorem dX0_bestOf_10 : decode cX0_bestOf 10 = .ok (.iconst 0, 1) := by decide +kernel
theorem dX0_bestOf_11 : decode cX0_bestOf 11 = .ok (.istore 5, 2) := by decide +kernel
theorem dX0_bestOf_13 : decode cX0_bestOf 13 = .ok (.iload 5, 2) := by decide +kernel
theorem dX0_bestOf_15 : decode cX0_bestOf 15 = .ok (.aload_n 0, 1) := by decide +kernel
theorem dX0_bestOf_16 : decode cX0_bestOf 16 = .ok (.getfield 45, 3) := by decide +kernel
theorem dX0_bestOf_19 : decode cX0_bestOf 19 = .ok (.if_icmp .ge 68, 3) := by decide +kernel
theorem dX0_bestOf_22 : decode cX0_bestOf 22 = .ok (.aload_n 0, 1) := by decide +kernel
theorem dX0_bestOf_23 : decode cX0_bestOf 23 = .ok (.iload_n 1, 1) := by decide +kernel
theorem dX0_bestOf_24 : decode cX0_bestOf 24 = .ok (.iload 5, 2) := by decide +kernel
theorem dX0_bestOf_26 : decode cX0_bestOf 26 = .ok (.iload_n 2, 1) := by decide +kernel
theorem dX0_bestOf_27 : decode cX0_bestOf 27 = .ok (.invokevirtual 49, 3) := by decide +kernel
theorem dX0_bestOf_30 : decode cX0_bestOf 30 = .ok (.ifCond .eq 51, 3) := by decide +kernel
theorem dX0_bestOf_33 : decode cX0_bestOf 33 = .ok (.aload_n 0, 1) := by decide +kernel
theorem dX0_bestOf_34 : decode cX0_bestOf 34 = .ok (.getfield 11, 3) := by decide +kernel
theorem dX0_bestOf_37 : decode cX0_bestOf 37 = .ok (.iload_n 1, 1) := by decide +kernel
theorem dX0_bestOf_38 : decode cX0_bestOf 38 = .ok (.aaload, 1) := by decide +kernel
theorem dX0_bestOf_39 : decode cX0_bestOf 39 = .ok (.iload 5, 2) := by decide +kernel
theorem dX0_bestOf_41 : decode cX0_bestOf 41 = .ok (.iaload, 1) := by decide +kernel
theorem dX0_bestOf_42 : decode cX0_bestOf 42 = .ok (.aload_n 0, 1) := by decide +kernel
theorem dX0_bestOf_43 : decode cX0_bestOf 43 = .ok (.iload_n 1, 1) := by decide +kernel
theorem dX0_bestOf_44 : decode cX0_bestOf 44 = .ok (.iconst 1, 1) := by decide +kernel
theorem dX0_bestOf_45 : decode cX0_bestOf 45 = .ok (.iadd, 1) := by decide +kernel
theorem dX0_bestOf_46 : decode cX0_bestOf 46 = .ok (.iload_n 2, 1) := by decide +kernel
theorem dX0_bestOf_47 : decode cX0_bestOf 47 = .ok (.iconst 1, 1) := by decide +kernel
theorem dX0_bestOf_48 : decode cX0_bestOf 48 = .ok (.iload 5, 2) := by decide +kernel
theorem dX0_bestOf_50 : decode cX0_bestOf 50 = .ok (.ishl, 1) := by decide +kernel
theorem dX0_bestOf_51 : decode cX0_bestOf 51 = .ok (.ior, 1) := by decide +kernel
theorem dX0_bestOf_52 : decode cX0_bestOf 52 = .ok (.invokevirtual 42, 3) := by decide +kernel
theorem dX0_bestOf_55 : decode cX0_bestOf 55 = .ok (.iadd, 1) := by decide +kernel
theorem dX0_bestOf_56 : decode cX0_bestOf 56 = .ok (.istore 6, 2) := by decide +kernel
theorem dX0_bestOf_58 : decode cX0_bestOf 58 = .ok (.iload_n 3, 1) := by decide +kernel
theorem dX0_bestOf_59 : decode cX0_bestOf 59 = .ok (.ifCond .eq 13, 3) := by decide +kernel
theorem dX0_bestOf_62 : decode cX0_bestOf 62 = .ok (.iload 4, 2) := by decide +kernel
theorem dX0_bestOf_64 : decode cX0_bestOf 64 = .ok (.iload 6, 2) := by decide +kernel
theorem dX0_bestOf_66 : decode cX0_bestOf 66 = .ok (.invokestatic 54, 3) := by decide +kernel
theorem dX0_bestOf_69 : decode cX0_bestOf 69 = .ok (.goto 10, 3) := by decide +kernel
theorem dX0_bestOf_72 : decode cX0_bestOf 72 = .ok (.iload 4, 2) := by decide +kernel
theorem dX0_bestOf_74 : decode cX0_bestOf 74 = .ok (.iload 6, 2) := by decide +kernel
theorem dX0_bestOf_76 : decode cX0_bestOf 76 = .ok (.invokestatic 84, 3) := by decide +kernel
theorem dX0_bestOf_79 : decode cX0_bestOf 79 = .ok (.istore 4, 2) := by decide +kernel
theorem dX0_bestOf_81 : decode cX0_bestOf 81 = .ok (.iinc 5 1, 3) := by decide +kernel
theorem dX0_bestOf_84 : decode cX0_bestOf 84 = .ok (.goto (-71), 3) := by decide +kernel
theorem dX0_bestOf_87 : decode cX0_bestOf 87 = .ok (.iload 4, 2) := by decide +kernel
theorem dX0_bestOf_89 : decode cX0_bestOf 89 = .ok (.ireturn, 1) := by decide +kernel
theorem dX0_isFree_0 : decode cX0_isFree 0 = .ok (.iload_n 1, 1) := by decide +kernel
theorem dX0_isFree_1 : decode cX0_isFree 1 = .ok (.ifCond .lt 43, 3) := by decide +kernel
theorem dX0_isFree_4 : decode cX0_isFree 4 = .ok (.iload_n 1, 1) := by decide +kernel
theorem dX0_isFree_5 : decode cX0_isFree 5 = .ok (.bipush 6, 2) := by decide +kernel
theorem dX0_isFree_7 : decode cX0_isFree 7 = .ok (.if_icmp .ge 37, 3) := by decide +kernel
theorem dX0_isFree_10 : decode cX0_isFree 10 = .ok (.iload_n 2, 1) := by decide +kernel
theorem dX0_isFree_11 : decode cX0_isFree 11 = .ok (.ifCond .lt 33, 3) := by decide +kernel
theorem dX0_isFree_14 : decode cX0_isFree 14 = .ok (.iload_n 2, 1) := by decide +kernel
theorem dX0_isFree_15 : decode cX0_isFree 15 = .ok (.bipush 6, 2) := by decide +kernel
theorem dX0_isFree_17 : decode cX0_isFree 17 = .ok (.if_icmp .ge 27, 3) := by decide +kernel
theorem dX0_isFree_20 : decode cX0_isFree 20 = .ok (.iload_n 3, 1) := by decide +kernel
theorem dX0_isFree_21 : decode cX0_isFree 21 = .ok (.iload_n 2, 1) := by decide +kernel
theorem dX0_isFree_22 : decode cX0_isFree 22 = .ok (.ishr, 1) := by decide +kernel
theorem dX0_isFree_23 : decode cX0_isFree 23 = .ok (.iconst 1, 1) := by decide +kernel
theorem dX0_isFree_24 : decode cX0_isFree 24 = .ok (.iand, 1) := by decide +kernel
theorem dX0_isFree_25 : decode cX0_isFree 25 = .ok (.ifCond .ne 19, 3) := by decide +kernel
theorem dX0_isFree_28 : decode cX0_isFree 28 = .ok (.aload_n 0, 1) := by decide +kernel
theorem dX0_isFree_29 : decode cX0_isFree 29 = .ok (.getfield 11, 3) := by decide +kernel
theorem dX0_isFree_32 : decode cX0_isFree 32 = .ok (.iload_n 1, 1) := by decide +kernel
theorem dX0_isFree_33 : decode cX0_isFree 33 = .ok (.aaload, 1) := by decide +kernel
theorem dX0_isFree_34 : decode cX0_isFree 34 = .ok (.iload_n 2, 1) := by decide +kernel
theorem dX0_isFree_35 : decode cX0_isFree 35 = .ok (.iaload, 1) := by decide +kernel
theorem dX0_isFree_36 : decode cX0_isFree 36 = .ok (.iconst (-1), 1) := by decide +kernel
theorem dX0_isFree_37 : decode cX0_isFree 37 = .ok (.if_icmp .eq 7, 3) := by decide +kernel
theorem dX0_isFree_40 : decode cX0_isFree 40 = .ok (.iconst 1, 1) := by decide +kernel
theorem dX0_isFree_41 : decode cX0_isFree 41 = .ok (.goto 4, 3) := by decide +kernel
theorem dX0_isFree_44 : decode cX0_isFree 44 = .ok (.iconst 0, 1) := by decide +kernel
theorem dX0_isFree_45 : decode cX0_isFree 45 = .ok (.ireturn, 1) := by decide +kernel
theorem dX0_worth_0 : decode cX0_worth 0 = .ok (.iload_n 1, 1) := by decide +kernel
theorem dX0_worth_1 : decode cX0_worth 1 = .ok (.ifCond .lt 30, 3) := by decide +kernel
theorem dX0_worth_4 : decode cX0_worth 4 = .ok (.iload_n 1, 1) := by decide +kernel
theorem dX0_worth_5 : decode cX0_worth 5 = .ok (.bipush 6, 2) := by decide +kernel
theorem dX0_worth_7 : decode cX0_worth 7 = .ok (.if_icmp .gt 24, 3) := by decide +kernel
theorem dX0_worth_10 : decode cX0_worth 10 = .ok (.iload_n 2, 1) := by decide +kernel
theorem dX0_worth_11 : decode cX0_worth 11 = .ok (.ifCond .lt 20, 3) := by decide +kernel
theorem dX0_worth_14 : decode cX0_worth 14 = .ok (.iload_n 2, 1) := by decide +kernel
theorem dX0_worth_15 : decode cX0_worth 15 = .ok (.bipush 64, 2) := by decide +kernel
theorem dX0_worth_17 : decode cX0_worth 17 = .ok (.if_icmp .ge 14, 3) := by decide +kernel
theorem dX0_worth_20 : decode cX0_worth 20 = .ok (.aload_n 0, 1) := by decide +kernel
theorem dX0_worth_21 : decode cX0_worth 21 = .ok (.getfield 16, 3) := by decide +kernel
theorem dX0_worth_24 : decode cX0_worth 24 = .ok (.iload_n 1, 1) := by decide +kernel
theorem dX0_worth_25 : decode cX0_worth 25 = .ok (.aaload, 1) := by decide +kernel
theorem dX0_worth_26 : decode cX0_worth 26 = .ok (.iload_n 2, 1) := by decide +kernel
theorem dX0_worth_27 : decode cX0_worth 27 = .ok (.iaload, 1) := by decide +kernel
theorem dX0_worth_28 : decode cX0_worth 28 = .ok (.goto 4, 3) := by decide +kernel
theorem dX0_worth_31 : decode cX0_worth 31 = .ok (.iconst 0, 1) := by decide +kernel
theorem dX0_worth_32 : decode cX0_worth 32 = .ok (.ireturn, 1) := by decide +kernel
theorem dX1_init_0 : decode cX1_init 0 = .ok (.aload_n 0, 1) := by decide +kernel
theorem dX1_init_1 : decode cX1_init 1 = .ok (.invokespecial 3, 3) := by decide +kernel
theorem dX1_init_4 : decode cX1_init 4 = .ok (.aload_n 0, 1) := by decide +kernel
theorem dX1_init_5 : decode cX1_init 5 = .ok (.bipush (-9), 2) := by decide +kernel
theorem dX1_init_7 : decode cX1_init 7 = .ok (.putfield 9, 3) := by decide +kernel
theorem dX1_init_10 : decode cX1_init 10 = .ok (.return_, 1) := by decide +kernel
theorem dX1_takeFrom_0 : decode cX1_takeFrom 0 = .ok (.aload_n 0, 1) := by decide +kernel
theorem dX1_takeFrom_1 : decode cX1_takeFrom 1 = .ok (.aload_n 1, 1) := by decide +kernel
theorem dX1_takeFrom_2 : decode cX1_takeFrom 2 = .ok (.getfield 15, 3) := by decide +kernel
theorem dX1_takeFrom_5 : decode cX1_takeFrom 5 = .ok (.putfield 15, 3) := by decide +kernel
theorem dX1_takeFrom_8 : decode cX1_takeFrom 8 = .ok (.aload_n 0, 1) := by decide +kernel
theorem dX1_takeFrom_9 : decode cX1_takeFrom 9 = .ok (.aload_n 1, 1) := by decide +kernel
theorem dX1_takeFrom_10 : decode cX1_takeFrom 10 = .ok (.getfield 18, 3) := by decide +kernel
theorem dX1_takeFrom_13 : decode cX1_takeFrom 13 = .ok (.putfield 18, 3) := by decide +kernel
theorem dX1_takeFrom_16 : decode cX1_takeFrom 16 = .ok (.aload_n 0, 1) := by decide +kernel
theorem dX1_takeFrom_17 : decode cX1_takeFrom 17 = .ok (.aload_n 1, 1) := by decide +kernel
theorem dX1_takeFrom_18 : decode cX1_takeFrom 18 = .ok (.getfield 21, 3) := by decide +kernel
theorem dX1_takeFrom_21 : decode cX1_takeFrom 21 = .ok (.putfield 21, 3) := by decide +kernel
theorem dX1_takeFrom_24 : decode cX1_takeFrom 24 = .ok (.aload_n 0, 1) := by decide +kernel
theorem dX1_takeFrom_25 : decode cX1_takeFrom 25 = .ok (.aload_n 1, 1) := by decide +kernel
theorem dX1_takeFrom_26 : decode cX1_takeFrom 26 = .ok (.getfield 24, 3) := by decide +kernel
theorem dX1_takeFrom_29 : decode cX1_takeFrom 29 = .ok (.putfield 24, 3) := by decide +kernel
theorem dX1_takeFrom_32 : decode cX1_takeFrom 32 = .ok (.aload_n 0, 1) := by decide +kernel
theorem dX1_takeFrom_33 : decode cX1_takeFrom 33 = .ok (.aload_n 1, 1) := by decide +kernel
theorem dX1_takeFrom_34 : decode cX1_takeFrom 34 = .ok (.getfield 9, 3) := by decide +kernel
theorem dX1_takeFrom_37 : decode cX1_takeFrom 37 = .ok (.putfield 9, 3) := by decide +kernel
theorem dX1_takeFrom_40 : decode cX1_takeFrom 40 = .ok (.aload_n 0, 1) := by decide +kernel
theorem dX1_takeFrom_41 : decode cX1_takeFrom 41 = .ok (.aload_n 1, 1) := by decide +kernel
theorem dX1_takeFrom_42 : decode cX1_takeFrom 42 = .ok (.getfield 27, 3) := by decide +kernel
theorem dX1_takeFrom_45 : decode cX1_takeFrom 45 = .ok (.putfield 27, 3) := by decide +kernel
theorem dX1_takeFrom_48 : decode cX1_takeFrom 48 = .ok (.return_, 1) := by decide +kernel
theorem dX1_isOf_0 : decode cX1_isOf 0 = .ok (.iload_n 1, 1) := by decide +kernel
theorem dX1_isOf_1 : decode cX1_isOf 1 = .ok (.ifCond .eq 37, 3) := by decide +kernel
theorem dX1_isOf_4 : decode cX1_isOf 4 = .ok (.iload_n 1, 1) := by decide +kernel
theorem dX1_isOf_5 : decode cX1_isOf 5 = .ok (.aload_n 0, 1) := by decide +kernel
theorem dX1_isOf_6 : decode cX1_isOf 6 = .ok (.getfield 15, 3) := by decide +kernel
theorem dX1_isOf_9 : decode cX1_isOf 9 = .ok (.if_icmp .eq 29, 3) := by decide +kernel
theorem dX1_isOf_12 : decode cX1_isOf 12 = .ok (.iload_n 1, 1) := by decide +kernel
theorem dX1_isOf_13 : decode cX1_isOf 13 = .ok (.iconst 1, 1) := by decide +kernel
theorem dX1_isOf_14 : decode cX1_isOf 14 = .ok (.if_icmp .ne 11, 3) := by decide +kernel
theorem dX1_isOf_17 : decode cX1_isOf 17 = .ok (.aload_n 0, 1) := by decide +kernel
theorem dX1_isOf_18 : decode cX1_isOf 18 = .ok (.getfield 15, 3) := by decide +kernel
theorem dX1_isOf_21 : decode cX1_isOf 21 = .ok (.iconst 4, 1) := by decide +kernel
theorem dX1_isOf_22 : decode cX1_isOf 22 = .ok (.if_icmp .eq 16, 3) := by decide +kernel
theorem dX1_isOf_25 : decode cX1_isOf 25 = .ok (.iload_n 1, 1) := by decide +kernel
theorem dX1_isOf_26 : decode cX1_isOf 26 = .ok (.iconst 3, 1) := by decide +kernel
theorem dX1_isOf_27 : decode cX1_isOf 27 = .ok (.if_icmp .ne 15, 3) := by decide +kernel
theorem dX1_isOf_30 : decode cX1_isOf 30 = .ok (.aload_n 0, 1) := by decide +kernel
theorem dX1_isOf_31 : decode cX1_isOf 31 = .ok (.getfield 15, 3) := by decide +kernel
theorem dX1_isOf_34 : decode cX1_isOf 34 = .ok (.iconst 5, 1) := by decide +kernel
theorem dX1_isOf_35 : decode cX1_isOf 35 = .ok (.if_icmp .ne 7, 3) := by decide +kernel
theorem dX1_isOf_38 : decode cX1_isOf 38 = .ok (.iconst 1, 1) := by decide +kernel
theorem dX1_isOf_39 : decode cX1_isOf 39 = .ok (.goto 4, 3) := by decide +kernel
theorem dX1_isOf_42 : decode cX1_isOf 42 = .ok (.iconst 0, 1) := by decide +kernel
theorem dX1_isOf_43 : decode cX1_isOf 43 = .ok (.ireturn, 1) := by decide +kernel
theorem dX1_wasFlown_0 : decode cX1_wasFlown 0 = .ok (.aload_n 0, 1) := by decide +kernel
theorem dX1_wasFlown_1 : decode cX1_wasFlown 1 = .ok (.getfield 9, 3) := by decide +kernel
theorem dX1_wasFlown_4 : decode cX1_wasFlown 4 = .ok (.bipush (-9), 2) := by decide +kernel
theorem dX1_wasFlown_6 : decode cX1_wasFlown 6 = .ok (.if_icmp .eq 7, 3) := by decide +kernel
theorem dX1_wasFlown_9 : decode cX1_wasFlown 9 = .ok (.iconst 1, 1) := by decide +kernel
theorem dX1_wasFlown_10 : decode cX1_wasFlown 10 = .ok (.goto 4, 3) := by decide +kernel
theorem dX1_wasFlown_13 : decode cX1_wasFlown 13 = .ok (.iconst 0, 1) := by decide +kernel
theorem dX1_wasFlown_14 : decode cX1_wasFlown 14 = .ok (.ireturn, 1) := by decide +kernel
theorem dX1_liftIn_0 : decode cX1_liftIn 0 = .ok (.aload_n 0, 1) := by decide +kernel
theorem dX1_liftIn_1 : decode cX1_liftIn 1 = .ok (.aload_n 0, 1) := by decide +kernel
theorem dX1_liftIn_2 : decode cX1_liftIn 2 = .ok (.getfield 15, 3) := by decide +kernel
theorem dX1_liftIn_5 : decode cX1_liftIn 5 = .ok (.aload_n 0, 1) := by decide +kernel
theorem dX1_liftIn_6 : decode cX1_liftIn 6 = .ok (.getfield 24, 3) := by decide +kernel
theorem dX1_liftIn_9 : decode cX1_liftIn 9 = .ok (.iload_n 1, 1) := by decide +kernel
theorem dX1_liftIn_10 : decode cX1_liftIn 10 = .ok (.invokevirtual 31, 3) := by decide +kernel
theorem dX1_liftIn_13 : decode cX1_liftIn 13 = .ok (.ireturn, 1) := by decide +kernel
theorem dX1_liftAs_0 : decode cX1_liftAs 0 = .ok (.aload_n 0, 1) := by decide +kernel
theorem dX1_liftAs_1 : decode cX1_liftAs 1 = .ok (.getfield 18, 3) := by decide +kernel
theorem dX1_liftAs_4 : decode cX1_liftAs 4 = .ok (.iload_n 3, 1) := by decide +kernel
theorem dX1_liftAs_5 : decode cX1_liftAs 5 = .ok (.imul, 1) := by decide +kernel
theorem dX1_liftAs_6 : decode cX1_liftAs 6 = .ok (.iconst 2, 1) := by decide +kernel
theorem dX1_liftAs_7 : decode cX1_liftAs 7 = .ok (.idiv, 1) := by decide +kernel
theorem dX1_liftAs_8 : decode cX1_liftAs 8 = .ok (.istore 4, 2) := by decide +kernel
theorem dX1_liftAs_10 : decode cX1_liftAs 10 = .ok (.iload 4, 2) := by decide +kernel
theorem dX1_liftAs_12 : decode cX1_liftAs 12 = .ok (.iconst 2, 1) := by decide +kernel
theorem dX1_liftAs_13 : decode cX1_liftAs 13 = .ok (.iload_n 2, 1) := by decide +kernel
theorem dX1_liftAs_14 : decode cX1_liftAs 14 = .ok (.imul, 1) := by decide +kernel
theorem dX1_liftAs_15 : decode cX1_liftAs 15 = .ok (.if_icmp .le 12, 3) := by decide +kernel
theorem dX1_liftAs_18 : decode cX1_liftAs 18 = .ok (.iload 4, 2) := by decide +kernel
theorem dX1_liftAs_20 : decode cX1_liftAs 20 = .ok (.iconst 2, 1) := by decide +kernel
theorem dX1_liftAs_21 : decode cX1_liftAs 21 = .ok (.iload_n 2, 1) := by decide +kernel
theorem dX1_liftAs_22 : decode cX1_liftAs 22 = .ok (.imul, 1) := by decide +kernel
theorem dX1_liftAs_23 : decode cX1_liftAs 23 = .ok (.isub, 1) := by decide +kernel
theorem dX1_liftAs_24 : decode cX1_liftAs 24 = .ok (.goto 4, 3) := by decide +kernel
theorem dX1_liftAs_27 : decode cX1_liftAs 27 = .ok (.iconst 0, 1) := by decide +kernel
theorem dX1_liftAs_28 : decode cX1_liftAs 28 = .ok (.istore 5, 2) := by decide +kernel
theorem dX1_liftAs_30 : decode cX1_liftAs 30 = .ok (.iload_n 3, 1) := by decide +kernel
theorem dX1_liftAs_31 : decode cX1_liftAs 31 = .ok (.iconst 3, 1) := by decide +kernel
theorem dX1_liftAs_32 : decode cX1_liftAs 32 = .ok (.if_icmp .lt 10, 3) := by decide +kernel
theorem dX1_liftAs_35 : decode cX1_liftAs 35 = .ok (.iload 4, 2) := by decide +kernel
theorem dX1_liftAs_37 : decode cX1_liftAs 37 = .ok (.iconst 2, 1) := by decide +kernel
theorem dX1_liftAs_38 : decode cX1_liftAs 38 = .ok (.iadd, 1) := by decide +kernel
theorem dX1_liftAs_39 : decode cX1_liftAs 39 = .ok (.goto 5, 3) := by decide +kernel
theorem dX1_liftAs_42 : decode cX1_liftAs 42 = .ok (.iload 4, 2) := by decide +kernel
theorem dX1_liftAs_44 : decode cX1_liftAs 44 = .ok (.istore 6, 2) := by decide +kernel
theorem dX1_liftAs_46 : decode cX1_liftAs 46 = .ok (.iload_n 1, 1) := by decide +kernel
theorem dX1_liftAs_47 : decode cX1_liftAs 47 = .ok (.tableswitch 76 1 5 #[33, 38, 53, 56, 71], 33) := by decide +kernel
theorem dX1_liftAs_80 : decode cX1_liftAs 80 = .ok (.iload 5, 2) := by decide +kernel
theorem dX1_liftAs_82 : decode cX1_liftAs 82 = .ok (.iconst 3, 1) := by decide +kernel
theorem dX1_liftAs_83 : decode cX1_liftAs 83 = .ok (.idiv, 1) := by decide +kernel
theorem dX1_liftAs_84 : decode cX1_liftAs 84 = .ok (.ireturn, 1) := by decide +kernel
theorem dX1_liftAs_85 : decode cX1_liftAs 85 = .ok (.iload_n 3, 1) := by decide +kernel
theorem dX1_liftAs_86 : decode cX1_liftAs 86 = .ok (.bipush 6, 2) := by decide +kernel
theorem dX1_liftAs_88 : decode cX1_liftAs 88 = .ok (.if_icmp .le 7, 3) := by decide +kernel
theorem dX1_liftAs_91 : decode cX1_liftAs 91 = .ok (.iconst 0, 1) := by decide +kernel
theorem dX1_liftAs_92 : decode cX1_liftAs 92 = .ok (.goto 7, 3) := by decide +kernel
theorem dX1_liftAs_95 : decode cX1_liftAs 95 = .ok (.iload 5, 2) := by decide +kernel
theorem dX1_liftAs_97 : decode cX1_liftAs 97 = .ok (.iconst 2, 1) := by decide +kernel
theorem dX1_liftAs_98 : decode cX1_liftAs 98 = .ok (.idiv, 1) := by decide +kernel
theorem dX1_liftAs_99 : decode cX1_liftAs 99 = .ok (.ireturn, 1) := by decide +kernel
theorem dX1_liftAs_100 : decode cX1_liftAs 100 = .ok (.iload 6, 2) := by decide +kernel
theorem dX1_liftAs_102 : decode cX1_liftAs 102 = .ok (.ireturn, 1) := by decide +kernel
theorem dX1_liftAs_103 : decode cX1_liftAs 103 = .ok (.iload 5, 2) := by decide +kernel
theorem dX1_liftAs_105 : decode cX1_liftAs 105 = .ok (.iconst 3, 1) := by decide +kernel
theorem dX1_liftAs_106 : decode cX1_liftAs 106 = .ok (.if_icmp .ge 7, 3) := by decide +kernel
theorem dX1_liftAs_109 : decode cX1_liftAs 109 = .ok (.iconst 1, 1) := by decide +kernel
theorem dX1_liftAs_110 : decode cX1_liftAs 110 = .ok (.goto 7, 3) := by decide +kernel
theorem dX1_liftAs_113 : decode cX1_liftAs 113 = .ok (.iload 5, 2) := by decide +kernel
theorem dX1_liftAs_115 : decode cX1_liftAs 115 = .ok (.iconst 3, 1) := by decide +kernel
theorem dX1_liftAs_116 : decode cX1_liftAs 116 = .ok (.idiv, 1) := by decide +kernel
theorem dX1_liftAs_117 : decode cX1_liftAs 117 = .ok (.ireturn, 1) := by decide +kernel
theorem dX1_liftAs_118 : decode cX1_liftAs 118 = .ok (.iload 6, 2) := by decide +kernel
theorem dX1_liftAs_120 : decode cX1_liftAs 120 = .ok (.iload_n 3, 1) := by decide +kernel
theorem dX1_liftAs_121 : decode cX1_liftAs 121 = .ok (.iadd, 1) := by decide +kernel
theorem dX1_liftAs_122 : decode cX1_liftAs 122 = .ok (.ireturn, 1) := by decide +kernel
theorem dX1_liftAs_123 : decode cX1_liftAs 123 = .ok (.iload 5, 2) := by decide +kernel
theorem dX1_liftAs_125 : decode cX1_liftAs 125 = .ok (.ireturn, 1) := by decide +kernel
theorem dX1_isLiftedIn_0 : decode cX1_isLiftedIn 0 = .ok (.aload_n 0, 1) := by decide +kernel
theorem dX1_isLiftedIn_1 : decode cX1_isLiftedIn 1 = .ok (.aload_n 0, 1) := by decide +kernel
theorem dX1_isLiftedIn_2 : decode cX1_isLiftedIn 2 = .ok (.iload_n 1, 1) := by decide +kernel
theorem dX1_isLiftedIn_3 : decode cX1_isLiftedIn 3 = .ok (.invokevirtual 35, 3) := by decide +kernel
theorem dX1_isLiftedIn_6 : decode cX1_isLiftedIn 6 = .ok (.invokevirtual 39, 3) := by decide +kernel
theorem dX1_isLiftedIn_9 : decode cX1_isLiftedIn 9 = .ok (.ireturn, 1) := by decide +kernel
theorem dX1_payIn_0 : decode cX1_payIn 0 = .ok (.aload_n 0, 1) := by decide +kernel
theorem dX1_payIn_1 : decode cX1_payIn 1 = .ok (.iload_n 1, 1) := by decide +kernel
theorem dX1_payIn_2 : decode cX1_payIn 2 = .ok (.invokevirtual 35, 3) := by decide +kernel
theorem dX1_payIn_5 : decode cX1_payIn 5 = .ok (.istore_n 2, 1) := by decide +kernel
theorem dX1_payIn_6 : decode cX1_payIn 6 = .ok (.aload_n 0, 1) := by decide +kernel
theorem dX1_payIn_7 : decode cX1_payIn 7 = .ok (.iload_n 2, 1) := by decide +kernel
theorem dX1_payIn_8 : decode cX1_payIn 8 = .ok (.invokevirtual 39, 3) := by decide +kernel
theorem dX1_payIn_11 : decode cX1_payIn 11 = .ok (.ifCond .eq 7, 3) := by decide +kernel
theorem dX1_payIn_14 : decode cX1_payIn 14 = .ok (.iconst 0, 1) := by decide +kernel
theorem dX1_payIn_15 : decode cX1_payIn 15 = .ok (.goto 4, 3) := by decide +kernel
theorem dX1_payIn_18 : decode cX1_payIn 18 = .ok (.iload_n 2, 1) := by decide +kernel
theorem dX1_payIn_19 : decode cX1_payIn 19 = .ok (.ireturn, 1) := by decide +kernel
theorem dX1_isTooMuch_0 : decode cX1_isTooMuch 0 = .ok (.iload_n 1, 1) := by decide +kernel
theorem dX1_isTooMuch_1 : decode cX1_isTooMuch 1 = .ok (.iconst 4, 1) := by decide +kernel
theorem dX1_isTooMuch_2 : decode cX1_isTooMuch 2 = .ok (.aload_n 0, 1) := by decide +kernel
theorem dX1_isTooMuch_3 : decode cX1_isTooMuch 3 = .ok (.getfield 21, 3) := by decide +kernel
theorem dX1_isTooMuch_6 : decode cX1_isTooMuch 6 = .ok (.imul, 1) := by decide +kernel
theorem dX1_isTooMuch_7 : decode cX1_isTooMuch 7 = .ok (.if_icmp .le 7, 3) := by decide +kernel
theorem dX1_isTooMuch_10 : decode cX1_isTooMuch 10 = .ok (.iconst 1, 1) := by decide +kernel
theorem dX1_isTooMuch_11 : decode cX1_isTooMuch 11 = .ok (.goto 4, 3) := by decide +kernel
theorem dX1_isTooMuch_14 : decode cX1_isTooMuch 14 = .ok (.iconst 0, 1) := by decide +kernel
theorem dX1_isTooMuch_15 : decode cX1_isTooMuch 15 = .ok (.ireturn, 1) := by decide +kernel
theorem dX2_init_0 : decode cX2_init 0 = .ok (.aload_n 0, 1) := by decide +kernel
theorem dX2_init_1 : decode cX2_init 1 = .ok (.invokespecial 3, 3) := by decide +kernel
theorem dX2_init_4 : decode cX2_init 4 = .ok (.aload_n 0, 1) := by decide +kernel
theorem dX2_init_5 : decode cX2_init 5 = .ok (.bipush 64, 2) := by decide +kernel
theorem dX2_init_7 : decode cX2_init 7 = .ok (.newarray .int, 2) := by decide +kernel
theorem dX2_init_9 : decode cX2_init 9 = .ok (.putfield 9, 3) := by decide +kernel
theorem dX2_init_12 : decode cX2_init 12 = .ok (.return_, 1) := by decide +kernel
theorem dX2_weigh_0 : decode cX2_weigh 0 = .ok (.iconst 1, 1) := by decide +kernel
theorem dX2_weigh_1 : decode cX2_weigh 1 = .ok (.aload_n 1, 1) := by decide +kernel
theorem dX2_weigh_2 : decode cX2_weigh 2 = .ok (.getfield 15, 3) := by decide +kernel
theorem dX2_weigh_5 : decode cX2_weigh 5 = .ok (.bipush 6, 2) := by decide +kernel
theorem dX2_weigh_7 : decode cX2_weigh 7 = .ok (.invokestatic 21, 3) := by decide +kernel
theorem dX2_weigh_10 : decode cX2_weigh 10 = .ok (.ishl, 1) := by decide +kernel
theorem dX2_weigh_11 : decode cX2_weigh 11 = .ok (.iconst 1, 1) := by decide +kernel
theorem dX2_weigh_12 : decode cX2_weigh 12 = .ok (.isub, 1) := by decide +kernel
theorem dX2_weigh_13 : decode cX2_weigh 13 = .ok (.istore_n 3, 1) := by decide +kernel
theorem dX2_weigh_14 : decode cX2_weigh 14 = .ok (.aload_n 0, 1) := by decide +kernel
theorem dX2_weigh_15 : decode cX2_weigh 15 = .ok (.getfield 9, 3) := by decide +kernel
theorem dX2_weigh_18 : decode cX2_weigh 18 = .ok (.iload_n 3, 1) := by decide +kernel
theorem dX2_weigh_19 : decode cX2_weigh 19 = .ok (.iconst 0, 1) := by decide +kernel
theorem dX2_weigh_20 : decode cX2_weigh 20 = .ok (.iastore, 1) := by decide +kernel
theorem dX2_weigh_21 : decode cX2_weigh 21 = .ok (.iload_n 3, 1) := by decide +kernel
theorem dX2_weigh_22 : decode cX2_weigh 22 = .ok (.iconst 1, 1) := by decide +kernel
theorem dX2_weigh_23 : decode cX2_weigh 23 = .ok (.isub, 1) := by decide +kernel
theorem dX2_weigh_24 : decode cX2_weigh 24 = .ok (.istore 4, 2) := by decide +kernel
theorem dX2_weigh_26 : decode cX2_weigh 26 = .ok (.iload 4, 2) := by decide +kernel
theorem dX2_weigh_28 : decode cX2_weigh 28 = .ok (.ifCond .lt 24, 3) := by decide +kernel
theorem dX2_weigh_31 : decode cX2_weigh 31 = .ok (.aload_n 0, 1) := by decide +kernel
theorem dX2_weigh_32 : decode cX2_weigh 32 = .ok (.getfield 9, 3) := by decide +kernel
theorem dX2_weigh_35 : decode cX2_weigh 35 = .ok (.iload 4, 2) := by decide +kernel
theorem dX2_weigh_37 : decode cX2_weigh 37 = .ok (.aload_n 0, 1) := by decide +kernel
theorem dX2_weigh_38 : decode cX2_weigh 38 = .ok (.aload_n 1, 1) := by decide +kernel
theorem dX2_weigh_39 : decode cX2_weigh 39 = .ok (.iload_n 2, 1) := by decide +kernel
theorem dX2_weigh_40 : decode cX2_weigh 40 = .ok (.iload 4, 2) := by decide +kernel
theorem dX2_weigh_42 : decode cX2_weigh 42 = .ok (.invokevirtual 27, 3) := by decide +kernel
theorem dX2_weigh_45 : decode cX2_weigh 45 = .ok (.iastore, 1) := by decide +kernel
theorem dX2_weigh_46 : decode cX2_weigh 46 = .ok (.iinc 4 (-1), 3) := by decide +kernel
theorem dX2_weigh_49 : decode cX2_weigh 49 = .ok (.goto (-23), 3) := by decide +kernel
theorem dX2_weigh_52 : decode cX2_weigh 52 = .ok (.aload_n 0, 1) := by decide +kernel
theorem dX2_weigh_53 : decode cX2_weigh 53 = .ok (.getfield 9, 3) := by decide +kernel
theorem dX2_weigh_56 : decode cX2_weigh 56 = .ok (.iconst 0, 1) := by decide +kernel
theorem dX2_weigh_57 : decode cX2_weigh 57 = .ok (.iaload, 1) := by decide +kernel
theorem dX2_weigh_58 : decode cX2_weigh 58 = .ok (.ireturn, 1) := by decide +kernel
theorem dX2_tellFirst_0 : decode cX2_tellFirst 0 = .ok (.aload_n 3, 1) := by decide +kernel
theorem dX2_tellFirst_1 : decode cX2_tellFirst 1 = .ok (.aload_n 1, 1) := by decide +kernel
theorem dX2_tellFirst_2 : decode cX2_tellFirst 2 = .ok (.getfield 15, 3) := by decide +kernel
theorem dX2_tellFirst_5 : decode cX2_tellFirst 5 = .ok (.bipush (-9), 2) := by decide +kernel
theorem dX2_tellFirst_7 : decode cX2_tellFirst 7 = .ok (.invokevirtual 31, 3) := by decide +kernel
theorem dX2_tellFirst_10 : decode cX2_tellFirst 10 = .ok (.iconst 0, 1) := by decide +kernel
theorem dX2_tellFirst_11 : decode cX2_tellFirst 11 = .ok (.istore 4, 2) := by decide +kernel
theorem dX2_tellFirst_13 : decode cX2_tellFirst 13 = .ok (.iconst 0, 1) := by decide +kernel
theorem dX2_tellFirst_14 : decode cX2_tellFirst 14 = .ok (.istore 5, 2) := by decide +kernel
theorem dX2_tellFirst_16 : decode cX2_tellFirst 16 = .ok (.iload 5, 2) := by decide +kernel
theorem dX2_tellFirst_18 : decode cX2_tellFirst 18 = .ok (.aload_n 1, 1) := by decide +kernel
theorem dX2_tellFirst_19 : decode cX2_tellFirst 19 = .ok (.getfield 15, 3) := by decide +kernel
theorem dX2_tellFirst_22 : decode cX2_tellFirst 22 = .ok (.if_icmp .ge 76, 3) := by decide +kernel
theorem dX2_tellFirst_25 : decode cX2_tellFirst 25 = .ok (.iload 4, 2) := by decide +kernel
theorem dX2_tellFirst_27 : decode cX2_tellFirst 27 = .ok (.iload 5, 2) := by decide +kernel
theorem dX2_tellFirst_29 : decode cX2_tellFirst 29 = .ok (.ishr, 1) := by decide +kernel
theorem dX2_tellFirst_30 : decode cX2_tellFirst 30 = .ok (.iconst 1, 1) := by decide +kernel
theorem dX2_tellFirst_31 : decode cX2_tellFirst 31 = .ok (.iand, 1) := by decide +kernel
theorem dX2_tellFirst_32 : decode cX2_tellFirst 32 = .ok (.iconst 1, 1) := by decide +kernel
theorem dX2_tellFirst_33 : decode cX2_tellFirst 33 = .ok (.if_icmp .ne 6, 3) := by decide +kernel
theorem dX2_tellFirst_36 : decode cX2_tellFirst 36 = .ok (.goto 56, 3) := by decide +kernel
theorem dX2_tellFirst_39 : decode cX2_tellFirst 39 = .ok (.iload 4, 2) := by decide +kernel
theorem dX2_tellFirst_41 : decode cX2_tellFirst 41 = .ok (.iconst 1, 1) := by decide +kernel
theorem dX2_tellFirst_42 : decode cX2_tellFirst 42 = .ok (.iload 5, 2) := by decide +kernel
theorem dX2_tellFirst_44 : decode cX2_tellFirst 44 = .ok (.ishl, 1) := by decide +kernel
theorem dX2_tellFirst_45 : decode cX2_tellFirst 45 = .ok (.ior, 1) := by decide +kernel
theorem dX2_tellFirst_46 : decode cX2_tellFirst 46 = .ok (.istore 4, 2) := by decide +kernel
theorem dX2_tellFirst_48 : decode cX2_tellFirst 48 = .ok (.aload_n 0, 1) := by decide +kernel
theorem dX2_tellFirst_49 : decode cX2_tellFirst 49 = .ok (.aload_n 1, 1) := by decide +kernel
theorem dX2_tellFirst_50 : decode cX2_tellFirst 50 = .ok (.iload_n 2, 1) := by decide +kernel
theorem dX2_tellFirst_51 : decode cX2_tellFirst 51 = .ok (.iload 4, 2) := by decide +kernel
theorem dX2_tellFirst_53 : decode cX2_tellFirst 53 = .ok (.iload 5, 2) := by decide +kernel
theorem dX2_tellFirst_55 : decode cX2_tellFirst 55 = .ok (.invokevirtual 37, 3) := by decide +kernel
theorem dX2_tellFirst_58 : decode cX2_tellFirst 58 = .ok (.istore 6, 2) := by decide +kernel
theorem dX2_tellFirst_60 : decode cX2_tellFirst 60 = .ok (.iload 6, 2) := by decide +kernel
theorem dX2_tellFirst_62 : decode cX2_tellFirst 62 = .ok (.bipush (-9), 2) := by decide +kernel
theorem dX2_tellFirst_64 : decode cX2_tellFirst 64 = .ok (.if_icmp .eq 28, 3) := by decide +kernel
theorem dX2_tellFirst_67 : decode cX2_tellFirst 67 = .ok (.aload_n 3, 1) := by decide +kernel
theorem dX2_tellFirst_68 : decode cX2_tellFirst 68 = .ok (.iload 5, 2) := by decide +kernel
theorem dX2_tellFirst_70 : decode cX2_tellFirst 70 = .ok (.iload 6, 2) := by decide +kernel
theorem dX2_tellFirst_72 : decode cX2_tellFirst 72 = .ok (.invokevirtual 41, 3) := by decide +kernel
theorem dX2_tellFirst_75 : decode cX2_tellFirst 75 = .ok (.aload_n 3, 1) := by decide +kernel
theorem dX2_tellFirst_76 : decode cX2_tellFirst 76 = .ok (.iload 6, 2) := by decide +kernel
theorem dX2_tellFirst_78 : decode cX2_tellFirst 78 = .ok (.iload 5, 2) := by decide +kernel
theorem dX2_tellFirst_80 : decode cX2_tellFirst 80 = .ok (.invokevirtual 41, 3) := by decide +kernel
theorem dX2_tellFirst_83 : decode cX2_tellFirst 83 = .ok (.iload 4, 2) := by decide +kernel
theorem dX2_tellFirst_85 : decode cX2_tellFirst 85 = .ok (.iconst 1, 1) := by decide +kernel
theorem dX2_tellFirst_86 : decode cX2_tellFirst 86 = .ok (.iload 6, 2) := by decide +kernel
theorem dX2_tellFirst_88 : decode cX2_tellFirst 88 = .ok (.ishl, 1) := by decide +kernel
theorem dX2_tellFirst_89 : decode cX2_tellFirst 89 = .ok (.ior, 1) := by decide +kernel
theorem dX2_tellFirst_90 : decode cX2_tellFirst 90 = .ok (.istore 4, 2) := by decide +kernel
theorem dX2_tellFirst_92 : decode cX2_tellFirst 92 = .ok (.iinc 5 1, 3) := by decide +kernel
theorem dX2_tellFirst_95 : decode cX2_tellFirst 95 = .ok (.goto (-79), 3) := by decide +kernel
theorem dX2_tellFirst_98 : decode cX2_tellFirst 98 = .ok (.return_, 1) := by decide +kernel
theorem dX2_bestOf_0 : decode cX2_bestOf 0 = .ok (.aload_n 1, 1) := by decide +kernel
theorem dX2_bestOf_1 : decode cX2_bestOf 1 = .ok (.iload_n 3, 1) := by decide +kernel
theorem dX2_bestOf_2 : decode cX2_bestOf 2 = .ok (.invokestatic 44, 3) := by decide +kernel
theorem dX2_bestOf_5 : decode cX2_bestOf 5 = .ok (.istore 4, 2) := by decide +kernel
theorem dX2_bestOf_7 : decode cX2_bestOf 7 = .ok (.iload_n 3, 1) := by decide +kernel
theorem dX2_bestOf_8 : decode cX2_bestOf 8 = .ok (.iconst 1, 1) := by decide +kernel
theorem dX2_bestOf_9 : decode cX2_bestOf 9 = .ok (.iload 4, 2) := by decide +kernel
theorem dX2_bestOf_11 : decode cX2_bestOf 11 = .ok (.ishl, 1) := by decide +kernel
theorem dX2_bestOf_12 : decode cX2_bestOf 12 = .ok (.ior, 1) := by decide +kernel
theorem dX2_bestOf_13 : decode cX2_bestOf 13 = .ok (.istore 5, 2) := by decide +kernel
theorem dX2_bestOf_15 : decode cX2_bestOf 15 = .ok (.aload_n 1, 1) := by decide +kernel
theorem dX2_bestOf_16 : decode cX2_bestOf 16 = .ok (.iload_n 3, 1) := by decide +kernel
theorem dX2_bestOf_17 : decode cX2_bestOf 17 = .ok (.invokestatic 48, 3) := by decide +kernel
theorem dX2_bestOf_20 : decode cX2_bestOf 20 = .ok (.ifCond .eq 12, 3) := by decide +kernel
theorem dX2_bestOf_23 : decode cX2_bestOf 23 = .ok (.aload_n 0, 1) := by decide +kernel
theorem dX2_bestOf_24 : decode cX2_bestOf 24 = .ok (.iload 5, 2) := by decide +kernel
theorem dX2_bestOf_26 : decode cX2_bestOf 26 = .ok (.invokevirtual 52, 3) := by decide +kernel
theorem dX2_bestOf_29 : decode cX2_bestOf 29 = .ok (.goto 4, 3) := by decide +kernel
theorem dX2_bestOf_32 : decode cX2_bestOf 32 = .ok (.iconst 0, 1) := by decide +kernel
theorem dX2_bestOf_33 : decode cX2_bestOf 33 = .ok (.istore 6, 2) := by decide +kernel
theorem dX2_bestOf_35 : decode cX2_bestOf 35 = .ok (.iload 4, 2) := by decide +kernel
theorem dX2_bestOf_37 : decode cX2_bestOf 37 = .ok (.iconst 1, 1) := by decide +kernel
theorem dX2_bestOf_38 : decode cX2_bestOf 38 = .ok (.iadd, 1) := by decide +kernel
theorem dX2_bestOf_39 : decode cX2_bestOf 39 = .ok (.istore 7, 2) := by decide +kernel
theorem dX2_bestOf_41 : decode cX2_bestOf 41 = .ok (.iload 7, 2) := by decide +kernel
theorem dX2_bestOf_43 : decode cX2_bestOf 43 = .ok (.aload_n 1, 1) := by decide +kernel
theorem dX2_bestOf_44 : decode cX2_bestOf 44 = .ok (.getfield 15, 3) := by decide +kernel
theorem dX2_bestOf_47 : decode cX2_bestOf 47 = .ok (.if_icmp .ge 46, 3) := by decide +kernel
theorem dX2_bestOf_50 : decode cX2_bestOf 50 = .ok (.iload_n 3, 1) := by decide +kernel
theorem dX2_bestOf_51 : decode cX2_bestOf 51 = .ok (.iload 7, 2) := by decide +kernel
theorem dX2_bestOf_53 : decode cX2_bestOf 53 = .ok (.ishr, 1) := by decide +kernel
theorem dX2_bestOf_54 : decode cX2_bestOf 54 = .ok (.iconst 1, 1) := by decide +kernel
theorem dX2_bestOf_55 : decode cX2_bestOf 55 = .ok (.iand, 1) := by decide +kernel
theorem dX2_bestOf_56 : decode cX2_bestOf 56 = .ok (.ifCond .ne 31, 3) := by decide +kernel
theorem dX2_bestOf_59 : decode cX2_bestOf 59 = .ok (.iload 6, 2) := by decide +kernel
theorem dX2_bestOf_61 : decode cX2_bestOf 61 = .ok (.aload_n 1, 1) := by decide +kernel
theorem dX2_bestOf_62 : decode cX2_bestOf 62 = .ok (.iload 4, 2) := by decide +kernel
theorem dX2_bestOf_64 : decode cX2_bestOf 64 = .ok (.iload 7, 2) := by decide +kernel
theorem dX2_bestOf_66 : decode cX2_bestOf 66 = .ok (.iload_n 2, 1) := by decide +kernel
theorem dX2_bestOf_67 : decode cX2_bestOf 67 = .ok (.invokevirtual 56, 3) := by decide +kernel
theorem dX2_bestOf_70 : decode cX2_bestOf 70 = .ok (.aload_n 0, 1) := by decide +kernel
theorem dX2_bestOf_71 : decode cX2_bestOf 71 = .ok (.iload 5, 2) := by decide +kernel
theorem dX2_bestOf_73 : decode cX2_bestOf 73 = .ok (.iconst 1, 1) := by decide +kernel
theorem dX2_bestOf_74 : decode cX2_bestOf 74 = .ok (.iload 7, 2) := by decide +kernel
theorem dX2_bestOf_76 : decode cX2_bestOf 76 = .ok (.ishl, 1) := by decide +kernel
theorem dX2_bestOf_77 : decode cX2_bestOf 77 = .ok (.ior, 1) := by decide +kernel
theorem dX2_bestOf_78 : decode cX2_bestOf 78 = .ok (.invokevirtual 52, 3) := by decide +kernel
theorem dX2_bestOf_81 : decode cX2_bestOf 81 = .ok (.iadd, 1) := by decide +kernel
theorem dX2_bestOf_82 : decode cX2_bestOf 82 = .ok (.invokestatic 60, 3) := by decide +kernel
theorem dX2_bestOf_85 : decode cX2_bestOf 85 = .ok (.istore 6, 2) := by decide +kernel
theorem dX2_bestOf_87 : decode cX2_bestOf 87 = .ok (.iinc 7 1, 3) := by decide +kernel
theorem dX2_bestOf_90 : decode cX2_bestOf 90 = .ok (.goto (-49), 3) := by decide +kernel
theorem dX2_bestOf_93 : decode cX2_bestOf 93 = .ok (.iload 6, 2) := by decide +kernel
theorem dX2_bestOf_95 : decode cX2_bestOf 95 = .ok (.ireturn, 1) := by decide +kernel
theorem dX2_firstBest_0 : decode cX2_firstBest 0 = .ok (.iload_n 3, 1) := by decide +kernel
theorem dX2_firstBest_1 : decode cX2_firstBest 1 = .ok (.iconst 1, 1) := by decide +kernel
theorem dX2_firstBest_2 : decode cX2_firstBest 2 = .ok (.iload 4, 2) := by decide +kernel
theorem dX2_firstBest_4 : decode cX2_firstBest 4 = .ok (.ishl, 1) := by decide +kernel
theorem dX2_firstBest_5 : decode cX2_firstBest 5 = .ok (.iconst (-1), 1) := by decide +kernel
theorem dX2_firstBest_6 : decode cX2_firstBest 6 = .ok (.ixor, 1) := by decide +kernel
theorem dX2_firstBest_7 : decode cX2_firstBest 7 = .ok (.iand, 1) := by decide +kernel
theorem dX2_firstBest_8 : decode cX2_firstBest 8 = .ok (.istore 5, 2) := by decide +kernel
theorem dX2_firstBest_10 : decode cX2_firstBest 10 = .ok (.aload_n 1, 1) := by decide +kernel
theorem dX2_firstBest_11 : decode cX2_firstBest 11 = .ok (.iload 5, 2) := by decide +kernel
theorem dX2_firstBest_13 : decode cX2_firstBest 13 = .ok (.invokestatic 48, 3) := by decide +kernel
theorem dX2_firstBest_16 : decode cX2_firstBest 16 = .ok (.ifCond .eq 20, 3) := by decide +kernel
theorem dX2_firstBest_19 : decode cX2_firstBest 19 = .ok (.aload_n 0, 1) := by decide +kernel
theorem dX2_firstBest_20 : decode cX2_firstBest 20 = .ok (.iload_n 3, 1) := by decide +kernel
theorem dX2_firstBest_21 : decode cX2_firstBest 21 = .ok (.invokevirtual 52, 3) := by decide +kernel
theorem dX2_firstBest_24 : decode cX2_firstBest 24 = .ok (.aload_n 0, 1) := by decide +kernel
theorem dX2_firstBest_25 : decode cX2_firstBest 25 = .ok (.iload 5, 2) := by decide +kernel
theorem dX2_firstBest_27 : decode cX2_firstBest 27 = .ok (.invokevirtual 52, 3) := by decide +kernel
theorem dX2_firstBest_30 : decode cX2_firstBest 30 = .ok (.if_icmp .ne 6, 3) := by decide +kernel
theorem dX2_firstBest_33 : decode cX2_firstBest 33 = .ok (.bipush (-9), 2) := by decide +kernel
theorem dX2_firstBest_35 : decode cX2_firstBest 35 = .ok (.ireturn, 1) := by decide +kernel
theorem dX2_firstBest_36 : decode cX2_firstBest 36 = .ok (.iload 4, 2) := by decide +kernel
theorem dX2_firstBest_38 : decode cX2_firstBest 38 = .ok (.iconst 1, 1) := by decide +kernel
theorem dX2_firstBest_39 : decode cX2_firstBest 39 = .ok (.iadd, 1) := by decide +kernel
theorem dX2_firstBest_40 : decode cX2_firstBest 40 = .ok (.istore 6, 2) := by decide +kernel
theorem dX2_firstBest_42 : decode cX2_firstBest 42 = .ok (.iload 6, 2) := by decide +kernel
theorem dX2_firstBest_44 : decode cX2_firstBest 44 = .ok (.aload_n 1, 1) := by decide +kernel
theorem dX2_firstBest_45 : decode cX2_firstBest 45 = .ok (.getfield 15, 3) := by decide +kernel
theorem dX2_firstBest_48 : decode cX2_firstBest 48 = .ok (.if_icmp .ge 50, 3) := by decide +kernel
theorem dX2_firstBest_51 : decode cX2_firstBest 51 = .ok (.iload_n 3, 1) := by decide +kernel
theorem dX2_firstBest_52 : decode cX2_firstBest 52 = .ok (.iload 6, 2) := by decide +kernel
theorem dX2_firstBest_54 : decode cX2_firstBest 54 = .ok (.ishr, 1) := by decide +kernel
theorem dX2_firstBest_55 : decode cX2_firstBest 55 = .ok (.iconst 1, 1) := by decide +kernel
theorem dX2_firstBest_56 : decode cX2_firstBest 56 = .ok (.iand, 1) := by decide +kernel
theorem dX2_firstBest_57 : decode cX2_firstBest 57 = .ok (.ifCond .ne 35, 3) := by decide +kernel
theorem dX2_firstBest_60 : decode cX2_firstBest 60 = .ok (.aload_n 1, 1) := by decide +kernel
theorem dX2_firstBest_61 : decode cX2_firstBest 61 = .ok (.iload 4, 2) := by decide +kernel
theorem dX2_firstBest_63 : decode cX2_firstBest 63 = .ok (.iload 6, 2) := by decide +kernel
theorem dX2_firstBest_65 : decode cX2_firstBest 65 = .ok (.iload_n 2, 1) := by decide +kernel
theorem dX2_firstBest_66 : decode cX2_firstBest 66 = .ok (.invokevirtual 56, 3) := by decide +kernel
theorem dX2_firstBest_69 : decode cX2_firstBest 69 = .ok (.aload_n 0, 1) := by decide +kernel
theorem dX2_firstBest_70 : decode cX2_firstBest 70 = .ok (.iload_n 3, 1) := by decide +kernel
theorem dX2_firstBest_71 : decode cX2_firstBest 71 = .ok (.iconst 1, 1) := by decide +kernel
theorem dX2_firstBest_72 : decode cX2_firstBest 72 = .ok (.iload 6, 2) := by decide +kernel
theorem dX2_firstBest_74 : decode cX2_firstBest 74 = .ok (.ishl, 1) := by decide +kernel
theorem dX2_firstBest_75 : decode cX2_firstBest 75 = .ok (.ior, 1) := by decide +kernel
theorem dX2_firstBest_76 : decode cX2_firstBest 76 = .ok (.invokevirtual 52, 3) := by decide +kernel
theorem dX2_firstBest_79 : decode cX2_firstBest 79 = .ok (.iadd, 1) := by decide +kernel
theorem dX2_firstBest_80 : decode cX2_firstBest 80 = .ok (.aload_n 0, 1) := by decide +kernel
theorem dX2_firstBest_81 : decode cX2_firstBest 81 = .ok (.iload 5, 2) := by decide +kernel
theorem dX2_firstBest_83 : decode cX2_firstBest 83 = .ok (.invokevirtual 52, 3) := by decide +kernel
theorem dX2_firstBest_86 : decode cX2_firstBest 86 = .ok (.if_icmp .ne 6, 3) := by decide +kernel
theorem dX2_firstBest_89 : decode cX2_firstBest 89 = .ok (.iload 6, 2) := by decide +kernel
theorem dX2_firstBest_91 : decode cX2_firstBest 91 = .ok (.ireturn, 1) := by decide +kernel
theorem dX2_firstBest_92 : decode cX2_firstBest 92 = .ok (.iinc 6 1, 3) := by decide +kernel
theorem dX2_firstBest_95 : decode cX2_firstBest 95 = .ok (.goto (-53), 3) := by decide +kernel
theorem dX2_firstBest_98 : decode cX2_firstBest 98 = .ok (.bipush (-9), 2) := by decide +kernel
theorem dX2_firstBest_100 : decode cX2_firstBest 100 = .ok (.ireturn, 1) := by decide +kernel
theorem dX2_firstOut_0 : decode cX2_firstOut 0 = .ok (.iconst 0, 1) := by decide +kernel
theorem dX2_firstOut_1 : decode cX2_firstOut 1 = .ok (.istore_n 2, 1) := by decide +kernel
theorem dX2_firstOut_2 : decode cX2_firstOut 2 = .ok (.iload_n 2, 1) := by decide +kernel
theorem dX2_firstOut_3 : decode cX2_firstOut 3 = .ok (.aload_n 0, 1) := by decide +kernel
theorem dX2_firstOut_4 : decode cX2_firstOut 4 = .ok (.getfield 15, 3) := by decide +kernel
theorem dX2_firstOut_7 : decode cX2_firstOut 7 = .ok (.if_icmp .ge 19, 3) := by decide +kernel
theorem dX2_firstOut_10 : decode cX2_firstOut 10 = .ok (.iload_n 1, 1) := by decide +kernel
theorem dX2_firstOut_11 : decode cX2_firstOut 11 = .ok (.iload_n 2, 1) := by decide +kernel
theorem dX2_firstOut_12 : decode cX2_firstOut 12 = .ok (.ishr, 1) := by decide +kernel
theorem dX2_firstOut_13 : decode cX2_firstOut 13 = .ok (.iconst 1, 1) := by decide +kernel
theorem dX2_firstOut_14 : decode cX2_firstOut 14 = .ok (.iand, 1) := by decide +kernel
theorem dX2_firstOut_15 : decode cX2_firstOut 15 = .ok (.ifCond .ne 5, 3) := by decide +kernel
theorem dX2_firstOut_18 : decode cX2_firstOut 18 = .ok (.iload_n 2, 1) := by decide +kernel
theorem dX2_firstOut_19 : decode cX2_firstOut 19 = .ok (.ireturn, 1) := by decide +kernel
theorem dX2_firstOut_20 : decode cX2_firstOut 20 = .ok (.iinc 2 1, 3) := by decide +kernel
theorem dX2_firstOut_23 : decode cX2_firstOut 23 = .ok (.goto (-21), 3) := by decide +kernel
theorem dX2_firstOut_26 : decode cX2_firstOut 26 = .ok (.iconst 0, 1) := by decide +kernel
theorem dX2_firstOut_27 : decode cX2_firstOut 27 = .ok (.ireturn, 1) := by decide +kernel
theorem dX2_mayLeave_0 : decode cX2_mayLeave 0 = .ok (.aload_n 0, 1) := by decide +kernel
theorem dX2_mayLeave_1 : decode cX2_mayLeave 1 = .ok (.getfield 15, 3) := by decide +kernel
theorem dX2_mayLeave_4 : decode cX2_mayLeave 4 = .ok (.iload_n 1, 1) := by decide +kernel
theorem dX2_mayLeave_5 : decode cX2_mayLeave 5 = .ok (.invokestatic 63, 3) := by decide +kernel
theorem dX2_mayLeave_8 : decode cX2_mayLeave 8 = .ok (.isub, 1) := by decide +kernel
theorem dX2_mayLeave_9 : decode cX2_mayLeave 9 = .ok (.iconst 2, 1) := by decide +kernel
theorem dX2_mayLeave_10 : decode cX2_mayLeave 10 = .ok (.irem, 1) := by decide +kernel
theorem dX2_mayLeave_11 : decode cX2_mayLeave 11 = .ok (.ifCond .eq 7, 3) := by decide +kernel
theorem dX2_mayLeave_14 : decode cX2_mayLeave 14 = .ok (.iconst 1, 1) := by decide +kernel
theorem dX2_mayLeave_15 : decode cX2_mayLeave 15 = .ok (.goto 4, 3) := by decide +kernel
theorem dX2_mayLeave_18 : decode cX2_mayLeave 18 = .ok (.iconst 0, 1) := by decide +kernel
theorem dX2_mayLeave_19 : decode cX2_mayLeave 19 = .ok (.ireturn, 1) := by decide +kernel
theorem dX2_worth_0 : decode cX2_worth 0 = .ok (.iload_n 1, 1) := by decide +kernel
theorem dX2_worth_1 : decode cX2_worth 1 = .ok (.ifCond .lt 18, 3) := by decide +kernel
theorem dX2_worth_4 : decode cX2_worth 4 = .ok (.iload_n 1, 1) := by decide +kernel
theorem dX2_worth_5 : decode cX2_worth 5 = .ok (.bipush 64, 2) := by decide +kernel
theorem dX2_worth_7 : decode cX2_worth 7 = .ok (.if_icmp .ge 12, 3) := by decide +kernel
theorem dX2_worth_10 : decode cX2_worth 10 = .ok (.aload_n 0, 1) := by decide +kernel
theorem dX2_worth_11 : decode cX2_worth 11 = .ok (.getfield 9, 3) := by decide +kernel
theorem dX2_worth_14 : decode cX2_worth 14 = .ok (.iload_n 1, 1) := by decide +kernel
theorem dX2_worth_15 : decode cX2_worth 15 = .ok (.iaload, 1) := by decide +kernel
theorem dX2_worth_16 : decode cX2_worth 16 = .ok (.goto 4, 3) := by decide +kernel
theorem dX2_worth_19 : decode cX2_worth 19 = .ok (.iconst 0, 1) := by decide +kernel
theorem dX2_worth_20 : decode cX2_worth 20 = .ok (.ireturn, 1) := by decide +kernel
theorem dX3_init_0 : decode cX3_init 0 = .ok (.aload_n 0, 1) := by decide +kernel
theorem dX3_init_1 : decode cX3_init 1 = .ok (.invokespecial 3, 3) := by decide +kernel
theorem dX3_init_4 : decode cX3_init 4 = .ok (.aload_n 0, 1) := by decide +kernel
theorem dX3_init_5 : decode cX3_init 5 = .ok (.iconst 4, 1) := by decide +kernel
theorem dX3_init_6 : decode cX3_init 6 = .ok (.newarray .int, 2) := by decide +kernel
theorem dX3_init_8 : decode cX3_init 8 = .ok (.putfield 9, 3) := by decide +kernel
theorem dX3_init_11 : decode cX3_init 11 = .ok (.aload_n 0, 1) := by decide +kernel
theorem dX3_init_12 : decode cX3_init 12 = .ok (.bipush 6, 2) := by decide +kernel
theorem dX3_init_14 : decode cX3_init 14 = .ok (.anewarray 15, 3) := by decide +kernel
theorem dX3_init_17 : decode cX3_init 17 = .ok (.putfield 17, 3) := by decide +kernel
theorem dX3_init_20 : decode cX3_init 20 = .ok (.aload_n 0, 1) := by decide +kernel
theorem dX3_init_21 : decode cX3_init 21 = .ok (.bipush 40, 2) := by decide +kernel
theorem dX3_init_23 : decode cX3_init 23 = .ok (.newarray .int, 2) := by decide +kernel
theorem dX3_init_25 : decode cX3_init 25 = .ok (.putfield 21, 3) := by decide +kernel
theorem dX3_init_28 : decode cX3_init 28 = .ok (.iconst 0, 1) := by decide +kernel
theorem dX3_init_29 : decode cX3_init 29 = .ok (.istore_n 1, 1) := by decide +kernel
theorem dX3_init_30 : decode cX3_init 30 = .ok (.iload_n 1, 1) := by decide +kernel
theorem dX3_init_31 : decode cX3_init 31 = .ok (.aload_n 0, 1) := by decide +kernel
theorem dX3_init_32 : decode cX3_init 32 = .ok (.getfield 17, 3) := by decide +kernel
theorem dX3_init_35 : decode cX3_init 35 = .ok (.arraylength, 1) := by decide +kernel
theorem dX3_init_36 : decode cX3_init 36 = .ok (.if_icmp .ge 22, 3) := by decide +kernel
theorem dX3_init_39 : decode cX3_init 39 = .ok (.aload_n 0, 1) := by decide +kernel
theorem dX3_init_40 : decode cX3_init 40 = .ok (.getfield 17, 3) := by decide +kernel
theorem dX3_init_43 : decode cX3_init 43 = .ok (.iload_n 1, 1) := by decide +kernel
theorem dX3_init_44 : decode cX3_init 44 = .ok (.new 15, 3) := by decide +kernel
theorem dX3_init_47 : decode cX3_init 47 = .ok (.dup, 1) := by decide +kernel
theorem dX3_init_48 : decode cX3_init 48 = .ok (.invokespecial 24, 3) := by decide +kernel
theorem dX3_init_51 : decode cX3_init 51 = .ok (.aastore, 1) := by decide +kernel
theorem dX3_init_52 : decode cX3_init 52 = .ok (.iinc 1 1, 3) := by decide +kernel
theorem dX3_init_55 : decode cX3_init 55 = .ok (.goto (-25), 3) := by decide +kernel
theorem dX3_init_58 : decode cX3_init 58 = .ok (.return_, 1) := by decide +kernel
theorem dX3_takeFrom_0 : decode cX3_takeFrom 0 = .ok (.aload_n 1, 1) := by decide +kernel
theorem dX3_takeFrom_1 : decode cX3_takeFrom 1 = .ok (.getfield 9, 3) := by decide +kernel
theorem dX3_takeFrom_4 : decode cX3_takeFrom 4 = .ok (.iconst 0, 1) := by decide +kernel
theorem dX3_takeFrom_5 : decode cX3_takeFrom 5 = .ok (.aload_n 0, 1) := by decide +kernel
theorem dX3_takeFrom_6 : decode cX3_takeFrom 6 = .ok (.getfield 9, 3) := by decide +kernel
theorem dX3_takeFrom_9 : decode cX3_takeFrom 9 = .ok (.iconst 0, 1) := by decide +kernel
theorem dX3_takeFrom_10 : decode cX3_takeFrom 10 = .ok (.iconst 4, 1) := by decide +kernel
theorem dX3_takeFrom_11 : decode cX3_takeFrom 11 = .ok (.invokestatic 25, 3) := by decide +kernel
theorem dX3_takeFrom_14 : decode cX3_takeFrom 14 = .ok (.aload_n 1, 1) := by decide +kernel
theorem dX3_takeFrom_15 : decode cX3_takeFrom 15 = .ok (.getfield 21, 3) := by decide +kernel
theorem dX3_takeFrom_18 : decode cX3_takeFrom 18 = .ok (.iconst 0, 1) := by decide +kernel
theorem dX3_takeFrom_19 : decode cX3_takeFrom 19 = .ok (.aload_n 0, 1) := by decide +kernel
theorem dX3_takeFrom_20 : decode cX3_takeFrom 20 = .ok (.getfield 21, 3) := by decide +kernel
theorem dX3_takeFrom_23 : decode cX3_takeFrom 23 = .ok (.iconst 0, 1) := by decide +kernel
theorem dX3_takeFrom_24 : decode cX3_takeFrom 24 = .ok (.bipush 40, 2) := by decide +kernel
theorem dX3_takeFrom_26 : decode cX3_takeFrom 26 = .ok (.invokestatic 25, 3) := by decide +kernel
theorem dX3_takeFrom_29 : decode cX3_takeFrom 29 = .ok (.iconst 0, 1) := by decide +kernel
theorem dX3_takeFrom_30 : decode cX3_takeFrom 30 = .ok (.istore_n 2, 1) := by decide +kernel
theorem dX3_takeFrom_31 : decode cX3_takeFrom 31 = .ok (.iload_n 2, 1) := by decide +kernel
theorem dX3_takeFrom_32 : decode cX3_takeFrom 32 = .ok (.aload_n 0, 1) := by decide +kernel
theorem dX3_takeFrom_33 : decode cX3_takeFrom 33 = .ok (.getfield 17, 3) := by decide +kernel
theorem dX3_takeFrom_36 : decode cX3_takeFrom 36 = .ok (.arraylength, 1) := by decide +kernel
theorem dX3_takeFrom_37 : decode cX3_takeFrom 37 = .ok (.if_icmp .ge 24, 3) := by decide +kernel
theorem dX3_takeFrom_40 : decode cX3_takeFrom 40 = .ok (.aload_n 0, 1) := by decide +kernel
theorem dX3_takeFrom_41 : decode cX3_takeFrom 41 = .ok (.getfield 17, 3) := by decide +kernel
theorem dX3_takeFrom_44 : decode cX3_takeFrom 44 = .ok (.iload_n 2, 1) := by decide +kernel
theorem dX3_takeFrom_45 : decode cX3_takeFrom 45 = .ok (.aaload, 1) := by decide +kernel
theorem dX3_takeFrom_46 : decode cX3_takeFrom 46 = .ok (.aload_n 1, 1) := by decide +kernel
theorem dX3_takeFrom_47 : decode cX3_takeFrom 47 = .ok (.getfield 17, 3) := by decide +kernel
theorem dX3_takeFrom_50 : decode cX3_takeFrom 50 = .ok (.iload_n 2, 1) := by decide +kernel
theorem dX3_takeFrom_51 : decode cX3_takeFrom 51 = .ok (.aaload, 1) := by decide +kernel
theorem dX3_takeFrom_52 : decode cX3_takeFrom 52 = .ok (.invokevirtual 31, 3) := by decide +kernel
theorem dX3_takeFrom_55 : decode cX3_takeFrom 55 = .ok (.iinc 2 1, 3) := by decide +kernel
theorem dX3_takeFrom_58 : decode cX3_takeFrom 58 = .ok (.goto (-27), 3) := by decide +kernel
theorem dX3_takeFrom_61 : decode cX3_takeFrom 61 = .ok (.aload_n 0, 1) := by decide +kernel
theorem dX3_takeFrom_62 : decode cX3_takeFrom 62 = .ok (.aload_n 1, 1) := by decide +kernel
theorem dX3_takeFrom_63 : decode cX3_takeFrom 63 = .ok (.getfield 35, 3) := by decide +kernel
theorem dX3_takeFrom_66 : decode cX3_takeFrom 66 = .ok (.putfield 35, 3) := by decide +kernel
theorem dX3_takeFrom_69 : decode cX3_takeFrom 69 = .ok (.aload_n 0, 1) := by decide +kernel
theorem dX3_takeFrom_70 : decode cX3_takeFrom 70 = .ok (.aload_n 1, 1) := by decide +kernel
theorem dX3_takeFrom_71 : decode cX3_takeFrom 71 = .ok (.getfield 39, 3) := by decide +kernel
theorem dX3_takeFrom_74 : decode cX3_takeFrom 74 = .ok (.putfield 39, 3) := by decide +kernel
theorem dX3_takeFrom_77 : decode cX3_takeFrom 77 = .ok (.aload_n 0, 1) := by decide +kernel
theorem dX3_takeFrom_78 : decode cX3_takeFrom 78 = .ok (.aload_n 1, 1) := by decide +kernel
theorem dX3_takeFrom_79 : decode cX3_takeFrom 79 = .ok (.getfield 42, 3) := by decide +kernel
theorem dX3_takeFrom_82 : decode cX3_takeFrom 82 = .ok (.putfield 42, 3) := by decide +kernel
theorem dX3_takeFrom_85 : decode cX3_takeFrom 85 = .ok (.aload_n 0, 1) := by decide +kernel
theorem dX3_takeFrom_86 : decode cX3_takeFrom 86 = .ok (.aload_n 1, 1) := by decide +kernel
theorem dX3_takeFrom_87 : decode cX3_takeFrom 87 = .ok (.getfield 45, 3) := by decide +kernel
theorem dX3_takeFrom_90 : decode cX3_takeFrom 90 = .ok (.putfield 45, 3) := by decide +kernel
theorem dX3_takeFrom_93 : decode cX3_takeFrom 93 = .ok (.aload_n 0, 1) := by decide +kernel
theorem dX3_takeFrom_94 : decode cX3_takeFrom 94 = .ok (.aload_n 1, 1) := by decide +kernel
theorem dX3_takeFrom_95 : decode cX3_takeFrom 95 = .ok (.getfield 48, 3) := by decide +kernel
theorem dX3_takeFrom_98 : decode cX3_takeFrom 98 = .ok (.putfield 48, 3) := by decide +kernel
theorem dX3_takeFrom_101 : decode cX3_takeFrom 101 = .ok (.return_, 1) := by decide +kernel
theorem dX3_isEmpty_0 : decode cX3_isEmpty 0 = .ok (.aload_n 0, 1) := by decide +kernel
theorem dX3_isEmpty_1 : decode cX3_isEmpty 1 = .ok (.getfield 35, 3) := by decide +kernel
theorem dX3_isEmpty_4 : decode cX3_isEmpty 4 = .ok (.ifCond .ne 7, 3) := by decide +kernel
theorem dX3_isEmpty_7 : decode cX3_isEmpty 7 = .ok (.iconst 1, 1) := by decide +kernel
theorem dX3_isEmpty_8 : decode cX3_isEmpty 8 = .ok (.goto 4, 3) := by decide +kernel
theorem dX3_isEmpty_11 : decode cX3_isEmpty 11 = .ok (.iconst 0, 1) := by decide +kernel
theorem dX3_isEmpty_12 : decode cX3_isEmpty 12 = .ok (.ireturn, 1) := by decide +kernel
theorem dX3_isFull_0 : decode cX3_isFull 0 = .ok (.aload_n 0, 1) := by decide +kernel
theorem dX3_isFull_1 : decode cX3_isFull 1 = .ok (.getfield 45, 3) := by decide +kernel
theorem dX3_isFull_4 : decode cX3_isFull 4 = .ok (.bipush 40, 2) := by decide +kernel
theorem dX3_isFull_6 : decode cX3_isFull 6 = .ok (.if_icmp .lt 7, 3) := by decide +kernel
theorem dX3_isFull_9 : decode cX3_isFull 9 = .ok (.iconst 1, 1) := by decide +kernel
theorem dX3_isFull_10 : decode cX3_isFull 10 = .ok (.goto 4, 3) := by decide +kernel
theorem dX3_isFull_13 : decode cX3_isFull 13 = .ok (.iconst 0, 1) := by decide +kernel
theorem dX3_isFull_14 : decode cX3_isFull 14 = .ok (.ireturn, 1) := by decide +kernel
theorem dX3_kiteAt_0 : decode cX3_kiteAt 0 = .ok (.iload_n 1, 1) := by decide +kernel
theorem dX3_kiteAt_1 : decode cX3_kiteAt 1 = .ok (.ifCond .lt 29, 3) := by decide +kernel
theorem dX3_kiteAt_4 : decode cX3_kiteAt 4 = .ok (.iload_n 1, 1) := by decide +kernel
theorem dX3_kiteAt_5 : decode cX3_kiteAt 5 = .ok (.aload_n 0, 1) := by decide +kernel
theorem dX3_kiteAt_6 : decode cX3_kiteAt 6 = .ok (.getfield 35, 3) := by decide +kernel
theorem dX3_kiteAt_9 : decode cX3_kiteAt 9 = .ok (.if_icmp .ge 21, 3) := by decide +kernel
theorem dX3_kiteAt_12 : decode cX3_kiteAt 12 = .ok (.iload_n 1, 1) := by decide +kernel
theorem dX3_kiteAt_13 : decode cX3_kiteAt 13 = .ok (.aload_n 0, 1) := by decide +kernel
theorem dX3_kiteAt_14 : decode cX3_kiteAt 14 = .ok (.getfield 17, 3) := by decide +kernel
theorem dX3_kiteAt_17 : decode cX3_kiteAt 17 = .ok (.arraylength, 1) := by decide +kernel
theorem dX3_kiteAt_18 : decode cX3_kiteAt 18 = .ok (.if_icmp .ge 12, 3) := by decide +kernel
theorem dX3_kiteAt_21 : decode cX3_kiteAt 21 = .ok (.aload_n 0, 1) := by decide +kernel
theorem dX3_kiteAt_22 : decode cX3_kiteAt 22 = .ok (.getfield 17, 3) := by decide +kernel
theorem dX3_kiteAt_25 : decode cX3_kiteAt 25 = .ok (.iload_n 1, 1) := by decide +kernel
theorem dX3_kiteAt_26 : decode cX3_kiteAt 26 = .ok (.aaload, 1) := by decide +kernel
theorem dX3_kiteAt_27 : decode cX3_kiteAt 27 = .ok (.goto 4, 3) := by decide +kernel
theorem dX3_kiteAt_30 : decode cX3_kiteAt 30 = .ok (.aconst_null, 1) := by decide +kernel
theorem dX3_kiteAt_31 : decode cX3_kiteAt 31 = .ok (.areturn, 1) := by decide +kernel
theorem dX3_windIn_0 : decode cX3_windIn 0 = .ok (.aload_n 0, 1) := by decide +kernel
theorem dX3_windIn_1 : decode cX3_windIn 1 = .ok (.getfield 9, 3) := by decide +kernel
theorem dX3_windIn_4 : decode cX3_windIn 4 = .ok (.aload_n 0, 1) := by decide +kernel
theorem dX3_windIn_5 : decode cX3_windIn 5 = .ok (.getfield 42, 3) := by decide +kernel
theorem dX3_windIn_8 : decode cX3_windIn 8 = .ok (.iload_n 1, 1) := by decide +kernel
theorem dX3_windIn_9 : decode cX3_windIn 9 = .ok (.iadd, 1) := by decide +kernel
theorem dX3_windIn_10 : decode cX3_windIn 10 = .ok (.iconst 4, 1) := by decide +kernel
theorem dX3_windIn_11 : decode cX3_windIn 11 = .ok (.invokestatic 51, 3) := by decide +kernel
theorem dX3_windIn_14 : decode cX3_windIn 14 = .ok (.iaload, 1) := by decide +kernel
theorem dX3_windIn_15 : decode cX3_windIn 15 = .ok (.ireturn, 1) := by decide +kernel
theorem dX3_liftOf_0 : decode cX3_liftOf 0 = .ok (.aload_n 0, 1) := by decide +kernel
theorem dX3_liftOf_1 : decode cX3_liftOf 1 = .ok (.iload_n 1, 1) := by decide +kernel
theorem dX3_liftOf_2 : decode cX3_liftOf 2 = .ok (.invokevirtual 57, 3) := by decide +kernel
theorem dX3_liftOf_5 : decode cX3_liftOf 5 = .ok (.astore_n 3, 1) := by decide +kernel
theorem dX3_liftOf_6 : decode cX3_liftOf 6 = .ok (.aload_n 3, 1) := by decide +kernel
theorem dX3_liftOf_7 : decode cX3_liftOf 7 = .ok (.ifnonnull 7, 3) := by decide +kernel
theorem dX3_liftOf_10 : decode cX3_liftOf 10 = .ok (.iconst 0, 1) := by decide +kernel
theorem dX3_liftOf_11 : decode cX3_liftOf 11 = .ok (.goto 8, 3) := by decide +kernel
theorem dX3_liftOf_14 : decode cX3_liftOf 14 = .ok (.aload_n 3, 1) := by decide +kernel
theorem dX3_liftOf_15 : decode cX3_liftOf 15 = .ok (.iload_n 2, 1) := by decide +kernel
theorem dX3_liftOf_16 : decode cX3_liftOf 16 = .ok (.invokevirtual 61, 3) := by decide +kernel
theorem dX3_liftOf_19 : decode cX3_liftOf 19 = .ok (.ireturn, 1) := by decide +kernel
theorem dX3_crossLift_0 : decode cX3_crossLift 0 = .ok (.aload_n 0, 1) := by decide +kernel
theorem dX3_crossLift_1 : decode cX3_crossLift 1 = .ok (.iload_n 1, 1) := by decide +kernel
theorem dX3_crossLift_2 : decode cX3_crossLift 2 = .ok (.iload_n 3, 1) := by decide +kernel
theorem dX3_crossLift_3 : decode cX3_crossLift 3 = .ok (.invokevirtual 65, 3) := by decide +kernel
theorem dX3_crossLift_6 : decode cX3_crossLift 6 = .ok (.istore 4, 2) := by decide +kernel
theorem dX3_crossLift_8 : decode cX3_crossLift 8 = .ok (.aload_n 0, 1) := by decide +kernel
theorem dX3_crossLift_9 : decode cX3_crossLift 9 = .ok (.iload_n 2, 1) := by decide +kernel
theorem dX3_crossLift_10 : decode cX3_crossLift 10 = .ok (.iload_n 3, 1) := by decide +kernel
theorem dX3_crossLift_11 : decode cX3_crossLift 11 = .ok (.invokevirtual 65, 3) := by decide +kernel
theorem dX3_crossLift_14 : decode cX3_crossLift 14 = .ok (.istore 5, 2) := by decide +kernel
theorem dX3_crossLift_16 : decode cX3_crossLift 16 = .ok (.iload 4, 2) := by decide +kernel
theorem dX3_crossLift_18 : decode cX3_crossLift 18 = .ok (.ifCond .le 18, 3) := by decide +kernel
theorem dX3_crossLift_21 : decode cX3_crossLift 21 = .ok (.iload 5, 2) := by decide +kernel
theorem dX3_crossLift_23 : decode cX3_crossLift 23 = .ok (.ifCond .le 13, 3) := by decide +kernel
theorem dX3_crossLift_26 : decode cX3_crossLift 26 = .ok (.iload 4, 2) := by decide +kernel
theorem dX3_crossLift_28 : decode cX3_crossLift 28 = .ok (.iload 5, 2) := by decide +kernel
theorem dX3_crossLift_30 : decode cX3_crossLift 30 = .ok (.iadd, 1) := by decide +kernel
theorem dX3_crossLift_31 : decode cX3_crossLift 31 = .ok (.iconst 3, 1) := by decide +kernel
theorem dX3_crossLift_32 : decode cX3_crossLift 32 = .ok (.iadd, 1) := by decide +kernel
theorem dX3_crossLift_33 : decode cX3_crossLift 33 = .ok (.goto 8, 3) := by decide +kernel
theorem dX3_crossLift_36 : decode cX3_crossLift 36 = .ok (.iload 4, 2) := by decide +kernel
theorem dX3_crossLift_38 : decode cX3_crossLift 38 = .ok (.iload 5, 2) := by decide +kernel
theorem dX3_crossLift_40 : decode cX3_crossLift 40 = .ok (.iadd, 1) := by decide +kernel
theorem dX3_crossLift_41 : decode cX3_crossLift 41 = .ok (.ireturn, 1) := by decide +kernel
theorem dX3_flownSet_0 : decode cX3_flownSet 0 = .ok (.iconst 0, 1) := by decide +kernel
theorem dX3_flownSet_1 : decode cX3_flownSet 1 = .ok (.istore_n 1, 1) := by decide +kernel
theorem dX3_flownSet_2 : decode cX3_flownSet 2 = .ok (.iconst 0, 1) := by decide +kernel
theorem dX3_flownSet_3 : decode cX3_flownSet 3 = .ok (.istore_n 2, 1) := by decide +kernel
theorem dX3_flownSet_4 : decode cX3_flownSet 4 = .ok (.iload_n 2, 1) := by decide +kernel
theorem dX3_flownSet_5 : decode cX3_flownSet 5 = .ok (.aload_n 0, 1) := by decide +kernel
theorem dX3_flownSet_6 : decode cX3_flownSet 6 = .ok (.getfield 35, 3) := by decide +kernel
theorem dX3_flownSet_9 : decode cX3_flownSet 9 = .ok (.if_icmp .ge 36, 3) := by decide +kernel
theorem dX3_flownSet_12 : decode cX3_flownSet 12 = .ok (.aload_n 0, 1) := by decide +kernel
theorem dX3_flownSet_13 : decode cX3_flownSet 13 = .ok (.iload_n 2, 1) := by decide +kernel
theorem dX3_flownSet_14 : decode cX3_flownSet 14 = .ok (.invokevirtual 57, 3) := by decide +kernel
theorem dX3_flownSet_17 : decode cX3_flownSet 17 = .ok (.astore_n 3, 1) := by decide +kernel
theorem dX3_flownSet_18 : decode cX3_flownSet 18 = .ok (.iload_n 1, 1) := by decide +kernel
theorem dX3_flownSet_19 : decode cX3_flownSet 19 = .ok (.aload_n 3, 1) := by decide +kernel
theorem dX3_flownSet_20 : decode cX3_flownSet 20 = .ok (.ifnull 16, 3) := by decide +kernel
theorem dX3_flownSet_23 : decode cX3_flownSet 23 = .ok (.aload_n 3, 1) := by decide +kernel
theorem dX3_flownSet_24 : decode cX3_flownSet 24 = .ok (.invokevirtual 68, 3) := by decide +kernel
theorem dX3_flownSet_27 : decode cX3_flownSet 27 = .ok (.ifCond .eq 9, 3) := by decide +kernel
theorem dX3_flownSet_30 : decode cX3_flownSet 30 = .ok (.iconst 1, 1) := by decide +kernel
theorem dX3_flownSet_31 : decode cX3_flownSet 31 = .ok (.iload_n 2, 1) := by decide +kernel
theorem dX3_flownSet_32 : decode cX3_flownSet 32 = .ok (.ishl, 1) := by decide +kernel
theorem dX3_flownSet_33 : decode cX3_flownSet 33 = .ok (.goto 4, 3) := by decide +kernel
theorem dX3_flownSet_36 : decode cX3_flownSet 36 = .ok (.iconst 0, 1) := by decide +kernel
theorem dX3_flownSet_37 : decode cX3_flownSet 37 = .ok (.ior, 1) := by decide +kernel
theorem dX3_flownSet_38 : decode cX3_flownSet 38 = .ok (.istore_n 1, 1) := by decide +kernel
theorem dX3_flownSet_39 : decode cX3_flownSet 39 = .ok (.iinc 2 1, 3) := by decide +kernel
theorem dX3_flownSet_42 : decode cX3_flownSet 42 = .ok (.goto (-38), 3) := by decide +kernel
theorem dX3_flownSet_45 : decode cX3_flownSet 45 = .ok (.iload_n 1, 1) := by decide +kernel
theorem dX3_flownSet_46 : decode cX3_flownSet 46 = .ok (.ireturn, 1) := by decide +kernel
theorem dX3_liftedSet_0 : decode cX3_liftedSet 0 = .ok (.iconst 0, 1) := by decide +kernel
theorem dX3_liftedSet_1 : decode cX3_liftedSet 1 = .ok (.istore_n 1, 1) := by decide +kernel
theorem dX3_liftedSet_2 : decode cX3_liftedSet 2 = .ok (.iconst 0, 1) := by decide +kernel
theorem dX3_liftedSet_3 : decode cX3_liftedSet 3 = .ok (.istore_n 2, 1) := by decide +kernel
theorem dX3_liftedSet_4 : decode cX3_liftedSet 4 = .ok (.iload_n 2, 1) := by decide +kernel
theorem dX3_liftedSet_5 : decode cX3_liftedSet 5 = .ok (.aload_n 0, 1) := by decide +kernel
theorem dX3_liftedSet_6 : decode cX3_liftedSet 6 = .ok (.getfield 35, 3) := by decide +kernel
theorem dX3_liftedSet_9 : decode cX3_liftedSet 9 = .ok (.if_icmp .ge 36, 3) := by decide +kernel
theorem dX3_liftedSet_12 : decode cX3_liftedSet 12 = .ok (.aload_n 0, 1) := by decide +kernel
theorem dX3_liftedSet_13 : decode cX3_liftedSet 13 = .ok (.iload_n 2, 1) := by decide +kernel
theorem dX3_liftedSet_14 : decode cX3_liftedSet 14 = .ok (.invokevirtual 57, 3) := by decide +kernel
theorem dX3_liftedSet_17 : decode cX3_liftedSet 17 = .ok (.astore_n 3, 1) := by decide +kernel
theorem dX3_liftedSet_18 : decode cX3_liftedSet 18 = .ok (.iload_n 1, 1) := by decide +kernel
theorem dX3_liftedSet_19 : decode cX3_liftedSet 19 = .ok (.aload_n 3, 1) := by decide +kernel
theorem dX3_liftedSet_20 : decode cX3_liftedSet 20 = .ok (.ifnull 16, 3) := by decide +kernel
theorem dX3_liftedSet_23 : decode cX3_liftedSet 23 = .ok (.aload_n 3, 1) := by decide +kernel
theorem dX3_liftedSet_24 : decode cX3_liftedSet 24 = .ok (.getfield 72, 3) := by decide +kernel
theorem dX3_liftedSet_27 : decode cX3_liftedSet 27 = .ok (.ifCond .eq 9, 3) := by decide +kernel
theorem dX3_liftedSet_30 : decode cX3_liftedSet 30 = .ok (.iconst 1, 1) := by decide +kernel
theorem dX3_liftedSet_31 : decode cX3_liftedSet 31 = .ok (.iload_n 2, 1) := by decide +kernel
theorem dX3_liftedSet_32 : decode cX3_liftedSet 32 = .ok (.ishl, 1) := by decide +kernel
theorem dX3_liftedSet_33 : decode cX3_liftedSet 33 = .ok (.goto 4, 3) := by decide +kernel
theorem dX3_liftedSet_36 : decode cX3_liftedSet 36 = .ok (.iconst 0, 1) := by decide +kernel
theorem dX3_liftedSet_37 : decode cX3_liftedSet 37 = .ok (.ior, 1) := by decide +kernel
theorem dX3_liftedSet_38 : decode cX3_liftedSet 38 = .ok (.istore_n 1, 1) := by decide +kernel
theorem dX3_liftedSet_39 : decode cX3_liftedSet 39 = .ok (.iinc 2 1, 3) := by decide +kernel
theorem dX3_liftedSet_42 : decode cX3_liftedSet 42 = .ok (.goto (-38), 3) := by decide +kernel
theorem dX3_liftedSet_45 : decode cX3_liftedSet 45 = .ok (.iload_n 1, 1) := by decide +kernel
theorem dX3_liftedSet_46 : decode cX3_liftedSet 46 = .ok (.ireturn, 1) := by decide +kernel
theorem dX3_boxes_0 : decode cX3_boxes 0 = .ok (.iconst 0, 1) := by decide +kernel
theorem dX3_boxes_1 : decode cX3_boxes 1 = .ok (.istore_n 1, 1) := by decide +kernel
theorem dX3_boxes_2 : decode cX3_boxes 2 = .ok (.iconst 0, 1) := by decide +kernel
theorem dX3_boxes_3 : decode cX3_boxes 3 = .ok (.istore_n 2, 1) := by decide +kernel
theorem dX3_boxes_4 : decode cX3_boxes 4 = .ok (.iload_n 2, 1) := by decide +kernel
theorem dX3_boxes_5 : decode cX3_boxes 5 = .ok (.aload_n 0, 1) := by decide +kernel
theorem dX3_boxes_6 : decode cX3_boxes 6 = .ok (.getfield 35, 3) := by decide +kernel
theorem dX3_boxes_9 : decode cX3_boxes 9 = .ok (.if_icmp .ge 35, 3) := by decide +kernel
theorem dX3_boxes_12 : decode cX3_boxes 12 = .ok (.aload_n 0, 1) := by decide +kernel
theorem dX3_boxes_13 : decode cX3_boxes 13 = .ok (.iload_n 2, 1) := by decide +kernel
theorem dX3_boxes_14 : decode cX3_boxes 14 = .ok (.invokevirtual 57, 3) := by decide +kernel
theorem dX3_boxes_17 : decode cX3_boxes 17 = .ok (.astore_n 3, 1) := by decide +kernel
theorem dX3_boxes_18 : decode cX3_boxes 18 = .ok (.iload_n 1, 1) := by decide +kernel
theorem dX3_boxes_19 : decode cX3_boxes 19 = .ok (.aload_n 3, 1) := by decide +kernel
theorem dX3_boxes_20 : decode cX3_boxes 20 = .ok (.ifnull 15, 3) := by decide +kernel
theorem dX3_boxes_23 : decode cX3_boxes 23 = .ok (.aload_n 3, 1) := by decide +kernel
theorem dX3_boxes_24 : decode cX3_boxes 24 = .ok (.iconst 3, 1) := by decide +kernel
theorem dX3_boxes_25 : decode cX3_boxes 25 = .ok (.invokevirtual 76, 3) := by decide +kernel
theorem dX3_boxes_28 : decode cX3_boxes 28 = .ok (.ifCond .eq 7, 3) := by decide +kernel
theorem dX3_boxes_31 : decode cX3_boxes 31 = .ok (.iconst 1, 1) := by decide +kernel
theorem dX3_boxes_32 : decode cX3_boxes 32 = .ok (.goto 4, 3) := by decide +kernel
theorem dX3_boxes_35 : decode cX3_boxes 35 = .ok (.iconst 0, 1) := by decide +kernel
theorem dX3_boxes_36 : decode cX3_boxes 36 = .ok (.iadd, 1) := by decide +kernel
theorem dX3_boxes_37 : decode cX3_boxes 37 = .ok (.istore_n 1, 1) := by decide +kernel
theorem dX3_boxes_38 : decode cX3_boxes 38 = .ok (.iinc 2 1, 3) := by decide +kernel
theorem dX3_boxes_41 : decode cX3_boxes 41 = .ok (.goto (-37), 3) := by decide +kernel
theorem dX3_boxes_44 : decode cX3_boxes 44 = .ok (.iload_n 1, 1) := by decide +kernel
theorem dX3_boxes_45 : decode cX3_boxes 45 = .ok (.ireturn, 1) := by decide +kernel
theorem dX3_doFly_0 : decode cX3_doFly 0 = .ok (.aload_n 0, 1) := by decide +kernel
theorem dX3_doFly_1 : decode cX3_doFly 1 = .ok (.iload_n 1, 1) := by decide +kernel
theorem dX3_doFly_2 : decode cX3_doFly 2 = .ok (.invokevirtual 57, 3) := by decide +kernel
theorem dX3_doFly_5 : decode cX3_doFly 5 = .ok (.astore_n 2, 1) := by decide +kernel
theorem dX3_doFly_6 : decode cX3_doFly 6 = .ok (.aload_n 2, 1) := by decide +kernel
theorem dX3_doFly_7 : decode cX3_doFly 7 = .ok (.ifnull 17, 3) := by decide +kernel
theorem dX3_doFly_10 : decode cX3_doFly 10 = .ok (.aload_n 2, 1) := by decide +kernel
theorem dX3_doFly_11 : decode cX3_doFly 11 = .ok (.invokevirtual 68, 3) := by decide +kernel
theorem dX3_doFly_14 : decode cX3_doFly 14 = .ok (.ifCond .ne 10, 3) := by decide +kernel
theorem dX3_doFly_17 : decode cX3_doFly 17 = .ok (.aload_n 0, 1) := by decide +kernel
theorem dX3_doFly_18 : decode cX3_doFly 18 = .ok (.invokevirtual 80, 3) := by decide +kernel
theorem dX3_doFly_21 : decode cX3_doFly 21 = .ok (.ifCond .eq 4, 3) := by decide +kernel
theorem dX3_doFly_24 : decode cX3_doFly 24 = .ok (.return_, 1) := by decide +kernel
theorem dX3_doFly_25 : decode cX3_doFly 25 = .ok (.aload_n 2, 1) := by decide +kernel
theorem dX3_doFly_26 : decode cX3_doFly 26 = .ok (.aload_n 2, 1) := by decide +kernel
theorem dX3_doFly_27 : decode cX3_doFly 27 = .ok (.aload_n 0, 1) := by decide +kernel
theorem dX3_doFly_28 : decode cX3_doFly 28 = .ok (.iconst 0, 1) := by decide +kernel
theorem dX3_doFly_29 : decode cX3_doFly 29 = .ok (.invokevirtual 83, 3) := by decide +kernel
theorem dX3_doFly_32 : decode cX3_doFly 32 = .ok (.invokevirtual 86, 3) := by decide +kernel
theorem dX3_doFly_35 : decode cX3_doFly 35 = .ok (.putfield 89, 3) := by decide +kernel
theorem dX3_doFly_38 : decode cX3_doFly 38 = .ok (.aload_n 2, 1) := by decide +kernel
theorem dX3_doFly_39 : decode cX3_doFly 39 = .ok (.aload_n 2, 1) := by decide +kernel
theorem dX3_doFly_40 : decode cX3_doFly 40 = .ok (.aload_n 0, 1) := by decide +kernel
theorem dX3_doFly_41 : decode cX3_doFly 41 = .ok (.iconst 0, 1) := by decide +kernel
theorem dX3_doFly_42 : decode cX3_doFly 42 = .ok (.invokevirtual 83, 3) := by decide +kernel
theorem dX3_doFly_45 : decode cX3_doFly 45 = .ok (.invokevirtual 90, 3) := by decide +kernel
theorem dX3_doFly_48 : decode cX3_doFly 48 = .ok (.putfield 72, 3) := by decide +kernel
theorem dX3_doFly_51 : decode cX3_doFly 51 = .ok (.aload_n 0, 1) := by decide +kernel
theorem dX3_doFly_52 : decode cX3_doFly 52 = .ok (.dup, 1) := by decide +kernel
theorem dX3_doFly_53 : decode cX3_doFly 53 = .ok (.getfield 48, 3) := by decide +kernel
theorem dX3_doFly_56 : decode cX3_doFly 56 = .ok (.aload_n 2, 1) := by decide +kernel
theorem dX3_doFly_57 : decode cX3_doFly 57 = .ok (.getfield 89, 3) := by decide +kernel
theorem dX3_doFly_60 : decode cX3_doFly 60 = .ok (.iadd, 1) := by decide +kernel
theorem dX3_doFly_61 : decode cX3_doFly 61 = .ok (.putfield 48, 3) := by decide +kernel
theorem dX3_doFly_64 : decode cX3_doFly 64 = .ok (.aload_n 0, 1) := by decide +kernel
theorem dX3_doFly_65 : decode cX3_doFly 65 = .ok (.dup, 1) := by decide +kernel
theorem dX3_doFly_66 : decode cX3_doFly 66 = .ok (.getfield 42, 3) := by decide +kernel
theorem dX3_doFly_69 : decode cX3_doFly 69 = .ok (.iconst 1, 1) := by decide +kernel
theorem dX3_doFly_70 : decode cX3_doFly 70 = .ok (.iadd, 1) := by decide +kernel
theorem dX3_doFly_71 : decode cX3_doFly 71 = .ok (.putfield 42, 3) := by decide +kernel
theorem dX3_doFly_74 : decode cX3_doFly 74 = .ok (.aload_n 0, 1) := by decide +kernel
theorem dX3_doFly_75 : decode cX3_doFly 75 = .ok (.iconst 0, 1) := by decide +kernel
theorem dX3_doFly_76 : decode cX3_doFly 76 = .ok (.iload_n 1, 1) := by decide +kernel
theorem dX3_doFly_77 : decode cX3_doFly 77 = .ok (.invokevirtual 93, 3) := by decide +kernel
theorem dX3_doFly_80 : decode cX3_doFly 80 = .ok (.return_, 1) := by decide +kernel
theorem dX3_doPass_0 : decode cX3_doPass 0 = .ok (.aload_n 0, 1) := by decide +kernel
theorem dX3_doPass_1 : decode cX3_doPass 1 = .ok (.invokevirtual 80, 3) := by decide +kernel
theorem dX3_doPass_4 : decode cX3_doPass 4 = .ok (.ifCond .eq 4, 3) := by decide +kernel
theorem dX3_doPass_7 : decode cX3_doPass 7 = .ok (.return_, 1) := by decide +kernel
theorem dX3_doPass_8 : decode cX3_doPass 8 = .ok (.aload_n 0, 1) := by decide +kernel
theorem dX3_doPass_9 : decode cX3_doPass 9 = .ok (.dup, 1) := by decide +kernel
theorem dX3_doPass_10 : decode cX3_doPass 10 = .ok (.getfield 42, 3) := by decide +kernel
theorem dX3_doPass_13 : decode cX3_doPass 13 = .ok (.iconst 1, 1) := by decide +kernel
theorem dX3_doPass_14 : decode cX3_doPass 14 = .ok (.iadd, 1) := by decide +kernel
theorem dX3_doPass_15 : decode cX3_doPass 15 = .ok (.putfield 42, 3) := by decide +kernel
theorem dX3_doPass_18 : decode cX3_doPass 18 = .ok (.aload_n 0, 1) := by decide +kernel
theorem dX3_doPass_19 : decode cX3_doPass 19 = .ok (.iconst 1, 1) := by decide +kernel
theorem dX3_doPass_20 : decode cX3_doPass 20 = .ok (.iconst 0, 1) := by decide +kernel
theorem dX3_doPass_21 : decode cX3_doPass 21 = .ok (.invokevirtual 93, 3) := by decide +kernel
theorem dX3_doPass_24 : decode cX3_doPass 24 = .ok (.return_, 1) := by decide +kernel
theorem dX3_doTie_0 : decode cX3_doTie 0 = .ok (.aload_n 0, 1) := by decide +kernel
theorem dX3_doTie_1 : decode cX3_doTie 1 = .ok (.iload_n 1, 1) := by decide +kernel
theorem dX3_doTie_2 : decode cX3_doTie 2 = .ok (.invokevirtual 57, 3) := by decide +kernel
theorem dX3_doTie_5 : decode cX3_doTie 5 = .ok (.astore_n 2, 1) := by decide +kernel
theorem dX3_doTie_6 : decode cX3_doTie 6 = .ok (.aload_n 2, 1) := by decide +kernel
theorem dX3_doTie_7 : decode cX3_doTie 7 = .ok (.ifnull 10, 3) := by decide +kernel
theorem dX3_doTie_10 : decode cX3_doTie 10 = .ok (.aload_n 0, 1) := by decide +kernel
theorem dX3_doTie_11 : decode cX3_doTie 11 = .ok (.invokevirtual 80, 3) := by decide +kernel
theorem dX3_doTie_14 : decode cX3_doTie 14 = .ok (.ifCond .eq 4, 3) := by decide +kernel
theorem dX3_doTie_17 : decode cX3_doTie 17 = .ok (.return_, 1) := by decide +kernel
theorem dX3_doTie_18 : decode cX3_doTie 18 = .ok (.aload_n 2, 1) := by decide +kernel
theorem dX3_doTie_19 : decode cX3_doTie 19 = .ok (.dup, 1) := by decide +kernel
theorem dX3_doTie_20 : decode cX3_doTie 20 = .ok (.getfield 97, 3) := by decide +kernel
theorem dX3_doTie_23 : decode cX3_doTie 23 = .ok (.iconst 1, 1) := by decide +kernel
theorem dX3_doTie_24 : decode cX3_doTie 24 = .ok (.iadd, 1) := by decide +kernel
theorem dX3_doTie_25 : decode cX3_doTie 25 = .ok (.putfield 97, 3) := by decide +kernel
theorem dX3_doTie_28 : decode cX3_doTie 28 = .ok (.aload_n 0, 1) := by decide +kernel
theorem dX3_doTie_29 : decode cX3_doTie 29 = .ok (.iconst 2, 1) := by decide +kernel
theorem dX3_doTie_30 : decode cX3_doTie 30 = .ok (.iload_n 1, 1) := by decide +kernel
theorem dX3_doTie_31 : decode cX3_doTie 31 = .ok (.invokevirtual 93, 3) := by decide +kernel
theorem dX3_doTie_34 : decode cX3_doTie 34 = .ok (.return_, 1) := by decide +kernel
theorem dX3_doCut_0 : decode cX3_doCut 0 = .ok (.aload_n 0, 1) := by decide +kernel
theorem dX3_doCut_1 : decode cX3_doCut 1 = .ok (.iload_n 1, 1) := by decide +kernel
theorem dX3_doCut_2 : decode cX3_doCut 2 = .ok (.invokevirtual 57, 3) := by decide +kernel
theorem dX3_doCut_5 : decode cX3_doCut 5 = .ok (.astore_n 2, 1) := by decide +kernel
theorem dX3_doCut_6 : decode cX3_doCut 6 = .ok (.aload_n 2, 1) := by decide +kernel
theorem dX3_doCut_7 : decode cX3_doCut 7 = .ok (.ifnull 10, 3) := by decide +kernel
theorem dX3_doCut_10 : decode cX3_doCut 10 = .ok (.aload_n 0, 1) := by decide +kernel
theorem dX3_doCut_11 : decode cX3_doCut 11 = .ok (.invokevirtual 80, 3) := by decide +kernel
theorem dX3_doCut_14 : decode cX3_doCut 14 = .ok (.ifCond .eq 4, 3) := by decide +kernel
theorem dX3_doCut_17 : decode cX3_doCut 17 = .ok (.return_, 1) := by decide +kernel
theorem dX3_doCut_18 : decode cX3_doCut 18 = .ok (.aload_n 2, 1) := by decide +kernel
theorem dX3_doCut_19 : decode cX3_doCut 19 = .ok (.dup, 1) := by decide +kernel
theorem dX3_doCut_20 : decode cX3_doCut 20 = .ok (.getfield 97, 3) := by decide +kernel
theorem dX3_doCut_23 : decode cX3_doCut 23 = .ok (.iconst 1, 1) := by decide +kernel
theorem dX3_doCut_24 : decode cX3_doCut 24 = .ok (.isub, 1) := by decide +kernel
theorem dX3_doCut_25 : decode cX3_doCut 25 = .ok (.putfield 97, 3) := by decide +kernel
theorem dX3_doCut_28 : decode cX3_doCut 28 = .ok (.aload_n 0, 1) := by decide +kernel
theorem dX3_doCut_29 : decode cX3_doCut 29 = .ok (.iconst 3, 1) := by decide +kernel
theorem dX3_doCut_30 : decode cX3_doCut 30 = .ok (.iload_n 1, 1) := by decide +kernel
theorem dX3_doCut_31 : decode cX3_doCut 31 = .ok (.invokevirtual 93, 3) := by decide +kernel
theorem dX3_doCut_34 : decode cX3_doCut 34 = .ok (.return_, 1) := by decide +kernel
theorem dX3_note_0 : decode cX3_note 0 = .ok (.aload_n 0, 1) := by decide +kernel
theorem dX3_note_1 : decode cX3_note 1 = .ok (.getfield 45, 3) := by decide +kernel
theorem dX3_note_4 : decode cX3_note 4 = .ok (.ifCond .lt 40, 3) := by decide +kernel
theorem dX3_note_7 : decode cX3_note 7 = .ok (.aload_n 0, 1) := by decide +kernel
theorem dX3_note_8 : decode cX3_note 8 = .ok (.getfield 45, 3) := by decide +kernel
theorem dX3_note_11 : decode cX3_note 11 = .ok (.aload_n 0, 1) := by decide +kernel
theorem dX3_note_12 : decode cX3_note 12 = .ok (.getfield 21, 3) := by decide +kernel
theorem dX3_note_15 : decode cX3_note 15 = .ok (.arraylength, 1) := by decide +kernel
theorem dX3_note_16 : decode cX3_note 16 = .ok (.if_icmp .ge 28, 3) := by decide +kernel
theorem dX3_note_19 : decode cX3_note 19 = .ok (.aload_n 0, 1) := by decide +kernel
theorem dX3_note_20 : decode cX3_note 20 = .ok (.getfield 21, 3) := by decide +kernel
theorem dX3_note_23 : decode cX3_note 23 = .ok (.aload_n 0, 1) := by decide +kernel
theorem dX3_note_24 : decode cX3_note 24 = .ok (.getfield 45, 3) := by decide +kernel
theorem dX3_note_27 : decode cX3_note 27 = .ok (.bipush 8, 2) := by decide +kernel
theorem dX3_note_29 : decode cX3_note 29 = .ok (.iload_n 1, 1) := by decide +kernel
theorem dX3_note_30 : decode cX3_note 30 = .ok (.imul, 1) := by decide +kernel
theorem dX3_note_31 : decode cX3_note 31 = .ok (.iload_n 2, 1) := by decide +kernel
theorem dX3_note_32 : decode cX3_note 32 = .ok (.iadd, 1) := by decide +kernel
theorem dX3_note_33 : decode cX3_note 33 = .ok (.iastore, 1) := by decide +kernel
theorem dX3_note_34 : decode cX3_note 34 = .ok (.aload_n 0, 1) := by decide +kernel
theorem dX3_note_35 : decode cX3_note 35 = .ok (.dup, 1) := by decide +kernel
theorem dX3_note_36 : decode cX3_note 36 = .ok (.getfield 45, 3) := by decide +kernel
theorem dX3_note_39 : decode cX3_note 39 = .ok (.iconst 1, 1) := by decide +kernel
theorem dX3_note_40 : decode cX3_note 40 = .ok (.iadd, 1) := by decide +kernel
theorem dX3_note_41 : decode cX3_note 41 = .ok (.putfield 45, 3) := by decide +kernel
theorem dX3_note_44 : decode cX3_note 44 = .ok (.return_, 1) := by decide +kernel
theorem dX3_undoLatest_0 : decode cX3_undoLatest 0 = .ok (.aload_n 0, 1) := by decide +kernel
theorem dX3_undoLatest_1 : decode cX3_undoLatest 1 = .ok (.getfield 45, 3) := by decide +kernel
theorem dX3_undoLatest_4 : decode cX3_undoLatest 4 = .ok (.ifCond .le 15, 3) := by decide +kernel
theorem dX3_undoLatest_7 : decode cX3_undoLatest 7 = .ok (.aload_n 0, 1) := by decide +kernel
theorem dX3_undoLatest_8 : decode cX3_undoLatest 8 = .ok (.getfield 45, 3) := by decide +kernel
theorem dX3_undoLatest_11 : decode cX3_undoLatest 11 = .ok (.aload_n 0, 1) := by decide +kernel
theorem dX3_undoLatest_12 : decode cX3_undoLatest 12 = .ok (.getfield 21, 3) := by decide +kernel
theorem dX3_undoLatest_15 : decode cX3_undoLatest 15 = .ok (.arraylength, 1) := by decide +kernel
theorem dX3_undoLatest_16 : decode cX3_undoLatest 16 = .ok (.if_icmp .le 4, 3) := by decide +kernel
theorem dX3_undoLatest_19 : decode cX3_undoLatest 19 = .ok (.return_, 1) := by decide +kernel
theorem dX3_undoLatest_20 : decode cX3_undoLatest 20 = .ok (.aload_n 0, 1) := by decide +kernel
theorem dX3_undoLatest_21 : decode cX3_undoLatest 21 = .ok (.dup, 1) := by decide +kernel
theorem dX3_undoLatest_22 : decode cX3_undoLatest 22 = .ok (.getfield 45, 3) := by decide +kernel
theorem dX3_undoLatest_25 : decode cX3_undoLatest 25 = .ok (.iconst 1, 1) := by decide +kernel
theorem dX3_undoLatest_26 : decode cX3_undoLatest 26 = .ok (.isub, 1) := by decide +kernel
theorem dX3_undoLatest_27 : decode cX3_undoLatest 27 = .ok (.putfield 45, 3) := by decide +kernel
theorem dX3_undoLatest_30 : decode cX3_undoLatest 30 = .ok (.aload_n 0, 1) := by decide +kernel
theorem dX3_undoLatest_31 : decode cX3_undoLatest 31 = .ok (.getfield 21, 3) := by decide +kernel
theorem dX3_undoLatest_34 : decode cX3_undoLatest 34 = .ok (.aload_n 0, 1) := by decide +kernel
theorem dX3_undoLatest_35 : decode cX3_undoLatest 35 = .ok (.getfield 45, 3) := by decide +kernel
theorem dX3_undoLatest_38 : decode cX3_undoLatest 38 = .ok (.iaload, 1) := by decide +kernel
theorem dX3_undoLatest_39 : decode cX3_undoLatest 39 = .ok (.bipush 8, 2) := by decide +kernel
theorem dX3_undoLatest_41 : decode cX3_undoLatest 41 = .ok (.idiv, 1) := by decide +kernel
theorem dX3_undoLatest_42 : decode cX3_undoLatest 42 = .ok (.istore_n 1, 1) := by decide +kernel
theorem dX3_undoLatest_43 : decode cX3_undoLatest 43 = .ok (.aload_n 0, 1) := by decide +kernel
theorem dX3_undoLatest_44 : decode cX3_undoLatest 44 = .ok (.aload_n 0, 1) := by decide +kernel
theorem dX3_undoLatest_45 : decode cX3_undoLatest 45 = .ok (.getfield 21, 3) := by decide +kernel
theorem dX3_undoLatest_48 : decode cX3_undoLatest 48 = .ok (.aload_n 0, 1) := by decide +kernel
theorem dX3_undoLatest_49 : decode cX3_undoLatest 49 = .ok (.getfield 45, 3) := by decide +kernel
theorem dX3_undoLatest_52 : decode cX3_undoLatest 52 = .ok (.iaload, 1) := by decide +kernel
theorem dX3_undoLatest_53 : decode cX3_undoLatest 53 = .ok (.bipush 8, 2) := by decide +kernel
theorem dX3_undoLatest_55 : decode cX3_undoLatest 55 = .ok (.irem, 1) := by decide +kernel
theorem dX3_undoLatest_56 : decode cX3_undoLatest 56 = .ok (.invokevirtual 57, 3) := by decide +kernel
theorem dX3_undoLatest_59 : decode cX3_undoLatest 59 = .ok (.astore_n 2, 1) := by decide +kernel
theorem dX3_undoLatest_60 : decode cX3_undoLatest 60 = .ok (.iload_n 1, 1) := by decide +kernel
theorem dX3_undoLatest_61 : decode cX3_undoLatest 61 = .ok (.ifCond .eq 8, 3) := by decide +kernel
theorem dX3_undoLatest_64 : decode cX3_undoLatest 64 = .ok (.iload_n 1, 1) := by decide +kernel
theorem dX3_undoLatest_65 : decode cX3_undoLatest 65 = .ok (.iconst 1, 1) := by decide +kernel
theorem dX3_undoLatest_66 : decode cX3_undoLatest 66 = .ok (.if_icmp .ne 13, 3) := by decide +kernel
theorem dX3_undoLatest_69 : decode cX3_undoLatest 69 = .ok (.aload_n 0, 1) := by decide +kernel
theorem dX3_undoLatest_70 : decode cX3_undoLatest 70 = .ok (.dup, 1) := by decide +kernel
theorem dX3_undoLatest_71 : decode cX3_undoLatest 71 = .ok (.getfield 42, 3) := by decide +kernel
theorem dX3_undoLatest_74 : decode cX3_undoLatest 74 = .ok (.iconst 1, 1) := by decide +kernel
theorem dX3_undoLatest_75 : decode cX3_undoLatest 75 = .ok (.isub, 1) := by decide +kernel
theorem dX3_undoLatest_76 : decode cX3_undoLatest 76 = .ok (.putfield 42, 3) := by decide +kernel
theorem dX3_undoLatest_79 : decode cX3_undoLatest 79 = .ok (.aload_n 2, 1) := by decide +kernel
theorem dX3_undoLatest_80 : decode cX3_undoLatest 80 = .ok (.ifnonnull 4, 3) := by decide +kernel
theorem dX3_undoLatest_83 : decode cX3_undoLatest 83 = .ok (.return_, 1) := by decide +kernel
theorem dX3_undoLatest_84 : decode cX3_undoLatest 84 = .ok (.iload_n 1, 1) := by decide +kernel
theorem dX3_undoLatest_85 : decode cX3_undoLatest 85 = .ok (.ifCond .ne 30, 3) := by decide +kernel
theorem dX3_undoLatest_88 : decode cX3_undoLatest 88 = .ok (.aload_n 0, 1) := by decide +kernel
theorem dX3_undoLatest_89 : decode cX3_undoLatest 89 = .ok (.dup, 1) := by decide +kernel
theorem dX3_undoLatest_90 : decode cX3_undoLatest 90 = .ok (.getfield 48, 3) := by decide +kernel
theorem dX3_undoLatest_93 : decode cX3_undoLatest 93 = .ok (.aload_n 2, 1) := by decide +kernel
theorem dX3_undoLatest_94 : decode cX3_undoLatest 94 = .ok (.getfield 89, 3) := by decide +kernel
theorem dX3_undoLatest_97 : decode cX3_undoLatest 97 = .ok (.isub, 1) := by decide +kernel
theorem dX3_undoLatest_98 : decode cX3_undoLatest 98 = .ok (.putfield 48, 3) := by decide +kernel
theorem dX3_undoLatest_101 : decode cX3_undoLatest 101 = .ok (.aload_n 2, 1) := by decide +kernel
theorem dX3_undoLatest_102 : decode cX3_undoLatest 102 = .ok (.bipush (-9), 2) := by decide +kernel
theorem dX3_undoLatest_104 : decode cX3_undoLatest 104 = .ok (.putfield 89, 3) := by decide +kernel
theorem dX3_undoLatest_107 : decode cX3_undoLatest 107 = .ok (.aload_n 2, 1) := by decide +kernel
theorem dX3_undoLatest_108 : decode cX3_undoLatest 108 = .ok (.iconst 0, 1) := by decide +kernel
theorem dX3_undoLatest_109 : decode cX3_undoLatest 109 = .ok (.putfield 72, 3) := by decide +kernel
theorem dX3_undoLatest_112 : decode cX3_undoLatest 112 = .ok (.goto 36, 3) := by decide +kernel
theorem dX3_undoLatest_115 : decode cX3_undoLatest 115 = .ok (.iload_n 1, 1) := by decide +kernel
theorem dX3_undoLatest_116 : decode cX3_undoLatest 116 = .ok (.iconst 2, 1) := by decide +kernel
theorem dX3_undoLatest_117 : decode cX3_undoLatest 117 = .ok (.if_icmp .ne 16, 3) := by decide +kernel
theorem dX3_undoLatest_120 : decode cX3_undoLatest 120 = .ok (.aload_n 2, 1) := by decide +kernel
theorem dX3_undoLatest_121 : decode cX3_undoLatest 121 = .ok (.dup, 1) := by decide +kernel
theorem dX3_undoLatest_122 : decode cX3_undoLatest 122 = .ok (.getfield 97, 3) := by decide +kernel
theorem dX3_undoLatest_125 : decode cX3_undoLatest 125 = .ok (.iconst 1, 1) := by decide +kernel
theorem dX3_undoLatest_126 : decode cX3_undoLatest 126 = .ok (.isub, 1) := by decide +kernel
theorem dX3_undoLatest_127 : decode cX3_undoLatest 127 = .ok (.putfield 97, 3) := by decide +kernel
theorem dX3_undoLatest_130 : decode cX3_undoLatest 130 = .ok (.goto 18, 3) := by decide +kernel
theorem dX3_undoLatest_133 : decode cX3_undoLatest 133 = .ok (.iload_n 1, 1) := by decide +kernel
theorem dX3_undoLatest_134 : decode cX3_undoLatest 134 = .ok (.iconst 3, 1) := by decide +kernel
theorem dX3_undoLatest_135 : decode cX3_undoLatest 135 = .ok (.if_icmp .ne 13, 3) := by decide +kernel
theorem dX3_undoLatest_138 : decode cX3_undoLatest 138 = .ok (.aload_n 2, 1) := by decide +kernel
theorem dX3_undoLatest_139 : decode cX3_undoLatest 139 = .ok (.dup, 1) := by decide +kernel
theorem dX3_undoLatest_140 : decode cX3_undoLatest 140 = .ok (.getfield 97, 3) := by decide +kernel
theorem dX3_undoLatest_143 : decode cX3_undoLatest 143 = .ok (.iconst 1, 1) := by decide +kernel
theorem dX3_undoLatest_144 : decode cX3_undoLatest 144 = .ok (.iadd, 1) := by decide +kernel
theorem dX3_undoLatest_145 : decode cX3_undoLatest 145 = .ok (.putfield 97, 3) := by decide +kernel
theorem dX3_undoLatest_148 : decode cX3_undoLatest 148 = .ok (.return_, 1) := by decide +kernel
theorem dX4_init_0 : decode cX4_init 0 = .ok (.aload_n 0, 1) := by decide +kernel
theorem dX4_init_1 : decode cX4_init 1 = .ok (.invokespecial 3, 3) := by decide +kernel
theorem dX4_init_4 : decode cX4_init 4 = .ok (.return_, 1) := by decide +kernel
theorem dX4_read_0 : decode cX4_read 0 = .ok (.aload_n 0, 1) := by decide +kernel
theorem dX4_read_1 : decode cX4_read 1 = .ok (.iconst 0, 1) := by decide +kernel
theorem dX4_read_2 : decode cX4_read 2 = .ok (.putfield 9, 3) := by decide +kernel
theorem dX4_read_5 : decode cX4_read 5 = .ok (.aload_n 0, 1) := by decide +kernel
theorem dX4_read_6 : decode cX4_read 6 = .ok (.aload_n 1, 1) := by decide +kernel
theorem dX4_read_7 : decode cX4_read 7 = .ok (.aload_n 2, 1) := by decide +kernel
theorem dX4_read_8 : decode cX4_read 8 = .ok (.invokevirtual 15, 3) := by decide +kernel
theorem dX4_read_11 : decode cX4_read 11 = .ok (.ifCond .eq 17, 3) := by decide +kernel
theorem dX4_read_14 : decode cX4_read 14 = .ok (.aload_n 0, 1) := by decide +kernel
theorem dX4_read_15 : decode cX4_read 15 = .ok (.aload_n 1, 1) := by decide +kernel
theorem dX4_read_16 : decode cX4_read 16 = .ok (.aload_n 2, 1) := by decide +kernel
theorem dX4_read_17 : decode cX4_read 17 = .ok (.invokevirtual 19, 3) := by decide +kernel
theorem dX4_read_20 : decode cX4_read 20 = .ok (.ifCond .eq 8, 3) := by decide +kernel
theorem dX4_read_23 : decode cX4_read 23 = .ok (.bipush (-9), 2) := by decide +kernel
theorem dX4_read_25 : decode cX4_read 25 = .ok (.goto 7, 3) := by decide +kernel
theorem dX4_read_28 : decode cX4_read 28 = .ok (.aload_n 0, 1) := by decide +kernel
theorem dX4_read_29 : decode cX4_read 29 = .ok (.getfield 9, 3) := by decide +kernel
theorem dX4_read_32 : decode cX4_read 32 = .ok (.ireturn, 1) := by decide +kernel
theorem dX4_readWinds_0 : decode cX4_readWinds 0 = .ok (.aload_n 0, 1) := by decide +kernel
theorem dX4_readWinds_1 : decode cX4_readWinds 1 = .ok (.aload_n 1, 1) := by decide +kernel
theorem dX4_readWinds_2 : decode cX4_readWinds 2 = .ok (.invokevirtual 22, 3) := by decide +kernel
theorem dX4_readWinds_5 : decode cX4_readWinds 5 = .ok (.aload_n 0, 1) := by decide +kernel
theorem dX4_readWinds_6 : decode cX4_readWinds 6 = .ok (.aload_n 1, 1) := by decide +kernel
theorem dX4_readWinds_7 : decode cX4_readWinds 7 = .ok (.invokevirtual 26, 3) := by decide +kernel
theorem dX4_readWinds_10 : decode cX4_readWinds 10 = .ok (.bipush 119, 2) := by decide +kernel
theorem dX4_readWinds_12 : decode cX4_readWinds 12 = .ok (.if_icmp .eq 5, 3) := by decide +kernel
theorem dX4_readWinds_15 : decode cX4_readWinds 15 = .ok (.iconst 0, 1) := by decide +kernel
theorem dX4_readWinds_16 : decode cX4_readWinds 16 = .ok (.ireturn, 1) := by decide +kernel
theorem dX4_readWinds_17 : decode cX4_readWinds 17 = .ok (.aload_n 0, 1) := by decide +kernel
theorem dX4_readWinds_18 : decode cX4_readWinds 18 = .ok (.dup, 1) := by decide +kernel
theorem dX4_readWinds_19 : decode cX4_readWinds 19 = .ok (.getfield 9, 3) := by decide +kernel
theorem dX4_readWinds_22 : decode cX4_readWinds 22 = .ok (.iconst 1, 1) := by decide +kernel
theorem dX4_readWinds_23 : decode cX4_readWinds 23 = .ok (.iadd, 1) := by decide +kernel
theorem dX4_readWinds_24 : decode cX4_readWinds 24 = .ok (.putfield 9, 3) := by decide +kernel
theorem dX4_readWinds_27 : decode cX4_readWinds 27 = .ok (.iconst 0, 1) := by decide +kernel
theorem dX4_readWinds_28 : decode cX4_readWinds 28 = .ok (.istore_n 3, 1) := by decide +kernel
theorem dX4_readWinds_29 : decode cX4_readWinds 29 = .ok (.iload_n 3, 1) := by decide +kernel
theorem dX4_readWinds_30 : decode cX4_readWinds 30 = .ok (.aload_n 2, 1) := by decide +kernel
theorem dX4_readWinds_31 : decode cX4_readWinds 31 = .ok (.getfield 30, 3) := by decide +kernel
theorem dX4_readWinds_34 : decode cX4_readWinds 34 = .ok (.arraylength, 1) := by decide +kernel
theorem dX4_readWinds_35 : decode cX4_readWinds 35 = .ok (.if_icmp .ge 34, 3) := by decide +kernel
theorem dX4_readWinds_38 : decode cX4_readWinds 38 = .ok (.aload_n 2, 1) := by decide +kernel
theorem dX4_readWinds_39 : decode cX4_readWinds 39 = .ok (.getfield 30, 3) := by decide +kernel
theorem dX4_readWinds_42 : decode cX4_readWinds 42 = .ok (.iload_n 3, 1) := by decide +kernel
theorem dX4_readWinds_43 : decode cX4_readWinds 43 = .ok (.aload_n 0, 1) := by decide +kernel
theorem dX4_readWinds_44 : decode cX4_readWinds 44 = .ok (.aload_n 1, 1) := by decide +kernel
theorem dX4_readWinds_45 : decode cX4_readWinds 45 = .ok (.iconst 0, 1) := by decide +kernel
theorem dX4_readWinds_46 : decode cX4_readWinds 46 = .ok (.bipush 9, 2) := by decide +kernel
theorem dX4_readWinds_48 : decode cX4_readWinds 48 = .ok (.invokevirtual 36, 3) := by decide +kernel
theorem dX4_readWinds_51 : decode cX4_readWinds 51 = .ok (.iastore, 1) := by decide +kernel
theorem dX4_readWinds_52 : decode cX4_readWinds 52 = .ok (.aload_n 2, 1) := by decide +kernel
theorem dX4_readWinds_53 : decode cX4_readWinds 53 = .ok (.getfield 30, 3) := by decide +kernel
theorem dX4_readWinds_56 : decode cX4_readWinds 56 = .ok (.iload_n 3, 1) := by decide +kernel
theorem dX4_readWinds_57 : decode cX4_readWinds 57 = .ok (.iaload, 1) := by decide +kernel
theorem dX4_readWinds_58 : decode cX4_readWinds 58 = .ok (.ifCond .ge 5, 3) := by decide +kernel
theorem dX4_readWinds_61 : decode cX4_readWinds 61 = .ok (.iconst 0, 1) := by decide +kernel
theorem dX4_readWinds_62 : decode cX4_readWinds 62 = .ok (.ireturn, 1) := by decide +kernel
theorem dX4_readWinds_63 : decode cX4_readWinds 63 = .ok (.iinc 3 1, 3) := by decide +kernel
theorem dX4_readWinds_66 : decode cX4_readWinds 66 = .ok (.goto (-37), 3) := by decide +kernel
theorem dX4_readWinds_69 : decode cX4_readWinds 69 = .ok (.aload_n 0, 1) := by decide +kernel
theorem dX4_readWinds_70 : decode cX4_readWinds 70 = .ok (.aload_n 1, 1) := by decide +kernel
theorem dX4_readWinds_71 : decode cX4_readWinds 71 = .ok (.iconst 0, 1) := by decide +kernel
theorem dX4_readWinds_72 : decode cX4_readWinds 72 = .ok (.bipush 9, 2) := by decide +kernel
theorem dX4_readWinds_74 : decode cX4_readWinds 74 = .ok (.invokevirtual 36, 3) := by decide +kernel
theorem dX4_readWinds_77 : decode cX4_readWinds 77 = .ok (.istore_n 3, 1) := by decide +kernel
theorem dX4_readWinds_78 : decode cX4_readWinds 78 = .ok (.iload_n 3, 1) := by decide +kernel
theorem dX4_readWinds_79 : decode cX4_readWinds 79 = .ok (.ifCond .ge 7, 3) := by decide +kernel
theorem dX4_readWinds_82 : decode cX4_readWinds 82 = .ok (.iload_n 3, 1) := by decide +kernel
theorem dX4_readWinds_83 : decode cX4_readWinds 83 = .ok (.goto 11, 3) := by decide +kernel
theorem dX4_readWinds_86 : decode cX4_readWinds 86 = .ok (.aload_n 0, 1) := by decide +kernel
theorem dX4_readWinds_87 : decode cX4_readWinds 87 = .ok (.aload_n 1, 1) := by decide +kernel
theorem dX4_readWinds_88 : decode cX4_readWinds 88 = .ok (.iconst 0, 1) := by decide +kernel
theorem dX4_readWinds_89 : decode cX4_readWinds 89 = .ok (.bipush 9, 2) := by decide +kernel
theorem dX4_readWinds_91 : decode cX4_readWinds 91 = .ok (.invokevirtual 36, 3) := by decide +kernel
theorem dX4_readWinds_94 : decode cX4_readWinds 94 = .ok (.istore 4, 2) := by decide +kernel
theorem dX4_readWinds_96 : decode cX4_readWinds 96 = .ok (.aload_n 2, 1) := by decide +kernel
theorem dX4_readWinds_97 : decode cX4_readWinds 97 = .ok (.bipush 10, 2) := by decide +kernel
theorem dX4_readWinds_99 : decode cX4_readWinds 99 = .ok (.iload_n 3, 1) := by decide +kernel
theorem dX4_readWinds_100 : decode cX4_readWinds 100 = .ok (.imul, 1) := by decide +kernel
theorem dX4_readWinds_101 : decode cX4_readWinds 101 = .ok (.iload 4, 2) := by decide +kernel
theorem dX4_readWinds_103 : decode cX4_readWinds 103 = .ok (.iadd, 1) := by decide +kernel
theorem dX4_readWinds_104 : decode cX4_readWinds 104 = .ok (.putfield 40, 3) := by decide +kernel
theorem dX4_readWinds_107 : decode cX4_readWinds 107 = .ok (.iload 4, 2) := by decide +kernel
theorem dX4_readWinds_109 : decode cX4_readWinds 109 = .ok (.ifCond .lt 7, 3) := by decide +kernel
theorem dX4_readWinds_112 : decode cX4_readWinds 112 = .ok (.iconst 1, 1) := by decide +kernel
theorem dX4_readWinds_113 : decode cX4_readWinds 113 = .ok (.goto 4, 3) := by decide +kernel
theorem dX4_readWinds_116 : decode cX4_readWinds 116 = .ok (.iconst 0, 1) := by decide +kernel
theorem dX4_readWinds_117 : decode cX4_readWinds 117 = .ok (.ireturn, 1) := by decide +kernel
theorem dX4_readKites_0 : decode cX4_readKites 0 = .ok (.aload_n 2, 1) := by decide +kernel
theorem dX4_readKites_1 : decode cX4_readKites 1 = .ok (.iconst 0, 1) := by decide +kernel
theorem dX4_readKites_2 : decode cX4_readKites 2 = .ok (.putfield 43, 3) := by decide +kernel
theorem dX4_readKites_5 : decode cX4_readKites 5 = .ok (.aload_n 0, 1) := by decide +kernel
theorem dX4_readKites_6 : decode cX4_readKites 6 = .ok (.aload_n 1, 1) := by decide +kernel
theorem dX4_readKites_7 : decode cX4_readKites 7 = .ok (.invokevirtual 22, 3) := by decide +kernel
theorem dX4_readKites_10 : decode cX4_readKites 10 = .ok (.iconst 0, 1) := by decide +kernel
theorem dX4_readKites_11 : decode cX4_readKites 11 = .ok (.istore_n 3, 1) := by decide +kernel
theorem dX4_readKites_12 : decode cX4_readKites 12 = .ok (.iload_n 3, 1) := by decide +kernel
theorem dX4_readKites_13 : decode cX4_readKites 13 = .ok (.aload_n 2, 1) := by decide +kernel
theorem dX4_readKites_14 : decode cX4_readKites 14 = .ok (.getfield 46, 3) := by decide +kernel
theorem dX4_readKites_17 : decode cX4_readKites 17 = .ok (.arraylength, 1) := by decide +kernel
theorem dX4_readKites_18 : decode cX4_readKites 18 = .ok (.if_icmp .ge 51, 3) := by decide +kernel
theorem dX4_readKites_21 : decode cX4_readKites 21 = .ok (.aload_n 0, 1) := by decide +kernel
theorem dX4_readKites_22 : decode cX4_readKites 22 = .ok (.getfield 9, 3) := by decide +kernel
theorem dX4_readKites_25 : decode cX4_readKites 25 = .ok (.aload_n 1, 1) := by decide +kernel
theorem dX4_readKites_26 : decode cX4_readKites 26 = .ok (.getfield 50, 3) := by decide +kernel
theorem dX4_readKites_29 : decode cX4_readKites 29 = .ok (.if_icmp .ge 40, 3) := by decide +kernel
theorem dX4_readKites_32 : decode cX4_readKites 32 = .ok (.aload_n 0, 1) := by decide +kernel
theorem dX4_readKites_33 : decode cX4_readKites 33 = .ok (.aload_n 1, 1) := by decide +kernel
theorem dX4_readKites_34 : decode cX4_readKites 34 = .ok (.aload_n 2, 1) := by decide +kernel
theorem dX4_readKites_35 : decode cX4_readKites 35 = .ok (.getfield 46, 3) := by decide +kernel
theorem dX4_readKites_38 : decode cX4_readKites 38 = .ok (.iload_n 3, 1) := by decide +kernel
theorem dX4_readKites_39 : decode cX4_readKites 39 = .ok (.aaload, 1) := by decide +kernel
theorem dX4_readKites_40 : decode cX4_readKites 40 = .ok (.invokevirtual 55, 3) := by decide +kernel
theorem dX4_readKites_43 : decode cX4_readKites 43 = .ok (.ifCond .ne 5, 3) := by decide +kernel
theorem dX4_readKites_46 : decode cX4_readKites 46 = .ok (.iconst 0, 1) := by decide +kernel
theorem dX4_readKites_47 : decode cX4_readKites 47 = .ok (.ireturn, 1) := by decide +kernel
theorem dX4_readKites_48 : decode cX4_readKites 48 = .ok (.aload_n 2, 1) := by decide +kernel
theorem dX4_readKites_49 : decode cX4_readKites 49 = .ok (.dup, 1) := by decide +kernel
theorem dX4_readKites_50 : decode cX4_readKites 50 = .ok (.getfield 43, 3) := by decide +kernel
theorem dX4_readKites_53 : decode cX4_readKites 53 = .ok (.iconst 1, 1) := by decide +kernel
theorem dX4_readKites_54 : decode cX4_readKites 54 = .ok (.iadd, 1) := by decide +kernel
theorem dX4_readKites_55 : decode cX4_readKites 55 = .ok (.putfield 43, 3) := by decide +kernel
theorem dX4_readKites_58 : decode cX4_readKites 58 = .ok (.aload_n 0, 1) := by decide +kernel
theorem dX4_readKites_59 : decode cX4_readKites 59 = .ok (.aload_n 1, 1) := by decide +kernel
theorem dX4_readKites_60 : decode cX4_readKites 60 = .ok (.invokevirtual 22, 3) := by decide +kernel
theorem dX4_readKites_63 : decode cX4_readKites 63 = .ok (.iinc 3 1, 3) := by decide +kernel
theorem dX4_readKites_66 : decode cX4_readKites 66 = .ok (.goto (-54), 3) := by decide +kernel
theorem dX4_readKites_69 : decode cX4_readKites 69 = .ok (.aload_n 2, 1) := by decide +kernel
theorem dX4_readKites_70 : decode cX4_readKites 70 = .ok (.getfield 43, 3) := by decide +kernel
theorem dX4_readKites_73 : decode cX4_readKites 73 = .ok (.ifCond .le 18, 3) := by decide +kernel
theorem dX4_readKites_76 : decode cX4_readKites 76 = .ok (.aload_n 0, 1) := by decide +kernel
theorem dX4_readKites_77 : decode cX4_readKites 77 = .ok (.getfield 9, 3) := by decide +kernel
theorem dX4_readKites_80 : decode cX4_readKites 80 = .ok (.aload_n 1, 1) := by decide +kernel
theorem dX4_readKites_81 : decode cX4_readKites 81 = .ok (.getfield 50, 3) := by decide +kernel
theorem dX4_readKites_84 : decode cX4_readKites 84 = .ok (.if_icmp .ne 7, 3) := by decide +kernel
theorem dX4_readKites_87 : decode cX4_readKites 87 = .ok (.iconst 1, 1) := by decide +kernel
theorem dX4_readKites_88 : decode cX4_readKites 88 = .ok (.goto 4, 3) := by decide +kernel
theorem dX4_readKites_91 : decode cX4_readKites 91 = .ok (.iconst 0, 1) := by decide +kernel
theorem dX4_readKites_92 : decode cX4_readKites 92 = .ok (.ireturn, 1) := by decide +kernel
theorem dX4_readKite_0 : decode cX4_readKite 0 = .ok (.aload_n 2, 1) := by decide +kernel
theorem dX4_readKite_1 : decode cX4_readKite 1 = .ok (.aload_n 0, 1) := by decide +kernel
theorem dX4_readKite_2 : decode cX4_readKite 2 = .ok (.aload_n 1, 1) := by decide +kernel
theorem dX4_readKite_3 : decode cX4_readKite 3 = .ok (.invokevirtual 26, 3) := by decide +kernel
theorem dX4_readKite_6 : decode cX4_readKite 6 = .ok (.invokestatic 59, 3) := by decide +kernel
theorem dX4_readKite_9 : decode cX4_readKite 9 = .ok (.putfield 63, 3) := by decide +kernel
theorem dX4_readKite_12 : decode cX4_readKite 12 = .ok (.aload_n 2, 1) := by decide +kernel
theorem dX4_readKite_13 : decode cX4_readKite 13 = .ok (.getfield 63, 3) := by decide +kernel
theorem dX4_readKite_16 : decode cX4_readKite 16 = .ok (.ifCond .ge 5, 3) := by decide +kernel
theorem dX4_readKite_19 : decode cX4_readKite 19 = .ok (.iconst 0, 1) := by decide +kernel
theorem dX4_readKite_20 : decode cX4_readKite 20 = .ok (.ireturn, 1) := by decide +kernel
theorem dX4_readKite_21 : decode cX4_readKite 21 = .ok (.aload_n 0, 1) := by decide +kernel
theorem dX4_readKite_22 : decode cX4_readKite 22 = .ok (.dup, 1) := by decide +kernel
theorem dX4_readKite_23 : decode cX4_readKite 23 = .ok (.getfield 9, 3) := by decide +kernel
theorem dX4_readKite_26 : decode cX4_readKite 26 = .ok (.iconst 1, 1) := by decide +kernel
theorem dX4_readKite_27 : decode cX4_readKite 27 = .ok (.iadd, 1) := by decide +kernel
theorem dX4_readKite_28 : decode cX4_readKite 28 = .ok (.putfield 9, 3) := by decide +kernel
theorem dX4_readKite_31 : decode cX4_readKite 31 = .ok (.aload_n 2, 1) := by decide +kernel
theorem dX4_readKite_32 : decode cX4_readKite 32 = .ok (.aload_n 0, 1) := by decide +kernel
theorem dX4_readKite_33 : decode cX4_readKite 33 = .ok (.aload_n 1, 1) := by decide +kernel
theorem dX4_readKite_34 : decode cX4_readKite 34 = .ok (.iconst 1, 1) := by decide +kernel
theorem dX4_readKite_35 : decode cX4_readKite 35 = .ok (.bipush 9, 2) := by decide +kernel
theorem dX4_readKite_37 : decode cX4_readKite 37 = .ok (.invokevirtual 36, 3) := by decide +kernel
theorem dX4_readKite_40 : decode cX4_readKite 40 = .ok (.putfield 68, 3) := by decide +kernel
theorem dX4_readKite_43 : decode cX4_readKite 43 = .ok (.aload_n 2, 1) := by decide +kernel
theorem dX4_readKite_44 : decode cX4_readKite 44 = .ok (.getfield 68, 3) := by decide +kernel
theorem dX4_readKite_47 : decode cX4_readKite 47 = .ok (.ifCond .ge 5, 3) := by decide +kernel
theorem dX4_readKite_50 : decode cX4_readKite 50 = .ok (.iconst 0, 1) := by decide +kernel
theorem dX4_readKite_51 : decode cX4_readKite 51 = .ok (.ireturn, 1) := by decide +kernel
theorem dX4_readKite_52 : decode cX4_readKite 52 = .ok (.aload_n 2, 1) := by decide +kernel
theorem dX4_readKite_53 : decode cX4_readKite 53 = .ok (.aload_n 0, 1) := by decide +kernel
theorem dX4_readKite_54 : decode cX4_readKite 54 = .ok (.aload_n 1, 1) := by decide +kernel
theorem dX4_readKite_55 : decode cX4_readKite 55 = .ok (.iconst 0, 1) := by decide +kernel
theorem dX4_readKite_56 : decode cX4_readKite 56 = .ok (.bipush 9, 2) := by decide +kernel
theorem dX4_readKite_58 : decode cX4_readKite 58 = .ok (.invokevirtual 36, 3) := by decide +kernel
theorem dX4_readKite_61 : decode cX4_readKite 61 = .ok (.putfield 71, 3) := by decide +kernel
theorem dX4_readKite_64 : decode cX4_readKite 64 = .ok (.aload_n 2, 1) := by decide +kernel
theorem dX4_readKite_65 : decode cX4_readKite 65 = .ok (.getfield 71, 3) := by decide +kernel
theorem dX4_readKite_68 : decode cX4_readKite 68 = .ok (.ifCond .ge 5, 3) := by decide +kernel
theorem dX4_readKite_71 : decode cX4_readKite 71 = .ok (.iconst 0, 1) := by decide +kernel
theorem dX4_readKite_72 : decode cX4_readKite 72 = .ok (.ireturn, 1) := by decide +kernel
theorem dX4_readKite_73 : decode cX4_readKite 73 = .ok (.aload_n 2, 1) := by decide +kernel
theorem dX4_readKite_74 : decode cX4_readKite 74 = .ok (.aload_n 0, 1) := by decide +kernel
theorem dX4_readKite_75 : decode cX4_readKite 75 = .ok (.aload_n 1, 1) := by decide +kernel
theorem dX4_readKite_76 : decode cX4_readKite 76 = .ok (.iconst 0, 1) := by decide +kernel
theorem dX4_readKite_77 : decode cX4_readKite 77 = .ok (.iconst 3, 1) := by decide +kernel
theorem dX4_readKite_78 : decode cX4_readKite 78 = .ok (.invokevirtual 36, 3) := by decide +kernel
theorem dX4_readKite_81 : decode cX4_readKite 81 = .ok (.putfield 74, 3) := by decide +kernel
theorem dX4_readKite_84 : decode cX4_readKite 84 = .ok (.aload_n 2, 1) := by decide +kernel
theorem dX4_readKite_85 : decode cX4_readKite 85 = .ok (.getfield 74, 3) := by decide +kernel
theorem dX4_readKite_88 : decode cX4_readKite 88 = .ok (.ifCond .lt 7, 3) := by decide +kernel
theorem dX4_readKite_91 : decode cX4_readKite 91 = .ok (.iconst 1, 1) := by decide +kernel
theorem dX4_readKite_92 : decode cX4_readKite 92 = .ok (.goto 4, 3) := by decide +kernel
theorem dX4_readKite_95 : decode cX4_readKite 95 = .ok (.iconst 0, 1) := by decide +kernel
theorem dX4_readKite_96 : decode cX4_readKite 96 = .ok (.ireturn, 1) := by decide +kernel
theorem dX4_readFigure_0 : decode cX4_readFigure 0 = .ok (.aload_n 0, 1) := by decide +kernel
theorem dX4_readFigure_1 : decode cX4_readFigure 1 = .ok (.aload_n 1, 1) := by decide +kernel
theorem dX4_readFigure_2 : decode cX4_readFigure 2 = .ok (.invokevirtual 26, 3) := by decide +kernel
theorem dX4_readFigure_5 : decode cX4_readFigure 5 = .ok (.bipush 48, 2) := by decide +kernel
theorem dX4_readFigure_7 : decode cX4_readFigure 7 = .ok (.isub, 1) := by decide +kernel
theorem dX4_readFigure_8 : decode cX4_readFigure 8 = .ok (.istore 4, 2) := by decide +kernel
theorem dX4_readFigure_10 : decode cX4_readFigure 10 = .ok (.iload 4, 2) := by decide +kernel
theorem dX4_readFigure_12 : decode cX4_readFigure 12 = .ok (.iload_n 2, 1) := by decide +kernel
theorem dX4_readFigure_13 : decode cX4_readFigure 13 = .ok (.if_icmp .lt 9, 3) := by decide +kernel
theorem dX4_readFigure_16 : decode cX4_readFigure 16 = .ok (.iload 4, 2) := by decide +kernel
theorem dX4_readFigure_18 : decode cX4_readFigure 18 = .ok (.iload_n 3, 1) := by decide +kernel
theorem dX4_readFigure_19 : decode cX4_readFigure 19 = .ok (.if_icmp .le 5, 3) := by decide +kernel
theorem dX4_readFigure_22 : decode cX4_readFigure 22 = .ok (.iconst (-1), 1) := by decide +kernel
theorem dX4_readFigure_23 : decode cX4_readFigure 23 = .ok (.ireturn, 1) := by decide +kernel
theorem dX4_readFigure_24 : decode cX4_readFigure 24 = .ok (.aload_n 0, 1) := by decide +kernel
theorem dX4_readFigure_25 : decode cX4_readFigure 25 = .ok (.dup, 1) := by decide +kernel
theorem dX4_readFigure_26 : decode cX4_readFigure 26 = .ok (.getfield 9, 3) := by decide +kernel
theorem dX4_readFigure_29 : decode cX4_readFigure 29 = .ok (.iconst 1, 1) := by decide +kernel
theorem dX4_readFigure_30 : decode cX4_readFigure 30 = .ok (.iadd, 1) := by decide +kernel
theorem dX4_readFigure_31 : decode cX4_readFigure 31 = .ok (.putfield 9, 3) := by decide +kernel
theorem dX4_readFigure_34 : decode cX4_readFigure 34 = .ok (.iload 4, 2) := by decide +kernel
theorem dX4_readFigure_36 : decode cX4_readFigure 36 = .ok (.ireturn, 1) := by decide +kernel
theorem dX4_skipBlanks_0 : decode cX4_skipBlanks 0 = .ok (.aload_n 0, 1) := by decide +kernel
theorem dX4_skipBlanks_1 : decode cX4_skipBlanks 1 = .ok (.getfield 9, 3) := by decide +kernel
theorem dX4_skipBlanks_4 : decode cX4_skipBlanks 4 = .ok (.aload_n 1, 1) := by decide +kernel
theorem dX4_skipBlanks_5 : decode cX4_skipBlanks 5 = .ok (.getfield 50, 3) := by decide +kernel
theorem dX4_skipBlanks_8 : decode cX4_skipBlanks 8 = .ok (.if_icmp .ge 29, 3) := by decide +kernel
theorem dX4_skipBlanks_11 : decode cX4_skipBlanks 11 = .ok (.aload_n 1, 1) := by decide +kernel
theorem dX4_skipBlanks_12 : decode cX4_skipBlanks 12 = .ok (.aload_n 0, 1) := by decide +kernel
theorem dX4_skipBlanks_13 : decode cX4_skipBlanks 13 = .ok (.getfield 9, 3) := by decide +kernel
theorem dX4_skipBlanks_16 : decode cX4_skipBlanks 16 = .ok (.invokevirtual 77, 3) := by decide +kernel
theorem dX4_skipBlanks_19 : decode cX4_skipBlanks 19 = .ok (.bipush 32, 2) := by decide +kernel
theorem dX4_skipBlanks_21 : decode cX4_skipBlanks 21 = .ok (.if_icmp .ne 16, 3) := by decide +kernel
theorem dX4_skipBlanks_24 : decode cX4_skipBlanks 24 = .ok (.aload_n 0, 1) := by decide +kernel
theorem dX4_skipBlanks_25 : decode cX4_skipBlanks 25 = .ok (.dup, 1) := by decide +kernel
theorem dX4_skipBlanks_26 : decode cX4_skipBlanks 26 = .ok (.getfield 9, 3) := by decide +kernel
theorem dX4_skipBlanks_29 : decode cX4_skipBlanks 29 = .ok (.iconst 1, 1) := by decide +kernel
theorem dX4_skipBlanks_30 : decode cX4_skipBlanks 30 = .ok (.iadd, 1) := by decide +kernel
theorem dX4_skipBlanks_31 : decode cX4_skipBlanks 31 = .ok (.putfield 9, 3) := by decide +kernel
theorem dX4_skipBlanks_34 : decode cX4_skipBlanks 34 = .ok (.goto (-34), 3) := by decide +kernel
theorem dX4_skipBlanks_37 : decode cX4_skipBlanks 37 = .ok (.return_, 1) := by decide +kernel
theorem dX4_sign_0 : decode cX4_sign 0 = .ok (.aload_n 1, 1) := by decide +kernel
theorem dX4_sign_1 : decode cX4_sign 1 = .ok (.aload_n 0, 1) := by decide +kernel
theorem dX4_sign_2 : decode cX4_sign 2 = .ok (.getfield 9, 3) := by decide +kernel
theorem dX4_sign_5 : decode cX4_sign 5 = .ok (.invokevirtual 80, 3) := by decide +kernel
theorem dX4_sign_8 : decode cX4_sign 8 = .ok (.ifCond .eq 15, 3) := by decide +kernel
theorem dX4_sign_11 : decode cX4_sign 11 = .ok (.aload_n 1, 1) := by decide +kernel
theorem dX4_sign_12 : decode cX4_sign 12 = .ok (.getfield 84, 3) := by decide +kernel
theorem dX4_sign_15 : decode cX4_sign 15 = .ok (.aload_n 0, 1) := by decide +kernel
theorem dX4_sign_16 : decode cX4_sign 16 = .ok (.getfield 9, 3) := by decide +kernel
theorem dX4_sign_19 : decode cX4_sign 19 = .ok (.iaload, 1) := by decide +kernel
theorem dX4_sign_20 : decode cX4_sign 20 = .ok (.goto 6, 3) := by decide +kernel
theorem dX4_sign_23 : decode cX4_sign 23 = .ok (.sipush (-1000), 3) := by decide +kernel
theorem dX4_sign_26 : decode cX4_sign 26 = .ok (.ireturn, 1) := by decide +kernel
theorem dX4_kindOf_0 : decode cX4_kindOf 0 = .ok (.iload_n 0, 1) := by decide +kernel
theorem dX4_kindOf_1 : decode cX4_kindOf 1 = .ok (.tableswitch 99 98 115 #[93, 91, 99, 99, 99, 99, 89, 99, 95, 87, 99, 99, 99, 99, 99, 99, 99, 97], 87) := by decide +kernel
theorem dX4_kindOf_88 : decode cX4_kindOf 88 = .ok (.iconst 0, 1) := by decide +kernel
theorem dX4_kindOf_89 : decode cX4_kindOf 89 = .ok (.ireturn, 1) := by decide +kernel
theorem dX4_kindOf_90 : decode cX4_kindOf 90 = .ok (.iconst 1, 1) := by decide +kernel
theorem dX4_kindOf_91 : decode cX4_kindOf 91 = .ok (.ireturn, 1) := by decide +kernel
theorem dX4_kindOf_92 : decode cX4_kindOf 92 = .ok (.iconst 2, 1) := by decide +kernel
theorem dX4_kindOf_93 : decode cX4_kindOf 93 = .ok (.ireturn, 1) := by decide +kernel
theorem dX4_kindOf_94 : decode cX4_kindOf 94 = .ok (.iconst 3, 1) := by decide +kernel
theorem dX4_kindOf_95 : decode cX4_kindOf 95 = .ok (.ireturn, 1) := by decide +kernel
theorem dX4_kindOf_96 : decode cX4_kindOf 96 = .ok (.iconst 4, 1) := by decide +kernel
theorem dX4_kindOf_97 : decode cX4_kindOf 97 = .ok (.ireturn, 1) := by decide +kernel
theorem dX4_kindOf_98 : decode cX4_kindOf 98 = .ok (.iconst 5, 1) := by decide +kernel
theorem dX4_kindOf_99 : decode cX4_kindOf 99 = .ok (.ireturn, 1) := by decide +kernel
theorem dX4_kindOf_100 : decode cX4_kindOf 100 = .ok (.iconst (-1), 1) := by decide +kernel
theorem dX4_kindOf_101 : decode cX4_kindOf 101 = .ok (.ireturn, 1) := by decide +kernel
theorem dX5_init_0 : decode cX5_init 0 = .ok (.aload_n 0, 1) := by decide +kernel
theorem dX5_init_1 : decode cX5_init 1 = .ok (.invokespecial 1, 3) := by decide +kernel
theorem dX5_init_4 : decode cX5_init 4 = .ok (.aload_n 0, 1) := by decide +kernel
theorem dX5_init_5 : decode cX5_init 5 = .ok (.iconst (-1), 1) := by decide +kernel
theorem dX5_init_6 : decode cX5_init 6 = .ok (.putfield 7, 3) := by decide +kernel
theorem dX5_init_9 : decode cX5_init 9 = .ok (.aload_n 0, 1) := by decide +kernel
theorem dX5_init_10 : decode cX5_init 10 = .ok (.iconst 0, 1) := by decide +kernel
theorem dX5_init_11 : decode cX5_init 11 = .ok (.iload_n 1, 1) := by decide +kernel
theorem dX5_init_12 : decode cX5_init 12 = .ok (.invokestatic 13, 3) := by decide +kernel
theorem dX5_init_15 : decode cX5_init 15 = .ok (.newarray .int, 2) := by decide +kernel
theorem dX5_init_17 : decode cX5_init 17 = .ok (.putfield 19, 3) := by decide +kernel
theorem dX5_init_20 : decode cX5_init 20 = .ok (.return_, 1) := by decide +kernel
theorem dX5_isThere_0 : decode cX5_isThere 0 = .ok (.aload_n 0, 1) := by decide +kernel
theorem dX5_isThere_1 : decode cX5_isThere 1 = .ok (.getfield 7, 3) := by decide +kernel
theorem dX5_isThere_4 : decode cX5_isThere 4 = .ok (.ifCond .lt 7, 3) := by decide +kernel
theorem dX5_isThere_7 : decode cX5_isThere 7 = .ok (.iconst 1, 1) := by decide +kernel
theorem dX5_isThere_8 : decode cX5_isThere 8 = .ok (.goto 4, 3) := by decide +kernel
theorem dX5_isThere_11 : decode cX5_isThere 11 = .ok (.iconst 0, 1) := by decide +kernel
theorem dX5_isThere_12 : decode cX5_isThere 12 = .ok (.ireturn, 1) := by decide +kernel
theorem dX5_holds_0 : decode cX5_holds 0 = .ok (.iload_n 1, 1) := by decide +kernel
theorem dX5_holds_1 : decode cX5_holds 1 = .ok (.ifCond .lt 24, 3) := by decide +kernel
theorem dX5_holds_4 : decode cX5_holds 4 = .ok (.iload_n 1, 1) := by decide +kernel
theorem dX5_holds_5 : decode cX5_holds 5 = .ok (.aload_n 0, 1) := by decide +kernel
theorem dX5_holds_6 : decode cX5_holds 6 = .ok (.getfield 7, 3) := by decide +kernel
theorem dX5_holds_9 : decode cX5_holds 9 = .ok (.if_icmp .ge 16, 3) := by decide +kernel
theorem dX5_holds_12 : decode cX5_holds 12 = .ok (.iload_n 1, 1) := by decide +kernel
theorem dX5_holds_13 : decode cX5_holds 13 = .ok (.aload_n 0, 1) := by decide +kernel
theorem dX5_holds_14 : decode cX5_holds 14 = .ok (.getfield 19, 3) := by decide +kernel
theorem dX5_holds_17 : decode cX5_holds 17 = .ok (.arraylength, 1) := by decide +kernel
theorem dX5_holds_18 : decode cX5_holds 18 = .ok (.if_icmp .ge 7, 3) := by decide +kernel
theorem dX5_holds_21 : decode cX5_holds 21 = .ok (.iconst 1, 1) := by decide +kernel
theorem dX5_holds_22 : decode cX5_holds 22 = .ok (.goto 4, 3) := by decide +kernel
theorem dX5_holds_25 : decode cX5_holds 25 = .ok (.iconst 0, 1) := by decide +kernel
theorem dX5_holds_26 : decode cX5_holds 26 = .ok (.ireturn, 1) := by decide +kernel
theorem dX5_spans_0 : decode cX5_spans 0 = .ok (.iload_n 1, 1) := by decide +kernel
theorem dX5_spans_1 : decode cX5_spans 1 = .ok (.ifCond .lt 29, 3) := by decide +kernel
theorem dX5_spans_4 : decode cX5_spans 4 = .ok (.iload_n 2, 1) := by decide +kernel
theorem dX5_spans_5 : decode cX5_spans 5 = .ok (.ifCond .lt 25, 3) := by decide +kernel
theorem dX5_spans_8 : decode cX5_spans 8 = .ok (.iload_n 1, 1) := by decide +kernel
theorem dX5_spans_9 : decode cX5_spans 9 = .ok (.aload_n 0, 1) := by decide +kernel
theorem dX5_spans_10 : decode cX5_spans 10 = .ok (.getfield 7, 3) := by decide +kernel
theorem dX5_spans_13 : decode cX5_spans 13 = .ok (.if_icmp .gt 17, 3) := by decide +kernel
theorem dX5_spans_16 : decode cX5_spans 16 = .ok (.iload_n 2, 1) := by decide +kernel
theorem dX5_spans_17 : decode cX5_spans 17 = .ok (.aload_n 0, 1) := by decide +kernel
theorem dX5_spans_18 : decode cX5_spans 18 = .ok (.getfield 7, 3) := by decide +kernel
theorem dX5_spans_21 : decode cX5_spans 21 = .ok (.iload_n 1, 1) := by decide +kernel
theorem dX5_spans_22 : decode cX5_spans 22 = .ok (.isub, 1) := by decide +kernel
theorem dX5_spans_23 : decode cX5_spans 23 = .ok (.if_icmp .gt 7, 3) := by decide +kernel
theorem dX5_spans_26 : decode cX5_spans 26 = .ok (.iconst 1, 1) := by decide +kernel
theorem dX5_spans_27 : decode cX5_spans 27 = .ok (.goto 4, 3) := by decide +kernel
theorem dX5_spans_30 : decode cX5_spans 30 = .ok (.iconst 0, 1) := by decide +kernel
theorem dX5_spans_31 : decode cX5_spans 31 = .ok (.ireturn, 1) := by decide +kernel
theorem dX5_get_0 : decode cX5_get 0 = .ok (.aload_n 0, 1) := by decide +kernel
theorem dX5_get_1 : decode cX5_get 1 = .ok (.iload_n 1, 1) := by decide +kernel
theorem dX5_get_2 : decode cX5_get 2 = .ok (.invokevirtual 23, 3) := by decide +kernel
theorem dX5_get_5 : decode cX5_get 5 = .ok (.ifCond .eq 12, 3) := by decide +kernel
theorem dX5_get_8 : decode cX5_get 8 = .ok (.aload_n 0, 1) := by decide +kernel
theorem dX5_get_9 : decode cX5_get 9 = .ok (.getfield 19, 3) := by decide +kernel
theorem dX5_get_12 : decode cX5_get 12 = .ok (.iload_n 1, 1) := by decide +kernel
theorem dX5_get_13 : decode cX5_get 13 = .ok (.iaload, 1) := by decide +kernel
theorem dX5_get_14 : decode cX5_get 14 = .ok (.goto 4, 3) := by decide +kernel
theorem dX5_get_17 : decode cX5_get 17 = .ok (.iconst 0, 1) := by decide +kernel
theorem dX5_get_18 : decode cX5_get 18 = .ok (.ireturn, 1) := by decide +kernel
theorem dX5_set_0 : decode cX5_set 0 = .ok (.aload_n 0, 1) := by decide +kernel
theorem dX5_set_1 : decode cX5_set 1 = .ok (.iload_n 1, 1) := by decide +kernel
theorem dX5_set_2 : decode cX5_set 2 = .ok (.invokevirtual 23, 3) := by decide +kernel
theorem dX5_set_5 : decode cX5_set 5 = .ok (.ifCond .eq 10, 3) := by decide +kernel
theorem dX5_set_8 : decode cX5_set 8 = .ok (.aload_n 0, 1) := by decide +kernel
theorem dX5_set_9 : decode cX5_set 9 = .ok (.getfield 19, 3) := by decide +kernel
theorem dX5_set_12 : decode cX5_set 12 = .ok (.iload_n 1, 1) := by decide +kernel
theorem dX5_set_13 : decode cX5_set 13 = .ok (.iload_n 2, 1) := by decide +kernel
theorem dX5_set_14 : decode cX5_set 14 = .ok (.iastore, 1) := by decide +kernel
theorem dX5_set_15 : decode cX5_set 15 = .ok (.return_, 1) := by decide +kernel
theorem dX5_begin_0 : decode cX5_begin 0 = .ok (.aload_n 0, 1) := by decide +kernel
theorem dX5_begin_1 : decode cX5_begin 1 = .ok (.iconst 0, 1) := by decide +kernel
theorem dX5_begin_2 : decode cX5_begin 2 = .ok (.iload_n 1, 1) := by decide +kernel
theorem dX5_begin_3 : decode cX5_begin 3 = .ok (.aload_n 0, 1) := by decide +kernel
theorem dX5_begin_4 : decode cX5_begin 4 = .ok (.getfield 19, 3) := by decide +kernel
theorem dX5_begin_7 : decode cX5_begin 7 = .ok (.arraylength, 1) := by decide +kernel
theorem dX5_begin_8 : decode cX5_begin 8 = .ok (.invokestatic 27, 3) := by decide +kernel
theorem dX5_begin_11 : decode cX5_begin 11 = .ok (.invokestatic 13, 3) := by decide +kernel
theorem dX5_begin_14 : decode cX5_begin 14 = .ok (.putfield 7, 3) := by decide +kernel
theorem dX5_begin_17 : decode cX5_begin 17 = .ok (.iconst 0, 1) := by decide +kernel
theorem dX5_begin_18 : decode cX5_begin 18 = .ok (.istore_n 3, 1) := by decide +kernel
theorem dX5_begin_19 : decode cX5_begin 19 = .ok (.iload_n 3, 1) := by decide +kernel
theorem dX5_begin_20 : decode cX5_begin 20 = .ok (.aload_n 0, 1) := by decide +kernel
theorem dX5_begin_21 : decode cX5_begin 21 = .ok (.getfield 7, 3) := by decide +kernel
theorem dX5_begin_24 : decode cX5_begin 24 = .ok (.if_icmp .ge 15, 3) := by decide +kernel
theorem dX5_begin_27 : decode cX5_begin 27 = .ok (.aload_n 0, 1) := by decide +kernel
theorem dX5_begin_28 : decode cX5_begin 28 = .ok (.iload_n 3, 1) := by decide +kernel
theorem dX5_begin_29 : decode cX5_begin 29 = .ok (.iload_n 2, 1) := by decide +kernel
theorem dX5_begin_30 : decode cX5_begin 30 = .ok (.invokevirtual 30, 3) := by decide +kernel
theorem dX5_begin_33 : decode cX5_begin 33 = .ok (.iinc 3 1, 3) := by decide +kernel
theorem dX5_begin_36 : decode cX5_begin 36 = .ok (.goto (-17), 3) := by decide +kernel
theorem dX5_begin_39 : decode cX5_begin 39 = .ok (.return_, 1) := by decide +kernel
theorem dX5_remove_0 : decode cX5_remove 0 = .ok (.aload_n 0, 1) := by decide +kernel
theorem dX5_remove_1 : decode cX5_remove 1 = .ok (.iconst (-1), 1) := by decide +kernel
theorem dX5_remove_2 : decode cX5_remove 2 = .ok (.putfield 7, 3) := by decide +kernel
theorem dX5_remove_5 : decode cX5_remove 5 = .ok (.return_, 1) := by decide +kernel
theorem dJ6_bitCount_0f7a4_0 : decode cJ6_bitCount_0f7a4 0 = .ok (.iload_n 0, 1) := by decide +kernel
theorem dJ6_bitCount_0f7a4_1 : decode cJ6_bitCount_0f7a4 1 = .ok (.iload_n 0, 1) := by decide +kernel
theorem dJ6_bitCount_0f7a4_2 : decode cJ6_bitCount_0f7a4 2 = .ok (.iconst 1, 1) := by decide +kernel
theorem dJ6_bitCount_0f7a4_3 : decode cJ6_bitCount_0f7a4 3 = .ok (.iushr, 1) := by decide +kernel
theorem dJ6_bitCount_0f7a4_4 : decode cJ6_bitCount_0f7a4 4 = .ok (.ldc_w 265, 3) := by decide +kernel
theorem dJ6_bitCount_0f7a4_7 : decode cJ6_bitCount_0f7a4 7 = .ok (.iand, 1) := by decide +kernel
theorem dJ6_bitCount_0f7a4_8 : decode cJ6_bitCount_0f7a4 8 = .ok (.isub, 1) := by decide +kernel
theorem dJ6_bitCount_0f7a4_9 : decode cJ6_bitCount_0f7a4 9 = .ok (.istore_n 0, 1) := by decide +kernel
theorem dJ6_bitCount_0f7a4_10 : decode cJ6_bitCount_0f7a4 10 = .ok (.iload_n 0, 1) := by decide +kernel
theorem dJ6_bitCount_0f7a4_11 : decode cJ6_bitCount_0f7a4 11 = .ok (.ldc_w 266, 3) := by decide +kernel
theorem dJ6_bitCount_0f7a4_14 : decode cJ6_bitCount_0f7a4 14 = .ok (.iand, 1) := by decide +kernel
theorem dJ6_bitCount_0f7a4_15 : decode cJ6_bitCount_0f7a4 15 = .ok (.iload_n 0, 1) := by decide +kernel
theorem dJ6_bitCount_0f7a4_16 : decode cJ6_bitCount_0f7a4 16 = .ok (.iconst 2, 1) := by decide +kernel
theorem dJ6_bitCount_0f7a4_17 : decode cJ6_bitCount_0f7a4 17 = .ok (.iushr, 1) := by decide +kernel
theorem dJ6_bitCount_0f7a4_18 : decode cJ6_bitCount_0f7a4 18 = .ok (.ldc_w 266, 3) := by decide +kernel
theorem dJ6_bitCount_0f7a4_21 : decode cJ6_bitCount_0f7a4 21 = .ok (.iand, 1) := by decide +kernel
theorem dJ6_bitCount_0f7a4_22 : decode cJ6_bitCount_0f7a4 22 = .ok (.iadd, 1) := by decide +kernel
theorem dJ6_bitCount_0f7a4_23 : decode cJ6_bitCount_0f7a4 23 = .ok (.istore_n 0, 1) := by decide +kernel
theorem dJ6_bitCount_0f7a4_24 : decode cJ6_bitCount_0f7a4 24 = .ok (.iload_n 0, 1) := by decide +kernel
theorem dJ6_bitCount_0f7a4_25 : decode cJ6_bitCount_0f7a4 25 = .ok (.iload_n 0, 1) := by decide +kernel
theorem dJ6_bitCount_0f7a4_26 : decode cJ6_bitCount_0f7a4 26 = .ok (.iconst 4, 1) := by decide +kernel
theorem dJ6_bitCount_0f7a4_27 : decode cJ6_bitCount_0f7a4 27 = .ok (.iushr, 1) := by decide +kernel
theorem dJ6_bitCount_0f7a4_28 : decode cJ6_bitCount_0f7a4 28 = .ok (.iadd, 1) := by decide +kernel
theorem dJ6_bitCount_0f7a4_29 : decode cJ6_bitCount_0f7a4 29 = .ok (.ldc_w 267, 3) := by decide +kernel
theorem dJ6_bitCount_0f7a4_32 : decode cJ6_bitCount_0f7a4 32 = .ok (.iand, 1) := by decide +kernel
theorem dJ6_bitCount_0f7a4_33 : decode cJ6_bitCount_0f7a4 33 = .ok (.istore_n 0, 1) := by decide +kernel
theorem dJ6_bitCount_0f7a4_34 : decode cJ6_bitCount_0f7a4 34 = .ok (.iload_n 0, 1) := by decide +kernel
theorem dJ6_bitCount_0f7a4_35 : decode cJ6_bitCount_0f7a4 35 = .ok (.iload_n 0, 1) := by decide +kernel
theorem dJ6_bitCount_0f7a4_36 : decode cJ6_bitCount_0f7a4 36 = .ok (.bipush 8, 2) := by decide +kernel
theorem dJ6_bitCount_0f7a4_38 : decode cJ6_bitCount_0f7a4 38 = .ok (.iushr, 1) := by decide +kernel
theorem dJ6_bitCount_0f7a4_39 : decode cJ6_bitCount_0f7a4 39 = .ok (.iadd, 1) := by decide +kernel
theorem dJ6_bitCount_0f7a4_40 : decode cJ6_bitCount_0f7a4 40 = .ok (.istore_n 0, 1) := by decide +kernel
theorem dJ6_bitCount_0f7a4_41 : decode cJ6_bitCount_0f7a4 41 = .ok (.iload_n 0, 1) := by decide +kernel
theorem dJ6_bitCount_0f7a4_42 : decode cJ6_bitCount_0f7a4 42 = .ok (.iload_n 0, 1) := by decide +kernel
theorem dJ6_bitCount_0f7a4_43 : decode cJ6_bitCount_0f7a4 43 = .ok (.bipush 16, 2) := by decide +kernel
theorem dJ6_bitCount_0f7a4_45 : decode cJ6_bitCount_0f7a4 45 = .ok (.iushr, 1) := by decide +kernel
theorem dJ6_bitCount_0f7a4_46 : decode cJ6_bitCount_0f7a4 46 = .ok (.iadd, 1) := by decide +kernel
theorem dJ6_bitCount_0f7a4_47 : decode cJ6_bitCount_0f7a4 47 = .ok (.istore_n 0, 1) := by decide +kernel
theorem dJ6_bitCount_0f7a4_48 : decode cJ6_bitCount_0f7a4 48 = .ok (.iload_n 0, 1) := by decide +kernel
theorem dJ6_bitCount_0f7a4_49 : decode cJ6_bitCount_0f7a4 49 = .ok (.bipush 63, 2) := by decide +kernel
theorem dJ6_bitCount_0f7a4_51 : decode cJ6_bitCount_0f7a4 51 = .ok (.iand, 1) := by decide +kernel
theorem dJ6_bitCount_0f7a4_52 : decode cJ6_bitCount_0f7a4 52 = .ok (.ireturn, 1) := by decide +kernel
theorem dJ9_floorMod_7cf53_0 : decode cJ9_floorMod_7cf53 0 = .ok (.iload_n 0, 1) := by decide +kernel
theorem dJ9_floorMod_7cf53_1 : decode cJ9_floorMod_7cf53 1 = .ok (.iload_n 1, 1) := by decide +kernel
theorem dJ9_floorMod_7cf53_2 : decode cJ9_floorMod_7cf53 2 = .ok (.irem, 1) := by decide +kernel
theorem dJ9_floorMod_7cf53_3 : decode cJ9_floorMod_7cf53 3 = .ok (.istore_n 2, 1) := by decide +kernel
theorem dJ9_floorMod_7cf53_4 : decode cJ9_floorMod_7cf53 4 = .ok (.iload_n 0, 1) := by decide +kernel
theorem dJ9_floorMod_7cf53_5 : decode cJ9_floorMod_7cf53 5 = .ok (.iload_n 1, 1) := by decide +kernel
theorem dJ9_floorMod_7cf53_6 : decode cJ9_floorMod_7cf53 6 = .ok (.ixor, 1) := by decide +kernel
theorem dJ9_floorMod_7cf53_7 : decode cJ9_floorMod_7cf53 7 = .ok (.ifCond .ge 11, 3) := by decide +kernel
theorem dJ9_floorMod_7cf53_10 : decode cJ9_floorMod_7cf53 10 = .ok (.iload_n 2, 1) := by decide +kernel
theorem dJ9_floorMod_7cf53_11 : decode cJ9_floorMod_7cf53 11 = .ok (.ifCond .eq 7, 3) := by decide +kernel
theorem dJ9_floorMod_7cf53_14 : decode cJ9_floorMod_7cf53 14 = .ok (.iload_n 2, 1) := by decide +kernel
theorem dJ9_floorMod_7cf53_15 : decode cJ9_floorMod_7cf53 15 = .ok (.iload_n 1, 1) := by decide +kernel
theorem dJ9_floorMod_7cf53_16 : decode cJ9_floorMod_7cf53 16 = .ok (.iadd, 1) := by decide +kernel
theorem dJ9_floorMod_7cf53_17 : decode cJ9_floorMod_7cf53 17 = .ok (.ireturn, 1) := by decide +kernel
theorem dJ9_floorMod_7cf53_18 : decode cJ9_floorMod_7cf53 18 = .ok (.iload_n 2, 1) := by decide +kernel
theorem dJ9_floorMod_7cf53_19 : decode cJ9_floorMod_7cf53 19 = .ok (.ireturn, 1) := by decide +kernel
theorem dJ9_max_7cf53_0 : decode cJ9_max_7cf53 0 = .ok (.iload_n 0, 1) := by decide +kernel
theorem dJ9_max_7cf53_1 : decode cJ9_max_7cf53 1 = .ok (.iload_n 1, 1) := by decide +kernel
theorem dJ9_max_7cf53_2 : decode cJ9_max_7cf53 2 = .ok (.if_icmp .lt 7, 3) := by decide +kernel
theorem dJ9_max_7cf53_5 : decode cJ9_max_7cf53 5 = .ok (.iload_n 0, 1) := by decide +kernel
theorem dJ9_max_7cf53_6 : decode cJ9_max_7cf53 6 = .ok (.goto 4, 3) := by decide +kernel
theorem dJ9_max_7cf53_9 : decode cJ9_max_7cf53 9 = .ok (.iload_n 1, 1) := by decide +kernel
theorem dJ9_max_7cf53_10 : decode cJ9_max_7cf53 10 = .ok (.ireturn, 1) := by decide +kernel
theorem dJ9_min_7cf53_0 : decode cJ9_min_7cf53 0 = .ok (.iload_n 0, 1) := by decide +kernel
theorem dJ9_min_7cf53_1 : decode cJ9_min_7cf53 1 = .ok (.iload_n 1, 1) := by decide +kernel
theorem dJ9_min_7cf53_2 : decode cJ9_min_7cf53 2 = .ok (.if_icmp .gt 7, 3) := by decide +kernel
theorem dJ9_min_7cf53_5 : decode cJ9_min_7cf53 5 = .ok (.iload_n 0, 1) := by decide +kernel
theorem dJ9_min_7cf53_6 : decode cJ9_min_7cf53 6 = .ok (.goto 4, 3) := by decide +kernel
theorem dJ9_min_7cf53_9 : decode cJ9_min_7cf53 9 = .ok (.iload_n 1, 1) := by decide +kernel
theorem dJ9_min_7cf53_10 : decode cJ9_min_7cf53 10 = .ok (.ireturn, 1) := by decide +kernel
