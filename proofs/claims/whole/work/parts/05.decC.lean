theorem dX7_in_0 : decode cX7_in 0 = .ok (.lload_n 0, 1) := by decide +kernel
theorem dX7_in_1 : decode cX7_in 1 = .ok (.lload_n 2, 1) := by decide +kernel
theorem dX7_in_2 : decode cX7_in 2 = .ok (.lcmp, 1) := by decide +kernel
theorem dX7_in_3 : decode cX7_in 3 = .ok (.ifCond .lt 14, 3) := by decide +kernel
theorem dX7_in_6 : decode cX7_in 6 = .ok (.lload_n 0, 1) := by decide +kernel
theorem dX7_in_7 : decode cX7_in 7 = .ok (.lload 4, 2) := by decide +kernel
theorem dX7_in_9 : decode cX7_in 9 = .ok (.lcmp, 1) := by decide +kernel
theorem dX7_in_10 : decode cX7_in 10 = .ok (.ifCond .gt 7, 3) := by decide +kernel
theorem dX7_in_13 : decode cX7_in 13 = .ok (.iconst 1, 1) := by decide +kernel
theorem dX7_in_14 : decode cX7_in 14 = .ok (.goto 4, 3) := by decide +kernel
theorem dX7_in_17 : decode cX7_in 17 = .ok (.iconst 0, 1) := by decide +kernel
theorem dX7_in_18 : decode cX7_in 18 = .ok (.ireturn, 1) := by decide +kernel
theorem dX7_init_0 : decode cX7_init 0 = .ok (.aload_n 0, 1) := by decide +kernel
theorem dX7_init_1 : decode cX7_init 1 = .ok (.invokespecial 1, 3) := by decide +kernel
theorem dX7_init_4 : decode cX7_init 4 = .ok (.aload_n 0, 1) := by decide +kernel
theorem dX7_init_5 : decode cX7_init 5 = .ok (.bipush 40, 2) := by decide +kernel
theorem dX7_init_7 : decode cX7_init 7 = .ok (.newarray .int, 2) := by decide +kernel
theorem dX7_init_9 : decode cX7_init 9 = .ok (.putfield 7, 3) := by decide +kernel
theorem dX7_init_12 : decode cX7_init 12 = .ok (.aload_n 0, 1) := by decide +kernel
theorem dX7_init_13 : decode cX7_init 13 = .ok (.bipush 6, 2) := by decide +kernel
theorem dX7_init_15 : decode cX7_init 15 = .ok (.newarray .int, 2) := by decide +kernel
theorem dX7_init_17 : decode cX7_init 17 = .ok (.putfield 13, 3) := by decide +kernel
theorem dX7_init_20 : decode cX7_init 20 = .ok (.aload_n 0, 1) := by decide +kernel
theorem dX7_init_21 : decode cX7_init 21 = .ok (.bipush 80, 2) := by decide +kernel
theorem dX7_init_23 : decode cX7_init 23 = .ok (.newarray .int, 2) := by decide +kernel
theorem dX7_init_25 : decode cX7_init 25 = .ok (.putfield 16, 3) := by decide +kernel
theorem dX7_init_28 : decode cX7_init 28 = .ok (.aload_n 0, 1) := by decide +kernel
theorem dX7_init_29 : decode cX7_init 29 = .ok (.bipush 6, 2) := by decide +kernel
theorem dX7_init_31 : decode cX7_init 31 = .ok (.newarray .int, 2) := by decide +kernel
theorem dX7_init_33 : decode cX7_init 33 = .ok (.putfield 19, 3) := by decide +kernel
theorem dX7_init_36 : decode cX7_init 36 = .ok (.aload_n 0, 1) := by decide +kernel
theorem dX7_init_37 : decode cX7_init 37 = .ok (.bipush 24, 2) := by decide +kernel
theorem dX7_init_39 : decode cX7_init 39 = .ok (.newarray .int, 2) := by decide +kernel
theorem dX7_init_41 : decode cX7_init 41 = .ok (.putfield 22, 3) := by decide +kernel
theorem dX7_init_44 : decode cX7_init 44 = .ok (.aload_n 0, 1) := by decide +kernel
theorem dX7_init_45 : decode cX7_init 45 = .ok (.bipush 120, 2) := by decide +kernel
theorem dX7_init_47 : decode cX7_init 47 = .ok (.newarray .int, 2) := by decide +kernel
theorem dX7_init_49 : decode cX7_init 49 = .ok (.putfield 25, 3) := by decide +kernel
theorem dX7_init_52 : decode cX7_init 52 = .ok (.aload_n 0, 1) := by decide +kernel
theorem dX7_init_53 : decode cX7_init 53 = .ok (.bipush 40, 2) := by decide +kernel
theorem dX7_init_55 : decode cX7_init 55 = .ok (.newarray .int, 2) := by decide +kernel
theorem dX7_init_57 : decode cX7_init 57 = .ok (.putfield 28, 3) := by decide +kernel
theorem dX7_init_60 : decode cX7_init 60 = .ok (.aload_n 0, 1) := by decide +kernel
theorem dX7_init_61 : decode cX7_init 61 = .ok (.bipush 6, 2) := by decide +kernel
theorem dX7_init_63 : decode cX7_init 63 = .ok (.newarray .int, 2) := by decide +kernel
theorem dX7_init_65 : decode cX7_init 65 = .ok (.putfield 31, 3) := by decide +kernel
theorem dX7_init_68 : decode cX7_init 68 = .ok (.aload_n 0, 1) := by decide +kernel
theorem dX7_init_69 : decode cX7_init 69 = .ok (.bipush 6, 2) := by decide +kernel
theorem dX7_init_71 : decode cX7_init 71 = .ok (.newarray .int, 2) := by decide +kernel
theorem dX7_init_73 : decode cX7_init 73 = .ok (.putfield 34, 3) := by decide +kernel
theorem dX7_init_76 : decode cX7_init 76 = .ok (.aload_n 0, 1) := by decide +kernel
theorem dX7_init_77 : decode cX7_init 77 = .ok (.sipush 160, 3) := by decide +kernel
theorem dX7_init_80 : decode cX7_init 80 = .ok (.newarray .int, 2) := by decide +kernel
theorem dX7_init_82 : decode cX7_init 82 = .ok (.putfield 37, 3) := by decide +kernel
theorem dX7_init_85 : decode cX7_init 85 = .ok (.aload_n 0, 1) := by decide +kernel
theorem dX7_init_86 : decode cX7_init 86 = .ok (.iconst 4, 1) := by decide +kernel
theorem dX7_init_87 : decode cX7_init 87 = .ok (.newarray .int, 2) := by decide +kernel
theorem dX7_init_89 : decode cX7_init 89 = .ok (.putfield 40, 3) := by decide +kernel
theorem dX7_init_92 : decode cX7_init 92 = .ok (.aload_n 0, 1) := by decide +kernel
theorem dX7_init_93 : decode cX7_init 93 = .ok (.iconst 4, 1) := by decide +kernel
theorem dX7_init_94 : decode cX7_init 94 = .ok (.newarray .int, 2) := by decide +kernel
theorem dX7_init_96 : decode cX7_init 96 = .ok (.putfield 43, 3) := by decide +kernel
theorem dX7_init_99 : decode cX7_init 99 = .ok (.aload_n 0, 1) := by decide +kernel
theorem dX7_init_100 : decode cX7_init 100 = .ok (.bipush 96, 2) := by decide +kernel
theorem dX7_init_102 : decode cX7_init 102 = .ok (.newarray .long, 2) := by decide +kernel
theorem dX7_init_104 : decode cX7_init 104 = .ok (.putfield 46, 3) := by decide +kernel
theorem dX7_init_107 : decode cX7_init 107 = .ok (.aload_n 0, 1) := by decide +kernel
theorem dX7_init_108 : decode cX7_init 108 = .ok (.bipush 24, 2) := by decide +kernel
theorem dX7_init_110 : decode cX7_init 110 = .ok (.newarray .long, 2) := by decide +kernel
theorem dX7_init_112 : decode cX7_init 112 = .ok (.putfield 50, 3) := by decide +kernel
theorem dX7_init_115 : decode cX7_init 115 = .ok (.aload_n 0, 1) := by decide +kernel
theorem dX7_init_116 : decode cX7_init 116 = .ok (.getfield 7, 3) := by decide +kernel
theorem dX7_init_119 : decode cX7_init 119 = .ok (.iconst 3, 1) := by decide +kernel
theorem dX7_init_120 : decode cX7_init 120 = .ok (.iconst 1, 1) := by decide +kernel
theorem dX7_init_121 : decode cX7_init 121 = .ok (.iastore, 1) := by decide +kernel
theorem dX7_init_122 : decode cX7_init 122 = .ok (.iconst 0, 1) := by decide +kernel
theorem dX7_init_123 : decode cX7_init 123 = .ok (.istore_n 1, 1) := by decide +kernel
theorem dX7_init_124 : decode cX7_init 124 = .ok (.iload_n 1, 1) := by decide +kernel
theorem dX7_init_125 : decode cX7_init 125 = .ok (.bipush 6, 2) := by decide +kernel
theorem dX7_init_127 : decode cX7_init 127 = .ok (.if_icmp .ge 30, 3) := by decide +kernel
theorem dX7_init_130 : decode cX7_init 130 = .ok (.aload_n 0, 1) := by decide +kernel
theorem dX7_init_131 : decode cX7_init 131 = .ok (.getfield 7, 3) := by decide +kernel
theorem dX7_init_134 : decode cX7_init 134 = .ok (.bipush 28, 2) := by decide +kernel
theorem dX7_init_136 : decode cX7_init 136 = .ok (.iload_n 1, 1) := by decide +kernel
theorem dX7_init_137 : decode cX7_init 137 = .ok (.iadd, 1) := by decide +kernel
theorem dX7_init_138 : decode cX7_init 138 = .ok (.iconst 3, 1) := by decide +kernel
theorem dX7_init_139 : decode cX7_init 139 = .ok (.iastore, 1) := by decide +kernel
theorem dX7_init_140 : decode cX7_init 140 = .ok (.aload_n 0, 1) := by decide +kernel
theorem dX7_init_141 : decode cX7_init 141 = .ok (.getfield 7, 3) := by decide +kernel
theorem dX7_init_144 : decode cX7_init 144 = .ok (.bipush 34, 2) := by decide +kernel
theorem dX7_init_146 : decode cX7_init 146 = .ok (.iload_n 1, 1) := by decide +kernel
theorem dX7_init_147 : decode cX7_init 147 = .ok (.iadd, 1) := by decide +kernel
theorem dX7_init_148 : decode cX7_init 148 = .ok (.bipush 20, 2) := by decide +kernel
theorem dX7_init_150 : decode cX7_init 150 = .ok (.iastore, 1) := by decide +kernel
theorem dX7_init_151 : decode cX7_init 151 = .ok (.iinc 1 1, 3) := by decide +kernel
theorem dX7_init_154 : decode cX7_init 154 = .ok (.goto (-30), 3) := by decide +kernel
theorem dX7_init_157 : decode cX7_init 157 = .ok (.iconst 0, 1) := by decide +kernel
theorem dX7_init_158 : decode cX7_init 158 = .ok (.istore_n 1, 1) := by decide +kernel
theorem dX7_init_159 : decode cX7_init 159 = .ok (.iload_n 1, 1) := by decide +kernel
theorem dX7_init_160 : decode cX7_init 160 = .ok (.iconst 4, 1) := by decide +kernel
theorem dX7_init_161 : decode cX7_init 161 = .ok (.if_icmp .ge 16, 3) := by decide +kernel
theorem dX7_init_164 : decode cX7_init 164 = .ok (.aload_n 0, 1) := by decide +kernel
theorem dX7_init_165 : decode cX7_init 165 = .ok (.getfield 40, 3) := by decide +kernel
theorem dX7_init_168 : decode cX7_init 168 = .ok (.iload_n 1, 1) := by decide +kernel
theorem dX7_init_169 : decode cX7_init 169 = .ok (.iconst (-1), 1) := by decide +kernel
theorem dX7_init_170 : decode cX7_init 170 = .ok (.iastore, 1) := by decide +kernel
theorem dX7_init_171 : decode cX7_init 171 = .ok (.iinc 1 1, 3) := by decide +kernel
theorem dX7_init_174 : decode cX7_init 174 = .ok (.goto (-15), 3) := by decide +kernel
theorem dX7_init_177 : decode cX7_init 177 = .ok (.return_, 1) := by decide +kernel
theorem dX7_isHolder_0 : decode cX7_isHolder 0 = .ok (.iload_n 1, 1) := by decide +kernel
theorem dX7_isHolder_1 : decode cX7_isHolder 1 = .ok (.i2l, 1) := by decide +kernel
theorem dX7_isHolder_2 : decode cX7_isHolder 2 = .ok (.lconst 0, 1) := by decide +kernel
theorem dX7_isHolder_3 : decode cX7_isHolder 3 = .ok (.aload_n 0, 1) := by decide +kernel
theorem dX7_isHolder_4 : decode cX7_isHolder 4 = .ok (.getfield 7, 3) := by decide +kernel
theorem dX7_isHolder_7 : decode cX7_isHolder 7 = .ok (.iconst 0, 1) := by decide +kernel
theorem dX7_isHolder_8 : decode cX7_isHolder 8 = .ok (.iaload, 1) := by decide +kernel
theorem dX7_isHolder_9 : decode cX7_isHolder 9 = .ok (.iconst 1, 1) := by decide +kernel
theorem dX7_isHolder_10 : decode cX7_isHolder 10 = .ok (.isub, 1) := by decide +kernel
theorem dX7_isHolder_11 : decode cX7_isHolder 11 = .ok (.i2l, 1) := by decide +kernel
theorem dX7_isHolder_12 : decode cX7_isHolder 12 = .ok (.invokestatic 53, 3) := by decide +kernel
theorem dX7_isHolder_15 : decode cX7_isHolder 15 = .ok (.ireturn, 1) := by decide +kernel
theorem dX7_isBay_0 : decode cX7_isBay 0 = .ok (.iload_n 0, 1) := by decide +kernel
theorem dX7_isBay_1 : decode cX7_isBay 1 = .ok (.i2l, 1) := by decide +kernel
theorem dX7_isBay_2 : decode cX7_isBay 2 = .ok (.lconst 0, 1) := by decide +kernel
theorem dX7_isBay_3 : decode cX7_isBay 3 = .ok (.ldc2_w 57, 3) := by decide +kernel
theorem dX7_isBay_6 : decode cX7_isBay 6 = .ok (.invokestatic 53, 3) := by decide +kernel
theorem dX7_isBay_9 : decode cX7_isBay 9 = .ok (.ireturn, 1) := by decide +kernel
theorem dX7_told_0 : decode cX7_told 0 = .ok (.aload_n 0, 1) := by decide +kernel
theorem dX7_told_1 : decode cX7_told 1 = .ok (.getfield 7, 3) := by decide +kernel
theorem dX7_told_4 : decode cX7_told 4 = .ok (.iconst 4, 1) := by decide +kernel
theorem dX7_told_5 : decode cX7_told 5 = .ok (.iconst 4, 1) := by decide +kernel
theorem dX7_told_6 : decode cX7_told 6 = .ok (.iload_n 1, 1) := by decide +kernel
theorem dX7_told_7 : decode cX7_told 7 = .ok (.imul, 1) := by decide +kernel
theorem dX7_told_8 : decode cX7_told 8 = .ok (.iadd, 1) := by decide +kernel
theorem dX7_told_9 : decode cX7_told 9 = .ok (.iload_n 2, 1) := by decide +kernel
theorem dX7_told_10 : decode cX7_told 10 = .ok (.iadd, 1) := by decide +kernel
theorem dX7_told_11 : decode cX7_told 11 = .ok (.iaload, 1) := by decide +kernel
theorem dX7_told_12 : decode cX7_told 12 = .ok (.ireturn, 1) := by decide +kernel
theorem dX7_used_0 : decode cX7_used 0 = .ok (.aload_n 0, 1) := by decide +kernel
theorem dX7_used_1 : decode cX7_used 1 = .ok (.iload_n 1, 1) := by decide +kernel
theorem dX7_used_2 : decode cX7_used 2 = .ok (.iconst 1, 1) := by decide +kernel
theorem dX7_used_3 : decode cX7_used 3 = .ok (.invokevirtual 59, 3) := by decide +kernel
theorem dX7_used_6 : decode cX7_used 6 = .ok (.ireturn, 1) := by decide +kernel
theorem dX7_bayOf_0 : decode cX7_bayOf 0 = .ok (.aload_n 0, 1) := by decide +kernel
theorem dX7_bayOf_1 : decode cX7_bayOf 1 = .ok (.iload_n 1, 1) := by decide +kernel
theorem dX7_bayOf_2 : decode cX7_bayOf 2 = .ok (.iconst 2, 1) := by decide +kernel
theorem dX7_bayOf_3 : decode cX7_bayOf 3 = .ok (.invokevirtual 59, 3) := by decide +kernel
theorem dX7_bayOf_6 : decode cX7_bayOf 6 = .ok (.ireturn, 1) := by decide +kernel
theorem dX7_isUp_0 : decode cX7_isUp 0 = .ok (.aload_n 0, 1) := by decide +kernel
theorem dX7_isUp_1 : decode cX7_isUp 1 = .ok (.iload_n 1, 1) := by decide +kernel
theorem dX7_isUp_2 : decode cX7_isUp 2 = .ok (.invokevirtual 63, 3) := by decide +kernel
theorem dX7_isUp_5 : decode cX7_isUp 5 = .ok (.bipush 99, 2) := by decide +kernel
theorem dX7_isUp_7 : decode cX7_isUp 7 = .ok (.if_icmp .ne 7, 3) := by decide +kernel
theorem dX7_isUp_10 : decode cX7_isUp 10 = .ok (.iconst 1, 1) := by decide +kernel
theorem dX7_isUp_11 : decode cX7_isUp 11 = .ok (.goto 4, 3) := by decide +kernel
theorem dX7_isUp_14 : decode cX7_isUp 14 = .ok (.iconst 0, 1) := by decide +kernel
theorem dX7_isUp_15 : decode cX7_isUp 15 = .ok (.ireturn, 1) := by decide +kernel
theorem dX7_whoHas_0 : decode cX7_whoHas 0 = .ok (.bipush (-4), 2) := by decide +kernel
theorem dX7_whoHas_2 : decode cX7_whoHas 2 = .ok (.istore_n 2, 1) := by decide +kernel
theorem dX7_whoHas_3 : decode cX7_whoHas 3 = .ok (.iconst 0, 1) := by decide +kernel
theorem dX7_whoHas_4 : decode cX7_whoHas 4 = .ok (.istore_n 3, 1) := by decide +kernel
theorem dX7_whoHas_5 : decode cX7_whoHas 5 = .ok (.iload_n 3, 1) := by decide +kernel
theorem dX7_whoHas_6 : decode cX7_whoHas 6 = .ok (.aload_n 0, 1) := by decide +kernel
theorem dX7_whoHas_7 : decode cX7_whoHas 7 = .ok (.getfield 7, 3) := by decide +kernel
theorem dX7_whoHas_10 : decode cX7_whoHas 10 = .ok (.iconst 0, 1) := by decide +kernel
theorem dX7_whoHas_11 : decode cX7_whoHas 11 = .ok (.iaload, 1) := by decide +kernel
theorem dX7_whoHas_12 : decode cX7_whoHas 12 = .ok (.if_icmp .ge 24, 3) := by decide +kernel
theorem dX7_whoHas_15 : decode cX7_whoHas 15 = .ok (.aload_n 0, 1) := by decide +kernel
theorem dX7_whoHas_16 : decode cX7_whoHas 16 = .ok (.iload_n 3, 1) := by decide +kernel
theorem dX7_whoHas_17 : decode cX7_whoHas 17 = .ok (.invokevirtual 67, 3) := by decide +kernel
theorem dX7_whoHas_20 : decode cX7_whoHas 20 = .ok (.iload_n 1, 1) := by decide +kernel
theorem dX7_whoHas_21 : decode cX7_whoHas 21 = .ok (.if_icmp .ne 7, 3) := by decide +kernel
theorem dX7_whoHas_24 : decode cX7_whoHas 24 = .ok (.iload_n 3, 1) := by decide +kernel
theorem dX7_whoHas_25 : decode cX7_whoHas 25 = .ok (.goto 4, 3) := by decide +kernel
theorem dX7_whoHas_28 : decode cX7_whoHas 28 = .ok (.iload_n 2, 1) := by decide +kernel
theorem dX7_whoHas_29 : decode cX7_whoHas 29 = .ok (.istore_n 2, 1) := by decide +kernel
theorem dX7_whoHas_30 : decode cX7_whoHas 30 = .ok (.iinc 3 1, 3) := by decide +kernel
theorem dX7_whoHas_33 : decode cX7_whoHas 33 = .ok (.goto (-28), 3) := by decide +kernel
theorem dX7_whoHas_36 : decode cX7_whoHas 36 = .ok (.iload_n 2, 1) := by decide +kernel
theorem dX7_whoHas_37 : decode cX7_whoHas 37 = .ok (.ireturn, 1) := by decide +kernel
theorem dX7_apart_0 : decode cX7_apart 0 = .ok (.iload_n 0, 1) := by decide +kernel
theorem dX7_apart_1 : decode cX7_apart 1 = .ok (.iload_n 1, 1) := by decide +kernel
theorem dX7_apart_2 : decode cX7_apart 2 = .ok (.if_icmp .ge 9, 3) := by decide +kernel
theorem dX7_apart_5 : decode cX7_apart 5 = .ok (.iload_n 1, 1) := by decide +kernel
theorem dX7_apart_6 : decode cX7_apart 6 = .ok (.iload_n 0, 1) := by decide +kernel
theorem dX7_apart_7 : decode cX7_apart 7 = .ok (.isub, 1) := by decide +kernel
theorem dX7_apart_8 : decode cX7_apart 8 = .ok (.goto 6, 3) := by decide +kernel
theorem dX7_apart_11 : decode cX7_apart 11 = .ok (.iload_n 0, 1) := by decide +kernel
theorem dX7_apart_12 : decode cX7_apart 12 = .ok (.iload_n 1, 1) := by decide +kernel
theorem dX7_apart_13 : decode cX7_apart 13 = .ok (.isub, 1) := by decide +kernel
theorem dX7_apart_14 : decode cX7_apart 14 = .ok (.ireturn, 1) := by decide +kernel
theorem dX7_far_0 : decode cX7_far 0 = .ok (.aload_n 0, 1) := by decide +kernel
theorem dX7_far_1 : decode cX7_far 1 = .ok (.iload_n 1, 1) := by decide +kernel
theorem dX7_far_2 : decode cX7_far 2 = .ok (.invokevirtual 67, 3) := by decide +kernel
theorem dX7_far_5 : decode cX7_far 5 = .ok (.aload_n 0, 1) := by decide +kernel
theorem dX7_far_6 : decode cX7_far 6 = .ok (.iload_n 1, 1) := by decide +kernel
theorem dX7_far_7 : decode cX7_far 7 = .ok (.iconst 3, 1) := by decide +kernel
theorem dX7_far_8 : decode cX7_far 8 = .ok (.invokevirtual 59, 3) := by decide +kernel
theorem dX7_far_11 : decode cX7_far 11 = .ok (.invokestatic 70, 3) := by decide +kernel
theorem dX7_far_14 : decode cX7_far 14 = .ok (.ireturn, 1) := by decide +kernel
theorem dX7_farAll_0 : decode cX7_farAll 0 = .ok (.iconst 0, 1) := by decide +kernel
theorem dX7_farAll_1 : decode cX7_farAll 1 = .ok (.istore_n 1, 1) := by decide +kernel
theorem dX7_farAll_2 : decode cX7_farAll 2 = .ok (.iconst 0, 1) := by decide +kernel
theorem dX7_farAll_3 : decode cX7_farAll 3 = .ok (.istore_n 2, 1) := by decide +kernel
theorem dX7_farAll_4 : decode cX7_farAll 4 = .ok (.iload_n 2, 1) := by decide +kernel
theorem dX7_farAll_5 : decode cX7_farAll 5 = .ok (.aload_n 0, 1) := by decide +kernel
theorem dX7_farAll_6 : decode cX7_farAll 6 = .ok (.getfield 7, 3) := by decide +kernel
theorem dX7_farAll_9 : decode cX7_farAll 9 = .ok (.iconst 0, 1) := by decide +kernel
theorem dX7_farAll_10 : decode cX7_farAll 10 = .ok (.iaload, 1) := by decide +kernel
theorem dX7_farAll_11 : decode cX7_farAll 11 = .ok (.if_icmp .ge 17, 3) := by decide +kernel
theorem dX7_farAll_14 : decode cX7_farAll 14 = .ok (.iload_n 1, 1) := by decide +kernel
theorem dX7_farAll_15 : decode cX7_farAll 15 = .ok (.aload_n 0, 1) := by decide +kernel
theorem dX7_farAll_16 : decode cX7_farAll 16 = .ok (.iload_n 2, 1) := by decide +kernel
theorem dX7_farAll_17 : decode cX7_farAll 17 = .ok (.invokevirtual 73, 3) := by decide +kernel
theorem dX7_farAll_20 : decode cX7_farAll 20 = .ok (.iadd, 1) := by decide +kernel
theorem dX7_farAll_21 : decode cX7_farAll 21 = .ok (.istore_n 1, 1) := by decide +kernel
theorem dX7_farAll_22 : decode cX7_farAll 22 = .ok (.iinc 2 1, 3) := by decide +kernel
theorem dX7_farAll_25 : decode cX7_farAll 25 = .ok (.goto (-21), 3) := by decide +kernel
theorem dX7_farAll_28 : decode cX7_farAll 28 = .ok (.iload_n 1, 1) := by decide +kernel
theorem dX7_farAll_29 : decode cX7_farAll 29 = .ok (.ireturn, 1) := by decide +kernel
theorem dX7_besides_0 : decode cX7_besides 0 = .ok (.iconst 0, 1) := by decide +kernel
theorem dX7_besides_1 : decode cX7_besides 1 = .ok (.istore_n 2, 1) := by decide +kernel
theorem dX7_besides_2 : decode cX7_besides 2 = .ok (.iconst 0, 1) := by decide +kernel
theorem dX7_besides_3 : decode cX7_besides 3 = .ok (.istore_n 3, 1) := by decide +kernel
theorem dX7_besides_4 : decode cX7_besides 4 = .ok (.iload_n 3, 1) := by decide +kernel
theorem dX7_besides_5 : decode cX7_besides 5 = .ok (.aload_n 0, 1) := by decide +kernel
theorem dX7_besides_6 : decode cX7_besides 6 = .ok (.getfield 7, 3) := by decide +kernel
theorem dX7_besides_9 : decode cX7_besides 9 = .ok (.iconst 0, 1) := by decide +kernel
theorem dX7_besides_10 : decode cX7_besides 10 = .ok (.iaload, 1) := by decide +kernel
theorem dX7_besides_11 : decode cX7_besides 11 = .ok (.if_icmp .ge 36, 3) := by decide +kernel
theorem dX7_besides_14 : decode cX7_besides 14 = .ok (.iload_n 2, 1) := by decide +kernel
theorem dX7_besides_15 : decode cX7_besides 15 = .ok (.aload_n 0, 1) := by decide +kernel
theorem dX7_besides_16 : decode cX7_besides 16 = .ok (.iload_n 3, 1) := by decide +kernel
theorem dX7_besides_17 : decode cX7_besides 17 = .ok (.invokevirtual 67, 3) := by decide +kernel
theorem dX7_besides_20 : decode cX7_besides 20 = .ok (.aload_n 0, 1) := by decide +kernel
theorem dX7_besides_21 : decode cX7_besides 21 = .ok (.iload_n 1, 1) := by decide +kernel
theorem dX7_besides_22 : decode cX7_besides 22 = .ok (.invokevirtual 67, 3) := by decide +kernel
theorem dX7_besides_25 : decode cX7_besides 25 = .ok (.invokestatic 70, 3) := by decide +kernel
theorem dX7_besides_28 : decode cX7_besides 28 = .ok (.iconst 1, 1) := by decide +kernel
theorem dX7_besides_29 : decode cX7_besides 29 = .ok (.if_icmp .ne 9, 3) := by decide +kernel
theorem dX7_besides_32 : decode cX7_besides 32 = .ok (.iconst 1, 1) := by decide +kernel
theorem dX7_besides_33 : decode cX7_besides 33 = .ok (.iload_n 3, 1) := by decide +kernel
theorem dX7_besides_34 : decode cX7_besides 34 = .ok (.ishl, 1) := by decide +kernel
theorem dX7_besides_35 : decode cX7_besides 35 = .ok (.goto 4, 3) := by decide +kernel
theorem dX7_besides_38 : decode cX7_besides 38 = .ok (.iconst 0, 1) := by decide +kernel
theorem dX7_besides_39 : decode cX7_besides 39 = .ok (.ior, 1) := by decide +kernel
theorem dX7_besides_40 : decode cX7_besides 40 = .ok (.istore_n 2, 1) := by decide +kernel
theorem dX7_besides_41 : decode cX7_besides 41 = .ok (.iinc 3 1, 3) := by decide +kernel
theorem dX7_besides_44 : decode cX7_besides 44 = .ok (.goto (-40), 3) := by decide +kernel
theorem dX7_besides_47 : decode cX7_besides 47 = .ok (.iload_n 2, 1) := by decide +kernel
theorem dX7_besides_48 : decode cX7_besides 48 = .ok (.ireturn, 1) := by decide +kernel
theorem dX7_ups_0 : decode cX7_ups 0 = .ok (.iconst 0, 1) := by decide +kernel
theorem dX7_ups_1 : decode cX7_ups 1 = .ok (.istore_n 1, 1) := by decide +kernel
theorem dX7_ups_2 : decode cX7_ups 2 = .ok (.iconst 0, 1) := by decide +kernel
theorem dX7_ups_3 : decode cX7_ups 3 = .ok (.istore_n 2, 1) := by decide +kernel
theorem dX7_ups_4 : decode cX7_ups 4 = .ok (.iload_n 2, 1) := by decide +kernel
theorem dX7_ups_5 : decode cX7_ups 5 = .ok (.aload_n 0, 1) := by decide +kernel
theorem dX7_ups_6 : decode cX7_ups 6 = .ok (.getfield 7, 3) := by decide +kernel
theorem dX7_ups_9 : decode cX7_ups 9 = .ok (.iconst 0, 1) := by decide +kernel
theorem dX7_ups_10 : decode cX7_ups 10 = .ok (.iaload, 1) := by decide +kernel
theorem dX7_ups_11 : decode cX7_ups 11 = .ok (.if_icmp .ge 27, 3) := by decide +kernel
theorem dX7_ups_14 : decode cX7_ups 14 = .ok (.iload_n 1, 1) := by decide +kernel
theorem dX7_ups_15 : decode cX7_ups 15 = .ok (.aload_n 0, 1) := by decide +kernel
theorem dX7_ups_16 : decode cX7_ups 16 = .ok (.iload_n 2, 1) := by decide +kernel
theorem dX7_ups_17 : decode cX7_ups 17 = .ok (.invokevirtual 76, 3) := by decide +kernel
theorem dX7_ups_20 : decode cX7_ups 20 = .ok (.ifCond .eq 9, 3) := by decide +kernel
theorem dX7_ups_23 : decode cX7_ups 23 = .ok (.iconst 1, 1) := by decide +kernel
theorem dX7_ups_24 : decode cX7_ups 24 = .ok (.iload_n 2, 1) := by decide +kernel
theorem dX7_ups_25 : decode cX7_ups 25 = .ok (.ishl, 1) := by decide +kernel
theorem dX7_ups_26 : decode cX7_ups 26 = .ok (.goto 4, 3) := by decide +kernel
theorem dX7_ups_29 : decode cX7_ups 29 = .ok (.iconst 0, 1) := by decide +kernel
theorem dX7_ups_30 : decode cX7_ups 30 = .ok (.ior, 1) := by decide +kernel
theorem dX7_ups_31 : decode cX7_ups 31 = .ok (.istore_n 1, 1) := by decide +kernel
theorem dX7_ups_32 : decode cX7_ups 32 = .ok (.iinc 2 1, 3) := by decide +kernel
theorem dX7_ups_35 : decode cX7_ups 35 = .ok (.goto (-31), 3) := by decide +kernel
theorem dX7_ups_38 : decode cX7_ups 38 = .ok (.iload_n 1, 1) := by decide +kernel
theorem dX7_ups_39 : decode cX7_ups 39 = .ok (.ireturn, 1) := by decide +kernel
theorem dX7_many_0 : decode cX7_many 0 = .ok (.iconst 0, 1) := by decide +kernel
theorem dX7_many_1 : decode cX7_many 1 = .ok (.istore_n 1, 1) := by decide +kernel
theorem dX7_many_2 : decode cX7_many 2 = .ok (.iload_n 0, 1) := by decide +kernel
theorem dX7_many_3 : decode cX7_many 3 = .ok (.istore_n 2, 1) := by decide +kernel
theorem dX7_many_4 : decode cX7_many 4 = .ok (.iload_n 2, 1) := by decide +kernel
theorem dX7_many_5 : decode cX7_many 5 = .ok (.ifCond .eq 15, 3) := by decide +kernel
theorem dX7_many_8 : decode cX7_many 8 = .ok (.iinc 1 1, 3) := by decide +kernel
theorem dX7_many_11 : decode cX7_many 11 = .ok (.iload_n 2, 1) := by decide +kernel
theorem dX7_many_12 : decode cX7_many 12 = .ok (.iload_n 2, 1) := by decide +kernel
theorem dX7_many_13 : decode cX7_many 13 = .ok (.iconst 1, 1) := by decide +kernel
theorem dX7_many_14 : decode cX7_many 14 = .ok (.isub, 1) := by decide +kernel
theorem dX7_many_15 : decode cX7_many 15 = .ok (.iand, 1) := by decide +kernel
theorem dX7_many_16 : decode cX7_many 16 = .ok (.istore_n 2, 1) := by decide +kernel
theorem dX7_many_17 : decode cX7_many 17 = .ok (.goto (-13), 3) := by decide +kernel
theorem dX7_many_20 : decode cX7_many 20 = .ok (.iload_n 1, 1) := by decide +kernel
theorem dX7_many_21 : decode cX7_many 21 = .ok (.ireturn, 1) := by decide +kernel
theorem dX7_more_0 : decode cX7_more 0 = .ok (.aload_n 0, 1) := by decide +kernel
theorem dX7_more_1 : decode cX7_more 1 = .ok (.iload_n 1, 1) := by decide +kernel
theorem dX7_more_2 : decode cX7_more 2 = .ok (.invokevirtual 76, 3) := by decide +kernel
theorem dX7_more_5 : decode cX7_more 5 = .ok (.ifCond .eq 5, 3) := by decide +kernel
theorem dX7_more_8 : decode cX7_more 8 = .ok (.iconst 0, 1) := by decide +kernel
theorem dX7_more_9 : decode cX7_more 9 = .ok (.ireturn, 1) := by decide +kernel
theorem dX7_more_10 : decode cX7_more 10 = .ok (.bipush 10, 2) := by decide +kernel
theorem dX7_more_12 : decode cX7_more 12 = .ok (.aload_n 0, 1) := by decide +kernel
theorem dX7_more_13 : decode cX7_more 13 = .ok (.getfield 7, 3) := by decide +kernel
theorem dX7_more_16 : decode cX7_more 16 = .ok (.bipush 28, 2) := by decide +kernel
theorem dX7_more_18 : decode cX7_more 18 = .ok (.aload_n 0, 1) := by decide +kernel
theorem dX7_more_19 : decode cX7_more 19 = .ok (.iload_n 1, 1) := by decide +kernel
theorem dX7_more_20 : decode cX7_more 20 = .ok (.invokevirtual 67, 3) := by decide +kernel
theorem dX7_more_23 : decode cX7_more 23 = .ok (.iadd, 1) := by decide +kernel
theorem dX7_more_24 : decode cX7_more 24 = .ok (.iaload, 1) := by decide +kernel
theorem dX7_more_25 : decode cX7_more 25 = .ok (.isub, 1) := by decide +kernel
theorem dX7_more_26 : decode cX7_more 26 = .ok (.istore_n 2, 1) := by decide +kernel
theorem dX7_more_27 : decode cX7_more 27 = .ok (.aload_n 0, 1) := by decide +kernel
theorem dX7_more_28 : decode cX7_more 28 = .ok (.iload_n 1, 1) := by decide +kernel
theorem dX7_more_29 : decode cX7_more 29 = .ok (.invokevirtual 80, 3) := by decide +kernel
theorem dX7_more_32 : decode cX7_more 32 = .ok (.istore_n 3, 1) := by decide +kernel
theorem dX7_more_33 : decode cX7_more 33 = .ok (.iload_n 2, 1) := by decide +kernel
theorem dX7_more_34 : decode cX7_more 34 = .ok (.iload_n 3, 1) := by decide +kernel
theorem dX7_more_35 : decode cX7_more 35 = .ok (.aload_n 0, 1) := by decide +kernel
theorem dX7_more_36 : decode cX7_more 36 = .ok (.invokevirtual 83, 3) := by decide +kernel
theorem dX7_more_39 : decode cX7_more 39 = .ok (.iconst (-1), 1) := by decide +kernel
theorem dX7_more_40 : decode cX7_more 40 = .ok (.ixor, 1) := by decide +kernel
theorem dX7_more_41 : decode cX7_more 41 = .ok (.iand, 1) := by decide +kernel
theorem dX7_more_42 : decode cX7_more 42 = .ok (.invokestatic 87, 3) := by decide +kernel
theorem dX7_more_45 : decode cX7_more 45 = .ok (.isub, 1) := by decide +kernel
theorem dX7_more_46 : decode cX7_more 46 = .ok (.istore 4, 2) := by decide +kernel
theorem dX7_more_48 : decode cX7_more 48 = .ok (.iload 4, 2) := by decide +kernel
theorem dX7_more_50 : decode cX7_more 50 = .ok (.ifCond .ge 7, 3) := by decide +kernel
theorem dX7_more_53 : decode cX7_more 53 = .ok (.iconst 0, 1) := by decide +kernel
theorem dX7_more_54 : decode cX7_more 54 = .ok (.goto 5, 3) := by decide +kernel
theorem dX7_more_57 : decode cX7_more 57 = .ok (.iload 4, 2) := by decide +kernel
theorem dX7_more_59 : decode cX7_more 59 = .ok (.istore 4, 2) := by decide +kernel
theorem dX7_more_61 : decode cX7_more 61 = .ok (.iload_n 2, 1) := by decide +kernel
theorem dX7_more_62 : decode cX7_more 62 = .ok (.aload_n 0, 1) := by decide +kernel
theorem dX7_more_63 : decode cX7_more 63 = .ok (.iload_n 1, 1) := by decide +kernel
theorem dX7_more_64 : decode cX7_more 64 = .ok (.invokevirtual 67, 3) := by decide +kernel
theorem dX7_more_67 : decode cX7_more 67 = .ok (.iconst 5, 1) := by decide +kernel
theorem dX7_more_68 : decode cX7_more 68 = .ok (.irem, 1) := by decide +kernel
theorem dX7_more_69 : decode cX7_more 69 = .ok (.ifCond .ne 7, 3) := by decide +kernel
theorem dX7_more_72 : decode cX7_more 72 = .ok (.iconst 3, 1) := by decide +kernel
theorem dX7_more_73 : decode cX7_more 73 = .ok (.goto 4, 3) := by decide +kernel
theorem dX7_more_76 : decode cX7_more 76 = .ok (.iconst 0, 1) := by decide +kernel
theorem dX7_more_77 : decode cX7_more 77 = .ok (.iadd, 1) := by decide +kernel
theorem dX7_more_78 : decode cX7_more 78 = .ok (.istore 5, 2) := by decide +kernel
theorem dX7_more_80 : decode cX7_more 80 = .ok (.aload_n 0, 1) := by decide +kernel
theorem dX7_more_81 : decode cX7_more 81 = .ok (.iload_n 1, 1) := by decide +kernel
theorem dX7_more_82 : decode cX7_more 82 = .ok (.iconst 0, 1) := by decide +kernel
theorem dX7_more_83 : decode cX7_more 83 = .ok (.invokevirtual 59, 3) := by decide +kernel
theorem dX7_more_86 : decode cX7_more 86 = .ok (.tableswitch 51 0 3 #[30, 32, 35, 38], 30) := by decide +kernel
theorem dX7_more_116 : decode cX7_more 116 = .ok (.iload_n 2, 1) := by decide +kernel
theorem dX7_more_117 : decode cX7_more 117 = .ok (.ireturn, 1) := by decide +kernel
theorem dX7_more_118 : decode cX7_more 118 = .ok (.iload 4, 2) := by decide +kernel
theorem dX7_more_120 : decode cX7_more 120 = .ok (.ireturn, 1) := by decide +kernel
theorem dX7_more_121 : decode cX7_more 121 = .ok (.iload 5, 2) := by decide +kernel
theorem dX7_more_123 : decode cX7_more 123 = .ok (.ireturn, 1) := by decide +kernel
theorem dX7_more_124 : decode cX7_more 124 = .ok (.iload 4, 2) := by decide +kernel
theorem dX7_more_126 : decode cX7_more 126 = .ok (.iconst 4, 1) := by decide +kernel
theorem dX7_more_127 : decode cX7_more 127 = .ok (.if_icmp .le 7, 3) := by decide +kernel
theorem dX7_more_130 : decode cX7_more 130 = .ok (.iconst 4, 1) := by decide +kernel
theorem dX7_more_131 : decode cX7_more 131 = .ok (.goto 5, 3) := by decide +kernel
theorem dX7_more_134 : decode cX7_more 134 = .ok (.iload 4, 2) := by decide +kernel
theorem dX7_more_136 : decode cX7_more 136 = .ok (.ireturn, 1) := by decide +kernel
theorem dX7_more_137 : decode cX7_more 137 = .ok (.iload 5, 2) := by decide +kernel
theorem dX7_more_139 : decode cX7_more 139 = .ok (.iconst 2, 1) := by decide +kernel
theorem dX7_more_140 : decode cX7_more 140 = .ok (.iload_n 3, 1) := by decide +kernel
theorem dX7_more_141 : decode cX7_more 141 = .ok (.aload_n 0, 1) := by decide +kernel
theorem dX7_more_142 : decode cX7_more 142 = .ok (.invokevirtual 83, 3) := by decide +kernel
theorem dX7_more_145 : decode cX7_more 145 = .ok (.iand, 1) := by decide +kernel
theorem dX7_more_146 : decode cX7_more 146 = .ok (.invokestatic 87, 3) := by decide +kernel
theorem dX7_more_149 : decode cX7_more 149 = .ok (.imul, 1) := by decide +kernel
theorem dX7_more_150 : decode cX7_more 150 = .ok (.iadd, 1) := by decide +kernel
theorem dX7_more_151 : decode cX7_more 151 = .ok (.ireturn, 1) := by decide +kernel
theorem dX7_usedBy_0 : decode cX7_usedBy 0 = .ok (.aload_n 0, 1) := by decide +kernel
theorem dX7_usedBy_1 : decode cX7_usedBy 1 = .ok (.getfield 7, 3) := by decide +kernel
theorem dX7_usedBy_4 : decode cX7_usedBy 4 = .ok (.iconst 4, 1) := by decide +kernel
theorem dX7_usedBy_5 : decode cX7_usedBy 5 = .ok (.iconst 4, 1) := by decide +kernel
theorem dX7_usedBy_6 : decode cX7_usedBy 6 = .ok (.iload_n 1, 1) := by decide +kernel
theorem dX7_usedBy_7 : decode cX7_usedBy 7 = .ok (.imul, 1) := by decide +kernel
theorem dX7_usedBy_8 : decode cX7_usedBy 8 = .ok (.iadd, 1) := by decide +kernel
theorem dX7_usedBy_9 : decode cX7_usedBy 9 = .ok (.iconst 1, 1) := by decide +kernel
theorem dX7_usedBy_10 : decode cX7_usedBy 10 = .ok (.iadd, 1) := by decide +kernel
theorem dX7_usedBy_11 : decode cX7_usedBy 11 = .ok (.iload_n 2, 1) := by decide +kernel
theorem dX7_usedBy_12 : decode cX7_usedBy 12 = .ok (.bipush 99, 2) := by decide +kernel
theorem dX7_usedBy_14 : decode cX7_usedBy 14 = .ok (.if_icmp .le 8, 3) := by decide +kernel
theorem dX7_usedBy_17 : decode cX7_usedBy 17 = .ok (.bipush 99, 2) := by decide +kernel
theorem dX7_usedBy_19 : decode cX7_usedBy 19 = .ok (.goto 12, 3) := by decide +kernel
theorem dX7_usedBy_22 : decode cX7_usedBy 22 = .ok (.iload_n 2, 1) := by decide +kernel
theorem dX7_usedBy_23 : decode cX7_usedBy 23 = .ok (.ifCond .ge 7, 3) := by decide +kernel
theorem dX7_usedBy_26 : decode cX7_usedBy 26 = .ok (.iconst 0, 1) := by decide +kernel
theorem dX7_usedBy_27 : decode cX7_usedBy 27 = .ok (.goto 4, 3) := by decide +kernel
theorem dX7_usedBy_30 : decode cX7_usedBy 30 = .ok (.iload_n 2, 1) := by decide +kernel
theorem dX7_usedBy_31 : decode cX7_usedBy 31 = .ok (.iastore, 1) := by decide +kernel
theorem dX7_usedBy_32 : decode cX7_usedBy 32 = .ok (.return_, 1) := by decide +kernel
theorem dX7_sits_0 : decode cX7_sits 0 = .ok (.aload_n 0, 1) := by decide +kernel
theorem dX7_sits_1 : decode cX7_sits 1 = .ok (.getfield 7, 3) := by decide +kernel
theorem dX7_sits_4 : decode cX7_sits 4 = .ok (.iconst 4, 1) := by decide +kernel
theorem dX7_sits_5 : decode cX7_sits 5 = .ok (.iconst 4, 1) := by decide +kernel
theorem dX7_sits_6 : decode cX7_sits 6 = .ok (.iload_n 1, 1) := by decide +kernel
theorem dX7_sits_7 : decode cX7_sits 7 = .ok (.imul, 1) := by decide +kernel
theorem dX7_sits_8 : decode cX7_sits 8 = .ok (.iadd, 1) := by decide +kernel
theorem dX7_sits_9 : decode cX7_sits 9 = .ok (.iconst 2, 1) := by decide +kernel
theorem dX7_sits_10 : decode cX7_sits 10 = .ok (.iadd, 1) := by decide +kernel
theorem dX7_sits_11 : decode cX7_sits 11 = .ok (.iload_n 2, 1) := by decide +kernel
theorem dX7_sits_12 : decode cX7_sits 12 = .ok (.iastore, 1) := by decide +kernel
theorem dX7_sits_13 : decode cX7_sits 13 = .ok (.return_, 1) := by decide +kernel
theorem dX7_goesBy_0 : decode cX7_goesBy 0 = .ok (.iconst 0, 1) := by decide +kernel
theorem dX7_goesBy_1 : decode cX7_goesBy 1 = .ok (.istore_n 1, 1) := by decide +kernel
theorem dX7_goesBy_2 : decode cX7_goesBy 2 = .ok (.iload_n 1, 1) := by decide +kernel
theorem dX7_goesBy_3 : decode cX7_goesBy 3 = .ok (.aload_n 0, 1) := by decide +kernel
theorem dX7_goesBy_4 : decode cX7_goesBy 4 = .ok (.getfield 7, 3) := by decide +kernel
theorem dX7_goesBy_7 : decode cX7_goesBy 7 = .ok (.iconst 0, 1) := by decide +kernel
theorem dX7_goesBy_8 : decode cX7_goesBy 8 = .ok (.iaload, 1) := by decide +kernel
theorem dX7_goesBy_9 : decode cX7_goesBy 9 = .ok (.if_icmp .ge 54, 3) := by decide +kernel
theorem dX7_goesBy_12 : decode cX7_goesBy 12 = .ok (.aload_n 0, 1) := by decide +kernel
theorem dX7_goesBy_13 : decode cX7_goesBy 13 = .ok (.getfield 13, 3) := by decide +kernel
theorem dX7_goesBy_16 : decode cX7_goesBy 16 = .ok (.iload_n 1, 1) := by decide +kernel
theorem dX7_goesBy_17 : decode cX7_goesBy 17 = .ok (.aload_n 0, 1) := by decide +kernel
theorem dX7_goesBy_18 : decode cX7_goesBy 18 = .ok (.iload_n 1, 1) := by decide +kernel
theorem dX7_goesBy_19 : decode cX7_goesBy 19 = .ok (.invokevirtual 90, 3) := by decide +kernel
theorem dX7_goesBy_22 : decode cX7_goesBy 22 = .ok (.iastore, 1) := by decide +kernel
theorem dX7_goesBy_23 : decode cX7_goesBy 23 = .ok (.aload_n 0, 1) := by decide +kernel
theorem dX7_goesBy_24 : decode cX7_goesBy 24 = .ok (.getfield 7, 3) := by decide +kernel
theorem dX7_goesBy_27 : decode cX7_goesBy 27 = .ok (.iconst 2, 1) := by decide +kernel
theorem dX7_goesBy_28 : decode cX7_goesBy 28 = .ok (.dup2, 1) := by decide +kernel
theorem dX7_goesBy_29 : decode cX7_goesBy 29 = .ok (.iaload, 1) := by decide +kernel
theorem dX7_goesBy_30 : decode cX7_goesBy 30 = .ok (.aload_n 0, 1) := by decide +kernel
theorem dX7_goesBy_31 : decode cX7_goesBy 31 = .ok (.iload_n 1, 1) := by decide +kernel
theorem dX7_goesBy_32 : decode cX7_goesBy 32 = .ok (.invokevirtual 76, 3) := by decide +kernel
theorem dX7_goesBy_35 : decode cX7_goesBy 35 = .ok (.ifCond .eq 7, 3) := by decide +kernel
theorem dX7_goesBy_38 : decode cX7_goesBy 38 = .ok (.iconst 0, 1) := by decide +kernel
theorem dX7_goesBy_39 : decode cX7_goesBy 39 = .ok (.goto 16, 3) := by decide +kernel
theorem dX7_goesBy_42 : decode cX7_goesBy 42 = .ok (.aload_n 0, 1) := by decide +kernel
theorem dX7_goesBy_43 : decode cX7_goesBy 43 = .ok (.getfield 7, 3) := by decide +kernel
theorem dX7_goesBy_46 : decode cX7_goesBy 46 = .ok (.bipush 34, 2) := by decide +kernel
theorem dX7_goesBy_48 : decode cX7_goesBy 48 = .ok (.aload_n 0, 1) := by decide +kernel
theorem dX7_goesBy_49 : decode cX7_goesBy 49 = .ok (.iload_n 1, 1) := by decide +kernel
theorem dX7_goesBy_50 : decode cX7_goesBy 50 = .ok (.invokevirtual 67, 3) := by decide +kernel
theorem dX7_goesBy_53 : decode cX7_goesBy 53 = .ok (.iadd, 1) := by decide +kernel
theorem dX7_goesBy_54 : decode cX7_goesBy 54 = .ok (.iaload, 1) := by decide +kernel
theorem dX7_goesBy_55 : decode cX7_goesBy 55 = .ok (.iadd, 1) := by decide +kernel
theorem dX7_goesBy_56 : decode cX7_goesBy 56 = .ok (.iastore, 1) := by decide +kernel
theorem dX7_goesBy_57 : decode cX7_goesBy 57 = .ok (.iinc 1 1, 3) := by decide +kernel
theorem dX7_goesBy_60 : decode cX7_goesBy 60 = .ok (.goto (-58), 3) := by decide +kernel
theorem dX7_goesBy_63 : decode cX7_goesBy 63 = .ok (.iconst 0, 1) := by decide +kernel
theorem dX7_goesBy_64 : decode cX7_goesBy 64 = .ok (.istore_n 1, 1) := by decide +kernel
theorem dX7_goesBy_65 : decode cX7_goesBy 65 = .ok (.iload_n 1, 1) := by decide +kernel
theorem dX7_goesBy_66 : decode cX7_goesBy 66 = .ok (.aload_n 0, 1) := by decide +kernel
theorem dX7_goesBy_67 : decode cX7_goesBy 67 = .ok (.getfield 7, 3) := by decide +kernel
theorem dX7_goesBy_70 : decode cX7_goesBy 70 = .ok (.iconst 0, 1) := by decide +kernel
theorem dX7_goesBy_71 : decode cX7_goesBy 71 = .ok (.iaload, 1) := by decide +kernel
theorem dX7_goesBy_72 : decode cX7_goesBy 72 = .ok (.if_icmp .ge 26, 3) := by decide +kernel
theorem dX7_goesBy_75 : decode cX7_goesBy 75 = .ok (.aload_n 0, 1) := by decide +kernel
theorem dX7_goesBy_76 : decode cX7_goesBy 76 = .ok (.iload_n 1, 1) := by decide +kernel
theorem dX7_goesBy_77 : decode cX7_goesBy 77 = .ok (.aload_n 0, 1) := by decide +kernel
theorem dX7_goesBy_78 : decode cX7_goesBy 78 = .ok (.iload_n 1, 1) := by decide +kernel
theorem dX7_goesBy_79 : decode cX7_goesBy 79 = .ok (.invokevirtual 63, 3) := by decide +kernel
theorem dX7_goesBy_82 : decode cX7_goesBy 82 = .ok (.aload_n 0, 1) := by decide +kernel
theorem dX7_goesBy_83 : decode cX7_goesBy 83 = .ok (.getfield 13, 3) := by decide +kernel
theorem dX7_goesBy_86 : decode cX7_goesBy 86 = .ok (.iload_n 1, 1) := by decide +kernel
theorem dX7_goesBy_87 : decode cX7_goesBy 87 = .ok (.iaload, 1) := by decide +kernel
theorem dX7_goesBy_88 : decode cX7_goesBy 88 = .ok (.iadd, 1) := by decide +kernel
theorem dX7_goesBy_89 : decode cX7_goesBy 89 = .ok (.invokevirtual 93, 3) := by decide +kernel
theorem dX7_goesBy_92 : decode cX7_goesBy 92 = .ok (.iinc 1 1, 3) := by decide +kernel
theorem dX7_goesBy_95 : decode cX7_goesBy 95 = .ok (.goto (-30), 3) := by decide +kernel
theorem dX7_goesBy_98 : decode cX7_goesBy 98 = .ok (.aload_n 0, 1) := by decide +kernel
theorem dX7_goesBy_99 : decode cX7_goesBy 99 = .ok (.getfield 7, 3) := by decide +kernel
theorem dX7_goesBy_102 : decode cX7_goesBy 102 = .ok (.iconst 1, 1) := by decide +kernel
theorem dX7_goesBy_103 : decode cX7_goesBy 103 = .ok (.dup2, 1) := by decide +kernel
theorem dX7_goesBy_104 : decode cX7_goesBy 104 = .ok (.iaload, 1) := by decide +kernel
theorem dX7_goesBy_105 : decode cX7_goesBy 105 = .ok (.iconst 1, 1) := by decide +kernel
theorem dX7_goesBy_106 : decode cX7_goesBy 106 = .ok (.iadd, 1) := by decide +kernel
theorem dX7_goesBy_107 : decode cX7_goesBy 107 = .ok (.iastore, 1) := by decide +kernel
theorem dX7_goesBy_108 : decode cX7_goesBy 108 = .ok (.return_, 1) := by decide +kernel
theorem dX7_goesOn_0 : decode cX7_goesOn 0 = .ok (.iconst 0, 1) := by decide +kernel
theorem dX7_goesOn_1 : decode cX7_goesOn 1 = .ok (.istore_n 2, 1) := by decide +kernel
theorem dX7_goesOn_2 : decode cX7_goesOn 2 = .ok (.iload_n 2, 1) := by decide +kernel
theorem dX7_goesOn_3 : decode cX7_goesOn 3 = .ok (.iload_n 1, 1) := by decide +kernel
theorem dX7_goesOn_4 : decode cX7_goesOn 4 = .ok (.if_icmp .ge 13, 3) := by decide +kernel
theorem dX7_goesOn_7 : decode cX7_goesOn 7 = .ok (.aload_n 0, 1) := by decide +kernel
theorem dX7_goesOn_8 : decode cX7_goesOn 8 = .ok (.invokevirtual 97, 3) := by decide +kernel
theorem dX7_goesOn_11 : decode cX7_goesOn 11 = .ok (.iinc 2 1, 3) := by decide +kernel
theorem dX7_goesOn_14 : decode cX7_goesOn 14 = .ok (.goto (-12), 3) := by decide +kernel
theorem dX7_goesOn_17 : decode cX7_goesOn 17 = .ok (.return_, 1) := by decide +kernel
theorem dX7_talks_0 : decode cX7_talks 0 = .ok (.aload_n 0, 1) := by decide +kernel
theorem dX7_talks_1 : decode cX7_talks 1 = .ok (.iload_n 1, 1) := by decide +kernel
theorem dX7_talks_2 : decode cX7_talks 2 = .ok (.invokevirtual 76, 3) := by decide +kernel
theorem dX7_talks_5 : decode cX7_talks 5 = .ok (.ifCond .ne 15, 3) := by decide +kernel
theorem dX7_talks_8 : decode cX7_talks 8 = .ok (.aload_n 0, 1) := by decide +kernel
theorem dX7_talks_9 : decode cX7_talks 9 = .ok (.iload_n 1, 1) := by decide +kernel
theorem dX7_talks_10 : decode cX7_talks 10 = .ok (.aload_n 0, 1) := by decide +kernel
theorem dX7_talks_11 : decode cX7_talks 11 = .ok (.iload_n 1, 1) := by decide +kernel
theorem dX7_talks_12 : decode cX7_talks 12 = .ok (.invokevirtual 63, 3) := by decide +kernel
theorem dX7_talks_15 : decode cX7_talks 15 = .ok (.iconst 5, 1) := by decide +kernel
theorem dX7_talks_16 : decode cX7_talks 16 = .ok (.isub, 1) := by decide +kernel
theorem dX7_talks_17 : decode cX7_talks 17 = .ok (.invokevirtual 93, 3) := by decide +kernel
theorem dX7_talks_20 : decode cX7_talks 20 = .ok (.return_, 1) := by decide +kernel
theorem dX7_holderComes_0 : decode cX7_holderComes 0 = .ok (.iconst 4, 1) := by decide +kernel
theorem dX7_holderComes_1 : decode cX7_holderComes 1 = .ok (.iconst 4, 1) := by decide +kernel
theorem dX7_holderComes_2 : decode cX7_holderComes 2 = .ok (.aload_n 0, 1) := by decide +kernel
theorem dX7_holderComes_3 : decode cX7_holderComes 3 = .ok (.getfield 7, 3) := by decide +kernel
theorem dX7_holderComes_6 : decode cX7_holderComes 6 = .ok (.iconst 0, 1) := by decide +kernel
theorem dX7_holderComes_7 : decode cX7_holderComes 7 = .ok (.iaload, 1) := by decide +kernel
theorem dX7_holderComes_8 : decode cX7_holderComes 8 = .ok (.imul, 1) := by decide +kernel
theorem dX7_holderComes_9 : decode cX7_holderComes 9 = .ok (.iadd, 1) := by decide +kernel
theorem dX7_holderComes_10 : decode cX7_holderComes 10 = .ok (.istore 5, 2) := by decide +kernel
theorem dX7_holderComes_12 : decode cX7_holderComes 12 = .ok (.aload_n 0, 1) := by decide +kernel
theorem dX7_holderComes_13 : decode cX7_holderComes 13 = .ok (.getfield 7, 3) := by decide +kernel
theorem dX7_holderComes_16 : decode cX7_holderComes 16 = .ok (.iload 5, 2) := by decide +kernel
theorem dX7_holderComes_18 : decode cX7_holderComes 18 = .ok (.iload_n 1, 1) := by decide +kernel
theorem dX7_holderComes_19 : decode cX7_holderComes 19 = .ok (.iastore, 1) := by decide +kernel
theorem dX7_holderComes_20 : decode cX7_holderComes 20 = .ok (.aload_n 0, 1) := by decide +kernel
theorem dX7_holderComes_21 : decode cX7_holderComes 21 = .ok (.getfield 7, 3) := by decide +kernel
theorem dX7_holderComes_24 : decode cX7_holderComes 24 = .ok (.iload 5, 2) := by decide +kernel
theorem dX7_holderComes_26 : decode cX7_holderComes 26 = .ok (.iconst 1, 1) := by decide +kernel
theorem dX7_holderComes_27 : decode cX7_holderComes 27 = .ok (.iadd, 1) := by decide +kernel
theorem dX7_holderComes_28 : decode cX7_holderComes 28 = .ok (.iload_n 2, 1) := by decide +kernel
theorem dX7_holderComes_29 : decode cX7_holderComes 29 = .ok (.iastore, 1) := by decide +kernel
theorem dX7_holderComes_30 : decode cX7_holderComes 30 = .ok (.aload_n 0, 1) := by decide +kernel
theorem dX7_holderComes_31 : decode cX7_holderComes 31 = .ok (.getfield 7, 3) := by decide +kernel
theorem dX7_holderComes_34 : decode cX7_holderComes 34 = .ok (.iload 5, 2) := by decide +kernel
theorem dX7_holderComes_36 : decode cX7_holderComes 36 = .ok (.iconst 2, 1) := by decide +kernel
theorem dX7_holderComes_37 : decode cX7_holderComes 37 = .ok (.iadd, 1) := by decide +kernel
theorem dX7_holderComes_38 : decode cX7_holderComes 38 = .ok (.iload_n 3, 1) := by decide +kernel
theorem dX7_holderComes_39 : decode cX7_holderComes 39 = .ok (.iastore, 1) := by decide +kernel
theorem dX7_holderComes_40 : decode cX7_holderComes 40 = .ok (.aload_n 0, 1) := by decide +kernel
theorem dX7_holderComes_41 : decode cX7_holderComes 41 = .ok (.getfield 7, 3) := by decide +kernel
theorem dX7_holderComes_44 : decode cX7_holderComes 44 = .ok (.iload 5, 2) := by decide +kernel
theorem dX7_holderComes_46 : decode cX7_holderComes 46 = .ok (.iconst 3, 1) := by decide +kernel
theorem dX7_holderComes_47 : decode cX7_holderComes 47 = .ok (.iadd, 1) := by decide +kernel
theorem dX7_holderComes_48 : decode cX7_holderComes 48 = .ok (.iload 4, 2) := by decide +kernel
theorem dX7_holderComes_50 : decode cX7_holderComes 50 = .ok (.iastore, 1) := by decide +kernel
theorem dX7_holderComes_51 : decode cX7_holderComes 51 = .ok (.aload_n 0, 1) := by decide +kernel
theorem dX7_holderComes_52 : decode cX7_holderComes 52 = .ok (.getfield 7, 3) := by decide +kernel
theorem dX7_holderComes_55 : decode cX7_holderComes 55 = .ok (.iconst 0, 1) := by decide +kernel
theorem dX7_holderComes_56 : decode cX7_holderComes 56 = .ok (.dup2, 1) := by decide +kernel
theorem dX7_holderComes_57 : decode cX7_holderComes 57 = .ok (.iaload, 1) := by decide +kernel
theorem dX7_holderComes_58 : decode cX7_holderComes 58 = .ok (.iconst 1, 1) := by decide +kernel
theorem dX7_holderComes_59 : decode cX7_holderComes 59 = .ok (.iadd, 1) := by decide +kernel
theorem dX7_holderComes_60 : decode cX7_holderComes 60 = .ok (.iastore, 1) := by decide +kernel
theorem dX7_holderComes_61 : decode cX7_holderComes 61 = .ok (.aload_n 0, 1) := by decide +kernel
theorem dX7_holderComes_62 : decode cX7_holderComes 62 = .ok (.iconst 0, 1) := by decide +kernel
theorem dX7_holderComes_63 : decode cX7_holderComes 63 = .ok (.putfield 100, 3) := by decide +kernel
theorem dX7_holderComes_66 : decode cX7_holderComes 66 = .ok (.return_, 1) := by decide +kernel
theorem dX7_holder_0 : decode cX7_holder 0 = .ok (.iload_n 1, 1) := by decide +kernel
theorem dX7_holder_1 : decode cX7_holder 1 = .ok (.i2l, 1) := by decide +kernel
theorem dX7_holder_2 : decode cX7_holder 2 = .ok (.lconst 0, 1) := by decide +kernel
theorem dX7_holder_3 : decode cX7_holder 3 = .ok (.ldc2_w 104, 3) := by decide +kernel
theorem dX7_holder_6 : decode cX7_holder 6 = .ok (.invokestatic 53, 3) := by decide +kernel
theorem dX7_holder_9 : decode cX7_holder 9 = .ok (.ifCond .eq 22, 3) := by decide +kernel
theorem dX7_holder_12 : decode cX7_holder 12 = .ok (.iload_n 2, 1) := by decide +kernel
theorem dX7_holder_13 : decode cX7_holder 13 = .ok (.i2l, 1) := by decide +kernel
theorem dX7_holder_14 : decode cX7_holder 14 = .ok (.lconst 0, 1) := by decide +kernel
theorem dX7_holder_15 : decode cX7_holder 15 = .ok (.ldc2_w 106, 3) := by decide +kernel
theorem dX7_holder_18 : decode cX7_holder 18 = .ok (.invokestatic 53, 3) := by decide +kernel
theorem dX7_holder_21 : decode cX7_holder 21 = .ok (.ifCond .eq 10, 3) := by decide +kernel
theorem dX7_holder_24 : decode cX7_holder 24 = .ok (.iload_n 3, 1) := by decide +kernel
theorem dX7_holder_25 : decode cX7_holder 25 = .ok (.invokestatic 108, 3) := by decide +kernel
theorem dX7_holder_28 : decode cX7_holder 28 = .ok (.ifCond .ne 5, 3) := by decide +kernel
theorem dX7_holder_31 : decode cX7_holder 31 = .ok (.iconst (-1), 1) := by decide +kernel
theorem dX7_holder_32 : decode cX7_holder 32 = .ok (.ireturn, 1) := by decide +kernel
theorem dX7_holder_33 : decode cX7_holder 33 = .ok (.aload_n 0, 1) := by decide +kernel
theorem dX7_holder_34 : decode cX7_holder 34 = .ok (.getfield 7, 3) := by decide +kernel
theorem dX7_holder_37 : decode cX7_holder 37 = .ok (.iconst 0, 1) := by decide +kernel
theorem dX7_holder_38 : decode cX7_holder 38 = .ok (.iaload, 1) := by decide +kernel
theorem dX7_holder_39 : decode cX7_holder 39 = .ok (.bipush 6, 2) := by decide +kernel
theorem dX7_holder_41 : decode cX7_holder 41 = .ok (.if_icmp .ne 6, 3) := by decide +kernel
theorem dX7_holder_44 : decode cX7_holder 44 = .ok (.bipush (-3), 2) := by decide +kernel
theorem dX7_holder_46 : decode cX7_holder 46 = .ok (.ireturn, 1) := by decide +kernel
theorem dX7_holder_47 : decode cX7_holder 47 = .ok (.iconst 0, 1) := by decide +kernel
theorem dX7_holder_48 : decode cX7_holder 48 = .ok (.istore 4, 2) := by decide +kernel
theorem dX7_holder_50 : decode cX7_holder 50 = .ok (.aload_n 0, 1) := by decide +kernel
theorem dX7_holder_51 : decode cX7_holder 51 = .ok (.iload 4, 2) := by decide +kernel
theorem dX7_holder_53 : decode cX7_holder 53 = .ok (.invokevirtual 111, 3) := by decide +kernel
theorem dX7_holder_56 : decode cX7_holder 56 = .ok (.bipush (-4), 2) := by decide +kernel
theorem dX7_holder_58 : decode cX7_holder 58 = .ok (.if_icmp .eq 9, 3) := by decide +kernel
theorem dX7_holder_61 : decode cX7_holder 61 = .ok (.iinc 4 1, 3) := by decide +kernel
theorem dX7_holder_64 : decode cX7_holder 64 = .ok (.goto (-14), 3) := by decide +kernel
theorem dX7_holder_67 : decode cX7_holder 67 = .ok (.aload_n 0, 1) := by decide +kernel
theorem dX7_holder_68 : decode cX7_holder 68 = .ok (.iload_n 1, 1) := by decide +kernel
theorem dX7_holder_69 : decode cX7_holder 69 = .ok (.iload_n 2, 1) := by decide +kernel
theorem dX7_holder_70 : decode cX7_holder 70 = .ok (.iload 4, 2) := by decide +kernel
theorem dX7_holder_72 : decode cX7_holder 72 = .ok (.iload_n 3, 1) := by decide +kernel
theorem dX7_holder_73 : decode cX7_holder 73 = .ok (.invokevirtual 114, 3) := by decide +kernel
theorem dX7_holder_76 : decode cX7_holder 76 = .ok (.aload_n 0, 1) := by decide +kernel
theorem dX7_holder_77 : decode cX7_holder 77 = .ok (.getfield 7, 3) := by decide +kernel
theorem dX7_holder_80 : decode cX7_holder 80 = .ok (.iconst 0, 1) := by decide +kernel
theorem dX7_holder_81 : decode cX7_holder 81 = .ok (.iaload, 1) := by decide +kernel
theorem dX7_holder_82 : decode cX7_holder 82 = .ok (.iconst 1, 1) := by decide +kernel
theorem dX7_holder_83 : decode cX7_holder 83 = .ok (.isub, 1) := by decide +kernel
theorem dX7_holder_84 : decode cX7_holder 84 = .ok (.ireturn, 1) := by decide +kernel
theorem dX7_rule_0 : decode cX7_rule 0 = .ok (.iload_n 1, 1) := by decide +kernel
theorem dX7_rule_1 : decode cX7_rule 1 = .ok (.invokestatic 108, 3) := by decide +kernel
theorem dX7_rule_4 : decode cX7_rule 4 = .ok (.ifCond .eq 35, 3) := by decide +kernel
theorem dX7_rule_7 : decode cX7_rule 7 = .ok (.iload_n 2, 1) := by decide +kernel
theorem dX7_rule_8 : decode cX7_rule 8 = .ok (.i2l, 1) := by decide +kernel
theorem dX7_rule_9 : decode cX7_rule 9 = .ok (.lconst 0, 1) := by decide +kernel
theorem dX7_rule_10 : decode cX7_rule 10 = .ok (.lconst 1, 1) := by decide +kernel
theorem dX7_rule_11 : decode cX7_rule 11 = .ok (.invokestatic 53, 3) := by decide +kernel
theorem dX7_rule_14 : decode cX7_rule 14 = .ok (.ifCond .eq 25, 3) := by decide +kernel
theorem dX7_rule_17 : decode cX7_rule 17 = .ok (.iload_n 3, 1) := by decide +kernel
theorem dX7_rule_18 : decode cX7_rule 18 = .ok (.i2l, 1) := by decide +kernel
theorem dX7_rule_19 : decode cX7_rule 19 = .ok (.lconst 0, 1) := by decide +kernel
theorem dX7_rule_20 : decode cX7_rule 20 = .ok (.iload_n 2, 1) := by decide +kernel
theorem dX7_rule_21 : decode cX7_rule 21 = .ok (.ifCond .ne 9, 3) := by decide +kernel
theorem dX7_rule_24 : decode cX7_rule 24 = .ok (.ldc2_w 118, 3) := by decide +kernel
theorem dX7_rule_27 : decode cX7_rule 27 = .ok (.goto 6, 3) := by decide +kernel
theorem dX7_rule_30 : decode cX7_rule 30 = .ok (.ldc2_w 106, 3) := by decide +kernel
theorem dX7_rule_33 : decode cX7_rule 33 = .ok (.invokestatic 53, 3) := by decide +kernel
theorem dX7_rule_36 : decode cX7_rule 36 = .ok (.ifCond .ne 5, 3) := by decide +kernel
theorem dX7_rule_39 : decode cX7_rule 39 = .ok (.iconst (-1), 1) := by decide +kernel
theorem dX7_rule_40 : decode cX7_rule 40 = .ok (.ireturn, 1) := by decide +kernel
theorem dX7_rule_41 : decode cX7_rule 41 = .ok (.iload_n 2, 1) := by decide +kernel
theorem dX7_rule_42 : decode cX7_rule 42 = .ok (.ifCond .ne 8, 3) := by decide +kernel
theorem dX7_rule_45 : decode cX7_rule 45 = .ok (.bipush 28, 2) := by decide +kernel
theorem dX7_rule_47 : decode cX7_rule 47 = .ok (.goto 5, 3) := by decide +kernel
theorem dX7_rule_50 : decode cX7_rule 50 = .ok (.bipush 34, 2) := by decide +kernel
theorem dX7_rule_52 : decode cX7_rule 52 = .ok (.iload_n 1, 1) := by decide +kernel
theorem dX7_rule_53 : decode cX7_rule 53 = .ok (.iadd, 1) := by decide +kernel
theorem dX7_rule_54 : decode cX7_rule 54 = .ok (.istore 4, 2) := by decide +kernel
theorem dX7_rule_56 : decode cX7_rule 56 = .ok (.aload_n 0, 1) := by decide +kernel
theorem dX7_rule_57 : decode cX7_rule 57 = .ok (.getfield 7, 3) := by decide +kernel
theorem dX7_rule_60 : decode cX7_rule 60 = .ok (.iload 4, 2) := by decide +kernel
theorem dX7_rule_62 : decode cX7_rule 62 = .ok (.iaload, 1) := by decide +kernel
theorem dX7_rule_63 : decode cX7_rule 63 = .ok (.istore 5, 2) := by decide +kernel
theorem dX7_rule_65 : decode cX7_rule 65 = .ok (.aload_n 0, 1) := by decide +kernel
theorem dX7_rule_66 : decode cX7_rule 66 = .ok (.getfield 7, 3) := by decide +kernel
theorem dX7_rule_69 : decode cX7_rule 69 = .ok (.iload 4, 2) := by decide +kernel
theorem dX7_rule_71 : decode cX7_rule 71 = .ok (.iload_n 3, 1) := by decide +kernel
theorem dX7_rule_72 : decode cX7_rule 72 = .ok (.iastore, 1) := by decide +kernel
theorem dX7_rule_73 : decode cX7_rule 73 = .ok (.iload 5, 2) := by decide +kernel
theorem dX7_rule_75 : decode cX7_rule 75 = .ok (.ireturn, 1) := by decide +kernel
theorem dX7_of_0 : decode cX7_of 0 = .ok (.aload_n 0, 1) := by decide +kernel
theorem dX7_of_1 : decode cX7_of 1 = .ok (.iload_n 1, 1) := by decide +kernel
theorem dX7_of_2 : decode cX7_of 2 = .ok (.invokevirtual 120, 3) := by decide +kernel
theorem dX7_of_5 : decode cX7_of 5 = .ok (.ifCond .ne 5, 3) := by decide +kernel
theorem dX7_of_8 : decode cX7_of 8 = .ok (.iconst (-1), 1) := by decide +kernel
theorem dX7_of_9 : decode cX7_of 9 = .ok (.ireturn, 1) := by decide +kernel
theorem dX7_of_10 : decode cX7_of 10 = .ok (.iload_n 2, 1) := by decide +kernel
theorem dX7_of_11 : decode cX7_of 11 = .ok (.tableswitch 84 0 7 #[45, 45, 45, 45, 52, 66, 72, 78], 45) := by decide +kernel
theorem dX7_of_56 : decode cX7_of 56 = .ok (.aload_n 0, 1) := by decide +kernel
theorem dX7_of_57 : decode cX7_of 57 = .ok (.iload_n 1, 1) := by decide +kernel
theorem dX7_of_58 : decode cX7_of 58 = .ok (.iload_n 2, 1) := by decide +kernel
theorem dX7_of_59 : decode cX7_of 59 = .ok (.invokevirtual 59, 3) := by decide +kernel
theorem dX7_of_62 : decode cX7_of 62 = .ok (.ireturn, 1) := by decide +kernel
theorem dX7_of_63 : decode cX7_of 63 = .ok (.aload_n 0, 1) := by decide +kernel
theorem dX7_of_64 : decode cX7_of 64 = .ok (.iload_n 1, 1) := by decide +kernel
theorem dX7_of_65 : decode cX7_of 65 = .ok (.invokevirtual 76, 3) := by decide +kernel
theorem dX7_of_68 : decode cX7_of 68 = .ok (.ifCond .eq 7, 3) := by decide +kernel
theorem dX7_of_71 : decode cX7_of 71 = .ok (.iconst 1, 1) := by decide +kernel
theorem dX7_of_72 : decode cX7_of 72 = .ok (.goto 4, 3) := by decide +kernel
theorem dX7_of_75 : decode cX7_of 75 = .ok (.iconst 0, 1) := by decide +kernel
theorem dX7_of_76 : decode cX7_of 76 = .ok (.ireturn, 1) := by decide +kernel
theorem dX7_of_77 : decode cX7_of 77 = .ok (.aload_n 0, 1) := by decide +kernel
theorem dX7_of_78 : decode cX7_of 78 = .ok (.iload_n 1, 1) := by decide +kernel
theorem dX7_of_79 : decode cX7_of 79 = .ok (.invokevirtual 90, 3) := by decide +kernel
theorem dX7_of_82 : decode cX7_of 82 = .ok (.ireturn, 1) := by decide +kernel
theorem dX7_of_83 : decode cX7_of 83 = .ok (.aload_n 0, 1) := by decide +kernel
theorem dX7_of_84 : decode cX7_of 84 = .ok (.iload_n 1, 1) := by decide +kernel
theorem dX7_of_85 : decode cX7_of 85 = .ok (.invokevirtual 80, 3) := by decide +kernel
theorem dX7_of_88 : decode cX7_of 88 = .ok (.ireturn, 1) := by decide +kernel
theorem dX7_of_89 : decode cX7_of 89 = .ok (.aload_n 0, 1) := by decide +kernel
theorem dX7_of_90 : decode cX7_of 90 = .ok (.iload_n 1, 1) := by decide +kernel
theorem dX7_of_91 : decode cX7_of 91 = .ok (.invokevirtual 73, 3) := by decide +kernel
theorem dX7_of_94 : decode cX7_of 94 = .ok (.ireturn, 1) := by decide +kernel
theorem dX7_of_95 : decode cX7_of 95 = .ok (.iconst (-1), 1) := by decide +kernel
theorem dX7_of_96 : decode cX7_of 96 = .ok (.ireturn, 1) := by decide +kernel
theorem dX7_at_0 : decode cX7_at 0 = .ok (.iload_n 1, 1) := by decide +kernel
theorem dX7_at_1 : decode cX7_at 1 = .ok (.invokestatic 108, 3) := by decide +kernel
theorem dX7_at_4 : decode cX7_at 4 = .ok (.ifCond .eq 15, 3) := by decide +kernel
theorem dX7_at_7 : decode cX7_at 7 = .ok (.iload_n 2, 1) := by decide +kernel
theorem dX7_at_8 : decode cX7_at 8 = .ok (.i2l, 1) := by decide +kernel
theorem dX7_at_9 : decode cX7_at 9 = .ok (.lconst 0, 1) := by decide +kernel
theorem dX7_at_10 : decode cX7_at 10 = .ok (.ldc2_w 123, 3) := by decide +kernel
theorem dX7_at_13 : decode cX7_at 13 = .ok (.invokestatic 53, 3) := by decide +kernel
theorem dX7_at_16 : decode cX7_at 16 = .ok (.ifCond .ne 5, 3) := by decide +kernel
theorem dX7_at_19 : decode cX7_at 19 = .ok (.iconst (-1), 1) := by decide +kernel
theorem dX7_at_20 : decode cX7_at 20 = .ok (.ireturn, 1) := by decide +kernel
theorem dX7_at_21 : decode cX7_at 21 = .ok (.iload_n 2, 1) := by decide +kernel
theorem dX7_at_22 : decode cX7_at 22 = .ok (.ifCond .ne 15, 3) := by decide +kernel
theorem dX7_at_25 : decode cX7_at 25 = .ok (.aload_n 0, 1) := by decide +kernel
theorem dX7_at_26 : decode cX7_at 26 = .ok (.getfield 7, 3) := by decide +kernel
theorem dX7_at_29 : decode cX7_at 29 = .ok (.bipush 28, 2) := by decide +kernel
theorem dX7_at_31 : decode cX7_at 31 = .ok (.iload_n 1, 1) := by decide +kernel
theorem dX7_at_32 : decode cX7_at 32 = .ok (.iadd, 1) := by decide +kernel
theorem dX7_at_33 : decode cX7_at 33 = .ok (.iaload, 1) := by decide +kernel
theorem dX7_at_34 : decode cX7_at 34 = .ok (.goto 25, 3) := by decide +kernel
theorem dX7_at_37 : decode cX7_at 37 = .ok (.iload_n 2, 1) := by decide +kernel
theorem dX7_at_38 : decode cX7_at 38 = .ok (.iconst 1, 1) := by decide +kernel
theorem dX7_at_39 : decode cX7_at 39 = .ok (.if_icmp .ne 15, 3) := by decide +kernel
theorem dX7_at_42 : decode cX7_at 42 = .ok (.aload_n 0, 1) := by decide +kernel
theorem dX7_at_43 : decode cX7_at 43 = .ok (.getfield 7, 3) := by decide +kernel
theorem dX7_at_46 : decode cX7_at 46 = .ok (.bipush 34, 2) := by decide +kernel
theorem dX7_at_48 : decode cX7_at 48 = .ok (.iload_n 1, 1) := by decide +kernel
theorem dX7_at_49 : decode cX7_at 49 = .ok (.iadd, 1) := by decide +kernel
theorem dX7_at_50 : decode cX7_at 50 = .ok (.iaload, 1) := by decide +kernel
theorem dX7_at_51 : decode cX7_at 51 = .ok (.goto 8, 3) := by decide +kernel
theorem dX7_at_54 : decode cX7_at 54 = .ok (.aload_n 0, 1) := by decide +kernel
theorem dX7_at_55 : decode cX7_at 55 = .ok (.iload_n 1, 1) := by decide +kernel
theorem dX7_at_56 : decode cX7_at 56 = .ok (.invokevirtual 111, 3) := by decide +kernel
theorem dX7_at_59 : decode cX7_at 59 = .ok (.ireturn, 1) := by decide +kernel
theorem dX7_usedAll_0 : decode cX7_usedAll 0 = .ok (.iconst 0, 1) := by decide +kernel
theorem dX7_usedAll_1 : decode cX7_usedAll 1 = .ok (.istore_n 1, 1) := by decide +kernel
theorem dX7_usedAll_2 : decode cX7_usedAll 2 = .ok (.iconst 0, 1) := by decide +kernel
theorem dX7_usedAll_3 : decode cX7_usedAll 3 = .ok (.istore_n 2, 1) := by decide +kernel
theorem dX7_usedAll_4 : decode cX7_usedAll 4 = .ok (.iload_n 2, 1) := by decide +kernel
theorem dX7_usedAll_5 : decode cX7_usedAll 5 = .ok (.aload_n 0, 1) := by decide +kernel
theorem dX7_usedAll_6 : decode cX7_usedAll 6 = .ok (.getfield 7, 3) := by decide +kernel
theorem dX7_usedAll_9 : decode cX7_usedAll 9 = .ok (.iconst 0, 1) := by decide +kernel
theorem dX7_usedAll_10 : decode cX7_usedAll 10 = .ok (.iaload, 1) := by decide +kernel
theorem dX7_usedAll_11 : decode cX7_usedAll 11 = .ok (.if_icmp .ge 17, 3) := by decide +kernel
theorem dX7_usedAll_14 : decode cX7_usedAll 14 = .ok (.iload_n 1, 1) := by decide +kernel
theorem dX7_usedAll_15 : decode cX7_usedAll 15 = .ok (.aload_n 0, 1) := by decide +kernel
theorem dX7_usedAll_16 : decode cX7_usedAll 16 = .ok (.iload_n 2, 1) := by decide +kernel
theorem dX7_usedAll_17 : decode cX7_usedAll 17 = .ok (.invokevirtual 63, 3) := by decide +kernel
theorem dX7_usedAll_20 : decode cX7_usedAll 20 = .ok (.iadd, 1) := by decide +kernel
theorem dX7_usedAll_21 : decode cX7_usedAll 21 = .ok (.istore_n 1, 1) := by decide +kernel
theorem dX7_usedAll_22 : decode cX7_usedAll 22 = .ok (.iinc 2 1, 3) := by decide +kernel
theorem dX7_usedAll_25 : decode cX7_usedAll 25 = .ok (.goto (-21), 3) := by decide +kernel
theorem dX7_usedAll_28 : decode cX7_usedAll 28 = .ok (.iload_n 1, 1) := by decide +kernel
theorem dX7_usedAll_29 : decode cX7_usedAll 29 = .ok (.ireturn, 1) := by decide +kernel
theorem dX7_count_0 : decode cX7_count 0 = .ok (.iload_n 1, 1) := by decide +kernel
theorem dX7_count_1 : decode cX7_count 1 = .ok (.tableswitch 70 0 6 #[43, 43, 43, 50, 55, 60, 65], 43) := by decide +kernel
theorem dX7_count_44 : decode cX7_count 44 = .ok (.aload_n 0, 1) := by decide +kernel
theorem dX7_count_45 : decode cX7_count 45 = .ok (.getfield 7, 3) := by decide +kernel
theorem dX7_count_48 : decode cX7_count 48 = .ok (.iload_n 1, 1) := by decide +kernel
theorem dX7_count_49 : decode cX7_count 49 = .ok (.iaload, 1) := by decide +kernel
theorem dX7_count_50 : decode cX7_count 50 = .ok (.ireturn, 1) := by decide +kernel
theorem dX7_count_51 : decode cX7_count 51 = .ok (.aload_n 0, 1) := by decide +kernel
theorem dX7_count_52 : decode cX7_count 52 = .ok (.invokevirtual 83, 3) := by decide +kernel
theorem dX7_count_55 : decode cX7_count 55 = .ok (.ireturn, 1) := by decide +kernel
theorem dX7_count_56 : decode cX7_count 56 = .ok (.aload_n 0, 1) := by decide +kernel
theorem dX7_count_57 : decode cX7_count 57 = .ok (.invokevirtual 125, 3) := by decide +kernel
theorem dX7_count_60 : decode cX7_count 60 = .ok (.ireturn, 1) := by decide +kernel
theorem dX7_count_61 : decode cX7_count 61 = .ok (.aload_n 0, 1) := by decide +kernel
theorem dX7_count_62 : decode cX7_count 62 = .ok (.invokevirtual 128, 3) := by decide +kernel
theorem dX7_count_65 : decode cX7_count 65 = .ok (.ireturn, 1) := by decide +kernel
theorem dX7_count_66 : decode cX7_count 66 = .ok (.aload_n 0, 1) := by decide +kernel
theorem dX7_count_67 : decode cX7_count 67 = .ok (.getfield 100, 3) := by decide +kernel
theorem dX7_count_70 : decode cX7_count 70 = .ok (.ireturn, 1) := by decide +kernel
theorem dX7_count_71 : decode cX7_count 71 = .ok (.iconst (-1), 1) := by decide +kernel
theorem dX7_count_72 : decode cX7_count 72 = .ok (.ireturn, 1) := by decide +kernel
theorem dX7_type_0 : decode cX7_type 0 = .ok (.iload_n 1, 1) := by decide +kernel
theorem dX7_type_1 : decode cX7_type 1 = .ok (.i2l, 1) := by decide +kernel
theorem dX7_type_2 : decode cX7_type 2 = .ok (.ldc2_w 131, 3) := by decide +kernel
theorem dX7_type_5 : decode cX7_type 5 = .ok (.ldc2_w 133, 3) := by decide +kernel
theorem dX7_type_8 : decode cX7_type 8 = .ok (.invokestatic 53, 3) := by decide +kernel
theorem dX7_type_11 : decode cX7_type 11 = .ok (.ifCond .ne 5, 3) := by decide +kernel
theorem dX7_type_14 : decode cX7_type 14 = .ok (.iconst (-1), 1) := by decide +kernel
theorem dX7_type_15 : decode cX7_type 15 = .ok (.ireturn, 1) := by decide +kernel
theorem dX7_type_16 : decode cX7_type 16 = .ok (.aload_n 0, 1) := by decide +kernel
theorem dX7_type_17 : decode cX7_type 17 = .ok (.getfield 135, 3) := by decide +kernel
theorem dX7_type_20 : decode cX7_type 20 = .ok (.bipush 80, 2) := by decide +kernel
theorem dX7_type_22 : decode cX7_type 22 = .ok (.if_icmp .ne 6, 3) := by decide +kernel
theorem dX7_type_25 : decode cX7_type 25 = .ok (.bipush (-3), 2) := by decide +kernel
theorem dX7_type_27 : decode cX7_type 27 = .ok (.ireturn, 1) := by decide +kernel
theorem dX7_type_28 : decode cX7_type 28 = .ok (.aload_n 0, 1) := by decide +kernel
theorem dX7_type_29 : decode cX7_type 29 = .ok (.getfield 16, 3) := by decide +kernel
theorem dX7_type_32 : decode cX7_type 32 = .ok (.aload_n 0, 1) := by decide +kernel
theorem dX7_type_33 : decode cX7_type 33 = .ok (.getfield 135, 3) := by decide +kernel
theorem dX7_type_36 : decode cX7_type 36 = .ok (.iload_n 1, 1) := by decide +kernel
theorem dX7_type_37 : decode cX7_type 37 = .ok (.iastore, 1) := by decide +kernel
theorem dX7_type_38 : decode cX7_type 38 = .ok (.aload_n 0, 1) := by decide +kernel
theorem dX7_type_39 : decode cX7_type 39 = .ok (.dup, 1) := by decide +kernel
theorem dX7_type_40 : decode cX7_type 40 = .ok (.getfield 135, 3) := by decide +kernel
theorem dX7_type_43 : decode cX7_type 43 = .ok (.iconst 1, 1) := by decide +kernel
theorem dX7_type_44 : decode cX7_type 44 = .ok (.iadd, 1) := by decide +kernel
theorem dX7_type_45 : decode cX7_type 45 = .ok (.putfield 135, 3) := by decide +kernel
theorem dX7_type_48 : decode cX7_type 48 = .ok (.aload_n 0, 1) := by decide +kernel
theorem dX7_type_49 : decode cX7_type 49 = .ok (.getfield 135, 3) := by decide +kernel
theorem dX7_type_52 : decode cX7_type 52 = .ok (.ireturn, 1) := by decide +kernel
theorem dX7_here_0 : decode cX7_here 0 = .ok (.aload_n 0, 1) := by decide +kernel
theorem dX7_here_1 : decode cX7_here 1 = .ok (.getfield 138, 3) := by decide +kernel
theorem dX7_here_4 : decode cX7_here 4 = .ok (.aload_n 0, 1) := by decide +kernel
theorem dX7_here_5 : decode cX7_here 5 = .ok (.getfield 135, 3) := by decide +kernel
theorem dX7_here_8 : decode cX7_here 8 = .ok (.if_icmp .ge 30, 3) := by decide +kernel
theorem dX7_here_11 : decode cX7_here 11 = .ok (.aload_n 0, 1) := by decide +kernel
theorem dX7_here_12 : decode cX7_here 12 = .ok (.getfield 16, 3) := by decide +kernel
theorem dX7_here_15 : decode cX7_here 15 = .ok (.aload_n 0, 1) := by decide +kernel
theorem dX7_here_16 : decode cX7_here 16 = .ok (.getfield 138, 3) := by decide +kernel
theorem dX7_here_19 : decode cX7_here 19 = .ok (.iaload, 1) := by decide +kernel
theorem dX7_here_20 : decode cX7_here 20 = .ok (.bipush 32, 2) := by decide +kernel
theorem dX7_here_22 : decode cX7_here 22 = .ok (.if_icmp .ne 16, 3) := by decide +kernel
theorem dX7_here_25 : decode cX7_here 25 = .ok (.aload_n 0, 1) := by decide +kernel
theorem dX7_here_26 : decode cX7_here 26 = .ok (.dup, 1) := by decide +kernel
theorem dX7_here_27 : decode cX7_here 27 = .ok (.getfield 138, 3) := by decide +kernel
theorem dX7_here_30 : decode cX7_here 30 = .ok (.iconst 1, 1) := by decide +kernel
theorem dX7_here_31 : decode cX7_here 31 = .ok (.iadd, 1) := by decide +kernel
theorem dX7_here_32 : decode cX7_here 32 = .ok (.putfield 138, 3) := by decide +kernel
theorem dX7_here_35 : decode cX7_here 35 = .ok (.goto (-35), 3) := by decide +kernel
theorem dX7_here_38 : decode cX7_here 38 = .ok (.aload_n 0, 1) := by decide +kernel
theorem dX7_here_39 : decode cX7_here 39 = .ok (.getfield 138, 3) := by decide +kernel
theorem dX7_here_42 : decode cX7_here 42 = .ok (.aload_n 0, 1) := by decide +kernel
theorem dX7_here_43 : decode cX7_here 43 = .ok (.getfield 135, 3) := by decide +kernel
theorem dX7_here_46 : decode cX7_here 46 = .ok (.if_icmp .ge 15, 3) := by decide +kernel
theorem dX7_here_49 : decode cX7_here 49 = .ok (.aload_n 0, 1) := by decide +kernel
theorem dX7_here_50 : decode cX7_here 50 = .ok (.getfield 16, 3) := by decide +kernel
theorem dX7_here_53 : decode cX7_here 53 = .ok (.aload_n 0, 1) := by decide +kernel
theorem dX7_here_54 : decode cX7_here 54 = .ok (.getfield 138, 3) := by decide +kernel
theorem dX7_here_57 : decode cX7_here 57 = .ok (.iaload, 1) := by decide +kernel
theorem dX7_here_58 : decode cX7_here 58 = .ok (.goto 4, 3) := by decide +kernel
theorem dX7_here_61 : decode cX7_here 61 = .ok (.iconst 0, 1) := by decide +kernel
theorem dX7_here_62 : decode cX7_here 62 = .ok (.ireturn, 1) := by decide +kernel
theorem dX7_must_0 : decode cX7_must 0 = .ok (.aload_n 0, 1) := by decide +kernel
theorem dX7_must_1 : decode cX7_must 1 = .ok (.aload_n 0, 1) := by decide +kernel
theorem dX7_must_2 : decode cX7_must 2 = .ok (.getfield 141, 3) := by decide +kernel
theorem dX7_must_5 : decode cX7_must 5 = .ok (.ifCond .ne 7, 3) := by decide +kernel
theorem dX7_must_8 : decode cX7_must 8 = .ok (.iload_n 1, 1) := by decide +kernel
theorem dX7_must_9 : decode cX7_must 9 = .ok (.ifCond .ne 7, 3) := by decide +kernel
theorem dX7_must_12 : decode cX7_must 12 = .ok (.iconst 1, 1) := by decide +kernel
theorem dX7_must_13 : decode cX7_must 13 = .ok (.goto 4, 3) := by decide +kernel
theorem dX7_must_16 : decode cX7_must 16 = .ok (.iconst 0, 1) := by decide +kernel
theorem dX7_must_17 : decode cX7_must 17 = .ok (.putfield 141, 3) := by decide +kernel
theorem dX7_must_20 : decode cX7_must 20 = .ok (.aload_n 0, 1) := by decide +kernel
theorem dX7_must_21 : decode cX7_must 21 = .ok (.dup, 1) := by decide +kernel
theorem dX7_must_22 : decode cX7_must 22 = .ok (.getfield 138, 3) := by decide +kernel
theorem dX7_must_25 : decode cX7_must 25 = .ok (.aload_n 0, 1) := by decide +kernel
theorem dX7_must_26 : decode cX7_must 26 = .ok (.getfield 141, 3) := by decide +kernel
theorem dX7_must_29 : decode cX7_must 29 = .ok (.ifCond .eq 7, 3) := by decide +kernel
theorem dX7_must_32 : decode cX7_must 32 = .ok (.iconst 0, 1) := by decide +kernel
theorem dX7_must_33 : decode cX7_must 33 = .ok (.goto 4, 3) := by decide +kernel
theorem dX7_must_36 : decode cX7_must 36 = .ok (.iconst 1, 1) := by decide +kernel
theorem dX7_must_37 : decode cX7_must 37 = .ok (.iadd, 1) := by decide +kernel
theorem dX7_must_38 : decode cX7_must 38 = .ok (.putfield 138, 3) := by decide +kernel
theorem dX7_must_41 : decode cX7_must 41 = .ok (.return_, 1) := by decide +kernel
theorem dX7_digit_0 : decode cX7_digit 0 = .ok (.aload_n 0, 1) := by decide +kernel
theorem dX7_digit_1 : decode cX7_digit 1 = .ok (.getfield 141, 3) := by decide +kernel
theorem dX7_digit_4 : decode cX7_digit 4 = .ok (.ifCond .eq 7, 3) := by decide +kernel
theorem dX7_digit_7 : decode cX7_digit 7 = .ok (.iconst (-1), 1) := by decide +kernel
theorem dX7_digit_8 : decode cX7_digit 8 = .ok (.goto 10, 3) := by decide +kernel
theorem dX7_digit_11 : decode cX7_digit 11 = .ok (.aload_n 0, 1) := by decide +kernel
theorem dX7_digit_12 : decode cX7_digit 12 = .ok (.invokevirtual 145, 3) := by decide +kernel
theorem dX7_digit_15 : decode cX7_digit 15 = .ok (.bipush 48, 2) := by decide +kernel
theorem dX7_digit_17 : decode cX7_digit 17 = .ok (.isub, 1) := by decide +kernel
theorem dX7_digit_18 : decode cX7_digit 18 = .ok (.istore_n 2, 1) := by decide +kernel
theorem dX7_digit_19 : decode cX7_digit 19 = .ok (.aload_n 0, 1) := by decide +kernel
theorem dX7_digit_20 : decode cX7_digit 20 = .ok (.iload_n 2, 1) := by decide +kernel
theorem dX7_digit_21 : decode cX7_digit 21 = .ok (.i2l, 1) := by decide +kernel
theorem dX7_digit_22 : decode cX7_digit 22 = .ok (.lconst 0, 1) := by decide +kernel
theorem dX7_digit_23 : decode cX7_digit 23 = .ok (.iload_n 1, 1) := by decide +kernel
theorem dX7_digit_24 : decode cX7_digit 24 = .ok (.i2l, 1) := by decide +kernel
theorem dX7_digit_25 : decode cX7_digit 25 = .ok (.invokestatic 53, 3) := by decide +kernel
theorem dX7_digit_28 : decode cX7_digit 28 = .ok (.invokevirtual 148, 3) := by decide +kernel
theorem dX7_digit_31 : decode cX7_digit 31 = .ok (.iload_n 2, 1) := by decide +kernel
theorem dX7_digit_32 : decode cX7_digit 32 = .ok (.ireturn, 1) := by decide +kernel
theorem dX7_number_0 : decode cX7_number 0 = .ok (.aload_n 0, 1) := by decide +kernel
theorem dX7_number_1 : decode cX7_number 1 = .ok (.getfield 141, 3) := by decide +kernel
theorem dX7_number_4 : decode cX7_number 4 = .ok (.ifCond .eq 7, 3) := by decide +kernel
theorem dX7_number_7 : decode cX7_number 7 = .ok (.iconst 0, 1) := by decide +kernel
theorem dX7_number_8 : decode cX7_number 8 = .ok (.goto 7, 3) := by decide +kernel
theorem dX7_number_11 : decode cX7_number 11 = .ok (.aload_n 0, 1) := by decide +kernel
theorem dX7_number_12 : decode cX7_number 12 = .ok (.invokevirtual 145, 3) := by decide +kernel
theorem dX7_number_15 : decode cX7_number 15 = .ok (.istore_n 1, 1) := by decide +kernel
theorem dX7_number_16 : decode cX7_number 16 = .ok (.aload_n 0, 1) := by decide +kernel
theorem dX7_number_17 : decode cX7_number 17 = .ok (.getfield 138, 3) := by decide +kernel
theorem dX7_number_20 : decode cX7_number 20 = .ok (.istore_n 2, 1) := by decide +kernel
theorem dX7_number_21 : decode cX7_number 21 = .ok (.iconst 0, 1) := by decide +kernel
theorem dX7_number_22 : decode cX7_number 22 = .ok (.istore_n 3, 1) := by decide +kernel
theorem dX7_number_23 : decode cX7_number 23 = .ok (.aload_n 0, 1) := by decide +kernel
theorem dX7_number_24 : decode cX7_number 24 = .ok (.aload_n 0, 1) := by decide +kernel
theorem dX7_number_25 : decode cX7_number 25 = .ok (.getfield 141, 3) := by decide +kernel
theorem dX7_number_28 : decode cX7_number 28 = .ok (.ifCond .ne 17, 3) := by decide +kernel
theorem dX7_number_31 : decode cX7_number 31 = .ok (.iload_n 1, 1) := by decide +kernel
theorem dX7_number_32 : decode cX7_number 32 = .ok (.i2l, 1) := by decide +kernel
theorem dX7_number_33 : decode cX7_number 33 = .ok (.ldc2_w 152, 3) := by decide +kernel
theorem dX7_number_36 : decode cX7_number 36 = .ok (.ldc2_w 154, 3) := by decide +kernel
theorem dX7_number_39 : decode cX7_number 39 = .ok (.invokestatic 53, 3) := by decide +kernel
theorem dX7_number_42 : decode cX7_number 42 = .ok (.ifCond .ne 7, 3) := by decide +kernel
theorem dX7_number_45 : decode cX7_number 45 = .ok (.iconst 1, 1) := by decide +kernel
theorem dX7_number_46 : decode cX7_number 46 = .ok (.goto 4, 3) := by decide +kernel
theorem dX7_number_49 : decode cX7_number 49 = .ok (.iconst 0, 1) := by decide +kernel
theorem dX7_number_50 : decode cX7_number 50 = .ok (.putfield 141, 3) := by decide +kernel
theorem dX7_number_53 : decode cX7_number 53 = .ok (.aload_n 0, 1) := by decide +kernel
theorem dX7_number_54 : decode cX7_number 54 = .ok (.getfield 141, 3) := by decide +kernel
theorem dX7_number_57 : decode cX7_number 57 = .ok (.ifCond .ne 77, 3) := by decide +kernel
theorem dX7_number_60 : decode cX7_number 60 = .ok (.aload_n 0, 1) := by decide +kernel
theorem dX7_number_61 : decode cX7_number 61 = .ok (.getfield 138, 3) := by decide +kernel
theorem dX7_number_64 : decode cX7_number 64 = .ok (.aload_n 0, 1) := by decide +kernel
theorem dX7_number_65 : decode cX7_number 65 = .ok (.getfield 135, 3) := by decide +kernel
theorem dX7_number_68 : decode cX7_number 68 = .ok (.if_icmp .ge 66, 3) := by decide +kernel
theorem dX7_number_71 : decode cX7_number 71 = .ok (.aload_n 0, 1) := by decide +kernel
theorem dX7_number_72 : decode cX7_number 72 = .ok (.getfield 138, 3) := by decide +kernel
theorem dX7_number_75 : decode cX7_number 75 = .ok (.iload_n 2, 1) := by decide +kernel
theorem dX7_number_76 : decode cX7_number 76 = .ok (.isub, 1) := by decide +kernel
theorem dX7_number_77 : decode cX7_number 77 = .ok (.iconst 2, 1) := by decide +kernel
theorem dX7_number_78 : decode cX7_number 78 = .ok (.if_icmp .ge 56, 3) := by decide +kernel
theorem dX7_number_81 : decode cX7_number 81 = .ok (.aload_n 0, 1) := by decide +kernel
theorem dX7_number_82 : decode cX7_number 82 = .ok (.getfield 16, 3) := by decide +kernel
theorem dX7_number_85 : decode cX7_number 85 = .ok (.aload_n 0, 1) := by decide +kernel
theorem dX7_number_86 : decode cX7_number 86 = .ok (.getfield 138, 3) := by decide +kernel
theorem dX7_number_89 : decode cX7_number 89 = .ok (.iaload, 1) := by decide +kernel
theorem dX7_number_90 : decode cX7_number 90 = .ok (.i2l, 1) := by decide +kernel
theorem dX7_number_91 : decode cX7_number 91 = .ok (.ldc2_w 152, 3) := by decide +kernel
theorem dX7_number_94 : decode cX7_number 94 = .ok (.ldc2_w 154, 3) := by decide +kernel
theorem dX7_number_97 : decode cX7_number 97 = .ok (.invokestatic 53, 3) := by decide +kernel
theorem dX7_number_100 : decode cX7_number 100 = .ok (.ifCond .eq 34, 3) := by decide +kernel
theorem dX7_number_103 : decode cX7_number 103 = .ok (.bipush 10, 2) := by decide +kernel
theorem dX7_number_105 : decode cX7_number 105 = .ok (.iload_n 3, 1) := by decide +kernel
theorem dX7_number_106 : decode cX7_number 106 = .ok (.imul, 1) := by decide +kernel
theorem dX7_number_107 : decode cX7_number 107 = .ok (.aload_n 0, 1) := by decide +kernel
theorem dX7_number_108 : decode cX7_number 108 = .ok (.getfield 16, 3) := by decide +kernel
theorem dX7_number_111 : decode cX7_number 111 = .ok (.aload_n 0, 1) := by decide +kernel
theorem dX7_number_112 : decode cX7_number 112 = .ok (.getfield 138, 3) := by decide +kernel
theorem dX7_number_115 : decode cX7_number 115 = .ok (.iaload, 1) := by decide +kernel
theorem dX7_number_116 : decode cX7_number 116 = .ok (.iadd, 1) := by decide +kernel
theorem dX7_number_117 : decode cX7_number 117 = .ok (.bipush 48, 2) := by decide +kernel
theorem dX7_number_119 : decode cX7_number 119 = .ok (.isub, 1) := by decide +kernel
theorem dX7_number_120 : decode cX7_number 120 = .ok (.istore_n 3, 1) := by decide +kernel
theorem dX7_number_121 : decode cX7_number 121 = .ok (.aload_n 0, 1) := by decide +kernel
theorem dX7_number_122 : decode cX7_number 122 = .ok (.dup, 1) := by decide +kernel
theorem dX7_number_123 : decode cX7_number 123 = .ok (.getfield 138, 3) := by decide +kernel
theorem dX7_number_126 : decode cX7_number 126 = .ok (.iconst 1, 1) := by decide +kernel
theorem dX7_number_127 : decode cX7_number 127 = .ok (.iadd, 1) := by decide +kernel
theorem dX7_number_128 : decode cX7_number 128 = .ok (.putfield 138, 3) := by decide +kernel
theorem dX7_number_131 : decode cX7_number 131 = .ok (.goto (-78), 3) := by decide +kernel
theorem dX7_number_134 : decode cX7_number 134 = .ok (.iload_n 3, 1) := by decide +kernel
theorem dX7_number_135 : decode cX7_number 135 = .ok (.ireturn, 1) := by decide +kernel
theorem dX7_readHolders_0 : decode cX7_readHolders 0 = .ok (.iconst 0, 1) := by decide +kernel
theorem dX7_readHolders_1 : decode cX7_readHolders 1 = .ok (.istore_n 1, 1) := by decide +kernel
theorem dX7_readHolders_2 : decode cX7_readHolders 2 = .ok (.iconst 0, 1) := by decide +kernel
theorem dX7_readHolders_3 : decode cX7_readHolders 3 = .ok (.istore_n 2, 1) := by decide +kernel
theorem dX7_readHolders_4 : decode cX7_readHolders 4 = .ok (.aload_n 0, 1) := by decide +kernel
theorem dX7_readHolders_5 : decode cX7_readHolders 5 = .ok (.getfield 141, 3) := by decide +kernel
theorem dX7_readHolders_8 : decode cX7_readHolders 8 = .ok (.ifCond .ne 298, 3) := by decide +kernel
theorem dX7_readHolders_11 : decode cX7_readHolders 11 = .ok (.iload_n 1, 1) := by decide +kernel
theorem dX7_readHolders_12 : decode cX7_readHolders 12 = .ok (.ifCond .eq 12, 3) := by decide +kernel
theorem dX7_readHolders_15 : decode cX7_readHolders 15 = .ok (.aload_n 0, 1) := by decide +kernel
theorem dX7_readHolders_16 : decode cX7_readHolders 16 = .ok (.invokevirtual 145, 3) := by decide +kernel
theorem dX7_readHolders_19 : decode cX7_readHolders 19 = .ok (.bipush 44, 2) := by decide +kernel
theorem dX7_readHolders_21 : decode cX7_readHolders 21 = .ok (.if_icmp .ne 285, 3) := by decide +kernel
theorem dX7_readHolders_24 : decode cX7_readHolders 24 = .ok (.iload_n 1, 1) := by decide +kernel
theorem dX7_readHolders_25 : decode cX7_readHolders 25 = .ok (.ifCond .le 18, 3) := by decide +kernel
theorem dX7_readHolders_28 : decode cX7_readHolders 28 = .ok (.aload_n 0, 1) := by decide +kernel
theorem dX7_readHolders_29 : decode cX7_readHolders 29 = .ok (.iload_n 1, 1) := by decide +kernel
theorem dX7_readHolders_30 : decode cX7_readHolders 30 = .ok (.bipush 6, 2) := by decide +kernel
theorem dX7_readHolders_32 : decode cX7_readHolders 32 = .ok (.if_icmp .ge 7, 3) := by decide +kernel
theorem dX7_readHolders_35 : decode cX7_readHolders 35 = .ok (.iconst 1, 1) := by decide +kernel
theorem dX7_readHolders_36 : decode cX7_readHolders 36 = .ok (.goto 4, 3) := by decide +kernel
theorem dX7_readHolders_39 : decode cX7_readHolders 39 = .ok (.iconst 0, 1) := by decide +kernel
theorem dX7_readHolders_40 : decode cX7_readHolders 40 = .ok (.invokevirtual 148, 3) := by decide +kernel
theorem dX7_readHolders_43 : decode cX7_readHolders 43 = .ok (.aload_n 0, 1) := by decide +kernel
theorem dX7_readHolders_44 : decode cX7_readHolders 44 = .ok (.getfield 141, 3) := by decide +kernel
theorem dX7_readHolders_47 : decode cX7_readHolders 47 = .ok (.ifCond .eq 7, 3) := by decide +kernel
theorem dX7_readHolders_50 : decode cX7_readHolders 50 = .ok (.iconst 0, 1) := by decide +kernel
theorem dX7_readHolders_51 : decode cX7_readHolders 51 = .ok (.goto 7, 3) := by decide +kernel
theorem dX7_readHolders_54 : decode cX7_readHolders 54 = .ok (.aload_n 0, 1) := by decide +kernel
theorem dX7_readHolders_55 : decode cX7_readHolders 55 = .ok (.invokevirtual 145, 3) := by decide +kernel
theorem dX7_readHolders_58 : decode cX7_readHolders 58 = .ok (.istore_n 3, 1) := by decide +kernel
theorem dX7_readHolders_59 : decode cX7_readHolders 59 = .ok (.iload_n 3, 1) := by decide +kernel
theorem dX7_readHolders_60 : decode cX7_readHolders 60 = .ok (.bipush 112, 2) := by decide +kernel
theorem dX7_readHolders_62 : decode cX7_readHolders 62 = .ok (.if_icmp .ne 7, 3) := by decide +kernel
theorem dX7_readHolders_65 : decode cX7_readHolders 65 = .ok (.iconst 0, 1) := by decide +kernel
theorem dX7_readHolders_66 : decode cX7_readHolders 66 = .ok (.goto 44, 3) := by decide +kernel
theorem dX7_readHolders_69 : decode cX7_readHolders 69 = .ok (.iload_n 3, 1) := by decide +kernel
theorem dX7_readHolders_70 : decode cX7_readHolders 70 = .ok (.bipush 115, 2) := by decide +kernel
theorem dX7_readHolders_72 : decode cX7_readHolders 72 = .ok (.if_icmp .ne 7, 3) := by decide +kernel
theorem dX7_readHolders_75 : decode cX7_readHolders 75 = .ok (.iconst 1, 1) := by decide +kernel
theorem dX7_readHolders_76 : decode cX7_readHolders 76 = .ok (.goto 34, 3) := by decide +kernel
theorem dX7_readHolders_79 : decode cX7_readHolders 79 = .ok (.iload_n 3, 1) := by decide +kernel
theorem dX7_readHolders_80 : decode cX7_readHolders 80 = .ok (.bipush 109, 2) := by decide +kernel
theorem dX7_readHolders_82 : decode cX7_readHolders 82 = .ok (.if_icmp .ne 7, 3) := by decide +kernel
theorem dX7_readHolders_85 : decode cX7_readHolders 85 = .ok (.iconst 2, 1) := by decide +kernel
theorem dX7_readHolders_86 : decode cX7_readHolders 86 = .ok (.goto 24, 3) := by decide +kernel
theorem dX7_readHolders_89 : decode cX7_readHolders 89 = .ok (.iload_n 3, 1) := by decide +kernel
theorem dX7_readHolders_90 : decode cX7_readHolders 90 = .ok (.bipush 108, 2) := by decide +kernel
theorem dX7_readHolders_92 : decode cX7_readHolders 92 = .ok (.if_icmp .ne 7, 3) := by decide +kernel
theorem dX7_readHolders_95 : decode cX7_readHolders 95 = .ok (.iconst 3, 1) := by decide +kernel
theorem dX7_readHolders_96 : decode cX7_readHolders 96 = .ok (.goto 14, 3) := by decide +kernel
theorem dX7_readHolders_99 : decode cX7_readHolders 99 = .ok (.iload_n 3, 1) := by decide +kernel
theorem dX7_readHolders_100 : decode cX7_readHolders 100 = .ok (.bipush 121, 2) := by decide +kernel
theorem dX7_readHolders_102 : decode cX7_readHolders 102 = .ok (.if_icmp .ne 7, 3) := by decide +kernel
theorem dX7_readHolders_105 : decode cX7_readHolders 105 = .ok (.iconst 4, 1) := by decide +kernel
theorem dX7_readHolders_106 : decode cX7_readHolders 106 = .ok (.goto 4, 3) := by decide +kernel
theorem dX7_readHolders_109 : decode cX7_readHolders 109 = .ok (.iconst (-1), 1) := by decide +kernel
theorem dX7_readHolders_110 : decode cX7_readHolders 110 = .ok (.istore 4, 2) := by decide +kernel
theorem dX7_readHolders_112 : decode cX7_readHolders 112 = .ok (.aload_n 0, 1) := by decide +kernel
theorem dX7_readHolders_113 : decode cX7_readHolders 113 = .ok (.iload 4, 2) := by decide +kernel
theorem dX7_readHolders_115 : decode cX7_readHolders 115 = .ok (.ifCond .lt 7, 3) := by decide +kernel
theorem dX7_readHolders_118 : decode cX7_readHolders 118 = .ok (.iconst 1, 1) := by decide +kernel
theorem dX7_readHolders_119 : decode cX7_readHolders 119 = .ok (.goto 4, 3) := by decide +kernel
theorem dX7_readHolders_122 : decode cX7_readHolders 122 = .ok (.iconst 0, 1) := by decide +kernel
theorem dX7_readHolders_123 : decode cX7_readHolders 123 = .ok (.invokevirtual 148, 3) := by decide +kernel
theorem dX7_readHolders_126 : decode cX7_readHolders 126 = .ok (.aload_n 0, 1) := by decide +kernel
theorem dX7_readHolders_127 : decode cX7_readHolders 127 = .ok (.invokevirtual 156, 3) := by decide +kernel
theorem dX7_readHolders_130 : decode cX7_readHolders 130 = .ok (.istore 5, 2) := by decide +kernel
theorem dX7_readHolders_132 : decode cX7_readHolders 132 = .ok (.aload_n 0, 1) := by decide +kernel
theorem dX7_readHolders_133 : decode cX7_readHolders 133 = .ok (.aload_n 0, 1) := by decide +kernel
theorem dX7_readHolders_134 : decode cX7_readHolders 134 = .ok (.getfield 141, 3) := by decide +kernel
theorem dX7_readHolders_137 : decode cX7_readHolders 137 = .ok (.ifCond .ne 16, 3) := by decide +kernel
theorem dX7_readHolders_140 : decode cX7_readHolders 140 = .ok (.aload_n 0, 1) := by decide +kernel
theorem dX7_readHolders_141 : decode cX7_readHolders 141 = .ok (.invokevirtual 145, 3) := by decide +kernel
theorem dX7_readHolders_144 : decode cX7_readHolders 144 = .ok (.bipush 64, 2) := by decide +kernel
theorem dX7_readHolders_146 : decode cX7_readHolders 146 = .ok (.if_icmp .ne 7, 3) := by decide +kernel
theorem dX7_readHolders_149 : decode cX7_readHolders 149 = .ok (.iconst 1, 1) := by decide +kernel
theorem dX7_readHolders_150 : decode cX7_readHolders 150 = .ok (.goto 4, 3) := by decide +kernel
theorem dX7_readHolders_153 : decode cX7_readHolders 153 = .ok (.iconst 0, 1) := by decide +kernel
theorem dX7_readHolders_154 : decode cX7_readHolders 154 = .ok (.invokevirtual 148, 3) := by decide +kernel
theorem dX7_readHolders_157 : decode cX7_readHolders 157 = .ok (.aload_n 0, 1) := by decide +kernel
theorem dX7_readHolders_158 : decode cX7_readHolders 158 = .ok (.getfield 141, 3) := by decide +kernel
theorem dX7_readHolders_161 : decode cX7_readHolders 161 = .ok (.ifCond .eq 7, 3) := by decide +kernel
theorem dX7_readHolders_164 : decode cX7_readHolders 164 = .ok (.iconst (-1), 1) := by decide +kernel
theorem dX7_readHolders_165 : decode cX7_readHolders 165 = .ok (.goto 10, 3) := by decide +kernel
theorem dX7_readHolders_168 : decode cX7_readHolders 168 = .ok (.aload_n 0, 1) := by decide +kernel
theorem dX7_readHolders_169 : decode cX7_readHolders 169 = .ok (.invokevirtual 145, 3) := by decide +kernel
theorem dX7_readHolders_172 : decode cX7_readHolders 172 = .ok (.bipush 48, 2) := by decide +kernel
theorem dX7_readHolders_174 : decode cX7_readHolders 174 = .ok (.isub, 1) := by decide +kernel
theorem dX7_readHolders_175 : decode cX7_readHolders 175 = .ok (.istore 6, 2) := by decide +kernel
theorem dX7_readHolders_177 : decode cX7_readHolders 177 = .ok (.aload_n 0, 1) := by decide +kernel
theorem dX7_readHolders_178 : decode cX7_readHolders 178 = .ok (.iload 6, 2) := by decide +kernel
theorem dX7_readHolders_180 : decode cX7_readHolders 180 = .ok (.invokestatic 108, 3) := by decide +kernel
theorem dX7_readHolders_183 : decode cX7_readHolders 183 = .ok (.ifCond .eq 16, 3) := by decide +kernel
theorem dX7_readHolders_186 : decode cX7_readHolders 186 = .ok (.iload_n 2, 1) := by decide +kernel
theorem dX7_readHolders_187 : decode cX7_readHolders 187 = .ok (.iload 6, 2) := by decide +kernel
theorem dX7_readHolders_189 : decode cX7_readHolders 189 = .ok (.ishr, 1) := by decide +kernel
theorem dX7_readHolders_190 : decode cX7_readHolders 190 = .ok (.iconst 1, 1) := by decide +kernel
theorem dX7_readHolders_191 : decode cX7_readHolders 191 = .ok (.iand, 1) := by decide +kernel
theorem dX7_readHolders_192 : decode cX7_readHolders 192 = .ok (.ifCond .ne 7, 3) := by decide +kernel
theorem dX7_readHolders_195 : decode cX7_readHolders 195 = .ok (.iconst 1, 1) := by decide +kernel
theorem dX7_readHolders_196 : decode cX7_readHolders 196 = .ok (.goto 4, 3) := by decide +kernel
theorem dX7_readHolders_199 : decode cX7_readHolders 199 = .ok (.iconst 0, 1) := by decide +kernel
theorem dX7_readHolders_200 : decode cX7_readHolders 200 = .ok (.invokevirtual 148, 3) := by decide +kernel
theorem dX7_readHolders_203 : decode cX7_readHolders 203 = .ok (.iload 6, 2) := by decide +kernel
theorem dX7_readHolders_205 : decode cX7_readHolders 205 = .ok (.istore 7, 2) := by decide +kernel
theorem dX7_readHolders_207 : decode cX7_readHolders 207 = .ok (.aload_n 0, 1) := by decide +kernel
theorem dX7_readHolders_208 : decode cX7_readHolders 208 = .ok (.getfield 141, 3) := by decide +kernel
theorem dX7_readHolders_211 : decode cX7_readHolders 211 = .ok (.ifCond .ne 29, 3) := by decide +kernel
theorem dX7_readHolders_214 : decode cX7_readHolders 214 = .ok (.aload_n 0, 1) := by decide +kernel
theorem dX7_readHolders_215 : decode cX7_readHolders 215 = .ok (.invokevirtual 145, 3) := by decide +kernel
theorem dX7_readHolders_218 : decode cX7_readHolders 218 = .ok (.bipush 62, 2) := by decide +kernel
theorem dX7_readHolders_220 : decode cX7_readHolders 220 = .ok (.if_icmp .ne 20, 3) := by decide +kernel
theorem dX7_readHolders_223 : decode cX7_readHolders 223 = .ok (.aload_n 0, 1) := by decide +kernel
theorem dX7_readHolders_224 : decode cX7_readHolders 224 = .ok (.dup, 1) := by decide +kernel
theorem dX7_readHolders_225 : decode cX7_readHolders 225 = .ok (.getfield 138, 3) := by decide +kernel
theorem dX7_readHolders_228 : decode cX7_readHolders 228 = .ok (.iconst 1, 1) := by decide +kernel
theorem dX7_readHolders_229 : decode cX7_readHolders 229 = .ok (.iadd, 1) := by decide +kernel
theorem dX7_readHolders_230 : decode cX7_readHolders 230 = .ok (.putfield 138, 3) := by decide +kernel
theorem dX7_readHolders_233 : decode cX7_readHolders 233 = .ok (.aload_n 0, 1) := by decide +kernel
theorem dX7_readHolders_234 : decode cX7_readHolders 234 = .ok (.iconst 5, 1) := by decide +kernel
theorem dX7_readHolders_235 : decode cX7_readHolders 235 = .ok (.invokevirtual 159, 3) := by decide +kernel
theorem dX7_readHolders_238 : decode cX7_readHolders 238 = .ok (.istore 7, 2) := by decide +kernel
theorem dX7_readHolders_240 : decode cX7_readHolders 240 = .ok (.aload_n 0, 1) := by decide +kernel
theorem dX7_readHolders_241 : decode cX7_readHolders 241 = .ok (.getfield 141, 3) := by decide +kernel
theorem dX7_readHolders_244 : decode cX7_readHolders 244 = .ok (.ifCond .ne 56, 3) := by decide +kernel
theorem dX7_readHolders_247 : decode cX7_readHolders 247 = .ok (.iload_n 2, 1) := by decide +kernel
theorem dX7_readHolders_248 : decode cX7_readHolders 248 = .ok (.iconst 1, 1) := by decide +kernel
theorem dX7_readHolders_249 : decode cX7_readHolders 249 = .ok (.iload 6, 2) := by decide +kernel
theorem dX7_readHolders_251 : decode cX7_readHolders 251 = .ok (.ishl, 1) := by decide +kernel
theorem dX7_readHolders_252 : decode cX7_readHolders 252 = .ok (.ior, 1) := by decide +kernel
theorem dX7_readHolders_253 : decode cX7_readHolders 253 = .ok (.istore_n 2, 1) := by decide +kernel
theorem dX7_readHolders_254 : decode cX7_readHolders 254 = .ok (.aload_n 0, 1) := by decide +kernel
theorem dX7_readHolders_255 : decode cX7_readHolders 255 = .ok (.getfield 22, 3) := by decide +kernel
theorem dX7_readHolders_258 : decode cX7_readHolders 258 = .ok (.iconst 4, 1) := by decide +kernel
theorem dX7_readHolders_259 : decode cX7_readHolders 259 = .ok (.iload_n 1, 1) := by decide +kernel
theorem dX7_readHolders_260 : decode cX7_readHolders 260 = .ok (.imul, 1) := by decide +kernel
theorem dX7_readHolders_261 : decode cX7_readHolders 261 = .ok (.iload 4, 2) := by decide +kernel
theorem dX7_readHolders_263 : decode cX7_readHolders 263 = .ok (.iastore, 1) := by decide +kernel
theorem dX7_readHolders_264 : decode cX7_readHolders 264 = .ok (.aload_n 0, 1) := by decide +kernel
theorem dX7_readHolders_265 : decode cX7_readHolders 265 = .ok (.getfield 22, 3) := by decide +kernel
theorem dX7_readHolders_268 : decode cX7_readHolders 268 = .ok (.iconst 4, 1) := by decide +kernel
theorem dX7_readHolders_269 : decode cX7_readHolders 269 = .ok (.iload_n 1, 1) := by decide +kernel
theorem dX7_readHolders_270 : decode cX7_readHolders 270 = .ok (.imul, 1) := by decide +kernel
theorem dX7_readHolders_271 : decode cX7_readHolders 271 = .ok (.iconst 1, 1) := by decide +kernel
theorem dX7_readHolders_272 : decode cX7_readHolders 272 = .ok (.iadd, 1) := by decide +kernel
theorem dX7_readHolders_273 : decode cX7_readHolders 273 = .ok (.iload 5, 2) := by decide +kernel
theorem dX7_readHolders_275 : decode cX7_readHolders 275 = .ok (.iastore, 1) := by decide +kernel
theorem dX7_readHolders_276 : decode cX7_readHolders 276 = .ok (.aload_n 0, 1) := by decide +kernel
theorem dX7_readHolders_277 : decode cX7_readHolders 277 = .ok (.getfield 22, 3) := by decide +kernel
theorem dX7_readHolders_280 : decode cX7_readHolders 280 = .ok (.iconst 4, 1) := by decide +kernel
theorem dX7_readHolders_281 : decode cX7_readHolders 281 = .ok (.iload_n 1, 1) := by decide +kernel
theorem dX7_readHolders_282 : decode cX7_readHolders 282 = .ok (.imul, 1) := by decide +kernel
theorem dX7_readHolders_283 : decode cX7_readHolders 283 = .ok (.iconst 2, 1) := by decide +kernel
theorem dX7_readHolders_284 : decode cX7_readHolders 284 = .ok (.iadd, 1) := by decide +kernel
theorem dX7_readHolders_285 : decode cX7_readHolders 285 = .ok (.iload 6, 2) := by decide +kernel
theorem dX7_readHolders_287 : decode cX7_readHolders 287 = .ok (.iastore, 1) := by decide +kernel
theorem dX7_readHolders_288 : decode cX7_readHolders 288 = .ok (.aload_n 0, 1) := by decide +kernel
theorem dX7_readHolders_289 : decode cX7_readHolders 289 = .ok (.getfield 22, 3) := by decide +kernel
theorem dX7_readHolders_292 : decode cX7_readHolders 292 = .ok (.iconst 4, 1) := by decide +kernel
theorem dX7_readHolders_293 : decode cX7_readHolders 293 = .ok (.iload_n 1, 1) := by decide +kernel
theorem dX7_readHolders_294 : decode cX7_readHolders 294 = .ok (.imul, 1) := by decide +kernel
theorem dX7_readHolders_295 : decode cX7_readHolders 295 = .ok (.iconst 3, 1) := by decide +kernel
theorem dX7_readHolders_296 : decode cX7_readHolders 296 = .ok (.iadd, 1) := by decide +kernel
theorem dX7_readHolders_297 : decode cX7_readHolders 297 = .ok (.iload 7, 2) := by decide +kernel
theorem dX7_readHolders_299 : decode cX7_readHolders 299 = .ok (.iastore, 1) := by decide +kernel
theorem dX7_readHolders_300 : decode cX7_readHolders 300 = .ok (.iinc 1 1, 3) := by decide +kernel
theorem dX7_readHolders_303 : decode cX7_readHolders 303 = .ok (.goto (-299), 3) := by decide +kernel
theorem dX7_readHolders_306 : decode cX7_readHolders 306 = .ok (.iload_n 1, 1) := by decide +kernel
theorem dX7_readHolders_307 : decode cX7_readHolders 307 = .ok (.ireturn, 1) := by decide +kernel
theorem dX7_crypt_0 : decode cX7_crypt 0 = .ok (.aload_n 0, 1) := by decide +kernel
theorem dX7_crypt_1 : decode cX7_crypt 1 = .ok (.iconst 0, 1) := by decide +kernel
theorem dX7_crypt_2 : decode cX7_crypt 2 = .ok (.putfield 138, 3) := by decide +kernel
theorem dX7_crypt_5 : decode cX7_crypt 5 = .ok (.aload_n 0, 1) := by decide +kernel
theorem dX7_crypt_6 : decode cX7_crypt 6 = .ok (.iconst 0, 1) := by decide +kernel
theorem dX7_crypt_7 : decode cX7_crypt 7 = .ok (.putfield 141, 3) := by decide +kernel
theorem dX7_crypt_10 : decode cX7_crypt 10 = .ok (.iconst 0, 1) := by decide +kernel
theorem dX7_crypt_11 : decode cX7_crypt 11 = .ok (.istore_n 1, 1) := by decide +kernel
theorem dX7_crypt_12 : decode cX7_crypt 12 = .ok (.iload_n 1, 1) := by decide +kernel
theorem dX7_crypt_13 : decode cX7_crypt 13 = .ok (.bipush 6, 2) := by decide +kernel
theorem dX7_crypt_15 : decode cX7_crypt 15 = .ok (.if_icmp .ge 21, 3) := by decide +kernel
theorem dX7_crypt_18 : decode cX7_crypt 18 = .ok (.aload_n 0, 1) := by decide +kernel
theorem dX7_crypt_19 : decode cX7_crypt 19 = .ok (.getfield 19, 3) := by decide +kernel
theorem dX7_crypt_22 : decode cX7_crypt 22 = .ok (.iload_n 1, 1) := by decide +kernel
theorem dX7_crypt_23 : decode cX7_crypt 23 = .ok (.aload_n 0, 1) := by decide +kernel
theorem dX7_crypt_24 : decode cX7_crypt 24 = .ok (.bipush 9, 2) := by decide +kernel
theorem dX7_crypt_26 : decode cX7_crypt 26 = .ok (.invokevirtual 159, 3) := by decide +kernel
theorem dX7_crypt_29 : decode cX7_crypt 29 = .ok (.iastore, 1) := by decide +kernel
theorem dX7_crypt_30 : decode cX7_crypt 30 = .ok (.iinc 1 1, 3) := by decide +kernel
theorem dX7_crypt_33 : decode cX7_crypt 33 = .ok (.goto (-21), 3) := by decide +kernel
theorem dX7_crypt_36 : decode cX7_crypt 36 = .ok (.iconst 0, 1) := by decide +kernel
theorem dX7_crypt_37 : decode cX7_crypt 37 = .ok (.istore_n 1, 1) := by decide +kernel
theorem dX7_crypt_38 : decode cX7_crypt 38 = .ok (.aload_n 0, 1) := by decide +kernel
theorem dX7_crypt_39 : decode cX7_crypt 39 = .ok (.getfield 141, 3) := by decide +kernel
theorem dX7_crypt_42 : decode cX7_crypt 42 = .ok (.ifCond .ne 27, 3) := by decide +kernel
theorem dX7_crypt_45 : decode cX7_crypt 45 = .ok (.aload_n 0, 1) := by decide +kernel
theorem dX7_crypt_46 : decode cX7_crypt 46 = .ok (.invokevirtual 145, 3) := by decide +kernel
theorem dX7_crypt_49 : decode cX7_crypt 49 = .ok (.bipush 59, 2) := by decide +kernel
theorem dX7_crypt_51 : decode cX7_crypt 51 = .ok (.if_icmp .ne 18, 3) := by decide +kernel
theorem dX7_crypt_54 : decode cX7_crypt 54 = .ok (.aload_n 0, 1) := by decide +kernel
theorem dX7_crypt_55 : decode cX7_crypt 55 = .ok (.dup, 1) := by decide +kernel
theorem dX7_crypt_56 : decode cX7_crypt 56 = .ok (.getfield 138, 3) := by decide +kernel
theorem dX7_crypt_59 : decode cX7_crypt 59 = .ok (.iconst 1, 1) := by decide +kernel
theorem dX7_crypt_60 : decode cX7_crypt 60 = .ok (.iadd, 1) := by decide +kernel
theorem dX7_crypt_61 : decode cX7_crypt 61 = .ok (.putfield 138, 3) := by decide +kernel
theorem dX7_crypt_64 : decode cX7_crypt 64 = .ok (.aload_n 0, 1) := by decide +kernel
theorem dX7_crypt_65 : decode cX7_crypt 65 = .ok (.invokevirtual 162, 3) := by decide +kernel
theorem dX7_crypt_68 : decode cX7_crypt 68 = .ok (.istore_n 1, 1) := by decide +kernel
theorem dX7_crypt_69 : decode cX7_crypt 69 = .ok (.aload_n 0, 1) := by decide +kernel
theorem dX7_crypt_70 : decode cX7_crypt 70 = .ok (.aload_n 0, 1) := by decide +kernel
theorem dX7_crypt_71 : decode cX7_crypt 71 = .ok (.getfield 141, 3) := by decide +kernel
theorem dX7_crypt_74 : decode cX7_crypt 74 = .ok (.ifCond .ne 10, 3) := by decide +kernel
theorem dX7_crypt_77 : decode cX7_crypt 77 = .ok (.aload_n 0, 1) := by decide +kernel
theorem dX7_crypt_78 : decode cX7_crypt 78 = .ok (.invokevirtual 145, 3) := by decide +kernel
theorem dX7_crypt_81 : decode cX7_crypt 81 = .ok (.ifCond .eq 7, 3) := by decide +kernel
theorem dX7_crypt_84 : decode cX7_crypt 84 = .ok (.iconst 1, 1) := by decide +kernel
theorem dX7_crypt_85 : decode cX7_crypt 85 = .ok (.goto 4, 3) := by decide +kernel
theorem dX7_crypt_88 : decode cX7_crypt 88 = .ok (.iconst 0, 1) := by decide +kernel
theorem dX7_crypt_89 : decode cX7_crypt 89 = .ok (.putfield 141, 3) := by decide +kernel
theorem dX7_crypt_92 : decode cX7_crypt 92 = .ok (.aload_n 0, 1) := by decide +kernel
theorem dX7_crypt_93 : decode cX7_crypt 93 = .ok (.iconst 0, 1) := by decide +kernel
theorem dX7_crypt_94 : decode cX7_crypt 94 = .ok (.putfield 135, 3) := by decide +kernel
theorem dX7_crypt_97 : decode cX7_crypt 97 = .ok (.aload_n 0, 1) := by decide +kernel
theorem dX7_crypt_98 : decode cX7_crypt 98 = .ok (.getfield 141, 3) := by decide +kernel
theorem dX7_crypt_101 : decode cX7_crypt 101 = .ok (.ifCond .eq 11, 3) := by decide +kernel
theorem dX7_crypt_104 : decode cX7_crypt 104 = .ok (.bipush (-20), 2) := by decide +kernel
theorem dX7_crypt_106 : decode cX7_crypt 106 = .ok (.aload_n 0, 1) := by decide +kernel
theorem dX7_crypt_107 : decode cX7_crypt 107 = .ok (.getfield 138, 3) := by decide +kernel
theorem dX7_crypt_110 : decode cX7_crypt 110 = .ok (.isub, 1) := by decide +kernel
theorem dX7_crypt_111 : decode cX7_crypt 111 = .ok (.ireturn, 1) := by decide +kernel
theorem dX7_crypt_112 : decode cX7_crypt 112 = .ok (.aload_n 0, 1) := by decide +kernel
theorem dX7_crypt_113 : decode cX7_crypt 113 = .ok (.getfield 7, 3) := by decide +kernel
theorem dX7_crypt_116 : decode cX7_crypt 116 = .ok (.iconst 0, 1) := by decide +kernel
theorem dX7_crypt_117 : decode cX7_crypt 117 = .ok (.iconst 0, 1) := by decide +kernel
theorem dX7_crypt_118 : decode cX7_crypt 118 = .ok (.iastore, 1) := by decide +kernel
theorem dX7_crypt_119 : decode cX7_crypt 119 = .ok (.aload_n 0, 1) := by decide +kernel
theorem dX7_crypt_120 : decode cX7_crypt 120 = .ok (.getfield 7, 3) := by decide +kernel
theorem dX7_crypt_123 : decode cX7_crypt 123 = .ok (.iconst 1, 1) := by decide +kernel
theorem dX7_crypt_124 : decode cX7_crypt 124 = .ok (.iconst 0, 1) := by decide +kernel
theorem dX7_crypt_125 : decode cX7_crypt 125 = .ok (.iastore, 1) := by decide +kernel
theorem dX7_crypt_126 : decode cX7_crypt 126 = .ok (.aload_n 0, 1) := by decide +kernel
theorem dX7_crypt_127 : decode cX7_crypt 127 = .ok (.getfield 7, 3) := by decide +kernel
theorem dX7_crypt_130 : decode cX7_crypt 130 = .ok (.iconst 2, 1) := by decide +kernel
theorem dX7_crypt_131 : decode cX7_crypt 131 = .ok (.iconst 0, 1) := by decide +kernel
theorem dX7_crypt_132 : decode cX7_crypt 132 = .ok (.iastore, 1) := by decide +kernel
theorem dX7_crypt_133 : decode cX7_crypt 133 = .ok (.aload_n 0, 1) := by decide +kernel
theorem dX7_crypt_134 : decode cX7_crypt 134 = .ok (.iconst 0, 1) := by decide +kernel
theorem dX7_crypt_135 : decode cX7_crypt 135 = .ok (.putfield 100, 3) := by decide +kernel
theorem dX7_crypt_138 : decode cX7_crypt 138 = .ok (.iconst 0, 1) := by decide +kernel
theorem dX7_crypt_139 : decode cX7_crypt 139 = .ok (.istore_n 2, 1) := by decide +kernel
theorem dX7_crypt_140 : decode cX7_crypt 140 = .ok (.iload_n 2, 1) := by decide +kernel
theorem dX7_crypt_141 : decode cX7_crypt 141 = .ok (.bipush 6, 2) := by decide +kernel
theorem dX7_crypt_143 : decode cX7_crypt 143 = .ok (.if_icmp .ge 24, 3) := by decide +kernel
theorem dX7_crypt_146 : decode cX7_crypt 146 = .ok (.aload_n 0, 1) := by decide +kernel
theorem dX7_crypt_147 : decode cX7_crypt 147 = .ok (.getfield 7, 3) := by decide +kernel
theorem dX7_crypt_150 : decode cX7_crypt 150 = .ok (.bipush 28, 2) := by decide +kernel
theorem dX7_crypt_152 : decode cX7_crypt 152 = .ok (.iload_n 2, 1) := by decide +kernel
theorem dX7_crypt_153 : decode cX7_crypt 153 = .ok (.iadd, 1) := by decide +kernel
theorem dX7_crypt_154 : decode cX7_crypt 154 = .ok (.aload_n 0, 1) := by decide +kernel
theorem dX7_crypt_155 : decode cX7_crypt 155 = .ok (.getfield 19, 3) := by decide +kernel
theorem dX7_crypt_158 : decode cX7_crypt 158 = .ok (.iload_n 2, 1) := by decide +kernel
theorem dX7_crypt_159 : decode cX7_crypt 159 = .ok (.iaload, 1) := by decide +kernel
theorem dX7_crypt_160 : decode cX7_crypt 160 = .ok (.iastore, 1) := by decide +kernel
theorem dX7_crypt_161 : decode cX7_crypt 161 = .ok (.iinc 2 1, 3) := by decide +kernel
theorem dX7_crypt_164 : decode cX7_crypt 164 = .ok (.goto (-24), 3) := by decide +kernel
theorem dX7_crypt_167 : decode cX7_crypt 167 = .ok (.iconst 0, 1) := by decide +kernel
theorem dX7_crypt_168 : decode cX7_crypt 168 = .ok (.istore_n 2, 1) := by decide +kernel
theorem dX7_crypt_169 : decode cX7_crypt 169 = .ok (.iload_n 2, 1) := by decide +kernel
theorem dX7_crypt_170 : decode cX7_crypt 170 = .ok (.iload_n 1, 1) := by decide +kernel
theorem dX7_crypt_171 : decode cX7_crypt 171 = .ok (.if_icmp .ge 51, 3) := by decide +kernel
theorem dX7_crypt_174 : decode cX7_crypt 174 = .ok (.aload_n 0, 1) := by decide +kernel
theorem dX7_crypt_175 : decode cX7_crypt 175 = .ok (.aload_n 0, 1) := by decide +kernel
theorem dX7_crypt_176 : decode cX7_crypt 176 = .ok (.getfield 22, 3) := by decide +kernel
theorem dX7_crypt_179 : decode cX7_crypt 179 = .ok (.iconst 4, 1) := by decide +kernel
theorem dX7_crypt_180 : decode cX7_crypt 180 = .ok (.iload_n 2, 1) := by decide +kernel
theorem dX7_crypt_181 : decode cX7_crypt 181 = .ok (.imul, 1) := by decide +kernel
theorem dX7_crypt_182 : decode cX7_crypt 182 = .ok (.iaload, 1) := by decide +kernel
theorem dX7_crypt_183 : decode cX7_crypt 183 = .ok (.aload_n 0, 1) := by decide +kernel
theorem dX7_crypt_184 : decode cX7_crypt 184 = .ok (.getfield 22, 3) := by decide +kernel
theorem dX7_crypt_187 : decode cX7_crypt 187 = .ok (.iconst 4, 1) := by decide +kernel
theorem dX7_crypt_188 : decode cX7_crypt 188 = .ok (.iload_n 2, 1) := by decide +kernel
theorem dX7_crypt_189 : decode cX7_crypt 189 = .ok (.imul, 1) := by decide +kernel
theorem dX7_crypt_190 : decode cX7_crypt 190 = .ok (.iconst 1, 1) := by decide +kernel
theorem dX7_crypt_191 : decode cX7_crypt 191 = .ok (.iadd, 1) := by decide +kernel
theorem dX7_crypt_192 : decode cX7_crypt 192 = .ok (.iaload, 1) := by decide +kernel
theorem dX7_crypt_193 : decode cX7_crypt 193 = .ok (.aload_n 0, 1) := by decide +kernel
theorem dX7_crypt_194 : decode cX7_crypt 194 = .ok (.getfield 22, 3) := by decide +kernel
theorem dX7_crypt_197 : decode cX7_crypt 197 = .ok (.iconst 4, 1) := by decide +kernel
theorem dX7_crypt_198 : decode cX7_crypt 198 = .ok (.iload_n 2, 1) := by decide +kernel
theorem dX7_crypt_199 : decode cX7_crypt 199 = .ok (.imul, 1) := by decide +kernel
theorem dX7_crypt_200 : decode cX7_crypt 200 = .ok (.iconst 2, 1) := by decide +kernel
theorem dX7_crypt_201 : decode cX7_crypt 201 = .ok (.iadd, 1) := by decide +kernel
theorem dX7_crypt_202 : decode cX7_crypt 202 = .ok (.iaload, 1) := by decide +kernel
theorem dX7_crypt_203 : decode cX7_crypt 203 = .ok (.aload_n 0, 1) := by decide +kernel
theorem dX7_crypt_204 : decode cX7_crypt 204 = .ok (.getfield 22, 3) := by decide +kernel
theorem dX7_crypt_207 : decode cX7_crypt 207 = .ok (.iconst 4, 1) := by decide +kernel
theorem dX7_crypt_208 : decode cX7_crypt 208 = .ok (.iload_n 2, 1) := by decide +kernel
theorem dX7_crypt_209 : decode cX7_crypt 209 = .ok (.imul, 1) := by decide +kernel
theorem dX7_crypt_210 : decode cX7_crypt 210 = .ok (.iconst 3, 1) := by decide +kernel
theorem dX7_crypt_211 : decode cX7_crypt 211 = .ok (.iadd, 1) := by decide +kernel
theorem dX7_crypt_212 : decode cX7_crypt 212 = .ok (.iaload, 1) := by decide +kernel
theorem dX7_crypt_213 : decode cX7_crypt 213 = .ok (.invokevirtual 114, 3) := by decide +kernel
theorem dX7_crypt_216 : decode cX7_crypt 216 = .ok (.iinc 2 1, 3) := by decide +kernel
theorem dX7_crypt_219 : decode cX7_crypt 219 = .ok (.goto (-50), 3) := by decide +kernel
theorem dX7_crypt_222 : decode cX7_crypt 222 = .ok (.iload_n 1, 1) := by decide +kernel
theorem dX7_crypt_223 : decode cX7_crypt 223 = .ok (.ireturn, 1) := by decide +kernel
theorem dX7_notes_0 : decode cX7_notes 0 = .ok (.aload_n 0, 1) := by decide +kernel
theorem dX7_notes_1 : decode cX7_notes 1 = .ok (.getfield 100, 3) := by decide +kernel
theorem dX7_notes_4 : decode cX7_notes 4 = .ok (.bipush 8, 2) := by decide +kernel
theorem dX7_notes_6 : decode cX7_notes 6 = .ok (.if_icmp .ne 39, 3) := by decide +kernel
theorem dX7_notes_9 : decode cX7_notes 9 = .ok (.bipush 15, 2) := by decide +kernel
theorem dX7_notes_11 : decode cX7_notes 11 = .ok (.istore_n 1, 1) := by decide +kernel
theorem dX7_notes_12 : decode cX7_notes 12 = .ok (.iload_n 1, 1) := by decide +kernel
theorem dX7_notes_13 : decode cX7_notes 13 = .ok (.bipush 120, 2) := by decide +kernel
theorem dX7_notes_15 : decode cX7_notes 15 = .ok (.if_icmp .ge 24, 3) := by decide +kernel
theorem dX7_notes_18 : decode cX7_notes 18 = .ok (.aload_n 0, 1) := by decide +kernel
theorem dX7_notes_19 : decode cX7_notes 19 = .ok (.getfield 25, 3) := by decide +kernel
theorem dX7_notes_22 : decode cX7_notes 22 = .ok (.iload_n 1, 1) := by decide +kernel
theorem dX7_notes_23 : decode cX7_notes 23 = .ok (.bipush 15, 2) := by decide +kernel
theorem dX7_notes_25 : decode cX7_notes 25 = .ok (.isub, 1) := by decide +kernel
theorem dX7_notes_26 : decode cX7_notes 26 = .ok (.aload_n 0, 1) := by decide +kernel
theorem dX7_notes_27 : decode cX7_notes 27 = .ok (.getfield 25, 3) := by decide +kernel
theorem dX7_notes_30 : decode cX7_notes 30 = .ok (.iload_n 1, 1) := by decide +kernel
theorem dX7_notes_31 : decode cX7_notes 31 = .ok (.iaload, 1) := by decide +kernel
theorem dX7_notes_32 : decode cX7_notes 32 = .ok (.iastore, 1) := by decide +kernel
theorem dX7_notes_33 : decode cX7_notes 33 = .ok (.iinc 1 1, 3) := by decide +kernel
theorem dX7_notes_36 : decode cX7_notes 36 = .ok (.goto (-24), 3) := by decide +kernel
theorem dX7_notes_39 : decode cX7_notes 39 = .ok (.aload_n 0, 1) := by decide +kernel
theorem dX7_notes_40 : decode cX7_notes 40 = .ok (.bipush 7, 2) := by decide +kernel
theorem dX7_notes_42 : decode cX7_notes 42 = .ok (.putfield 100, 3) := by decide +kernel
theorem dX7_notes_45 : decode cX7_notes 45 = .ok (.bipush 15, 2) := by decide +kernel
theorem dX7_notes_47 : decode cX7_notes 47 = .ok (.aload_n 0, 1) := by decide +kernel
theorem dX7_notes_48 : decode cX7_notes 48 = .ok (.getfield 100, 3) := by decide +kernel
theorem dX7_notes_51 : decode cX7_notes 51 = .ok (.imul, 1) := by decide +kernel
theorem dX7_notes_52 : decode cX7_notes 52 = .ok (.istore_n 1, 1) := by decide +kernel
theorem dX7_notes_53 : decode cX7_notes 53 = .ok (.iconst 0, 1) := by decide +kernel
theorem dX7_notes_54 : decode cX7_notes 54 = .ok (.istore_n 2, 1) := by decide +kernel
theorem dX7_notes_55 : decode cX7_notes 55 = .ok (.iload_n 2, 1) := by decide +kernel
theorem dX7_notes_56 : decode cX7_notes 56 = .ok (.iconst 3, 1) := by decide +kernel
theorem dX7_notes_57 : decode cX7_notes 57 = .ok (.if_icmp .ge 25, 3) := by decide +kernel
theorem dX7_notes_60 : decode cX7_notes 60 = .ok (.aload_n 0, 1) := by decide +kernel
theorem dX7_notes_61 : decode cX7_notes 61 = .ok (.getfield 25, 3) := by decide +kernel
theorem dX7_notes_64 : decode cX7_notes 64 = .ok (.iload_n 1, 1) := by decide +kernel
theorem dX7_notes_65 : decode cX7_notes 65 = .ok (.iload_n 2, 1) := by decide +kernel
theorem dX7_notes_66 : decode cX7_notes 66 = .ok (.iadd, 1) := by decide +kernel
theorem dX7_notes_67 : decode cX7_notes 67 = .ok (.aload_n 0, 1) := by decide +kernel
theorem dX7_notes_68 : decode cX7_notes 68 = .ok (.getfield 7, 3) := by decide +kernel
theorem dX7_notes_71 : decode cX7_notes 71 = .ok (.iconst 1, 1) := by decide +kernel
theorem dX7_notes_72 : decode cX7_notes 72 = .ok (.iload_n 2, 1) := by decide +kernel
theorem dX7_notes_73 : decode cX7_notes 73 = .ok (.iadd, 1) := by decide +kernel
theorem dX7_notes_74 : decode cX7_notes 74 = .ok (.iaload, 1) := by decide +kernel
theorem dX7_notes_75 : decode cX7_notes 75 = .ok (.iastore, 1) := by decide +kernel
theorem dX7_notes_76 : decode cX7_notes 76 = .ok (.iinc 2 1, 3) := by decide +kernel
theorem dX7_notes_79 : decode cX7_notes 79 = .ok (.goto (-24), 3) := by decide +kernel
theorem dX7_notes_82 : decode cX7_notes 82 = .ok (.iconst 0, 1) := by decide +kernel
theorem dX7_notes_83 : decode cX7_notes 83 = .ok (.istore_n 2, 1) := by decide +kernel
theorem dX7_notes_84 : decode cX7_notes 84 = .ok (.iload_n 2, 1) := by decide +kernel
theorem dX7_notes_85 : decode cX7_notes 85 = .ok (.bipush 6, 2) := by decide +kernel
theorem dX7_notes_87 : decode cX7_notes 87 = .ok (.if_icmp .ge 40, 3) := by decide +kernel
theorem dX7_notes_90 : decode cX7_notes 90 = .ok (.aload_n 0, 1) := by decide +kernel
theorem dX7_notes_91 : decode cX7_notes 91 = .ok (.getfield 25, 3) := by decide +kernel
theorem dX7_notes_94 : decode cX7_notes 94 = .ok (.iload_n 1, 1) := by decide +kernel
theorem dX7_notes_95 : decode cX7_notes 95 = .ok (.iconst 3, 1) := by decide +kernel
theorem dX7_notes_96 : decode cX7_notes 96 = .ok (.iadd, 1) := by decide +kernel
theorem dX7_notes_97 : decode cX7_notes 97 = .ok (.iload_n 2, 1) := by decide +kernel
theorem dX7_notes_98 : decode cX7_notes 98 = .ok (.iadd, 1) := by decide +kernel
theorem dX7_notes_99 : decode cX7_notes 99 = .ok (.aload_n 0, 1) := by decide +kernel
theorem dX7_notes_100 : decode cX7_notes 100 = .ok (.iload_n 2, 1) := by decide +kernel
theorem dX7_notes_101 : decode cX7_notes 101 = .ok (.invokevirtual 63, 3) := by decide +kernel
theorem dX7_notes_104 : decode cX7_notes 104 = .ok (.iastore, 1) := by decide +kernel
theorem dX7_notes_105 : decode cX7_notes 105 = .ok (.aload_n 0, 1) := by decide +kernel
theorem dX7_notes_106 : decode cX7_notes 106 = .ok (.getfield 25, 3) := by decide +kernel
theorem dX7_notes_109 : decode cX7_notes 109 = .ok (.iload_n 1, 1) := by decide +kernel
theorem dX7_notes_110 : decode cX7_notes 110 = .ok (.bipush 9, 2) := by decide +kernel
theorem dX7_notes_112 : decode cX7_notes 112 = .ok (.iadd, 1) := by decide +kernel
theorem dX7_notes_113 : decode cX7_notes 113 = .ok (.iload_n 2, 1) := by decide +kernel
theorem dX7_notes_114 : decode cX7_notes 114 = .ok (.iadd, 1) := by decide +kernel
theorem dX7_notes_115 : decode cX7_notes 115 = .ok (.aload_n 0, 1) := by decide +kernel
theorem dX7_notes_116 : decode cX7_notes 116 = .ok (.iload_n 2, 1) := by decide +kernel
theorem dX7_notes_117 : decode cX7_notes 117 = .ok (.invokevirtual 67, 3) := by decide +kernel
theorem dX7_notes_120 : decode cX7_notes 120 = .ok (.iastore, 1) := by decide +kernel
theorem dX7_notes_121 : decode cX7_notes 121 = .ok (.iinc 2 1, 3) := by decide +kernel
theorem dX7_notes_124 : decode cX7_notes 124 = .ok (.goto (-40), 3) := by decide +kernel
theorem dX7_notes_127 : decode cX7_notes 127 = .ok (.aload_n 0, 1) := by decide +kernel
theorem dX7_notes_128 : decode cX7_notes 128 = .ok (.dup, 1) := by decide +kernel
theorem dX7_notes_129 : decode cX7_notes 129 = .ok (.getfield 100, 3) := by decide +kernel
theorem dX7_notes_132 : decode cX7_notes 132 = .ok (.iconst 1, 1) := by decide +kernel
theorem dX7_notes_133 : decode cX7_notes 133 = .ok (.iadd, 1) := by decide +kernel
theorem dX7_notes_134 : decode cX7_notes 134 = .ok (.putfield 100, 3) := by decide +kernel
theorem dX7_notes_137 : decode cX7_notes 137 = .ok (.return_, 1) := by decide +kernel
theorem dX7_days_0 : decode cX7_days 0 = .ok (.iload_n 1, 1) := by decide +kernel
theorem dX7_days_1 : decode cX7_days 1 = .ok (.i2l, 1) := by decide +kernel
theorem dX7_days_2 : decode cX7_days 2 = .ok (.lconst 1, 1) := by decide +kernel
theorem dX7_days_3 : decode cX7_days 3 = .ok (.ldc2_w 165, 3) := by decide +kernel
theorem dX7_days_6 : decode cX7_days 6 = .ok (.invokestatic 53, 3) := by decide +kernel
theorem dX7_days_9 : decode cX7_days 9 = .ok (.ifCond .ne 5, 3) := by decide +kernel
theorem dX7_days_12 : decode cX7_days 12 = .ok (.iconst (-1), 1) := by decide +kernel
theorem dX7_days_13 : decode cX7_days 13 = .ok (.ireturn, 1) := by decide +kernel
theorem dX7_days_14 : decode cX7_days 14 = .ok (.aload_n 0, 1) := by decide +kernel
theorem dX7_days_15 : decode cX7_days 15 = .ok (.getfield 7, 3) := by decide +kernel
theorem dX7_days_18 : decode cX7_days 18 = .ok (.iconst 1, 1) := by decide +kernel
theorem dX7_days_19 : decode cX7_days 19 = .ok (.iaload, 1) := by decide +kernel
theorem dX7_days_20 : decode cX7_days 20 = .ok (.iload_n 1, 1) := by decide +kernel
theorem dX7_days_21 : decode cX7_days 21 = .ok (.iadd, 1) := by decide +kernel
theorem dX7_days_22 : decode cX7_days 22 = .ok (.sipush 9999, 3) := by decide +kernel
theorem dX7_days_25 : decode cX7_days 25 = .ok (.if_icmp .le 6, 3) := by decide +kernel
theorem dX7_days_28 : decode cX7_days 28 = .ok (.bipush (-3), 2) := by decide +kernel
theorem dX7_days_30 : decode cX7_days 30 = .ok (.ireturn, 1) := by decide +kernel
theorem dX7_days_31 : decode cX7_days 31 = .ok (.iconst 0, 1) := by decide +kernel
theorem dX7_days_32 : decode cX7_days 32 = .ok (.istore_n 2, 1) := by decide +kernel
theorem dX7_days_33 : decode cX7_days 33 = .ok (.iload_n 2, 1) := by decide +kernel
theorem dX7_days_34 : decode cX7_days 34 = .ok (.iload_n 1, 1) := by decide +kernel
theorem dX7_days_35 : decode cX7_days 35 = .ok (.if_icmp .ge 17, 3) := by decide +kernel
theorem dX7_days_38 : decode cX7_days 38 = .ok (.aload_n 0, 1) := by decide +kernel
theorem dX7_days_39 : decode cX7_days 39 = .ok (.invokevirtual 167, 3) := by decide +kernel
theorem dX7_days_42 : decode cX7_days 42 = .ok (.aload_n 0, 1) := by decide +kernel
theorem dX7_days_43 : decode cX7_days 43 = .ok (.invokevirtual 97, 3) := by decide +kernel
theorem dX7_days_46 : decode cX7_days 46 = .ok (.iinc 2 1, 3) := by decide +kernel
theorem dX7_days_49 : decode cX7_days 49 = .ok (.goto (-16), 3) := by decide +kernel
theorem dX7_days_52 : decode cX7_days 52 = .ok (.aload_n 0, 1) := by decide +kernel
theorem dX7_days_53 : decode cX7_days 53 = .ok (.invokevirtual 83, 3) := by decide +kernel
theorem dX7_days_56 : decode cX7_days 56 = .ok (.ireturn, 1) := by decide +kernel
theorem dX7_exchanges_0 : decode cX7_exchanges 0 = .ok (.aload_n 0, 1) := by decide +kernel
theorem dX7_exchanges_1 : decode cX7_exchanges 1 = .ok (.iload_n 1, 1) := by decide +kernel
theorem dX7_exchanges_2 : decode cX7_exchanges 2 = .ok (.invokevirtual 67, 3) := by decide +kernel
theorem dX7_exchanges_5 : decode cX7_exchanges 5 = .ok (.istore_n 3, 1) := by decide +kernel
theorem dX7_exchanges_6 : decode cX7_exchanges 6 = .ok (.aload_n 0, 1) := by decide +kernel
theorem dX7_exchanges_7 : decode cX7_exchanges 7 = .ok (.iload_n 1, 1) := by decide +kernel
theorem dX7_exchanges_8 : decode cX7_exchanges 8 = .ok (.aload_n 0, 1) := by decide +kernel
theorem dX7_exchanges_9 : decode cX7_exchanges 9 = .ok (.iload_n 2, 1) := by decide +kernel
theorem dX7_exchanges_10 : decode cX7_exchanges 10 = .ok (.invokevirtual 67, 3) := by decide +kernel
theorem dX7_exchanges_13 : decode cX7_exchanges 13 = .ok (.invokevirtual 170, 3) := by decide +kernel
theorem dX7_exchanges_16 : decode cX7_exchanges 16 = .ok (.aload_n 0, 1) := by decide +kernel
theorem dX7_exchanges_17 : decode cX7_exchanges 17 = .ok (.iload_n 2, 1) := by decide +kernel
theorem dX7_exchanges_18 : decode cX7_exchanges 18 = .ok (.iload_n 3, 1) := by decide +kernel
theorem dX7_exchanges_19 : decode cX7_exchanges 19 = .ok (.invokevirtual 170, 3) := by decide +kernel
theorem dX7_exchanges_22 : decode cX7_exchanges 22 = .ok (.return_, 1) := by decide +kernel
theorem dX7_change_0 : decode cX7_change 0 = .ok (.aload_n 0, 1) := by decide +kernel
theorem dX7_change_1 : decode cX7_change 1 = .ok (.iload_n 1, 1) := by decide +kernel
theorem dX7_change_2 : decode cX7_change 2 = .ok (.invokevirtual 120, 3) := by decide +kernel
theorem dX7_change_5 : decode cX7_change 5 = .ok (.ifCond .eq 16, 3) := by decide +kernel
theorem dX7_change_8 : decode cX7_change 8 = .ok (.aload_n 0, 1) := by decide +kernel
theorem dX7_change_9 : decode cX7_change 9 = .ok (.iload_n 2, 1) := by decide +kernel
theorem dX7_change_10 : decode cX7_change 10 = .ok (.invokevirtual 120, 3) := by decide +kernel
theorem dX7_change_13 : decode cX7_change 13 = .ok (.ifCond .eq 8, 3) := by decide +kernel
theorem dX7_change_16 : decode cX7_change 16 = .ok (.iload_n 1, 1) := by decide +kernel
theorem dX7_change_17 : decode cX7_change 17 = .ok (.iload_n 2, 1) := by decide +kernel
theorem dX7_change_18 : decode cX7_change 18 = .ok (.if_icmp .ne 5, 3) := by decide +kernel
theorem dX7_change_21 : decode cX7_change 21 = .ok (.iconst (-1), 1) := by decide +kernel
theorem dX7_change_22 : decode cX7_change 22 = .ok (.ireturn, 1) := by decide +kernel
theorem dX7_change_23 : decode cX7_change 23 = .ok (.aload_n 0, 1) := by decide +kernel
theorem dX7_change_24 : decode cX7_change 24 = .ok (.invokevirtual 167, 3) := by decide +kernel
theorem dX7_change_27 : decode cX7_change 27 = .ok (.aload_n 0, 1) := by decide +kernel
theorem dX7_change_28 : decode cX7_change 28 = .ok (.iload_n 1, 1) := by decide +kernel
theorem dX7_change_29 : decode cX7_change 29 = .ok (.iload_n 2, 1) := by decide +kernel
theorem dX7_change_30 : decode cX7_change 30 = .ok (.invokevirtual 173, 3) := by decide +kernel
theorem dX7_change_33 : decode cX7_change 33 = .ok (.aload_n 0, 1) := by decide +kernel
theorem dX7_change_34 : decode cX7_change 34 = .ok (.iload_n 1, 1) := by decide +kernel
theorem dX7_change_35 : decode cX7_change 35 = .ok (.invokevirtual 67, 3) := by decide +kernel
theorem dX7_change_38 : decode cX7_change 38 = .ok (.ireturn, 1) := by decide +kernel
theorem dX7_move_0 : decode cX7_move 0 = .ok (.aload_n 0, 1) := by decide +kernel
theorem dX7_move_1 : decode cX7_move 1 = .ok (.iload_n 1, 1) := by decide +kernel
theorem dX7_move_2 : decode cX7_move 2 = .ok (.invokevirtual 120, 3) := by decide +kernel
theorem dX7_move_5 : decode cX7_move 5 = .ok (.ifCond .eq 10, 3) := by decide +kernel
theorem dX7_move_8 : decode cX7_move 8 = .ok (.iload_n 2, 1) := by decide +kernel
theorem dX7_move_9 : decode cX7_move 9 = .ok (.invokestatic 108, 3) := by decide +kernel
theorem dX7_move_12 : decode cX7_move 12 = .ok (.ifCond .ne 5, 3) := by decide +kernel
theorem dX7_move_15 : decode cX7_move 15 = .ok (.iconst (-1), 1) := by decide +kernel
theorem dX7_move_16 : decode cX7_move 16 = .ok (.ireturn, 1) := by decide +kernel
theorem dX7_move_17 : decode cX7_move 17 = .ok (.aload_n 0, 1) := by decide +kernel
theorem dX7_move_18 : decode cX7_move 18 = .ok (.iload_n 2, 1) := by decide +kernel
theorem dX7_move_19 : decode cX7_move 19 = .ok (.invokevirtual 111, 3) := by decide +kernel
theorem dX7_move_22 : decode cX7_move 22 = .ok (.bipush (-4), 2) := by decide +kernel
theorem dX7_move_24 : decode cX7_move 24 = .ok (.if_icmp .eq 6, 3) := by decide +kernel
theorem dX7_move_27 : decode cX7_move 27 = .ok (.bipush (-2), 2) := by decide +kernel
theorem dX7_move_29 : decode cX7_move 29 = .ok (.ireturn, 1) := by decide +kernel
theorem dX7_move_30 : decode cX7_move 30 = .ok (.aload_n 0, 1) := by decide +kernel
theorem dX7_move_31 : decode cX7_move 31 = .ok (.invokevirtual 167, 3) := by decide +kernel
theorem dX7_move_34 : decode cX7_move 34 = .ok (.aload_n 0, 1) := by decide +kernel
theorem dX7_move_35 : decode cX7_move 35 = .ok (.iload_n 1, 1) := by decide +kernel
theorem dX7_move_36 : decode cX7_move 36 = .ok (.invokevirtual 67, 3) := by decide +kernel
theorem dX7_move_39 : decode cX7_move 39 = .ok (.istore_n 3, 1) := by decide +kernel
theorem dX7_move_40 : decode cX7_move 40 = .ok (.aload_n 0, 1) := by decide +kernel
theorem dX7_move_41 : decode cX7_move 41 = .ok (.iload_n 1, 1) := by decide +kernel
theorem dX7_move_42 : decode cX7_move 42 = .ok (.iload_n 2, 1) := by decide +kernel
theorem dX7_move_43 : decode cX7_move 43 = .ok (.invokevirtual 170, 3) := by decide +kernel
theorem dX7_move_46 : decode cX7_move 46 = .ok (.iload_n 3, 1) := by decide +kernel
theorem dX7_move_47 : decode cX7_move 47 = .ok (.ireturn, 1) := by decide +kernel
theorem dX7_talk_0 : decode cX7_talk 0 = .ok (.aload_n 0, 1) := by decide +kernel
theorem dX7_talk_1 : decode cX7_talk 1 = .ok (.iload_n 1, 1) := by decide +kernel
theorem dX7_talk_2 : decode cX7_talk 2 = .ok (.invokevirtual 120, 3) := by decide +kernel
theorem dX7_talk_5 : decode cX7_talk 5 = .ok (.ifCond .ne 5, 3) := by decide +kernel
theorem dX7_talk_8 : decode cX7_talk 8 = .ok (.iconst (-1), 1) := by decide +kernel
theorem dX7_talk_9 : decode cX7_talk 9 = .ok (.ireturn, 1) := by decide +kernel
theorem dX7_talk_10 : decode cX7_talk 10 = .ok (.aload_n 0, 1) := by decide +kernel
theorem dX7_talk_11 : decode cX7_talk 11 = .ok (.iload_n 1, 1) := by decide +kernel
theorem dX7_talk_12 : decode cX7_talk 12 = .ok (.invokevirtual 76, 3) := by decide +kernel
theorem dX7_talk_15 : decode cX7_talk 15 = .ok (.ifCond .eq 6, 3) := by decide +kernel
theorem dX7_talk_18 : decode cX7_talk 18 = .ok (.bipush (-2), 2) := by decide +kernel
theorem dX7_talk_20 : decode cX7_talk 20 = .ok (.ireturn, 1) := by decide +kernel
theorem dX7_talk_21 : decode cX7_talk 21 = .ok (.aload_n 0, 1) := by decide +kernel
theorem dX7_talk_22 : decode cX7_talk 22 = .ok (.invokevirtual 167, 3) := by decide +kernel
theorem dX7_talk_25 : decode cX7_talk 25 = .ok (.aload_n 0, 1) := by decide +kernel
theorem dX7_talk_26 : decode cX7_talk 26 = .ok (.iload_n 1, 1) := by decide +kernel
theorem dX7_talk_27 : decode cX7_talk 27 = .ok (.invokevirtual 176, 3) := by decide +kernel
theorem dX7_talk_30 : decode cX7_talk 30 = .ok (.aload_n 0, 1) := by decide +kernel
theorem dX7_talk_31 : decode cX7_talk 31 = .ok (.iload_n 1, 1) := by decide +kernel
theorem dX7_talk_32 : decode cX7_talk 32 = .ok (.invokevirtual 63, 3) := by decide +kernel
theorem dX7_talk_35 : decode cX7_talk 35 = .ok (.ireturn, 1) := by decide +kernel
theorem dX7_drift_0 : decode cX7_drift 0 = .ok (.iload_n 1, 1) := by decide +kernel
theorem dX7_drift_1 : decode cX7_drift 1 = .ok (.i2l, 1) := by decide +kernel
theorem dX7_drift_2 : decode cX7_drift 2 = .ok (.lconst 1, 1) := by decide +kernel
theorem dX7_drift_3 : decode cX7_drift 3 = .ok (.ldc2_w 165, 3) := by decide +kernel
theorem dX7_drift_6 : decode cX7_drift 6 = .ok (.invokestatic 53, 3) := by decide +kernel
theorem dX7_drift_9 : decode cX7_drift 9 = .ok (.ifCond .ne 5, 3) := by decide +kernel
theorem dX7_drift_12 : decode cX7_drift 12 = .ok (.iconst (-1), 1) := by decide +kernel
theorem dX7_drift_13 : decode cX7_drift 13 = .ok (.ireturn, 1) := by decide +kernel
theorem dX7_drift_14 : decode cX7_drift 14 = .ok (.aload_n 0, 1) := by decide +kernel
theorem dX7_drift_15 : decode cX7_drift 15 = .ok (.getfield 7, 3) := by decide +kernel
theorem dX7_drift_18 : decode cX7_drift 18 = .ok (.iconst 1, 1) := by decide +kernel
theorem dX7_drift_19 : decode cX7_drift 19 = .ok (.iaload, 1) := by decide +kernel
theorem dX7_drift_20 : decode cX7_drift 20 = .ok (.iload_n 1, 1) := by decide +kernel
theorem dX7_drift_21 : decode cX7_drift 21 = .ok (.iadd, 1) := by decide +kernel
theorem dX7_drift_22 : decode cX7_drift 22 = .ok (.sipush 9999, 3) := by decide +kernel
theorem dX7_drift_25 : decode cX7_drift 25 = .ok (.if_icmp .le 6, 3) := by decide +kernel
theorem dX7_drift_28 : decode cX7_drift 28 = .ok (.bipush (-3), 2) := by decide +kernel
theorem dX7_drift_30 : decode cX7_drift 30 = .ok (.ireturn, 1) := by decide +kernel
theorem dX7_drift_31 : decode cX7_drift 31 = .ok (.iconst 0, 1) := by decide +kernel
theorem dX7_drift_32 : decode cX7_drift 32 = .ok (.istore_n 2, 1) := by decide +kernel
theorem dX7_drift_33 : decode cX7_drift 33 = .ok (.iload_n 2, 1) := by decide +kernel
theorem dX7_drift_34 : decode cX7_drift 34 = .ok (.iload_n 1, 1) := by decide +kernel
theorem dX7_drift_35 : decode cX7_drift 35 = .ok (.if_icmp .ge 87, 3) := by decide +kernel
theorem dX7_drift_38 : decode cX7_drift 38 = .ok (.aload_n 0, 1) := by decide +kernel
theorem dX7_drift_39 : decode cX7_drift 39 = .ok (.invokevirtual 167, 3) := by decide +kernel
theorem dX7_drift_42 : decode cX7_drift 42 = .ok (.aload_n 0, 1) := by decide +kernel
theorem dX7_drift_43 : decode cX7_drift 43 = .ok (.getfield 7, 3) := by decide +kernel
theorem dX7_drift_46 : decode cX7_drift 46 = .ok (.iconst 3, 1) := by decide +kernel
theorem dX7_drift_47 : decode cX7_drift 47 = .ok (.aload_n 0, 1) := by decide +kernel
theorem dX7_drift_48 : decode cX7_drift 48 = .ok (.getfield 7, 3) := by decide +kernel
theorem dX7_drift_51 : decode cX7_drift 51 = .ok (.iconst 3, 1) := by decide +kernel
theorem dX7_drift_52 : decode cX7_drift 52 = .ok (.iaload, 1) := by decide +kernel
theorem dX7_drift_53 : decode cX7_drift 53 = .ok (.i2l, 1) := by decide +kernel
theorem dX7_drift_54 : decode cX7_drift 54 = .ok (.ldc2_w 180, 3) := by decide +kernel
theorem dX7_drift_57 : decode cX7_drift 57 = .ok (.lmul, 1) := by decide +kernel
theorem dX7_drift_58 : decode cX7_drift 58 = .ok (.ldc2_w 182, 3) := by decide +kernel
theorem dX7_drift_61 : decode cX7_drift 61 = .ok (.ladd, 1) := by decide +kernel
theorem dX7_drift_62 : decode cX7_drift 62 = .ok (.ldc2_w 184, 3) := by decide +kernel
theorem dX7_drift_65 : decode cX7_drift 65 = .ok (.land, 1) := by decide +kernel
theorem dX7_drift_66 : decode cX7_drift 66 = .ok (.l2i, 1) := by decide +kernel
theorem dX7_drift_67 : decode cX7_drift 67 = .ok (.iastore, 1) := by decide +kernel
theorem dX7_drift_68 : decode cX7_drift 68 = .ok (.aload_n 0, 1) := by decide +kernel
theorem dX7_drift_69 : decode cX7_drift 69 = .ok (.getfield 7, 3) := by decide +kernel
theorem dX7_drift_72 : decode cX7_drift 72 = .ok (.iconst 0, 1) := by decide +kernel
theorem dX7_drift_73 : decode cX7_drift 73 = .ok (.iaload, 1) := by decide +kernel
theorem dX7_drift_74 : decode cX7_drift 74 = .ok (.ifCond .le 38, 3) := by decide +kernel
theorem dX7_drift_77 : decode cX7_drift 77 = .ok (.aload_n 0, 1) := by decide +kernel
theorem dX7_drift_78 : decode cX7_drift 78 = .ok (.getfield 7, 3) := by decide +kernel
theorem dX7_drift_81 : decode cX7_drift 81 = .ok (.iconst 3, 1) := by decide +kernel
theorem dX7_drift_82 : decode cX7_drift 82 = .ok (.iaload, 1) := by decide +kernel
theorem dX7_drift_83 : decode cX7_drift 83 = .ok (.ldc 186, 2) := by decide +kernel
theorem dX7_drift_85 : decode cX7_drift 85 = .ok (.idiv, 1) := by decide +kernel
theorem dX7_drift_86 : decode cX7_drift 86 = .ok (.iconst 3, 1) := by decide +kernel
theorem dX7_drift_87 : decode cX7_drift 87 = .ok (.irem, 1) := by decide +kernel
theorem dX7_drift_88 : decode cX7_drift 88 = .ok (.ifCond .ne 24, 3) := by decide +kernel
theorem dX7_drift_91 : decode cX7_drift 91 = .ok (.aload_n 0, 1) := by decide +kernel
theorem dX7_drift_92 : decode cX7_drift 92 = .ok (.aload_n 0, 1) := by decide +kernel
theorem dX7_drift_93 : decode cX7_drift 93 = .ok (.getfield 7, 3) := by decide +kernel
theorem dX7_drift_96 : decode cX7_drift 96 = .ok (.iconst 3, 1) := by decide +kernel
theorem dX7_drift_97 : decode cX7_drift 97 = .ok (.iaload, 1) := by decide +kernel
theorem dX7_drift_98 : decode cX7_drift 98 = .ok (.sipush 128, 3) := by decide +kernel
theorem dX7_drift_101 : decode cX7_drift 101 = .ok (.idiv, 1) := by decide +kernel
theorem dX7_drift_102 : decode cX7_drift 102 = .ok (.aload_n 0, 1) := by decide +kernel
theorem dX7_drift_103 : decode cX7_drift 103 = .ok (.getfield 7, 3) := by decide +kernel
theorem dX7_drift_106 : decode cX7_drift 106 = .ok (.iconst 0, 1) := by decide +kernel
theorem dX7_drift_107 : decode cX7_drift 107 = .ok (.iaload, 1) := by decide +kernel
theorem dX7_drift_108 : decode cX7_drift 108 = .ok (.irem, 1) := by decide +kernel
theorem dX7_drift_109 : decode cX7_drift 109 = .ok (.invokevirtual 176, 3) := by decide +kernel
theorem dX7_drift_112 : decode cX7_drift 112 = .ok (.aload_n 0, 1) := by decide +kernel
theorem dX7_drift_113 : decode cX7_drift 113 = .ok (.invokevirtual 97, 3) := by decide +kernel
theorem dX7_drift_116 : decode cX7_drift 116 = .ok (.iinc 2 1, 3) := by decide +kernel
theorem dX7_drift_119 : decode cX7_drift 119 = .ok (.goto (-86), 3) := by decide +kernel
theorem dX7_drift_122 : decode cX7_drift 122 = .ok (.aload_n 0, 1) := by decide +kernel
theorem dX7_drift_123 : decode cX7_drift 123 = .ok (.invokevirtual 83, 3) := by decide +kernel
theorem dX7_drift_126 : decode cX7_drift 126 = .ok (.ireturn, 1) := by decide +kernel
theorem dX7_undo_0 : decode cX7_undo 0 = .ok (.aload_n 0, 1) := by decide +kernel
theorem dX7_undo_1 : decode cX7_undo 1 = .ok (.getfield 100, 3) := by decide +kernel
theorem dX7_undo_4 : decode cX7_undo 4 = .ok (.ifCond .ne 6, 3) := by decide +kernel
theorem dX7_undo_7 : decode cX7_undo 7 = .ok (.bipush (-4), 2) := by decide +kernel
theorem dX7_undo_9 : decode cX7_undo 9 = .ok (.ireturn, 1) := by decide +kernel
theorem dX7_undo_10 : decode cX7_undo 10 = .ok (.aload_n 0, 1) := by decide +kernel
theorem dX7_undo_11 : decode cX7_undo 11 = .ok (.dup, 1) := by decide +kernel
theorem dX7_undo_12 : decode cX7_undo 12 = .ok (.getfield 100, 3) := by decide +kernel
theorem dX7_undo_15 : decode cX7_undo 15 = .ok (.iconst 1, 1) := by decide +kernel
theorem dX7_undo_16 : decode cX7_undo 16 = .ok (.isub, 1) := by decide +kernel
theorem dX7_undo_17 : decode cX7_undo 17 = .ok (.putfield 100, 3) := by decide +kernel
theorem dX7_undo_20 : decode cX7_undo 20 = .ok (.bipush 15, 2) := by decide +kernel
theorem dX7_undo_22 : decode cX7_undo 22 = .ok (.aload_n 0, 1) := by decide +kernel
theorem dX7_undo_23 : decode cX7_undo 23 = .ok (.getfield 100, 3) := by decide +kernel
theorem dX7_undo_26 : decode cX7_undo 26 = .ok (.imul, 1) := by decide +kernel
theorem dX7_undo_27 : decode cX7_undo 27 = .ok (.istore_n 1, 1) := by decide +kernel
theorem dX7_undo_28 : decode cX7_undo 28 = .ok (.iconst 0, 1) := by decide +kernel
theorem dX7_undo_29 : decode cX7_undo 29 = .ok (.istore_n 2, 1) := by decide +kernel
theorem dX7_undo_30 : decode cX7_undo 30 = .ok (.iload_n 2, 1) := by decide +kernel
theorem dX7_undo_31 : decode cX7_undo 31 = .ok (.iconst 3, 1) := by decide +kernel
theorem dX7_undo_32 : decode cX7_undo 32 = .ok (.if_icmp .ge 25, 3) := by decide +kernel
theorem dX7_undo_35 : decode cX7_undo 35 = .ok (.aload_n 0, 1) := by decide +kernel
theorem dX7_undo_36 : decode cX7_undo 36 = .ok (.getfield 7, 3) := by decide +kernel
theorem dX7_undo_39 : decode cX7_undo 39 = .ok (.iconst 1, 1) := by decide +kernel
theorem dX7_undo_40 : decode cX7_undo 40 = .ok (.iload_n 2, 1) := by decide +kernel
theorem dX7_undo_41 : decode cX7_undo 41 = .ok (.iadd, 1) := by decide +kernel
theorem dX7_undo_42 : decode cX7_undo 42 = .ok (.aload_n 0, 1) := by decide +kernel
theorem dX7_undo_43 : decode cX7_undo 43 = .ok (.getfield 25, 3) := by decide +kernel
theorem dX7_undo_46 : decode cX7_undo 46 = .ok (.iload_n 1, 1) := by decide +kernel
theorem dX7_undo_47 : decode cX7_undo 47 = .ok (.iload_n 2, 1) := by decide +kernel
theorem dX7_undo_48 : decode cX7_undo 48 = .ok (.iadd, 1) := by decide +kernel
theorem dX7_undo_49 : decode cX7_undo 49 = .ok (.iaload, 1) := by decide +kernel
theorem dX7_undo_50 : decode cX7_undo 50 = .ok (.iastore, 1) := by decide +kernel
theorem dX7_undo_51 : decode cX7_undo 51 = .ok (.iinc 2 1, 3) := by decide +kernel
theorem dX7_undo_54 : decode cX7_undo 54 = .ok (.goto (-24), 3) := by decide +kernel
theorem dX7_undo_57 : decode cX7_undo 57 = .ok (.iconst 0, 1) := by decide +kernel
theorem dX7_undo_58 : decode cX7_undo 58 = .ok (.istore_n 2, 1) := by decide +kernel
theorem dX7_undo_59 : decode cX7_undo 59 = .ok (.iload_n 2, 1) := by decide +kernel
theorem dX7_undo_60 : decode cX7_undo 60 = .ok (.bipush 6, 2) := by decide +kernel
theorem dX7_undo_62 : decode cX7_undo 62 = .ok (.if_icmp .ge 54, 3) := by decide +kernel
theorem dX7_undo_65 : decode cX7_undo 65 = .ok (.aload_n 0, 1) := by decide +kernel
theorem dX7_undo_66 : decode cX7_undo 66 = .ok (.getfield 7, 3) := by decide +kernel
theorem dX7_undo_69 : decode cX7_undo 69 = .ok (.iconst 4, 1) := by decide +kernel
theorem dX7_undo_70 : decode cX7_undo 70 = .ok (.iconst 4, 1) := by decide +kernel
theorem dX7_undo_71 : decode cX7_undo 71 = .ok (.iload_n 2, 1) := by decide +kernel
theorem dX7_undo_72 : decode cX7_undo 72 = .ok (.imul, 1) := by decide +kernel
theorem dX7_undo_73 : decode cX7_undo 73 = .ok (.iadd, 1) := by decide +kernel
theorem dX7_undo_74 : decode cX7_undo 74 = .ok (.iconst 1, 1) := by decide +kernel
theorem dX7_undo_75 : decode cX7_undo 75 = .ok (.iadd, 1) := by decide +kernel
theorem dX7_undo_76 : decode cX7_undo 76 = .ok (.aload_n 0, 1) := by decide +kernel
theorem dX7_undo_77 : decode cX7_undo 77 = .ok (.getfield 25, 3) := by decide +kernel
theorem dX7_undo_80 : decode cX7_undo 80 = .ok (.iload_n 1, 1) := by decide +kernel
theorem dX7_undo_81 : decode cX7_undo 81 = .ok (.iconst 3, 1) := by decide +kernel
theorem dX7_undo_82 : decode cX7_undo 82 = .ok (.iadd, 1) := by decide +kernel
theorem dX7_undo_83 : decode cX7_undo 83 = .ok (.iload_n 2, 1) := by decide +kernel
theorem dX7_undo_84 : decode cX7_undo 84 = .ok (.iadd, 1) := by decide +kernel
theorem dX7_undo_85 : decode cX7_undo 85 = .ok (.iaload, 1) := by decide +kernel
theorem dX7_undo_86 : decode cX7_undo 86 = .ok (.iastore, 1) := by decide +kernel
theorem dX7_undo_87 : decode cX7_undo 87 = .ok (.aload_n 0, 1) := by decide +kernel
theorem dX7_undo_88 : decode cX7_undo 88 = .ok (.getfield 7, 3) := by decide +kernel
theorem dX7_undo_91 : decode cX7_undo 91 = .ok (.iconst 4, 1) := by decide +kernel
theorem dX7_undo_92 : decode cX7_undo 92 = .ok (.iconst 4, 1) := by decide +kernel
theorem dX7_undo_93 : decode cX7_undo 93 = .ok (.iload_n 2, 1) := by decide +kernel
theorem dX7_undo_94 : decode cX7_undo 94 = .ok (.imul, 1) := by decide +kernel
theorem dX7_undo_95 : decode cX7_undo 95 = .ok (.iadd, 1) := by decide +kernel
theorem dX7_undo_96 : decode cX7_undo 96 = .ok (.iconst 2, 1) := by decide +kernel
theorem dX7_undo_97 : decode cX7_undo 97 = .ok (.iadd, 1) := by decide +kernel
theorem dX7_undo_98 : decode cX7_undo 98 = .ok (.aload_n 0, 1) := by decide +kernel
theorem dX7_undo_99 : decode cX7_undo 99 = .ok (.getfield 25, 3) := by decide +kernel
theorem dX7_undo_102 : decode cX7_undo 102 = .ok (.iload_n 1, 1) := by decide +kernel
theorem dX7_undo_103 : decode cX7_undo 103 = .ok (.bipush 9, 2) := by decide +kernel
theorem dX7_undo_105 : decode cX7_undo 105 = .ok (.iadd, 1) := by decide +kernel
theorem dX7_undo_106 : decode cX7_undo 106 = .ok (.iload_n 2, 1) := by decide +kernel
theorem dX7_undo_107 : decode cX7_undo 107 = .ok (.iadd, 1) := by decide +kernel
theorem dX7_undo_108 : decode cX7_undo 108 = .ok (.iaload, 1) := by decide +kernel
theorem dX7_undo_109 : decode cX7_undo 109 = .ok (.iastore, 1) := by decide +kernel
theorem dX7_undo_110 : decode cX7_undo 110 = .ok (.iinc 2 1, 3) := by decide +kernel
theorem dX7_undo_113 : decode cX7_undo 113 = .ok (.goto (-54), 3) := by decide +kernel
theorem dX7_undo_116 : decode cX7_undo 116 = .ok (.aload_n 0, 1) := by decide +kernel
theorem dX7_undo_117 : decode cX7_undo 117 = .ok (.getfield 100, 3) := by decide +kernel
theorem dX7_undo_120 : decode cX7_undo 120 = .ok (.ireturn, 1) := by decide +kernel
theorem dX7_seed_0 : decode cX7_seed 0 = .ok (.iload_n 1, 1) := by decide +kernel
theorem dX7_seed_1 : decode cX7_seed 1 = .ok (.ifCond .ge 5, 3) := by decide +kernel
theorem dX7_seed_4 : decode cX7_seed 4 = .ok (.iconst (-1), 1) := by decide +kernel
theorem dX7_seed_5 : decode cX7_seed 5 = .ok (.ireturn, 1) := by decide +kernel
theorem dX7_seed_6 : decode cX7_seed 6 = .ok (.aload_n 0, 1) := by decide +kernel
theorem dX7_seed_7 : decode cX7_seed 7 = .ok (.getfield 7, 3) := by decide +kernel
theorem dX7_seed_10 : decode cX7_seed 10 = .ok (.iconst 3, 1) := by decide +kernel
theorem dX7_seed_11 : decode cX7_seed 11 = .ok (.iaload, 1) := by decide +kernel
theorem dX7_seed_12 : decode cX7_seed 12 = .ok (.istore_n 2, 1) := by decide +kernel
theorem dX7_seed_13 : decode cX7_seed 13 = .ok (.aload_n 0, 1) := by decide +kernel
theorem dX7_seed_14 : decode cX7_seed 14 = .ok (.getfield 7, 3) := by decide +kernel
theorem dX7_seed_17 : decode cX7_seed 17 = .ok (.iconst 3, 1) := by decide +kernel
theorem dX7_seed_18 : decode cX7_seed 18 = .ok (.iload_n 1, 1) := by decide +kernel
theorem dX7_seed_19 : decode cX7_seed 19 = .ok (.iastore, 1) := by decide +kernel
theorem dX7_seed_20 : decode cX7_seed 20 = .ok (.iload_n 2, 1) := by decide +kernel
theorem dX7_seed_21 : decode cX7_seed 21 = .ok (.ireturn, 1) := by decide +kernel
theorem dX7_asides_0 : decode cX7_asides 0 = .ok (.iconst 0, 1) := by decide +kernel
theorem dX7_asides_1 : decode cX7_asides 1 = .ok (.istore_n 1, 1) := by decide +kernel
theorem dX7_asides_2 : decode cX7_asides 2 = .ok (.iload_n 1, 1) := by decide +kernel
theorem dX7_asides_3 : decode cX7_asides 3 = .ok (.bipush 40, 2) := by decide +kernel
theorem dX7_asides_5 : decode cX7_asides 5 = .ok (.if_icmp .ge 21, 3) := by decide +kernel
theorem dX7_asides_8 : decode cX7_asides 8 = .ok (.aload_n 0, 1) := by decide +kernel
theorem dX7_asides_9 : decode cX7_asides 9 = .ok (.getfield 28, 3) := by decide +kernel
theorem dX7_asides_12 : decode cX7_asides 12 = .ok (.iload_n 1, 1) := by decide +kernel
theorem dX7_asides_13 : decode cX7_asides 13 = .ok (.aload_n 0, 1) := by decide +kernel
theorem dX7_asides_14 : decode cX7_asides 14 = .ok (.getfield 7, 3) := by decide +kernel
theorem dX7_asides_17 : decode cX7_asides 17 = .ok (.iload_n 1, 1) := by decide +kernel
theorem dX7_asides_18 : decode cX7_asides 18 = .ok (.iaload, 1) := by decide +kernel
theorem dX7_asides_19 : decode cX7_asides 19 = .ok (.iastore, 1) := by decide +kernel
theorem dX7_asides_20 : decode cX7_asides 20 = .ok (.iinc 1 1, 3) := by decide +kernel
theorem dX7_asides_23 : decode cX7_asides 23 = .ok (.goto (-21), 3) := by decide +kernel
theorem dX7_asides_26 : decode cX7_asides 26 = .ok (.return_, 1) := by decide +kernel
theorem dX7_backs_0 : decode cX7_backs 0 = .ok (.iconst 0, 1) := by decide +kernel
theorem dX7_backs_1 : decode cX7_backs 1 = .ok (.istore_n 1, 1) := by decide +kernel
theorem dX7_backs_2 : decode cX7_backs 2 = .ok (.iload_n 1, 1) := by decide +kernel
theorem dX7_backs_3 : decode cX7_backs 3 = .ok (.bipush 40, 2) := by decide +kernel
theorem dX7_backs_5 : decode cX7_backs 5 = .ok (.if_icmp .ge 21, 3) := by decide +kernel
theorem dX7_backs_8 : decode cX7_backs 8 = .ok (.aload_n 0, 1) := by decide +kernel
theorem dX7_backs_9 : decode cX7_backs 9 = .ok (.getfield 7, 3) := by decide +kernel
theorem dX7_backs_12 : decode cX7_backs 12 = .ok (.iload_n 1, 1) := by decide +kernel
theorem dX7_backs_13 : decode cX7_backs 13 = .ok (.aload_n 0, 1) := by decide +kernel
theorem dX7_backs_14 : decode cX7_backs 14 = .ok (.getfield 28, 3) := by decide +kernel
theorem dX7_backs_17 : decode cX7_backs 17 = .ok (.iload_n 1, 1) := by decide +kernel
theorem dX7_backs_18 : decode cX7_backs 18 = .ok (.iaload, 1) := by decide +kernel
theorem dX7_backs_19 : decode cX7_backs 19 = .ok (.iastore, 1) := by decide +kernel
theorem dX7_backs_20 : decode cX7_backs 20 = .ok (.iinc 1 1, 3) := by decide +kernel
theorem dX7_backs_23 : decode cX7_backs 23 = .ok (.goto (-21), 3) := by decide +kernel
theorem dX7_backs_26 : decode cX7_backs 26 = .ok (.return_, 1) := by decide +kernel
theorem dX7_ahead_0 : decode cX7_ahead 0 = .ok (.aload_n 0, 1) := by decide +kernel
theorem dX7_ahead_1 : decode cX7_ahead 1 = .ok (.iload_n 1, 1) := by decide +kernel
theorem dX7_ahead_2 : decode cX7_ahead 2 = .ok (.invokevirtual 120, 3) := by decide +kernel
theorem dX7_ahead_5 : decode cX7_ahead 5 = .ok (.ifCond .eq 15, 3) := by decide +kernel
theorem dX7_ahead_8 : decode cX7_ahead 8 = .ok (.iload_n 2, 1) := by decide +kernel
theorem dX7_ahead_9 : decode cX7_ahead 9 = .ok (.i2l, 1) := by decide +kernel
theorem dX7_ahead_10 : decode cX7_ahead 10 = .ok (.lconst 0, 1) := by decide +kernel
theorem dX7_ahead_11 : decode cX7_ahead 11 = .ok (.ldc2_w 106, 3) := by decide +kernel
theorem dX7_ahead_14 : decode cX7_ahead 14 = .ok (.invokestatic 53, 3) := by decide +kernel
theorem dX7_ahead_17 : decode cX7_ahead 17 = .ok (.ifCond .ne 5, 3) := by decide +kernel
theorem dX7_ahead_20 : decode cX7_ahead 20 = .ok (.iconst (-1), 1) := by decide +kernel
theorem dX7_ahead_21 : decode cX7_ahead 21 = .ok (.ireturn, 1) := by decide +kernel
theorem dX7_ahead_22 : decode cX7_ahead 22 = .ok (.aload_n 0, 1) := by decide +kernel
theorem dX7_ahead_23 : decode cX7_ahead 23 = .ok (.invokevirtual 187, 3) := by decide +kernel
theorem dX7_ahead_26 : decode cX7_ahead 26 = .ok (.aload_n 0, 1) := by decide +kernel
theorem dX7_ahead_27 : decode cX7_ahead 27 = .ok (.iload_n 2, 1) := by decide +kernel
theorem dX7_ahead_28 : decode cX7_ahead 28 = .ok (.invokevirtual 190, 3) := by decide +kernel
theorem dX7_ahead_31 : decode cX7_ahead 31 = .ok (.aload_n 0, 1) := by decide +kernel
theorem dX7_ahead_32 : decode cX7_ahead 32 = .ok (.iload_n 1, 1) := by decide +kernel
theorem dX7_ahead_33 : decode cX7_ahead 33 = .ok (.invokevirtual 63, 3) := by decide +kernel
theorem dX7_ahead_36 : decode cX7_ahead 36 = .ok (.istore_n 3, 1) := by decide +kernel
theorem dX7_ahead_37 : decode cX7_ahead 37 = .ok (.aload_n 0, 1) := by decide +kernel
theorem dX7_ahead_38 : decode cX7_ahead 38 = .ok (.invokevirtual 193, 3) := by decide +kernel
theorem dX7_ahead_41 : decode cX7_ahead 41 = .ok (.iload_n 3, 1) := by decide +kernel
theorem dX7_ahead_42 : decode cX7_ahead 42 = .ok (.ireturn, 1) := by decide +kernel
theorem dX7_then_0 : decode cX7_then 0 = .ok (.iload_n 1, 1) := by decide +kernel
theorem dX7_then_1 : decode cX7_then 1 = .ok (.i2l, 1) := by decide +kernel
theorem dX7_then_2 : decode cX7_then 2 = .ok (.lconst 0, 1) := by decide +kernel
theorem dX7_then_3 : decode cX7_then 3 = .ok (.ldc2_w 106, 3) := by decide +kernel
theorem dX7_then_6 : decode cX7_then 6 = .ok (.invokestatic 53, 3) := by decide +kernel
theorem dX7_then_9 : decode cX7_then 9 = .ok (.ifCond .eq 13, 3) := by decide +kernel
theorem dX7_then_12 : decode cX7_then 12 = .ok (.iload_n 2, 1) := by decide +kernel
theorem dX7_then_13 : decode cX7_then 13 = .ok (.i2l, 1) := by decide +kernel
theorem dX7_then_14 : decode cX7_then 14 = .ok (.lconst 0, 1) := by decide +kernel
theorem dX7_then_15 : decode cX7_then 15 = .ok (.lconst 1, 1) := by decide +kernel
theorem dX7_then_16 : decode cX7_then 16 = .ok (.invokestatic 53, 3) := by decide +kernel
theorem dX7_then_19 : decode cX7_then 19 = .ok (.ifCond .ne 5, 3) := by decide +kernel
theorem dX7_then_22 : decode cX7_then 22 = .ok (.iconst (-1), 1) := by decide +kernel
theorem dX7_then_23 : decode cX7_then 23 = .ok (.ireturn, 1) := by decide +kernel
theorem dX7_then_24 : decode cX7_then 24 = .ok (.aload_n 0, 1) := by decide +kernel
theorem dX7_then_25 : decode cX7_then 25 = .ok (.invokevirtual 187, 3) := by decide +kernel
theorem dX7_then_28 : decode cX7_then 28 = .ok (.aload_n 0, 1) := by decide +kernel
theorem dX7_then_29 : decode cX7_then 29 = .ok (.iload_n 1, 1) := by decide +kernel
theorem dX7_then_30 : decode cX7_then 30 = .ok (.invokevirtual 190, 3) := by decide +kernel
theorem dX7_then_33 : decode cX7_then 33 = .ok (.iload_n 2, 1) := by decide +kernel
theorem dX7_then_34 : decode cX7_then 34 = .ok (.ifCond .ne 10, 3) := by decide +kernel
theorem dX7_then_37 : decode cX7_then 37 = .ok (.aload_n 0, 1) := by decide +kernel
theorem dX7_then_38 : decode cX7_then 38 = .ok (.invokevirtual 83, 3) := by decide +kernel
theorem dX7_then_41 : decode cX7_then 41 = .ok (.goto 9, 3) := by decide +kernel
theorem dX7_then_44 : decode cX7_then 44 = .ok (.aload_n 0, 1) := by decide +kernel
theorem dX7_then_45 : decode cX7_then 45 = .ok (.getfield 7, 3) := by decide +kernel
theorem dX7_then_48 : decode cX7_then 48 = .ok (.iconst 2, 1) := by decide +kernel
theorem dX7_then_49 : decode cX7_then 49 = .ok (.iaload, 1) := by decide +kernel
theorem dX7_then_50 : decode cX7_then 50 = .ok (.istore_n 3, 1) := by decide +kernel
theorem dX7_then_51 : decode cX7_then 51 = .ok (.aload_n 0, 1) := by decide +kernel
theorem dX7_then_52 : decode cX7_then 52 = .ok (.invokevirtual 193, 3) := by decide +kernel
theorem dX7_then_55 : decode cX7_then 55 = .ok (.iload_n 3, 1) := by decide +kernel
theorem dX7_then_56 : decode cX7_then 56 = .ok (.ireturn, 1) := by decide +kernel
theorem dX7_takes_0 : decode cX7_takes 0 = .ok (.aload_n 0, 1) := by decide +kernel
theorem dX7_takes_1 : decode cX7_takes 1 = .ok (.iload_n 1, 1) := by decide +kernel
theorem dX7_takes_2 : decode cX7_takes 2 = .ok (.invokevirtual 120, 3) := by decide +kernel
theorem dX7_takes_5 : decode cX7_takes 5 = .ok (.ifCond .ne 5, 3) := by decide +kernel
theorem dX7_takes_8 : decode cX7_takes 8 = .ok (.iconst (-1), 1) := by decide +kernel
theorem dX7_takes_9 : decode cX7_takes 9 = .ok (.ireturn, 1) := by decide +kernel
theorem dX7_takes_10 : decode cX7_takes 10 = .ok (.aload_n 0, 1) := by decide +kernel
theorem dX7_takes_11 : decode cX7_takes 11 = .ok (.invokevirtual 187, 3) := by decide +kernel
theorem dX7_takes_14 : decode cX7_takes 14 = .ok (.iconst 0, 1) := by decide +kernel
theorem dX7_takes_15 : decode cX7_takes 15 = .ok (.istore_n 2, 1) := by decide +kernel
theorem dX7_takes_16 : decode cX7_takes 16 = .ok (.iload_n 2, 1) := by decide +kernel
theorem dX7_takes_17 : decode cX7_takes 17 = .ok (.bipush 100, 2) := by decide +kernel
theorem dX7_takes_19 : decode cX7_takes 19 = .ok (.if_icmp .ge 21, 3) := by decide +kernel
theorem dX7_takes_22 : decode cX7_takes 22 = .ok (.aload_n 0, 1) := by decide +kernel
theorem dX7_takes_23 : decode cX7_takes 23 = .ok (.iload_n 1, 1) := by decide +kernel
theorem dX7_takes_24 : decode cX7_takes 24 = .ok (.invokevirtual 76, 3) := by decide +kernel
theorem dX7_takes_27 : decode cX7_takes 27 = .ok (.ifCond .ne 13, 3) := by decide +kernel
theorem dX7_takes_30 : decode cX7_takes 30 = .ok (.aload_n 0, 1) := by decide +kernel
theorem dX7_takes_31 : decode cX7_takes 31 = .ok (.invokevirtual 97, 3) := by decide +kernel
theorem dX7_takes_34 : decode cX7_takes 34 = .ok (.iinc 2 1, 3) := by decide +kernel
theorem dX7_takes_37 : decode cX7_takes 37 = .ok (.goto (-21), 3) := by decide +kernel
theorem dX7_takes_40 : decode cX7_takes 40 = .ok (.aload_n 0, 1) := by decide +kernel
theorem dX7_takes_41 : decode cX7_takes 41 = .ok (.invokevirtual 193, 3) := by decide +kernel
theorem dX7_takes_44 : decode cX7_takes 44 = .ok (.iload_n 2, 1) := by decide +kernel
theorem dX7_takes_45 : decode cX7_takes 45 = .ok (.bipush 100, 2) := by decide +kernel
theorem dX7_takes_47 : decode cX7_takes 47 = .ok (.if_icmp .ge 7, 3) := by decide +kernel
theorem dX7_takes_50 : decode cX7_takes 50 = .ok (.iload_n 2, 1) := by decide +kernel
theorem dX7_takes_51 : decode cX7_takes 51 = .ok (.goto 5, 3) := by decide +kernel
theorem dX7_takes_54 : decode cX7_takes 54 = .ok (.bipush (-4), 2) := by decide +kernel
theorem dX7_takes_56 : decode cX7_takes 56 = .ok (.ireturn, 1) := by decide +kernel
theorem dX7_alikes_0 : decode cX7_alikes 0 = .ok (.bipush (-4), 2) := by decide +kernel
theorem dX7_alikes_2 : decode cX7_alikes 2 = .ok (.istore_n 1, 1) := by decide +kernel
theorem dX7_alikes_3 : decode cX7_alikes 3 = .ok (.iconst 5, 1) := by decide +kernel
theorem dX7_alikes_4 : decode cX7_alikes 4 = .ok (.istore_n 2, 1) := by decide +kernel
theorem dX7_alikes_5 : decode cX7_alikes 5 = .ok (.iload_n 2, 1) := by decide +kernel
theorem dX7_alikes_6 : decode cX7_alikes 6 = .ok (.ifCond .lt 93, 3) := by decide +kernel
theorem dX7_alikes_9 : decode cX7_alikes 9 = .ok (.iconst 5, 1) := by decide +kernel
theorem dX7_alikes_10 : decode cX7_alikes 10 = .ok (.istore_n 3, 1) := by decide +kernel
theorem dX7_alikes_11 : decode cX7_alikes 11 = .ok (.iload_n 3, 1) := by decide +kernel
theorem dX7_alikes_12 : decode cX7_alikes 12 = .ok (.iload_n 2, 1) := by decide +kernel
theorem dX7_alikes_13 : decode cX7_alikes 13 = .ok (.if_icmp .le 80, 3) := by decide +kernel
theorem dX7_alikes_16 : decode cX7_alikes 16 = .ok (.iload_n 3, 1) := by decide +kernel
theorem dX7_alikes_17 : decode cX7_alikes 17 = .ok (.aload_n 0, 1) := by decide +kernel
theorem dX7_alikes_18 : decode cX7_alikes 18 = .ok (.getfield 7, 3) := by decide +kernel
theorem dX7_alikes_21 : decode cX7_alikes 21 = .ok (.iconst 0, 1) := by decide +kernel
theorem dX7_alikes_22 : decode cX7_alikes 22 = .ok (.iaload, 1) := by decide +kernel
theorem dX7_alikes_23 : decode cX7_alikes 23 = .ok (.if_icmp .ge 45, 3) := by decide +kernel
theorem dX7_alikes_26 : decode cX7_alikes 26 = .ok (.aload_n 0, 1) := by decide +kernel
theorem dX7_alikes_27 : decode cX7_alikes 27 = .ok (.iload_n 2, 1) := by decide +kernel
theorem dX7_alikes_28 : decode cX7_alikes 28 = .ok (.invokevirtual 67, 3) := by decide +kernel
theorem dX7_alikes_31 : decode cX7_alikes 31 = .ok (.aload_n 0, 1) := by decide +kernel
theorem dX7_alikes_32 : decode cX7_alikes 32 = .ok (.iload_n 3, 1) := by decide +kernel
theorem dX7_alikes_33 : decode cX7_alikes 33 = .ok (.invokevirtual 67, 3) := by decide +kernel
theorem dX7_alikes_36 : decode cX7_alikes 36 = .ok (.invokestatic 70, 3) := by decide +kernel
theorem dX7_alikes_39 : decode cX7_alikes 39 = .ok (.iconst 1, 1) := by decide +kernel
theorem dX7_alikes_40 : decode cX7_alikes 40 = .ok (.if_icmp .ne 28, 3) := by decide +kernel
theorem dX7_alikes_43 : decode cX7_alikes 43 = .ok (.aload_n 0, 1) := by decide +kernel
theorem dX7_alikes_44 : decode cX7_alikes 44 = .ok (.iload_n 2, 1) := by decide +kernel
theorem dX7_alikes_45 : decode cX7_alikes 45 = .ok (.invokevirtual 63, 3) := by decide +kernel
theorem dX7_alikes_48 : decode cX7_alikes 48 = .ok (.aload_n 0, 1) := by decide +kernel
theorem dX7_alikes_49 : decode cX7_alikes 49 = .ok (.iload_n 3, 1) := by decide +kernel
theorem dX7_alikes_50 : decode cX7_alikes 50 = .ok (.invokevirtual 63, 3) := by decide +kernel
theorem dX7_alikes_53 : decode cX7_alikes 53 = .ok (.if_icmp .ne 15, 3) := by decide +kernel
theorem dX7_alikes_56 : decode cX7_alikes 56 = .ok (.aload_n 0, 1) := by decide +kernel
theorem dX7_alikes_57 : decode cX7_alikes 57 = .ok (.iload_n 2, 1) := by decide +kernel
theorem dX7_alikes_58 : decode cX7_alikes 58 = .ok (.invokevirtual 76, 3) := by decide +kernel
theorem dX7_alikes_61 : decode cX7_alikes 61 = .ok (.ifCond .ne 7, 3) := by decide +kernel
theorem dX7_alikes_64 : decode cX7_alikes 64 = .ok (.iconst 1, 1) := by decide +kernel
theorem dX7_alikes_65 : decode cX7_alikes 65 = .ok (.goto 4, 3) := by decide +kernel
theorem dX7_alikes_68 : decode cX7_alikes 68 = .ok (.iconst 0, 1) := by decide +kernel
theorem dX7_alikes_69 : decode cX7_alikes 69 = .ok (.istore 4, 2) := by decide +kernel
theorem dX7_alikes_71 : decode cX7_alikes 71 = .ok (.iload 4, 2) := by decide +kernel
theorem dX7_alikes_73 : decode cX7_alikes 73 = .ok (.ifCond .eq 12, 3) := by decide +kernel
theorem dX7_alikes_76 : decode cX7_alikes 76 = .ok (.bipush 10, 2) := by decide +kernel
theorem dX7_alikes_78 : decode cX7_alikes 78 = .ok (.iload_n 2, 1) := by decide +kernel
theorem dX7_alikes_79 : decode cX7_alikes 79 = .ok (.imul, 1) := by decide +kernel
theorem dX7_alikes_80 : decode cX7_alikes 80 = .ok (.iload_n 3, 1) := by decide +kernel
theorem dX7_alikes_81 : decode cX7_alikes 81 = .ok (.iadd, 1) := by decide +kernel
theorem dX7_alikes_82 : decode cX7_alikes 82 = .ok (.goto 4, 3) := by decide +kernel
theorem dX7_alikes_85 : decode cX7_alikes 85 = .ok (.iload_n 1, 1) := by decide +kernel
theorem dX7_alikes_86 : decode cX7_alikes 86 = .ok (.istore_n 1, 1) := by decide +kernel
theorem dX7_alikes_87 : decode cX7_alikes 87 = .ok (.iinc 3 (-1), 3) := by decide +kernel
theorem dX7_alikes_90 : decode cX7_alikes 90 = .ok (.goto (-79), 3) := by decide +kernel
theorem dX7_alikes_93 : decode cX7_alikes 93 = .ok (.iinc 2 (-1), 3) := by decide +kernel
theorem dX7_alikes_96 : decode cX7_alikes 96 = .ok (.goto (-91), 3) := by decide +kernel
theorem dX7_alikes_99 : decode cX7_alikes 99 = .ok (.iload_n 1, 1) := by decide +kernel
theorem dX7_alikes_100 : decode cX7_alikes 100 = .ok (.ireturn, 1) := by decide +kernel
theorem dX7_cough_0 : decode cX7_cough 0 = .ok (.iload_n 1, 1) := by decide +kernel
theorem dX7_cough_1 : decode cX7_cough 1 = .ok (.i2l, 1) := by decide +kernel
theorem dX7_cough_2 : decode cX7_cough 2 = .ok (.lconst 0, 1) := by decide +kernel
theorem dX7_cough_3 : decode cX7_cough 3 = .ok (.lconst 1, 1) := by decide +kernel
theorem dX7_cough_4 : decode cX7_cough 4 = .ok (.invokestatic 53, 3) := by decide +kernel
theorem dX7_cough_7 : decode cX7_cough 7 = .ok (.ifCond .ne 5, 3) := by decide +kernel
theorem dX7_cough_10 : decode cX7_cough 10 = .ok (.iconst (-1), 1) := by decide +kernel
theorem dX7_cough_11 : decode cX7_cough 11 = .ok (.ireturn, 1) := by decide +kernel
theorem dX7_cough_12 : decode cX7_cough 12 = .ok (.aload_n 0, 1) := by decide +kernel
theorem dX7_cough_13 : decode cX7_cough 13 = .ok (.invokevirtual 187, 3) := by decide +kernel
theorem dX7_cough_16 : decode cX7_cough 16 = .ok (.iconst 0, 1) := by decide +kernel
theorem dX7_cough_17 : decode cX7_cough 17 = .ok (.istore_n 2, 1) := by decide +kernel
theorem dX7_cough_18 : decode cX7_cough 18 = .ok (.iload_n 2, 1) := by decide +kernel
theorem dX7_cough_19 : decode cX7_cough 19 = .ok (.bipush 100, 2) := by decide +kernel
theorem dX7_cough_21 : decode cX7_cough 21 = .ok (.if_icmp .ge 22, 3) := by decide +kernel
theorem dX7_cough_24 : decode cX7_cough 24 = .ok (.aload_n 0, 1) := by decide +kernel
theorem dX7_cough_25 : decode cX7_cough 25 = .ok (.invokevirtual 196, 3) := by decide +kernel
theorem dX7_cough_28 : decode cX7_cough 28 = .ok (.bipush (-4), 2) := by decide +kernel
theorem dX7_cough_30 : decode cX7_cough 30 = .ok (.if_icmp .ne 13, 3) := by decide +kernel
theorem dX7_cough_33 : decode cX7_cough 33 = .ok (.aload_n 0, 1) := by decide +kernel
theorem dX7_cough_34 : decode cX7_cough 34 = .ok (.invokevirtual 97, 3) := by decide +kernel
theorem dX7_cough_37 : decode cX7_cough 37 = .ok (.iinc 2 1, 3) := by decide +kernel
theorem dX7_cough_40 : decode cX7_cough 40 = .ok (.goto (-22), 3) := by decide +kernel
theorem dX7_cough_43 : decode cX7_cough 43 = .ok (.aload_n 0, 1) := by decide +kernel
theorem dX7_cough_44 : decode cX7_cough 44 = .ok (.invokevirtual 196, 3) := by decide +kernel
theorem dX7_cough_47 : decode cX7_cough 47 = .ok (.istore_n 3, 1) := by decide +kernel
theorem dX7_cough_48 : decode cX7_cough 48 = .ok (.aload_n 0, 1) := by decide +kernel
theorem dX7_cough_49 : decode cX7_cough 49 = .ok (.invokevirtual 193, 3) := by decide +kernel
theorem dX7_cough_52 : decode cX7_cough 52 = .ok (.iload_n 2, 1) := by decide +kernel
theorem dX7_cough_53 : decode cX7_cough 53 = .ok (.bipush 100, 2) := by decide +kernel
theorem dX7_cough_55 : decode cX7_cough 55 = .ok (.if_icmp .ne 8, 3) := by decide +kernel
theorem dX7_cough_58 : decode cX7_cough 58 = .ok (.bipush (-4), 2) := by decide +kernel
theorem dX7_cough_60 : decode cX7_cough 60 = .ok (.goto 12, 3) := by decide +kernel
theorem dX7_cough_63 : decode cX7_cough 63 = .ok (.iload_n 1, 1) := by decide +kernel
theorem dX7_cough_64 : decode cX7_cough 64 = .ok (.ifCond .ne 7, 3) := by decide +kernel
theorem dX7_cough_67 : decode cX7_cough 67 = .ok (.iload_n 2, 1) := by decide +kernel
theorem dX7_cough_68 : decode cX7_cough 68 = .ok (.goto 4, 3) := by decide +kernel
theorem dX7_cough_71 : decode cX7_cough 71 = .ok (.iload_n 3, 1) := by decide +kernel
theorem dX7_cough_72 : decode cX7_cough 72 = .ok (.ireturn, 1) := by decide +kernel
theorem dX7_isDealt_0 : decode cX7_isDealt 0 = .ok (.iload_n 1, 1) := by decide +kernel
theorem dX7_isDealt_1 : decode cX7_isDealt 1 = .ok (.istore_n 2, 1) := by decide +kernel
theorem dX7_isDealt_2 : decode cX7_isDealt 2 = .ok (.iconst 0, 1) := by decide +kernel
theorem dX7_isDealt_3 : decode cX7_isDealt 3 = .ok (.istore_n 3, 1) := by decide +kernel
theorem dX7_isDealt_4 : decode cX7_isDealt 4 = .ok (.iconst 1, 1) := by decide +kernel
theorem dX7_isDealt_5 : decode cX7_isDealt 5 = .ok (.istore 4, 2) := by decide +kernel
theorem dX7_isDealt_7 : decode cX7_isDealt 7 = .ok (.aload_n 0, 1) := by decide +kernel
theorem dX7_isDealt_8 : decode cX7_isDealt 8 = .ok (.getfield 7, 3) := by decide +kernel
theorem dX7_isDealt_11 : decode cX7_isDealt 11 = .ok (.iconst 0, 1) := by decide +kernel
theorem dX7_isDealt_12 : decode cX7_isDealt 12 = .ok (.iaload, 1) := by decide +kernel
theorem dX7_isDealt_13 : decode cX7_isDealt 13 = .ok (.iconst 1, 1) := by decide +kernel
theorem dX7_isDealt_14 : decode cX7_isDealt 14 = .ok (.isub, 1) := by decide +kernel
theorem dX7_isDealt_15 : decode cX7_isDealt 15 = .ok (.istore 5, 2) := by decide +kernel
theorem dX7_isDealt_17 : decode cX7_isDealt 17 = .ok (.iload 5, 2) := by decide +kernel
theorem dX7_isDealt_19 : decode cX7_isDealt 19 = .ok (.ifCond .lt 63, 3) := by decide +kernel
theorem dX7_isDealt_22 : decode cX7_isDealt 22 = .ok (.aload_n 0, 1) := by decide +kernel
theorem dX7_isDealt_23 : decode cX7_isDealt 23 = .ok (.getfield 31, 3) := by decide +kernel
theorem dX7_isDealt_26 : decode cX7_isDealt 26 = .ok (.iload 5, 2) := by decide +kernel
theorem dX7_isDealt_28 : decode cX7_isDealt 28 = .ok (.iload_n 2, 1) := by decide +kernel
theorem dX7_isDealt_29 : decode cX7_isDealt 29 = .ok (.bipush 6, 2) := by decide +kernel
theorem dX7_isDealt_31 : decode cX7_isDealt 31 = .ok (.irem, 1) := by decide +kernel
theorem dX7_isDealt_32 : decode cX7_isDealt 32 = .ok (.iastore, 1) := by decide +kernel
theorem dX7_isDealt_33 : decode cX7_isDealt 33 = .ok (.iload_n 2, 1) := by decide +kernel
theorem dX7_isDealt_34 : decode cX7_isDealt 34 = .ok (.bipush 6, 2) := by decide +kernel
theorem dX7_isDealt_36 : decode cX7_isDealt 36 = .ok (.idiv, 1) := by decide +kernel
theorem dX7_isDealt_37 : decode cX7_isDealt 37 = .ok (.istore_n 2, 1) := by decide +kernel
theorem dX7_isDealt_38 : decode cX7_isDealt 38 = .ok (.iload 4, 2) := by decide +kernel
theorem dX7_isDealt_40 : decode cX7_isDealt 40 = .ok (.ifCond .eq 21, 3) := by decide +kernel
theorem dX7_isDealt_43 : decode cX7_isDealt 43 = .ok (.iload_n 3, 1) := by decide +kernel
theorem dX7_isDealt_44 : decode cX7_isDealt 44 = .ok (.aload_n 0, 1) := by decide +kernel
theorem dX7_isDealt_45 : decode cX7_isDealt 45 = .ok (.getfield 31, 3) := by decide +kernel
theorem dX7_isDealt_48 : decode cX7_isDealt 48 = .ok (.iload 5, 2) := by decide +kernel
theorem dX7_isDealt_50 : decode cX7_isDealt 50 = .ok (.iaload, 1) := by decide +kernel
theorem dX7_isDealt_51 : decode cX7_isDealt 51 = .ok (.ishr, 1) := by decide +kernel
theorem dX7_isDealt_52 : decode cX7_isDealt 52 = .ok (.iconst 1, 1) := by decide +kernel
theorem dX7_isDealt_53 : decode cX7_isDealt 53 = .ok (.iand, 1) := by decide +kernel
theorem dX7_isDealt_54 : decode cX7_isDealt 54 = .ok (.ifCond .ne 7, 3) := by decide +kernel
theorem dX7_isDealt_57 : decode cX7_isDealt 57 = .ok (.iconst 1, 1) := by decide +kernel
theorem dX7_isDealt_58 : decode cX7_isDealt 58 = .ok (.goto 4, 3) := by decide +kernel
theorem dX7_isDealt_61 : decode cX7_isDealt 61 = .ok (.iconst 0, 1) := by decide +kernel
theorem dX7_isDealt_62 : decode cX7_isDealt 62 = .ok (.istore 4, 2) := by decide +kernel
theorem dX7_isDealt_64 : decode cX7_isDealt 64 = .ok (.iload_n 3, 1) := by decide +kernel
theorem dX7_isDealt_65 : decode cX7_isDealt 65 = .ok (.iconst 1, 1) := by decide +kernel
theorem dX7_isDealt_66 : decode cX7_isDealt 66 = .ok (.aload_n 0, 1) := by decide +kernel
theorem dX7_isDealt_67 : decode cX7_isDealt 67 = .ok (.getfield 31, 3) := by decide +kernel
theorem dX7_isDealt_70 : decode cX7_isDealt 70 = .ok (.iload 5, 2) := by decide +kernel
theorem dX7_isDealt_72 : decode cX7_isDealt 72 = .ok (.iaload, 1) := by decide +kernel
theorem dX7_isDealt_73 : decode cX7_isDealt 73 = .ok (.ishl, 1) := by decide +kernel
theorem dX7_isDealt_74 : decode cX7_isDealt 74 = .ok (.ior, 1) := by decide +kernel
theorem dX7_isDealt_75 : decode cX7_isDealt 75 = .ok (.istore_n 3, 1) := by decide +kernel
theorem dX7_isDealt_76 : decode cX7_isDealt 76 = .ok (.iinc 5 (-1), 3) := by decide +kernel
theorem dX7_isDealt_79 : decode cX7_isDealt 79 = .ok (.goto (-62), 3) := by decide +kernel
theorem dX7_isDealt_82 : decode cX7_isDealt 82 = .ok (.iload 4, 2) := by decide +kernel
theorem dX7_isDealt_84 : decode cX7_isDealt 84 = .ok (.ireturn, 1) := by decide +kernel
theorem dX7_numbers_0 : decode cX7_numbers 0 = .ok (.iconst 1, 1) := by decide +kernel
theorem dX7_numbers_1 : decode cX7_numbers 1 = .ok (.istore_n 1, 1) := by decide +kernel
theorem dX7_numbers_2 : decode cX7_numbers 2 = .ok (.iconst 0, 1) := by decide +kernel
theorem dX7_numbers_3 : decode cX7_numbers 3 = .ok (.istore_n 2, 1) := by decide +kernel
theorem dX7_numbers_4 : decode cX7_numbers 4 = .ok (.iload_n 2, 1) := by decide +kernel
theorem dX7_numbers_5 : decode cX7_numbers 5 = .ok (.aload_n 0, 1) := by decide +kernel
theorem dX7_numbers_6 : decode cX7_numbers 6 = .ok (.getfield 7, 3) := by decide +kernel
theorem dX7_numbers_9 : decode cX7_numbers 9 = .ok (.iconst 0, 1) := by decide +kernel
theorem dX7_numbers_10 : decode cX7_numbers 10 = .ok (.iaload, 1) := by decide +kernel
theorem dX7_numbers_11 : decode cX7_numbers 11 = .ok (.if_icmp .ge 14, 3) := by decide +kernel
theorem dX7_numbers_14 : decode cX7_numbers 14 = .ok (.iload_n 1, 1) := by decide +kernel
theorem dX7_numbers_15 : decode cX7_numbers 15 = .ok (.bipush 6, 2) := by decide +kernel
theorem dX7_numbers_17 : decode cX7_numbers 17 = .ok (.imul, 1) := by decide +kernel
theorem dX7_numbers_18 : decode cX7_numbers 18 = .ok (.istore_n 1, 1) := by decide +kernel
theorem dX7_numbers_19 : decode cX7_numbers 19 = .ok (.iinc 2 1, 3) := by decide +kernel
theorem dX7_numbers_22 : decode cX7_numbers 22 = .ok (.goto (-18), 3) := by decide +kernel
theorem dX7_numbers_25 : decode cX7_numbers 25 = .ok (.iload_n 1, 1) := by decide +kernel
theorem dX7_numbers_26 : decode cX7_numbers 26 = .ok (.ireturn, 1) := by decide +kernel
theorem dX7_content_0 : decode cX7_content 0 = .ok (.iload_n 1, 1) := by decide +kernel
theorem dX7_content_1 : decode cX7_content 1 = .ok (.iconst (-1), 1) := by decide +kernel
theorem dX7_content_2 : decode cX7_content 2 = .ok (.if_icmp .ge 5, 3) := by decide +kernel
theorem dX7_content_5 : decode cX7_content 5 = .ok (.iconst (-1), 1) := by decide +kernel
theorem dX7_content_6 : decode cX7_content 6 = .ok (.ireturn, 1) := by decide +kernel
theorem dX7_content_7 : decode cX7_content 7 = .ok (.iconst 0, 1) := by decide +kernel
theorem dX7_content_8 : decode cX7_content 8 = .ok (.istore_n 2, 1) := by decide +kernel
theorem dX7_content_9 : decode cX7_content 9 = .ok (.bipush 99, 2) := by decide +kernel
theorem dX7_content_11 : decode cX7_content 11 = .ok (.istore_n 3, 1) := by decide +kernel
theorem dX7_content_12 : decode cX7_content 12 = .ok (.aload_n 0, 1) := by decide +kernel
theorem dX7_content_13 : decode cX7_content 13 = .ok (.invokevirtual 199, 3) := by decide +kernel
theorem dX7_content_16 : decode cX7_content 16 = .ok (.istore 4, 2) := by decide +kernel
theorem dX7_content_18 : decode cX7_content 18 = .ok (.iconst 0, 1) := by decide +kernel
theorem dX7_content_19 : decode cX7_content 19 = .ok (.istore 5, 2) := by decide +kernel
theorem dX7_content_21 : decode cX7_content 21 = .ok (.iload 5, 2) := by decide +kernel
theorem dX7_content_23 : decode cX7_content 23 = .ok (.iload 4, 2) := by decide +kernel
theorem dX7_content_25 : decode cX7_content 25 = .ok (.if_icmp .ge 89, 3) := by decide +kernel
theorem dX7_content_28 : decode cX7_content 28 = .ok (.aload_n 0, 1) := by decide +kernel
theorem dX7_content_29 : decode cX7_content 29 = .ok (.iload 5, 2) := by decide +kernel
theorem dX7_content_31 : decode cX7_content 31 = .ok (.invokevirtual 202, 3) := by decide +kernel
theorem dX7_content_34 : decode cX7_content 34 = .ok (.ifCond .eq 74, 3) := by decide +kernel
theorem dX7_content_37 : decode cX7_content 37 = .ok (.iconst 0, 1) := by decide +kernel
theorem dX7_content_38 : decode cX7_content 38 = .ok (.istore 6, 2) := by decide +kernel
theorem dX7_content_40 : decode cX7_content 40 = .ok (.iconst 0, 1) := by decide +kernel
theorem dX7_content_41 : decode cX7_content 41 = .ok (.istore 7, 2) := by decide +kernel
theorem dX7_content_43 : decode cX7_content 43 = .ok (.iload 7, 2) := by decide +kernel
theorem dX7_content_45 : decode cX7_content 45 = .ok (.aload_n 0, 1) := by decide +kernel
theorem dX7_content_46 : decode cX7_content 46 = .ok (.getfield 7, 3) := by decide +kernel
theorem dX7_content_49 : decode cX7_content 49 = .ok (.iconst 0, 1) := by decide +kernel
theorem dX7_content_50 : decode cX7_content 50 = .ok (.iaload, 1) := by decide +kernel
theorem dX7_content_51 : decode cX7_content 51 = .ok (.if_icmp .ge 31, 3) := by decide +kernel
theorem dX7_content_54 : decode cX7_content 54 = .ok (.iload 6, 2) := by decide +kernel
theorem dX7_content_56 : decode cX7_content 56 = .ok (.aload_n 0, 1) := by decide +kernel
theorem dX7_content_57 : decode cX7_content 57 = .ok (.getfield 31, 3) := by decide +kernel
theorem dX7_content_60 : decode cX7_content 60 = .ok (.iload 7, 2) := by decide +kernel
theorem dX7_content_62 : decode cX7_content 62 = .ok (.iaload, 1) := by decide +kernel
theorem dX7_content_63 : decode cX7_content 63 = .ok (.aload_n 0, 1) := by decide +kernel
theorem dX7_content_64 : decode cX7_content 64 = .ok (.iload 7, 2) := by decide +kernel
theorem dX7_content_66 : decode cX7_content 66 = .ok (.iconst 3, 1) := by decide +kernel
theorem dX7_content_67 : decode cX7_content 67 = .ok (.invokevirtual 59, 3) := by decide +kernel
theorem dX7_content_70 : decode cX7_content 70 = .ok (.invokestatic 70, 3) := by decide +kernel
theorem dX7_content_73 : decode cX7_content 73 = .ok (.iadd, 1) := by decide +kernel
theorem dX7_content_74 : decode cX7_content 74 = .ok (.istore 6, 2) := by decide +kernel
theorem dX7_content_76 : decode cX7_content 76 = .ok (.iinc 7 1, 3) := by decide +kernel
theorem dX7_content_79 : decode cX7_content 79 = .ok (.goto (-36), 3) := by decide +kernel
theorem dX7_content_82 : decode cX7_content 82 = .ok (.iload 6, 2) := by decide +kernel
theorem dX7_content_84 : decode cX7_content 84 = .ok (.iload_n 3, 1) := by decide +kernel
theorem dX7_content_85 : decode cX7_content 85 = .ok (.if_icmp .ge 8, 3) := by decide +kernel
theorem dX7_content_88 : decode cX7_content 88 = .ok (.iload 5, 2) := by decide +kernel
theorem dX7_content_90 : decode cX7_content 90 = .ok (.goto 4, 3) := by decide +kernel
theorem dX7_content_93 : decode cX7_content 93 = .ok (.iload_n 2, 1) := by decide +kernel
theorem dX7_content_94 : decode cX7_content 94 = .ok (.istore_n 2, 1) := by decide +kernel
theorem dX7_content_95 : decode cX7_content 95 = .ok (.iload 6, 2) := by decide +kernel
theorem dX7_content_97 : decode cX7_content 97 = .ok (.iload_n 3, 1) := by decide +kernel
theorem dX7_content_98 : decode cX7_content 98 = .ok (.if_icmp .ge 8, 3) := by decide +kernel
theorem dX7_content_101 : decode cX7_content 101 = .ok (.iload 6, 2) := by decide +kernel
theorem dX7_content_103 : decode cX7_content 103 = .ok (.goto 4, 3) := by decide +kernel
theorem dX7_content_106 : decode cX7_content 106 = .ok (.iload_n 3, 1) := by decide +kernel
theorem dX7_content_107 : decode cX7_content 107 = .ok (.istore_n 3, 1) := by decide +kernel
theorem dX7_content_108 : decode cX7_content 108 = .ok (.iinc 5 1, 3) := by decide +kernel
theorem dX7_content_111 : decode cX7_content 111 = .ok (.goto (-90), 3) := by decide +kernel
theorem dX7_content_114 : decode cX7_content 114 = .ok (.aload_n 0, 1) := by decide +kernel
theorem dX7_content_115 : decode cX7_content 115 = .ok (.iload_n 2, 1) := by decide +kernel
theorem dX7_content_116 : decode cX7_content 116 = .ok (.invokevirtual 202, 3) := by decide +kernel
theorem dX7_content_119 : decode cX7_content 119 = .ok (.pop, 1) := by decide +kernel
theorem dX7_content_120 : decode cX7_content 120 = .ok (.iload_n 1, 1) := by decide +kernel
theorem dX7_content_121 : decode cX7_content 121 = .ok (.ifCond .ge 7, 3) := by decide +kernel
theorem dX7_content_124 : decode cX7_content 124 = .ok (.iload_n 3, 1) := by decide +kernel
theorem dX7_content_125 : decode cX7_content 125 = .ok (.goto 24, 3) := by decide +kernel
theorem dX7_content_128 : decode cX7_content 128 = .ok (.iload_n 1, 1) := by decide +kernel
theorem dX7_content_129 : decode cX7_content 129 = .ok (.aload_n 0, 1) := by decide +kernel
theorem dX7_content_130 : decode cX7_content 130 = .ok (.getfield 7, 3) := by decide +kernel
theorem dX7_content_133 : decode cX7_content 133 = .ok (.iconst 0, 1) := by decide +kernel
theorem dX7_content_134 : decode cX7_content 134 = .ok (.iaload, 1) := by decide +kernel
theorem dX7_content_135 : decode cX7_content 135 = .ok (.if_icmp .ge 12, 3) := by decide +kernel
theorem dX7_content_138 : decode cX7_content 138 = .ok (.aload_n 0, 1) := by decide +kernel
theorem dX7_content_139 : decode cX7_content 139 = .ok (.getfield 31, 3) := by decide +kernel
theorem dX7_content_142 : decode cX7_content 142 = .ok (.iload_n 1, 1) := by decide +kernel
theorem dX7_content_143 : decode cX7_content 143 = .ok (.iaload, 1) := by decide +kernel
theorem dX7_content_144 : decode cX7_content 144 = .ok (.goto 5, 3) := by decide +kernel
theorem dX7_content_147 : decode cX7_content 147 = .ok (.bipush (-4), 2) := by decide +kernel
theorem dX7_content_149 : decode cX7_content 149 = .ok (.ireturn, 1) := by decide +kernel
theorem dX7_wouldSwap_0 : decode cX7_wouldSwap 0 = .ok (.aload_n 0, 1) := by decide +kernel
theorem dX7_wouldSwap_1 : decode cX7_wouldSwap 1 = .ok (.iload_n 2, 1) := by decide +kernel
theorem dX7_wouldSwap_2 : decode cX7_wouldSwap 2 = .ok (.invokevirtual 67, 3) := by decide +kernel
theorem dX7_wouldSwap_5 : decode cX7_wouldSwap 5 = .ok (.aload_n 0, 1) := by decide +kernel
theorem dX7_wouldSwap_6 : decode cX7_wouldSwap 6 = .ok (.iload_n 1, 1) := by decide +kernel
theorem dX7_wouldSwap_7 : decode cX7_wouldSwap 7 = .ok (.iconst 3, 1) := by decide +kernel
theorem dX7_wouldSwap_8 : decode cX7_wouldSwap 8 = .ok (.invokevirtual 59, 3) := by decide +kernel
theorem dX7_wouldSwap_11 : decode cX7_wouldSwap 11 = .ok (.invokestatic 70, 3) := by decide +kernel
theorem dX7_wouldSwap_14 : decode cX7_wouldSwap 14 = .ok (.aload_n 0, 1) := by decide +kernel
theorem dX7_wouldSwap_15 : decode cX7_wouldSwap 15 = .ok (.iload_n 1, 1) := by decide +kernel
theorem dX7_wouldSwap_16 : decode cX7_wouldSwap 16 = .ok (.invokevirtual 73, 3) := by decide +kernel
theorem dX7_wouldSwap_19 : decode cX7_wouldSwap 19 = .ok (.if_icmp .ge 29, 3) := by decide +kernel
theorem dX7_wouldSwap_22 : decode cX7_wouldSwap 22 = .ok (.aload_n 0, 1) := by decide +kernel
theorem dX7_wouldSwap_23 : decode cX7_wouldSwap 23 = .ok (.iload_n 1, 1) := by decide +kernel
theorem dX7_wouldSwap_24 : decode cX7_wouldSwap 24 = .ok (.invokevirtual 67, 3) := by decide +kernel
theorem dX7_wouldSwap_27 : decode cX7_wouldSwap 27 = .ok (.aload_n 0, 1) := by decide +kernel
theorem dX7_wouldSwap_28 : decode cX7_wouldSwap 28 = .ok (.iload_n 2, 1) := by decide +kernel
theorem dX7_wouldSwap_29 : decode cX7_wouldSwap 29 = .ok (.iconst 3, 1) := by decide +kernel
theorem dX7_wouldSwap_30 : decode cX7_wouldSwap 30 = .ok (.invokevirtual 59, 3) := by decide +kernel
theorem dX7_wouldSwap_33 : decode cX7_wouldSwap 33 = .ok (.invokestatic 70, 3) := by decide +kernel
theorem dX7_wouldSwap_36 : decode cX7_wouldSwap 36 = .ok (.aload_n 0, 1) := by decide +kernel
theorem dX7_wouldSwap_37 : decode cX7_wouldSwap 37 = .ok (.iload_n 2, 1) := by decide +kernel
theorem dX7_wouldSwap_38 : decode cX7_wouldSwap 38 = .ok (.invokevirtual 73, 3) := by decide +kernel
theorem dX7_wouldSwap_41 : decode cX7_wouldSwap 41 = .ok (.if_icmp .ge 7, 3) := by decide +kernel
theorem dX7_wouldSwap_44 : decode cX7_wouldSwap 44 = .ok (.iconst 1, 1) := by decide +kernel
theorem dX7_wouldSwap_45 : decode cX7_wouldSwap 45 = .ok (.goto 4, 3) := by decide +kernel
theorem dX7_wouldSwap_48 : decode cX7_wouldSwap 48 = .ok (.iconst 0, 1) := by decide +kernel
theorem dX7_wouldSwap_49 : decode cX7_wouldSwap 49 = .ok (.ireturn, 1) := by decide +kernel
theorem dX7_firstSwap_0 : decode cX7_firstSwap 0 = .ok (.bipush (-4), 2) := by decide +kernel
theorem dX7_firstSwap_2 : decode cX7_firstSwap 2 = .ok (.istore_n 1, 1) := by decide +kernel
theorem dX7_firstSwap_3 : decode cX7_firstSwap 3 = .ok (.aload_n 0, 1) := by decide +kernel
theorem dX7_firstSwap_4 : decode cX7_firstSwap 4 = .ok (.getfield 7, 3) := by decide +kernel
theorem dX7_firstSwap_7 : decode cX7_firstSwap 7 = .ok (.iconst 0, 1) := by decide +kernel
theorem dX7_firstSwap_8 : decode cX7_firstSwap 8 = .ok (.iaload, 1) := by decide +kernel
theorem dX7_firstSwap_9 : decode cX7_firstSwap 9 = .ok (.iconst 1, 1) := by decide +kernel
theorem dX7_firstSwap_10 : decode cX7_firstSwap 10 = .ok (.isub, 1) := by decide +kernel
theorem dX7_firstSwap_11 : decode cX7_firstSwap 11 = .ok (.istore_n 2, 1) := by decide +kernel
theorem dX7_firstSwap_12 : decode cX7_firstSwap 12 = .ok (.iload_n 2, 1) := by decide +kernel
theorem dX7_firstSwap_13 : decode cX7_firstSwap 13 = .ok (.ifCond .lt 49, 3) := by decide +kernel
theorem dX7_firstSwap_16 : decode cX7_firstSwap 16 = .ok (.aload_n 0, 1) := by decide +kernel
theorem dX7_firstSwap_17 : decode cX7_firstSwap 17 = .ok (.getfield 7, 3) := by decide +kernel
theorem dX7_firstSwap_20 : decode cX7_firstSwap 20 = .ok (.iconst 0, 1) := by decide +kernel
theorem dX7_firstSwap_21 : decode cX7_firstSwap 21 = .ok (.iaload, 1) := by decide +kernel
theorem dX7_firstSwap_22 : decode cX7_firstSwap 22 = .ok (.iconst 1, 1) := by decide +kernel
theorem dX7_firstSwap_23 : decode cX7_firstSwap 23 = .ok (.isub, 1) := by decide +kernel
theorem dX7_firstSwap_24 : decode cX7_firstSwap 24 = .ok (.istore_n 3, 1) := by decide +kernel
theorem dX7_firstSwap_25 : decode cX7_firstSwap 25 = .ok (.iload_n 3, 1) := by decide +kernel
theorem dX7_firstSwap_26 : decode cX7_firstSwap 26 = .ok (.iload_n 2, 1) := by decide +kernel
theorem dX7_firstSwap_27 : decode cX7_firstSwap 27 = .ok (.if_icmp .le 29, 3) := by decide +kernel
theorem dX7_firstSwap_30 : decode cX7_firstSwap 30 = .ok (.aload_n 0, 1) := by decide +kernel
theorem dX7_firstSwap_31 : decode cX7_firstSwap 31 = .ok (.iload_n 2, 1) := by decide +kernel
theorem dX7_firstSwap_32 : decode cX7_firstSwap 32 = .ok (.iload_n 3, 1) := by decide +kernel
theorem dX7_firstSwap_33 : decode cX7_firstSwap 33 = .ok (.invokevirtual 205, 3) := by decide +kernel
theorem dX7_firstSwap_36 : decode cX7_firstSwap 36 = .ok (.ifCond .eq 12, 3) := by decide +kernel
theorem dX7_firstSwap_39 : decode cX7_firstSwap 39 = .ok (.bipush 10, 2) := by decide +kernel
theorem dX7_firstSwap_41 : decode cX7_firstSwap 41 = .ok (.iload_n 2, 1) := by decide +kernel
theorem dX7_firstSwap_42 : decode cX7_firstSwap 42 = .ok (.imul, 1) := by decide +kernel
theorem dX7_firstSwap_43 : decode cX7_firstSwap 43 = .ok (.iload_n 3, 1) := by decide +kernel
theorem dX7_firstSwap_44 : decode cX7_firstSwap 44 = .ok (.iadd, 1) := by decide +kernel
theorem dX7_firstSwap_45 : decode cX7_firstSwap 45 = .ok (.goto 4, 3) := by decide +kernel
theorem dX7_firstSwap_48 : decode cX7_firstSwap 48 = .ok (.iload_n 1, 1) := by decide +kernel
theorem dX7_firstSwap_49 : decode cX7_firstSwap 49 = .ok (.istore_n 1, 1) := by decide +kernel
theorem dX7_firstSwap_50 : decode cX7_firstSwap 50 = .ok (.iinc 3 (-1), 3) := by decide +kernel
theorem dX7_firstSwap_53 : decode cX7_firstSwap 53 = .ok (.goto (-28), 3) := by decide +kernel
theorem dX7_firstSwap_56 : decode cX7_firstSwap 56 = .ok (.iinc 2 (-1), 3) := by decide +kernel
theorem dX7_firstSwap_59 : decode cX7_firstSwap 59 = .ok (.goto (-47), 3) := by decide +kernel
theorem dX7_firstSwap_62 : decode cX7_firstSwap 62 = .ok (.iload_n 1, 1) := by decide +kernel
theorem dX7_firstSwap_63 : decode cX7_firstSwap 63 = .ok (.ireturn, 1) := by decide +kernel
theorem dX7_swapsNow_0 : decode cX7_swapsNow 0 = .ok (.iconst 0, 1) := by decide +kernel
theorem dX7_swapsNow_1 : decode cX7_swapsNow 1 = .ok (.istore_n 1, 1) := by decide +kernel
theorem dX7_swapsNow_2 : decode cX7_swapsNow 2 = .ok (.iconst 0, 1) := by decide +kernel
theorem dX7_swapsNow_3 : decode cX7_swapsNow 3 = .ok (.istore_n 2, 1) := by decide +kernel
theorem dX7_swapsNow_4 : decode cX7_swapsNow 4 = .ok (.iload_n 2, 1) := by decide +kernel
theorem dX7_swapsNow_5 : decode cX7_swapsNow 5 = .ok (.aload_n 0, 1) := by decide +kernel
theorem dX7_swapsNow_6 : decode cX7_swapsNow 6 = .ok (.getfield 7, 3) := by decide +kernel
theorem dX7_swapsNow_9 : decode cX7_swapsNow 9 = .ok (.iconst 0, 1) := by decide +kernel
theorem dX7_swapsNow_10 : decode cX7_swapsNow 10 = .ok (.iaload, 1) := by decide +kernel
theorem dX7_swapsNow_11 : decode cX7_swapsNow 11 = .ok (.if_icmp .ge 46, 3) := by decide +kernel
theorem dX7_swapsNow_14 : decode cX7_swapsNow 14 = .ok (.iload_n 2, 1) := by decide +kernel
theorem dX7_swapsNow_15 : decode cX7_swapsNow 15 = .ok (.iconst 1, 1) := by decide +kernel
theorem dX7_swapsNow_16 : decode cX7_swapsNow 16 = .ok (.iadd, 1) := by decide +kernel
theorem dX7_swapsNow_17 : decode cX7_swapsNow 17 = .ok (.istore_n 3, 1) := by decide +kernel
theorem dX7_swapsNow_18 : decode cX7_swapsNow 18 = .ok (.iload_n 3, 1) := by decide +kernel
theorem dX7_swapsNow_19 : decode cX7_swapsNow 19 = .ok (.aload_n 0, 1) := by decide +kernel
theorem dX7_swapsNow_20 : decode cX7_swapsNow 20 = .ok (.getfield 7, 3) := by decide +kernel
theorem dX7_swapsNow_23 : decode cX7_swapsNow 23 = .ok (.iconst 0, 1) := by decide +kernel
theorem dX7_swapsNow_24 : decode cX7_swapsNow 24 = .ok (.iaload, 1) := by decide +kernel
theorem dX7_swapsNow_25 : decode cX7_swapsNow 25 = .ok (.if_icmp .ge 26, 3) := by decide +kernel
theorem dX7_swapsNow_28 : decode cX7_swapsNow 28 = .ok (.iload_n 1, 1) := by decide +kernel
theorem dX7_swapsNow_29 : decode cX7_swapsNow 29 = .ok (.aload_n 0, 1) := by decide +kernel
theorem dX7_swapsNow_30 : decode cX7_swapsNow 30 = .ok (.iload_n 2, 1) := by decide +kernel
theorem dX7_swapsNow_31 : decode cX7_swapsNow 31 = .ok (.iload_n 3, 1) := by decide +kernel
theorem dX7_swapsNow_32 : decode cX7_swapsNow 32 = .ok (.invokevirtual 205, 3) := by decide +kernel
theorem dX7_swapsNow_35 : decode cX7_swapsNow 35 = .ok (.ifCond .eq 7, 3) := by decide +kernel
theorem dX7_swapsNow_38 : decode cX7_swapsNow 38 = .ok (.iconst 1, 1) := by decide +kernel
theorem dX7_swapsNow_39 : decode cX7_swapsNow 39 = .ok (.goto 4, 3) := by decide +kernel
theorem dX7_swapsNow_42 : decode cX7_swapsNow 42 = .ok (.iconst 0, 1) := by decide +kernel
theorem dX7_swapsNow_43 : decode cX7_swapsNow 43 = .ok (.iadd, 1) := by decide +kernel
theorem dX7_swapsNow_44 : decode cX7_swapsNow 44 = .ok (.istore_n 1, 1) := by decide +kernel
theorem dX7_swapsNow_45 : decode cX7_swapsNow 45 = .ok (.iinc 3 1, 3) := by decide +kernel
theorem dX7_swapsNow_48 : decode cX7_swapsNow 48 = .ok (.goto (-30), 3) := by decide +kernel
theorem dX7_swapsNow_51 : decode cX7_swapsNow 51 = .ok (.iinc 2 1, 3) := by decide +kernel
theorem dX7_swapsNow_54 : decode cX7_swapsNow 54 = .ok (.goto (-50), 3) := by decide +kernel
theorem dX7_swapsNow_57 : decode cX7_swapsNow 57 = .ok (.iload_n 1, 1) := by decide +kernel
theorem dX7_swapsNow_58 : decode cX7_swapsNow 58 = .ok (.ireturn, 1) := by decide +kernel
theorem dX7_swaps_0 : decode cX7_swaps 0 = .ok (.iload_n 1, 1) := by decide +kernel
theorem dX7_swaps_1 : decode cX7_swaps 1 = .ok (.i2l, 1) := by decide +kernel
theorem dX7_swaps_2 : decode cX7_swaps 2 = .ok (.lconst 0, 1) := by decide +kernel
theorem dX7_swaps_3 : decode cX7_swaps 3 = .ok (.ldc2_w 123, 3) := by decide +kernel
theorem dX7_swaps_6 : decode cX7_swaps 6 = .ok (.invokestatic 53, 3) := by decide +kernel
theorem dX7_swaps_9 : decode cX7_swaps 9 = .ok (.ifCond .ne 5, 3) := by decide +kernel
theorem dX7_swaps_12 : decode cX7_swaps 12 = .ok (.iconst (-1), 1) := by decide +kernel
theorem dX7_swaps_13 : decode cX7_swaps 13 = .ok (.ireturn, 1) := by decide +kernel
theorem dX7_swaps_14 : decode cX7_swaps 14 = .ok (.iload_n 1, 1) := by decide +kernel
theorem dX7_swaps_15 : decode cX7_swaps 15 = .ok (.iconst 2, 1) := by decide +kernel
theorem dX7_swaps_16 : decode cX7_swaps 16 = .ok (.if_icmp .ge 19, 3) := by decide +kernel
theorem dX7_swaps_19 : decode cX7_swaps 19 = .ok (.iload_n 1, 1) := by decide +kernel
theorem dX7_swaps_20 : decode cX7_swaps 20 = .ok (.ifCond .ne 10, 3) := by decide +kernel
theorem dX7_swaps_23 : decode cX7_swaps 23 = .ok (.aload_n 0, 1) := by decide +kernel
theorem dX7_swaps_24 : decode cX7_swaps 24 = .ok (.invokevirtual 209, 3) := by decide +kernel
theorem dX7_swaps_27 : decode cX7_swaps 27 = .ok (.goto 7, 3) := by decide +kernel
theorem dX7_swaps_30 : decode cX7_swaps 30 = .ok (.aload_n 0, 1) := by decide +kernel
theorem dX7_swaps_31 : decode cX7_swaps 31 = .ok (.invokevirtual 212, 3) := by decide +kernel
theorem dX7_swaps_34 : decode cX7_swaps 34 = .ok (.ireturn, 1) := by decide +kernel
theorem dX7_swaps_35 : decode cX7_swaps 35 = .ok (.aload_n 0, 1) := by decide +kernel
theorem dX7_swaps_36 : decode cX7_swaps 36 = .ok (.invokevirtual 187, 3) := by decide +kernel
theorem dX7_swaps_39 : decode cX7_swaps 39 = .ok (.iconst 0, 1) := by decide +kernel
theorem dX7_swaps_40 : decode cX7_swaps 40 = .ok (.istore_n 2, 1) := by decide +kernel
theorem dX7_swaps_41 : decode cX7_swaps 41 = .ok (.aload_n 0, 1) := by decide +kernel
theorem dX7_swaps_42 : decode cX7_swaps 42 = .ok (.invokevirtual 212, 3) := by decide +kernel
theorem dX7_swaps_45 : decode cX7_swaps 45 = .ok (.istore_n 3, 1) := by decide +kernel
theorem dX7_swaps_46 : decode cX7_swaps 46 = .ok (.iload_n 3, 1) := by decide +kernel
theorem dX7_swaps_47 : decode cX7_swaps 47 = .ok (.bipush (-4), 2) := by decide +kernel
theorem dX7_swaps_49 : decode cX7_swaps 49 = .ok (.if_icmp .eq 26, 3) := by decide +kernel
theorem dX7_swaps_52 : decode cX7_swaps 52 = .ok (.aload_n 0, 1) := by decide +kernel
theorem dX7_swaps_53 : decode cX7_swaps 53 = .ok (.iload_n 3, 1) := by decide +kernel
theorem dX7_swaps_54 : decode cX7_swaps 54 = .ok (.bipush 10, 2) := by decide +kernel
theorem dX7_swaps_56 : decode cX7_swaps 56 = .ok (.idiv, 1) := by decide +kernel
theorem dX7_swaps_57 : decode cX7_swaps 57 = .ok (.iload_n 3, 1) := by decide +kernel
theorem dX7_swaps_58 : decode cX7_swaps 58 = .ok (.bipush 10, 2) := by decide +kernel
theorem dX7_swaps_60 : decode cX7_swaps 60 = .ok (.irem, 1) := by decide +kernel
theorem dX7_swaps_61 : decode cX7_swaps 61 = .ok (.invokevirtual 173, 3) := by decide +kernel
theorem dX7_swaps_64 : decode cX7_swaps 64 = .ok (.iinc 2 1, 3) := by decide +kernel
theorem dX7_swaps_67 : decode cX7_swaps 67 = .ok (.aload_n 0, 1) := by decide +kernel
theorem dX7_swaps_68 : decode cX7_swaps 68 = .ok (.invokevirtual 212, 3) := by decide +kernel
theorem dX7_swaps_71 : decode cX7_swaps 71 = .ok (.istore_n 3, 1) := by decide +kernel
theorem dX7_swaps_72 : decode cX7_swaps 72 = .ok (.goto (-26), 3) := by decide +kernel
theorem dX7_swaps_75 : decode cX7_swaps 75 = .ok (.aload_n 0, 1) := by decide +kernel
theorem dX7_swaps_76 : decode cX7_swaps 76 = .ok (.invokevirtual 193, 3) := by decide +kernel
theorem dX7_swaps_79 : decode cX7_swaps 79 = .ok (.iload_n 2, 1) := by decide +kernel
theorem dX7_swaps_80 : decode cX7_swaps 80 = .ok (.ireturn, 1) := by decide +kernel
theorem dX7_sat_0 : decode cX7_sat 0 = .ok (.iconst 0, 1) := by decide +kernel
theorem dX7_sat_1 : decode cX7_sat 1 = .ok (.istore_n 1, 1) := by decide +kernel
theorem dX7_sat_2 : decode cX7_sat 2 = .ok (.iconst 0, 1) := by decide +kernel
theorem dX7_sat_3 : decode cX7_sat 3 = .ok (.istore_n 2, 1) := by decide +kernel
theorem dX7_sat_4 : decode cX7_sat 4 = .ok (.iload_n 2, 1) := by decide +kernel
theorem dX7_sat_5 : decode cX7_sat 5 = .ok (.aload_n 0, 1) := by decide +kernel
theorem dX7_sat_6 : decode cX7_sat 6 = .ok (.getfield 7, 3) := by decide +kernel
theorem dX7_sat_9 : decode cX7_sat 9 = .ok (.iconst 0, 1) := by decide +kernel
theorem dX7_sat_10 : decode cX7_sat 10 = .ok (.iaload, 1) := by decide +kernel
theorem dX7_sat_11 : decode cX7_sat 11 = .ok (.if_icmp .ge 19, 3) := by decide +kernel
theorem dX7_sat_14 : decode cX7_sat 14 = .ok (.iload_n 1, 1) := by decide +kernel
theorem dX7_sat_15 : decode cX7_sat 15 = .ok (.iconst 1, 1) := by decide +kernel
theorem dX7_sat_16 : decode cX7_sat 16 = .ok (.aload_n 0, 1) := by decide +kernel
theorem dX7_sat_17 : decode cX7_sat 17 = .ok (.iload_n 2, 1) := by decide +kernel
theorem dX7_sat_18 : decode cX7_sat 18 = .ok (.invokevirtual 67, 3) := by decide +kernel
theorem dX7_sat_21 : decode cX7_sat 21 = .ok (.ishl, 1) := by decide +kernel
theorem dX7_sat_22 : decode cX7_sat 22 = .ok (.ior, 1) := by decide +kernel
theorem dX7_sat_23 : decode cX7_sat 23 = .ok (.istore_n 1, 1) := by decide +kernel
theorem dX7_sat_24 : decode cX7_sat 24 = .ok (.iinc 2 1, 3) := by decide +kernel
theorem dX7_sat_27 : decode cX7_sat 27 = .ok (.goto (-23), 3) := by decide +kernel
theorem dX7_sat_30 : decode cX7_sat 30 = .ok (.iload_n 1, 1) := by decide +kernel
theorem dX7_sat_31 : decode cX7_sat 31 = .ok (.ireturn, 1) := by decide +kernel
theorem dX7_deals_0 : decode cX7_deals 0 = .ok (.aload_n 0, 1) := by decide +kernel
theorem dX7_deals_1 : decode cX7_deals 1 = .ok (.invokevirtual 215, 3) := by decide +kernel
theorem dX7_deals_4 : decode cX7_deals 4 = .ok (.istore_n 3, 1) := by decide +kernel
theorem dX7_deals_5 : decode cX7_deals 5 = .ok (.aload_n 0, 1) := by decide +kernel
theorem dX7_deals_6 : decode cX7_deals 6 = .ok (.invokevirtual 199, 3) := by decide +kernel
theorem dX7_deals_9 : decode cX7_deals 9 = .ok (.istore 4, 2) := by decide +kernel
theorem dX7_deals_11 : decode cX7_deals 11 = .ok (.ldc 218, 2) := by decide +kernel
theorem dX7_deals_13 : decode cX7_deals 13 = .ok (.istore 5, 2) := by decide +kernel
theorem dX7_deals_15 : decode cX7_deals 15 = .ok (.aload_n 0, 1) := by decide +kernel
theorem dX7_deals_16 : decode cX7_deals 16 = .ok (.invokevirtual 187, 3) := by decide +kernel
theorem dX7_deals_19 : decode cX7_deals 19 = .ok (.iconst 0, 1) := by decide +kernel
theorem dX7_deals_20 : decode cX7_deals 20 = .ok (.istore 6, 2) := by decide +kernel
theorem dX7_deals_22 : decode cX7_deals 22 = .ok (.iload 6, 2) := by decide +kernel
theorem dX7_deals_24 : decode cX7_deals 24 = .ok (.iload 4, 2) := by decide +kernel
theorem dX7_deals_26 : decode cX7_deals 26 = .ok (.if_icmp .ge 187, 3) := by decide +kernel
theorem dX7_deals_29 : decode cX7_deals 29 = .ok (.aload_n 0, 1) := by decide +kernel
theorem dX7_deals_30 : decode cX7_deals 30 = .ok (.iload 6, 2) := by decide +kernel
theorem dX7_deals_32 : decode cX7_deals 32 = .ok (.invokevirtual 202, 3) := by decide +kernel
theorem dX7_deals_35 : decode cX7_deals 35 = .ok (.istore 7, 2) := by decide +kernel
theorem dX7_deals_37 : decode cX7_deals 37 = .ok (.iconst 0, 1) := by decide +kernel
theorem dX7_deals_38 : decode cX7_deals 38 = .ok (.istore 8, 2) := by decide +kernel
theorem dX7_deals_40 : decode cX7_deals 40 = .ok (.iconst 0, 1) := by decide +kernel
theorem dX7_deals_41 : decode cX7_deals 41 = .ok (.istore 9, 2) := by decide +kernel
theorem dX7_deals_43 : decode cX7_deals 43 = .ok (.iload 9, 2) := by decide +kernel
theorem dX7_deals_45 : decode cX7_deals 45 = .ok (.aload_n 0, 1) := by decide +kernel
theorem dX7_deals_46 : decode cX7_deals 46 = .ok (.getfield 7, 3) := by decide +kernel
theorem dX7_deals_49 : decode cX7_deals 49 = .ok (.iconst 0, 1) := by decide +kernel
theorem dX7_deals_50 : decode cX7_deals 50 = .ok (.iaload, 1) := by decide +kernel
theorem dX7_deals_51 : decode cX7_deals 51 = .ok (.if_icmp .ge 23, 3) := by decide +kernel
theorem dX7_deals_54 : decode cX7_deals 54 = .ok (.iload 8, 2) := by decide +kernel
theorem dX7_deals_56 : decode cX7_deals 56 = .ok (.iconst 1, 1) := by decide +kernel
theorem dX7_deals_57 : decode cX7_deals 57 = .ok (.aload_n 0, 1) := by decide +kernel
theorem dX7_deals_58 : decode cX7_deals 58 = .ok (.getfield 31, 3) := by decide +kernel
theorem dX7_deals_61 : decode cX7_deals 61 = .ok (.iload 9, 2) := by decide +kernel
theorem dX7_deals_63 : decode cX7_deals 63 = .ok (.iaload, 1) := by decide +kernel
theorem dX7_deals_64 : decode cX7_deals 64 = .ok (.ishl, 1) := by decide +kernel
theorem dX7_deals_65 : decode cX7_deals 65 = .ok (.ior, 1) := by decide +kernel
theorem dX7_deals_66 : decode cX7_deals 66 = .ok (.istore 8, 2) := by decide +kernel
theorem dX7_deals_68 : decode cX7_deals 68 = .ok (.iinc 9 1, 3) := by decide +kernel
theorem dX7_deals_71 : decode cX7_deals 71 = .ok (.goto (-28), 3) := by decide +kernel
theorem dX7_deals_74 : decode cX7_deals 74 = .ok (.iload 7, 2) := by decide +kernel
theorem dX7_deals_76 : decode cX7_deals 76 = .ok (.ifCond .eq 131, 3) := by decide +kernel
theorem dX7_deals_79 : decode cX7_deals 79 = .ok (.iload 8, 2) := by decide +kernel
theorem dX7_deals_81 : decode cX7_deals 81 = .ok (.iload_n 3, 1) := by decide +kernel
theorem dX7_deals_82 : decode cX7_deals 82 = .ok (.if_icmp .ne 125, 3) := by decide +kernel
theorem dX7_deals_85 : decode cX7_deals 85 = .ok (.iconst 0, 1) := by decide +kernel
theorem dX7_deals_86 : decode cX7_deals 86 = .ok (.istore 9, 2) := by decide +kernel
theorem dX7_deals_88 : decode cX7_deals 88 = .ok (.iload 9, 2) := by decide +kernel
theorem dX7_deals_90 : decode cX7_deals 90 = .ok (.aload_n 0, 1) := by decide +kernel
theorem dX7_deals_91 : decode cX7_deals 91 = .ok (.getfield 7, 3) := by decide +kernel
theorem dX7_deals_94 : decode cX7_deals 94 = .ok (.iconst 0, 1) := by decide +kernel
theorem dX7_deals_95 : decode cX7_deals 95 = .ok (.iaload, 1) := by decide +kernel
theorem dX7_deals_96 : decode cX7_deals 96 = .ok (.if_icmp .ge 22, 3) := by decide +kernel
theorem dX7_deals_99 : decode cX7_deals 99 = .ok (.aload_n 0, 1) := by decide +kernel
theorem dX7_deals_100 : decode cX7_deals 100 = .ok (.iload 9, 2) := by decide +kernel
theorem dX7_deals_102 : decode cX7_deals 102 = .ok (.aload_n 0, 1) := by decide +kernel
theorem dX7_deals_103 : decode cX7_deals 103 = .ok (.getfield 31, 3) := by decide +kernel
theorem dX7_deals_106 : decode cX7_deals 106 = .ok (.iload 9, 2) := by decide +kernel
theorem dX7_deals_108 : decode cX7_deals 108 = .ok (.iaload, 1) := by decide +kernel
theorem dX7_deals_109 : decode cX7_deals 109 = .ok (.invokevirtual 170, 3) := by decide +kernel
theorem dX7_deals_112 : decode cX7_deals 112 = .ok (.iinc 9 1, 3) := by decide +kernel
theorem dX7_deals_115 : decode cX7_deals 115 = .ok (.goto (-27), 3) := by decide +kernel
theorem dX7_deals_118 : decode cX7_deals 118 = .ok (.aload_n 0, 1) := by decide +kernel
theorem dX7_deals_119 : decode cX7_deals 119 = .ok (.iload_n 2, 1) := by decide +kernel
theorem dX7_deals_120 : decode cX7_deals 120 = .ok (.invokevirtual 190, 3) := by decide +kernel
theorem dX7_deals_123 : decode cX7_deals 123 = .ok (.iload_n 1, 1) := by decide +kernel
theorem dX7_deals_124 : decode cX7_deals 124 = .ok (.ifCond .ge 19, 3) := by decide +kernel
theorem dX7_deals_127 : decode cX7_deals 127 = .ok (.aload_n 0, 1) := by decide +kernel
theorem dX7_deals_128 : decode cX7_deals 128 = .ok (.getfield 28, 3) := by decide +kernel
theorem dX7_deals_131 : decode cX7_deals 131 = .ok (.iconst 2, 1) := by decide +kernel
theorem dX7_deals_132 : decode cX7_deals 132 = .ok (.iaload, 1) := by decide +kernel
theorem dX7_deals_133 : decode cX7_deals 133 = .ok (.aload_n 0, 1) := by decide +kernel
theorem dX7_deals_134 : decode cX7_deals 134 = .ok (.getfield 7, 3) := by decide +kernel
theorem dX7_deals_137 : decode cX7_deals 137 = .ok (.iconst 2, 1) := by decide +kernel
theorem dX7_deals_138 : decode cX7_deals 138 = .ok (.iaload, 1) := by decide +kernel
theorem dX7_deals_139 : decode cX7_deals 139 = .ok (.isub, 1) := by decide +kernel
theorem dX7_deals_140 : decode cX7_deals 140 = .ok (.goto 8, 3) := by decide +kernel
theorem dX7_deals_143 : decode cX7_deals 143 = .ok (.aload_n 0, 1) := by decide +kernel
theorem dX7_deals_144 : decode cX7_deals 144 = .ok (.iload_n 1, 1) := by decide +kernel
theorem dX7_deals_145 : decode cX7_deals 145 = .ok (.invokevirtual 63, 3) := by decide +kernel
theorem dX7_deals_148 : decode cX7_deals 148 = .ok (.istore 9, 2) := by decide +kernel
theorem dX7_deals_150 : decode cX7_deals 150 = .ok (.aload_n 0, 1) := by decide +kernel
theorem dX7_deals_151 : decode cX7_deals 151 = .ok (.invokevirtual 193, 3) := by decide +kernel
theorem dX7_deals_154 : decode cX7_deals 154 = .ok (.iconst 0, 1) := by decide +kernel
theorem dX7_deals_155 : decode cX7_deals 155 = .ok (.istore 10, 2) := by decide +kernel
theorem dX7_deals_157 : decode cX7_deals 157 = .ok (.iload 10, 2) := by decide +kernel
theorem dX7_deals_159 : decode cX7_deals 159 = .ok (.bipush 6, 2) := by decide +kernel
theorem dX7_deals_161 : decode cX7_deals 161 = .ok (.if_icmp .ge 30, 3) := by decide +kernel
theorem dX7_deals_164 : decode cX7_deals 164 = .ok (.iload 9, 2) := by decide +kernel
theorem dX7_deals_166 : decode cX7_deals 166 = .ok (.iload 5, 2) := by decide +kernel
theorem dX7_deals_168 : decode cX7_deals 168 = .ok (.if_icmp .ge 23, 3) := by decide +kernel
theorem dX7_deals_171 : decode cX7_deals 171 = .ok (.aload_n 0, 1) := by decide +kernel
theorem dX7_deals_172 : decode cX7_deals 172 = .ok (.getfield 34, 3) := by decide +kernel
theorem dX7_deals_175 : decode cX7_deals 175 = .ok (.iload 10, 2) := by decide +kernel
theorem dX7_deals_177 : decode cX7_deals 177 = .ok (.aload_n 0, 1) := by decide +kernel
theorem dX7_deals_178 : decode cX7_deals 178 = .ok (.getfield 31, 3) := by decide +kernel
theorem dX7_deals_181 : decode cX7_deals 181 = .ok (.iload 10, 2) := by decide +kernel
theorem dX7_deals_183 : decode cX7_deals 183 = .ok (.iaload, 1) := by decide +kernel
theorem dX7_deals_184 : decode cX7_deals 184 = .ok (.iastore, 1) := by decide +kernel
theorem dX7_deals_185 : decode cX7_deals 185 = .ok (.iinc 10 1, 3) := by decide +kernel
theorem dX7_deals_188 : decode cX7_deals 188 = .ok (.goto (-31), 3) := by decide +kernel
theorem dX7_deals_191 : decode cX7_deals 191 = .ok (.iload 9, 2) := by decide +kernel
theorem dX7_deals_193 : decode cX7_deals 193 = .ok (.iload 5, 2) := by decide +kernel
theorem dX7_deals_195 : decode cX7_deals 195 = .ok (.if_icmp .ge 8, 3) := by decide +kernel
theorem dX7_deals_198 : decode cX7_deals 198 = .ok (.iload 9, 2) := by decide +kernel
theorem dX7_deals_200 : decode cX7_deals 200 = .ok (.goto 5, 3) := by decide +kernel
theorem dX7_deals_203 : decode cX7_deals 203 = .ok (.iload 5, 2) := by decide +kernel
theorem dX7_deals_205 : decode cX7_deals 205 = .ok (.istore 5, 2) := by decide +kernel
theorem dX7_deals_207 : decode cX7_deals 207 = .ok (.iinc 6 1, 3) := by decide +kernel
theorem dX7_deals_210 : decode cX7_deals 210 = .ok (.goto (-188), 3) := by decide +kernel
theorem dX7_deals_213 : decode cX7_deals 213 = .ok (.iload 5, 2) := by decide +kernel
theorem dX7_deals_215 : decode cX7_deals 215 = .ok (.ireturn, 1) := by decide +kernel
theorem dX7_latest_0 : decode cX7_latest 0 = .ok (.aload_n 0, 1) := by decide +kernel
theorem dX7_latest_1 : decode cX7_latest 1 = .ok (.iload_n 1, 1) := by decide +kernel
theorem dX7_latest_2 : decode cX7_latest 2 = .ok (.invokevirtual 120, 3) := by decide +kernel
theorem dX7_latest_5 : decode cX7_latest 5 = .ok (.ifCond .eq 20, 3) := by decide +kernel
theorem dX7_latest_8 : decode cX7_latest 8 = .ok (.iload_n 2, 1) := by decide +kernel
theorem dX7_latest_9 : decode cX7_latest 9 = .ok (.i2l, 1) := by decide +kernel
theorem dX7_latest_10 : decode cX7_latest 10 = .ok (.lconst 0, 1) := by decide +kernel
theorem dX7_latest_11 : decode cX7_latest 11 = .ok (.ldc2_w 165, 3) := by decide +kernel
theorem dX7_latest_14 : decode cX7_latest 14 = .ok (.invokestatic 53, 3) := by decide +kernel
theorem dX7_latest_17 : decode cX7_latest 17 = .ok (.ifCond .eq 8, 3) := by decide +kernel
theorem dX7_latest_20 : decode cX7_latest 20 = .ok (.iload_n 3, 1) := by decide +kernel
theorem dX7_latest_21 : decode cX7_latest 21 = .ok (.iconst (-1), 1) := by decide +kernel
theorem dX7_latest_22 : decode cX7_latest 22 = .ok (.if_icmp .ge 5, 3) := by decide +kernel
theorem dX7_latest_25 : decode cX7_latest 25 = .ok (.iconst (-1), 1) := by decide +kernel
theorem dX7_latest_26 : decode cX7_latest 26 = .ok (.ireturn, 1) := by decide +kernel
theorem dX7_latest_27 : decode cX7_latest 27 = .ok (.aload_n 0, 1) := by decide +kernel
theorem dX7_latest_28 : decode cX7_latest 28 = .ok (.iload_n 1, 1) := by decide +kernel
theorem dX7_latest_29 : decode cX7_latest 29 = .ok (.iload_n 2, 1) := by decide +kernel
theorem dX7_latest_30 : decode cX7_latest 30 = .ok (.invokevirtual 219, 3) := by decide +kernel
theorem dX7_latest_33 : decode cX7_latest 33 = .ok (.istore 4, 2) := by decide +kernel
theorem dX7_latest_35 : decode cX7_latest 35 = .ok (.iload_n 3, 1) := by decide +kernel
theorem dX7_latest_36 : decode cX7_latest 36 = .ok (.ifCond .ge 8, 3) := by decide +kernel
theorem dX7_latest_39 : decode cX7_latest 39 = .ok (.iload 4, 2) := by decide +kernel
theorem dX7_latest_41 : decode cX7_latest 41 = .ok (.goto 24, 3) := by decide +kernel
theorem dX7_latest_44 : decode cX7_latest 44 = .ok (.iload_n 3, 1) := by decide +kernel
theorem dX7_latest_45 : decode cX7_latest 45 = .ok (.aload_n 0, 1) := by decide +kernel
theorem dX7_latest_46 : decode cX7_latest 46 = .ok (.getfield 7, 3) := by decide +kernel
theorem dX7_latest_49 : decode cX7_latest 49 = .ok (.iconst 0, 1) := by decide +kernel
theorem dX7_latest_50 : decode cX7_latest 50 = .ok (.iaload, 1) := by decide +kernel
theorem dX7_latest_51 : decode cX7_latest 51 = .ok (.if_icmp .ge 12, 3) := by decide +kernel
theorem dX7_latest_54 : decode cX7_latest 54 = .ok (.aload_n 0, 1) := by decide +kernel
theorem dX7_latest_55 : decode cX7_latest 55 = .ok (.getfield 34, 3) := by decide +kernel
theorem dX7_latest_58 : decode cX7_latest 58 = .ok (.iload_n 3, 1) := by decide +kernel
theorem dX7_latest_59 : decode cX7_latest 59 = .ok (.iaload, 1) := by decide +kernel
theorem dX7_latest_60 : decode cX7_latest 60 = .ok (.goto 5, 3) := by decide +kernel
theorem dX7_latest_63 : decode cX7_latest 63 = .ok (.bipush (-4), 2) := by decide +kernel
theorem dX7_latest_65 : decode cX7_latest 65 = .ok (.ireturn, 1) := by decide +kernel
theorem dX7_earn_0 : decode cX7_earn 0 = .ok (.iload_n 1, 1) := by decide +kernel
theorem dX7_earn_1 : decode cX7_earn 1 = .ok (.i2l, 1) := by decide +kernel
theorem dX7_earn_2 : decode cX7_earn 2 = .ok (.lconst 1, 1) := by decide +kernel
theorem dX7_earn_3 : decode cX7_earn 3 = .ok (.ldc2_w 165, 3) := by decide +kernel
theorem dX7_earn_6 : decode cX7_earn 6 = .ok (.invokestatic 53, 3) := by decide +kernel
theorem dX7_earn_9 : decode cX7_earn 9 = .ok (.ifCond .eq 8, 3) := by decide +kernel
theorem dX7_earn_12 : decode cX7_earn 12 = .ok (.iload_n 2, 1) := by decide +kernel
theorem dX7_earn_13 : decode cX7_earn 13 = .ok (.iconst (-1), 1) := by decide +kernel
theorem dX7_earn_14 : decode cX7_earn 14 = .ok (.if_icmp .ge 5, 3) := by decide +kernel
theorem dX7_earn_17 : decode cX7_earn 17 = .ok (.iconst (-1), 1) := by decide +kernel
theorem dX7_earn_18 : decode cX7_earn 18 = .ok (.ireturn, 1) := by decide +kernel
theorem dX7_earn_19 : decode cX7_earn 19 = .ok (.aload_n 0, 1) := by decide +kernel
theorem dX7_earn_20 : decode cX7_earn 20 = .ok (.iconst (-1), 1) := by decide +kernel
theorem dX7_earn_21 : decode cX7_earn 21 = .ok (.iload_n 1, 1) := by decide +kernel
theorem dX7_earn_22 : decode cX7_earn 22 = .ok (.invokevirtual 219, 3) := by decide +kernel
theorem dX7_earn_25 : decode cX7_earn 25 = .ok (.istore_n 3, 1) := by decide +kernel
theorem dX7_earn_26 : decode cX7_earn 26 = .ok (.iload_n 2, 1) := by decide +kernel
theorem dX7_earn_27 : decode cX7_earn 27 = .ok (.ifCond .ge 8, 3) := by decide +kernel
theorem dX7_earn_30 : decode cX7_earn 30 = .ok (.iload_n 3, 1) := by decide +kernel
theorem dX7_earn_31 : decode cX7_earn 31 = .ok (.ineg, 1) := by decide +kernel
theorem dX7_earn_32 : decode cX7_earn 32 = .ok (.goto 24, 3) := by decide +kernel
theorem dX7_earn_35 : decode cX7_earn 35 = .ok (.iload_n 2, 1) := by decide +kernel
theorem dX7_earn_36 : decode cX7_earn 36 = .ok (.aload_n 0, 1) := by decide +kernel
theorem dX7_earn_37 : decode cX7_earn 37 = .ok (.getfield 7, 3) := by decide +kernel
theorem dX7_earn_40 : decode cX7_earn 40 = .ok (.iconst 0, 1) := by decide +kernel
theorem dX7_earn_41 : decode cX7_earn 41 = .ok (.iaload, 1) := by decide +kernel
theorem dX7_earn_42 : decode cX7_earn 42 = .ok (.if_icmp .ge 12, 3) := by decide +kernel
theorem dX7_earn_45 : decode cX7_earn 45 = .ok (.aload_n 0, 1) := by decide +kernel
theorem dX7_earn_46 : decode cX7_earn 46 = .ok (.getfield 34, 3) := by decide +kernel
theorem dX7_earn_49 : decode cX7_earn 49 = .ok (.iload_n 2, 1) := by decide +kernel
theorem dX7_earn_50 : decode cX7_earn 50 = .ok (.iaload, 1) := by decide +kernel
theorem dX7_earn_51 : decode cX7_earn 51 = .ok (.goto 5, 3) := by decide +kernel
theorem dX7_earn_54 : decode cX7_earn 54 = .ok (.bipush (-4), 2) := by decide +kernel
theorem dX7_earn_56 : decode cX7_earn 56 = .ok (.ireturn, 1) := by decide +kernel
theorem dX7_dark_0 : decode cX7_dark 0 = .ok (.aload_n 0, 1) := by decide +kernel
theorem dX7_dark_1 : decode cX7_dark 1 = .ok (.iload_n 1, 1) := by decide +kernel
theorem dX7_dark_2 : decode cX7_dark 2 = .ok (.invokevirtual 120, 3) := by decide +kernel
theorem dX7_dark_5 : decode cX7_dark 5 = .ok (.ifCond .eq 15, 3) := by decide +kernel
theorem dX7_dark_8 : decode cX7_dark 8 = .ok (.iload_n 2, 1) := by decide +kernel
theorem dX7_dark_9 : decode cX7_dark 9 = .ok (.i2l, 1) := by decide +kernel
theorem dX7_dark_10 : decode cX7_dark 10 = .ok (.lconst 1, 1) := by decide +kernel
theorem dX7_dark_11 : decode cX7_dark 11 = .ok (.ldc2_w 165, 3) := by decide +kernel
theorem dX7_dark_14 : decode cX7_dark 14 = .ok (.invokestatic 53, 3) := by decide +kernel
theorem dX7_dark_17 : decode cX7_dark 17 = .ok (.ifCond .ne 5, 3) := by decide +kernel
theorem dX7_dark_20 : decode cX7_dark 20 = .ok (.iconst (-1), 1) := by decide +kernel
theorem dX7_dark_21 : decode cX7_dark 21 = .ok (.ireturn, 1) := by decide +kernel
theorem dX7_dark_22 : decode cX7_dark 22 = .ok (.bipush (-4), 2) := by decide +kernel
theorem dX7_dark_24 : decode cX7_dark 24 = .ok (.istore_n 3, 1) := by decide +kernel
theorem dX7_dark_25 : decode cX7_dark 25 = .ok (.aload_n 0, 1) := by decide +kernel
theorem dX7_dark_26 : decode cX7_dark 26 = .ok (.invokevirtual 187, 3) := by decide +kernel
theorem dX7_dark_29 : decode cX7_dark 29 = .ok (.iconst 0, 1) := by decide +kernel
theorem dX7_dark_30 : decode cX7_dark 30 = .ok (.istore 4, 2) := by decide +kernel
theorem dX7_dark_32 : decode cX7_dark 32 = .ok (.iload 4, 2) := by decide +kernel
theorem dX7_dark_34 : decode cX7_dark 34 = .ok (.bipush 10, 2) := by decide +kernel
theorem dX7_dark_36 : decode cX7_dark 36 = .ok (.if_icmp .ge 48, 3) := by decide +kernel
theorem dX7_dark_39 : decode cX7_dark 39 = .ok (.aload_n 0, 1) := by decide +kernel
theorem dX7_dark_40 : decode cX7_dark 40 = .ok (.getfield 7, 3) := by decide +kernel
theorem dX7_dark_43 : decode cX7_dark 43 = .ok (.bipush 28, 2) := by decide +kernel
theorem dX7_dark_45 : decode cX7_dark 45 = .ok (.aload_n 0, 1) := by decide +kernel
theorem dX7_dark_46 : decode cX7_dark 46 = .ok (.iload_n 1, 1) := by decide +kernel
theorem dX7_dark_47 : decode cX7_dark 47 = .ok (.invokevirtual 67, 3) := by decide +kernel
theorem dX7_dark_50 : decode cX7_dark 50 = .ok (.iadd, 1) := by decide +kernel
theorem dX7_dark_51 : decode cX7_dark 51 = .ok (.iload 4, 2) := by decide +kernel
theorem dX7_dark_53 : decode cX7_dark 53 = .ok (.iastore, 1) := by decide +kernel
theorem dX7_dark_54 : decode cX7_dark 54 = .ok (.aload_n 0, 1) := by decide +kernel
theorem dX7_dark_55 : decode cX7_dark 55 = .ok (.iload_n 2, 1) := by decide +kernel
theorem dX7_dark_56 : decode cX7_dark 56 = .ok (.invokevirtual 190, 3) := by decide +kernel
theorem dX7_dark_59 : decode cX7_dark 59 = .ok (.aload_n 0, 1) := by decide +kernel
theorem dX7_dark_60 : decode cX7_dark 60 = .ok (.iload_n 1, 1) := by decide +kernel
theorem dX7_dark_61 : decode cX7_dark 61 = .ok (.invokevirtual 76, 3) := by decide +kernel
theorem dX7_dark_64 : decode cX7_dark 64 = .ok (.ifCond .eq 8, 3) := by decide +kernel
theorem dX7_dark_67 : decode cX7_dark 67 = .ok (.iload 4, 2) := by decide +kernel
theorem dX7_dark_69 : decode cX7_dark 69 = .ok (.goto 4, 3) := by decide +kernel
theorem dX7_dark_72 : decode cX7_dark 72 = .ok (.iload_n 3, 1) := by decide +kernel
theorem dX7_dark_73 : decode cX7_dark 73 = .ok (.istore_n 3, 1) := by decide +kernel
theorem dX7_dark_74 : decode cX7_dark 74 = .ok (.aload_n 0, 1) := by decide +kernel
theorem dX7_dark_75 : decode cX7_dark 75 = .ok (.invokevirtual 193, 3) := by decide +kernel
theorem dX7_dark_78 : decode cX7_dark 78 = .ok (.iinc 4 1, 3) := by decide +kernel
theorem dX7_dark_81 : decode cX7_dark 81 = .ok (.goto (-49), 3) := by decide +kernel
theorem dX7_dark_84 : decode cX7_dark 84 = .ok (.iload_n 3, 1) := by decide +kernel
theorem dX7_dark_85 : decode cX7_dark 85 = .ok (.ireturn, 1) := by decide +kernel
theorem dX7_spare_0 : decode cX7_spare 0 = .ok (.aload_n 0, 1) := by decide +kernel
theorem dX7_spare_1 : decode cX7_spare 1 = .ok (.iload_n 1, 1) := by decide +kernel
theorem dX7_spare_2 : decode cX7_spare 2 = .ok (.invokevirtual 120, 3) := by decide +kernel
theorem dX7_spare_5 : decode cX7_spare 5 = .ok (.ifCond .eq 15, 3) := by decide +kernel
theorem dX7_spare_8 : decode cX7_spare 8 = .ok (.iload_n 2, 1) := by decide +kernel
theorem dX7_spare_9 : decode cX7_spare 9 = .ok (.i2l, 1) := by decide +kernel
theorem dX7_spare_10 : decode cX7_spare 10 = .ok (.lconst 1, 1) := by decide +kernel
theorem dX7_spare_11 : decode cX7_spare 11 = .ok (.ldc2_w 165, 3) := by decide +kernel
theorem dX7_spare_14 : decode cX7_spare 14 = .ok (.invokestatic 53, 3) := by decide +kernel
theorem dX7_spare_17 : decode cX7_spare 17 = .ok (.ifCond .ne 5, 3) := by decide +kernel
theorem dX7_spare_20 : decode cX7_spare 20 = .ok (.iconst (-1), 1) := by decide +kernel
theorem dX7_spare_21 : decode cX7_spare 21 = .ok (.ireturn, 1) := by decide +kernel
theorem dX7_spare_22 : decode cX7_spare 22 = .ok (.bipush (-4), 2) := by decide +kernel
theorem dX7_spare_24 : decode cX7_spare 24 = .ok (.istore_n 3, 1) := by decide +kernel
theorem dX7_spare_25 : decode cX7_spare 25 = .ok (.aload_n 0, 1) := by decide +kernel
theorem dX7_spare_26 : decode cX7_spare 26 = .ok (.invokevirtual 187, 3) := by decide +kernel
theorem dX7_spare_29 : decode cX7_spare 29 = .ok (.iconst 0, 1) := by decide +kernel
theorem dX7_spare_30 : decode cX7_spare 30 = .ok (.istore 4, 2) := by decide +kernel
theorem dX7_spare_32 : decode cX7_spare 32 = .ok (.iload 4, 2) := by decide +kernel
theorem dX7_spare_34 : decode cX7_spare 34 = .ok (.bipush 21, 2) := by decide +kernel
theorem dX7_spare_36 : decode cX7_spare 36 = .ok (.if_icmp .ge 61, 3) := by decide +kernel
theorem dX7_spare_39 : decode cX7_spare 39 = .ok (.iload_n 3, 1) := by decide +kernel
theorem dX7_spare_40 : decode cX7_spare 40 = .ok (.bipush (-4), 2) := by decide +kernel
theorem dX7_spare_42 : decode cX7_spare 42 = .ok (.if_icmp .ne 55, 3) := by decide +kernel
theorem dX7_spare_45 : decode cX7_spare 45 = .ok (.iconst 0, 1) := by decide +kernel
theorem dX7_spare_46 : decode cX7_spare 46 = .ok (.istore 5, 2) := by decide +kernel
theorem dX7_spare_48 : decode cX7_spare 48 = .ok (.iload 5, 2) := by decide +kernel
theorem dX7_spare_50 : decode cX7_spare 50 = .ok (.iload 4, 2) := by decide +kernel
theorem dX7_spare_52 : decode cX7_spare 52 = .ok (.if_icmp .ge 14, 3) := by decide +kernel
theorem dX7_spare_55 : decode cX7_spare 55 = .ok (.aload_n 0, 1) := by decide +kernel
theorem dX7_spare_56 : decode cX7_spare 56 = .ok (.iload_n 1, 1) := by decide +kernel
theorem dX7_spare_57 : decode cX7_spare 57 = .ok (.invokevirtual 176, 3) := by decide +kernel
theorem dX7_spare_60 : decode cX7_spare 60 = .ok (.iinc 5 1, 3) := by decide +kernel
theorem dX7_spare_63 : decode cX7_spare 63 = .ok (.goto (-15), 3) := by decide +kernel
theorem dX7_spare_66 : decode cX7_spare 66 = .ok (.aload_n 0, 1) := by decide +kernel
theorem dX7_spare_67 : decode cX7_spare 67 = .ok (.iload_n 2, 1) := by decide +kernel
theorem dX7_spare_68 : decode cX7_spare 68 = .ok (.invokevirtual 190, 3) := by decide +kernel
theorem dX7_spare_71 : decode cX7_spare 71 = .ok (.aload_n 0, 1) := by decide +kernel
theorem dX7_spare_72 : decode cX7_spare 72 = .ok (.iload_n 1, 1) := by decide +kernel
theorem dX7_spare_73 : decode cX7_spare 73 = .ok (.invokevirtual 76, 3) := by decide +kernel
theorem dX7_spare_76 : decode cX7_spare 76 = .ok (.ifCond .eq 8, 3) := by decide +kernel
theorem dX7_spare_79 : decode cX7_spare 79 = .ok (.bipush (-4), 2) := by decide +kernel
theorem dX7_spare_81 : decode cX7_spare 81 = .ok (.goto 5, 3) := by decide +kernel
theorem dX7_spare_84 : decode cX7_spare 84 = .ok (.iload 4, 2) := by decide +kernel
theorem dX7_spare_86 : decode cX7_spare 86 = .ok (.istore_n 3, 1) := by decide +kernel
theorem dX7_spare_87 : decode cX7_spare 87 = .ok (.aload_n 0, 1) := by decide +kernel
theorem dX7_spare_88 : decode cX7_spare 88 = .ok (.invokevirtual 193, 3) := by decide +kernel
theorem dX7_spare_91 : decode cX7_spare 91 = .ok (.iinc 4 1, 3) := by decide +kernel
theorem dX7_spare_94 : decode cX7_spare 94 = .ok (.goto (-62), 3) := by decide +kernel
theorem dX7_spare_97 : decode cX7_spare 97 = .ok (.iload_n 3, 1) := by decide +kernel
theorem dX7_spare_98 : decode cX7_spare 98 = .ok (.ireturn, 1) := by decide +kernel
theorem dX7_coughs_0 : decode cX7_coughs 0 = .ok (.aload_n 0, 1) := by decide +kernel
theorem dX7_coughs_1 : decode cX7_coughs 1 = .ok (.iload_n 1, 1) := by decide +kernel
theorem dX7_coughs_2 : decode cX7_coughs 2 = .ok (.invokevirtual 120, 3) := by decide +kernel
theorem dX7_coughs_5 : decode cX7_coughs 5 = .ok (.ifCond .eq 51, 3) := by decide +kernel
theorem dX7_coughs_8 : decode cX7_coughs 8 = .ok (.iload_n 2, 1) := by decide +kernel
theorem dX7_coughs_9 : decode cX7_coughs 9 = .ok (.i2l, 1) := by decide +kernel
theorem dX7_coughs_10 : decode cX7_coughs 10 = .ok (.lconst 0, 1) := by decide +kernel
theorem dX7_coughs_11 : decode cX7_coughs 11 = .ok (.ldc2_w 106, 3) := by decide +kernel
theorem dX7_coughs_14 : decode cX7_coughs 14 = .ok (.invokestatic 53, 3) := by decide +kernel
theorem dX7_coughs_17 : decode cX7_coughs 17 = .ok (.ifCond .eq 39, 3) := by decide +kernel
theorem dX7_coughs_20 : decode cX7_coughs 20 = .ok (.iload_n 3, 1) := by decide +kernel
theorem dX7_coughs_21 : decode cX7_coughs 21 = .ok (.i2l, 1) := by decide +kernel
theorem dX7_coughs_22 : decode cX7_coughs 22 = .ok (.lconst 0, 1) := by decide +kernel
theorem dX7_coughs_23 : decode cX7_coughs 23 = .ok (.ldc2_w 222, 3) := by decide +kernel
theorem dX7_coughs_26 : decode cX7_coughs 26 = .ok (.invokestatic 53, 3) := by decide +kernel
theorem dX7_coughs_29 : decode cX7_coughs 29 = .ok (.ifCond .eq 27, 3) := by decide +kernel
theorem dX7_coughs_32 : decode cX7_coughs 32 = .ok (.iload 4, 2) := by decide +kernel
theorem dX7_coughs_34 : decode cX7_coughs 34 = .ok (.i2l, 1) := by decide +kernel
theorem dX7_coughs_35 : decode cX7_coughs 35 = .ok (.lconst 0, 1) := by decide +kernel
theorem dX7_coughs_36 : decode cX7_coughs 36 = .ok (.ldc2_w 224, 3) := by decide +kernel
theorem dX7_coughs_39 : decode cX7_coughs 39 = .ok (.invokestatic 53, 3) := by decide +kernel
theorem dX7_coughs_42 : decode cX7_coughs 42 = .ok (.ifCond .eq 14, 3) := by decide +kernel
theorem dX7_coughs_45 : decode cX7_coughs 45 = .ok (.iload 5, 2) := by decide +kernel
theorem dX7_coughs_47 : decode cX7_coughs 47 = .ok (.i2l, 1) := by decide +kernel
theorem dX7_coughs_48 : decode cX7_coughs 48 = .ok (.lconst 0, 1) := by decide +kernel
theorem dX7_coughs_49 : decode cX7_coughs 49 = .ok (.lconst 1, 1) := by decide +kernel
theorem dX7_coughs_50 : decode cX7_coughs 50 = .ok (.invokestatic 53, 3) := by decide +kernel
theorem dX7_coughs_53 : decode cX7_coughs 53 = .ok (.ifCond .ne 5, 3) := by decide +kernel
theorem dX7_coughs_56 : decode cX7_coughs 56 = .ok (.iconst (-1), 1) := by decide +kernel
theorem dX7_coughs_57 : decode cX7_coughs 57 = .ok (.ireturn, 1) := by decide +kernel
theorem dX7_coughs_58 : decode cX7_coughs 58 = .ok (.iconst 0, 1) := by decide +kernel
theorem dX7_coughs_59 : decode cX7_coughs 59 = .ok (.istore 6, 2) := by decide +kernel
theorem dX7_coughs_61 : decode cX7_coughs 61 = .ok (.iconst 0, 1) := by decide +kernel
theorem dX7_coughs_62 : decode cX7_coughs 62 = .ok (.istore 7, 2) := by decide +kernel
theorem dX7_coughs_64 : decode cX7_coughs 64 = .ok (.aload_n 0, 1) := by decide +kernel
theorem dX7_coughs_65 : decode cX7_coughs 65 = .ok (.invokevirtual 187, 3) := by decide +kernel
theorem dX7_coughs_68 : decode cX7_coughs 68 = .ok (.iconst 0, 1) := by decide +kernel
theorem dX7_coughs_69 : decode cX7_coughs 69 = .ok (.istore 8, 2) := by decide +kernel
theorem dX7_coughs_71 : decode cX7_coughs 71 = .ok (.iload 8, 2) := by decide +kernel
theorem dX7_coughs_73 : decode cX7_coughs 73 = .ok (.iconst 1, 1) := by decide +kernel
theorem dX7_coughs_74 : decode cX7_coughs 74 = .ok (.iload_n 3, 1) := by decide +kernel
theorem dX7_coughs_75 : decode cX7_coughs 75 = .ok (.ishl, 1) := by decide +kernel
theorem dX7_coughs_76 : decode cX7_coughs 76 = .ok (.if_icmp .ge 110, 3) := by decide +kernel
theorem dX7_coughs_79 : decode cX7_coughs 79 = .ok (.iconst 1, 1) := by decide +kernel
theorem dX7_coughs_80 : decode cX7_coughs 80 = .ok (.istore 9, 2) := by decide +kernel
theorem dX7_coughs_82 : decode cX7_coughs 82 = .ok (.iconst 0, 1) := by decide +kernel
theorem dX7_coughs_83 : decode cX7_coughs 83 = .ok (.istore 10, 2) := by decide +kernel
theorem dX7_coughs_85 : decode cX7_coughs 85 = .ok (.iload 10, 2) := by decide +kernel
theorem dX7_coughs_87 : decode cX7_coughs 87 = .ok (.iload_n 3, 1) := by decide +kernel
theorem dX7_coughs_88 : decode cX7_coughs 88 = .ok (.if_icmp .ge 61, 3) := by decide +kernel
theorem dX7_coughs_91 : decode cX7_coughs 91 = .ok (.iload 8, 2) := by decide +kernel
theorem dX7_coughs_93 : decode cX7_coughs 93 = .ok (.iload 10, 2) := by decide +kernel
theorem dX7_coughs_95 : decode cX7_coughs 95 = .ok (.ishr, 1) := by decide +kernel
theorem dX7_coughs_96 : decode cX7_coughs 96 = .ok (.iconst 1, 1) := by decide +kernel
theorem dX7_coughs_97 : decode cX7_coughs 97 = .ok (.iand, 1) := by decide +kernel
theorem dX7_coughs_98 : decode cX7_coughs 98 = .ok (.iconst 1, 1) := by decide +kernel
theorem dX7_coughs_99 : decode cX7_coughs 99 = .ok (.if_icmp .ne 7, 3) := by decide +kernel
theorem dX7_coughs_102 : decode cX7_coughs 102 = .ok (.iconst 1, 1) := by decide +kernel
theorem dX7_coughs_103 : decode cX7_coughs 103 = .ok (.goto 4, 3) := by decide +kernel
theorem dX7_coughs_106 : decode cX7_coughs 106 = .ok (.iconst 0, 1) := by decide +kernel
theorem dX7_coughs_107 : decode cX7_coughs 107 = .ok (.istore 11, 2) := by decide +kernel
theorem dX7_coughs_109 : decode cX7_coughs 109 = .ok (.iload 9, 2) := by decide +kernel
theorem dX7_coughs_111 : decode cX7_coughs 111 = .ok (.iload 11, 2) := by decide +kernel
theorem dX7_coughs_113 : decode cX7_coughs 113 = .ok (.ifCond .eq 8, 3) := by decide +kernel
theorem dX7_coughs_116 : decode cX7_coughs 116 = .ok (.iload 4, 2) := by decide +kernel
theorem dX7_coughs_118 : decode cX7_coughs 118 = .ok (.goto 8, 3) := by decide +kernel
theorem dX7_coughs_121 : decode cX7_coughs 121 = .ok (.bipush 10, 2) := by decide +kernel
theorem dX7_coughs_123 : decode cX7_coughs 123 = .ok (.iload 4, 2) := by decide +kernel
theorem dX7_coughs_125 : decode cX7_coughs 125 = .ok (.isub, 1) := by decide +kernel
theorem dX7_coughs_126 : decode cX7_coughs 126 = .ok (.imul, 1) := by decide +kernel
theorem dX7_coughs_127 : decode cX7_coughs 127 = .ok (.istore 9, 2) := by decide +kernel
theorem dX7_coughs_129 : decode cX7_coughs 129 = .ok (.iload 11, 2) := by decide +kernel
theorem dX7_coughs_131 : decode cX7_coughs 131 = .ok (.ifCond .eq 8, 3) := by decide +kernel
theorem dX7_coughs_134 : decode cX7_coughs 134 = .ok (.aload_n 0, 1) := by decide +kernel
theorem dX7_coughs_135 : decode cX7_coughs 135 = .ok (.iload_n 1, 1) := by decide +kernel
theorem dX7_coughs_136 : decode cX7_coughs 136 = .ok (.invokevirtual 176, 3) := by decide +kernel
theorem dX7_coughs_139 : decode cX7_coughs 139 = .ok (.aload_n 0, 1) := by decide +kernel
theorem dX7_coughs_140 : decode cX7_coughs 140 = .ok (.invokevirtual 97, 3) := by decide +kernel
theorem dX7_coughs_143 : decode cX7_coughs 143 = .ok (.iinc 10 1, 3) := by decide +kernel
theorem dX7_coughs_146 : decode cX7_coughs 146 = .ok (.goto (-61), 3) := by decide +kernel
theorem dX7_coughs_149 : decode cX7_coughs 149 = .ok (.iload 7, 2) := by decide +kernel
theorem dX7_coughs_151 : decode cX7_coughs 151 = .ok (.iload 9, 2) := by decide +kernel
theorem dX7_coughs_153 : decode cX7_coughs 153 = .ok (.iadd, 1) := by decide +kernel
theorem dX7_coughs_154 : decode cX7_coughs 154 = .ok (.istore 7, 2) := by decide +kernel
theorem dX7_coughs_156 : decode cX7_coughs 156 = .ok (.iload 6, 2) := by decide +kernel
theorem dX7_coughs_158 : decode cX7_coughs 158 = .ok (.aload_n 0, 1) := by decide +kernel
theorem dX7_coughs_159 : decode cX7_coughs 159 = .ok (.iload_n 1, 1) := by decide +kernel
theorem dX7_coughs_160 : decode cX7_coughs 160 = .ok (.invokevirtual 63, 3) := by decide +kernel
theorem dX7_coughs_163 : decode cX7_coughs 163 = .ok (.iload_n 2, 1) := by decide +kernel
theorem dX7_coughs_164 : decode cX7_coughs 164 = .ok (.if_icmp .lt 8, 3) := by decide +kernel
theorem dX7_coughs_167 : decode cX7_coughs 167 = .ok (.iload 9, 2) := by decide +kernel
theorem dX7_coughs_169 : decode cX7_coughs 169 = .ok (.goto 4, 3) := by decide +kernel
theorem dX7_coughs_172 : decode cX7_coughs 172 = .ok (.iconst 0, 1) := by decide +kernel
theorem dX7_coughs_173 : decode cX7_coughs 173 = .ok (.iadd, 1) := by decide +kernel
theorem dX7_coughs_174 : decode cX7_coughs 174 = .ok (.istore 6, 2) := by decide +kernel
theorem dX7_coughs_176 : decode cX7_coughs 176 = .ok (.aload_n 0, 1) := by decide +kernel
theorem dX7_coughs_177 : decode cX7_coughs 177 = .ok (.invokevirtual 193, 3) := by decide +kernel
theorem dX7_coughs_180 : decode cX7_coughs 180 = .ok (.iinc 8 1, 3) := by decide +kernel
theorem dX7_coughs_183 : decode cX7_coughs 183 = .ok (.goto (-112), 3) := by decide +kernel
theorem dX7_coughs_186 : decode cX7_coughs 186 = .ok (.iload 6, 2) := by decide +kernel
theorem dX7_coughs_188 : decode cX7_coughs 188 = .ok (.istore 8, 2) := by decide +kernel
theorem dX7_coughs_190 : decode cX7_coughs 190 = .ok (.iload 7, 2) := by decide +kernel
theorem dX7_coughs_192 : decode cX7_coughs 192 = .ok (.istore 9, 2) := by decide +kernel
theorem dX7_coughs_194 : decode cX7_coughs 194 = .ok (.iload 9, 2) := by decide +kernel
theorem dX7_coughs_196 : decode cX7_coughs 196 = .ok (.ifCond .eq 21, 3) := by decide +kernel
theorem dX7_coughs_199 : decode cX7_coughs 199 = .ok (.iload 8, 2) := by decide +kernel
theorem dX7_coughs_201 : decode cX7_coughs 201 = .ok (.iload 9, 2) := by decide +kernel
theorem dX7_coughs_203 : decode cX7_coughs 203 = .ok (.irem, 1) := by decide +kernel
theorem dX7_coughs_204 : decode cX7_coughs 204 = .ok (.istore 10, 2) := by decide +kernel
theorem dX7_coughs_206 : decode cX7_coughs 206 = .ok (.iload 9, 2) := by decide +kernel
theorem dX7_coughs_208 : decode cX7_coughs 208 = .ok (.istore 8, 2) := by decide +kernel
theorem dX7_coughs_210 : decode cX7_coughs 210 = .ok (.iload 10, 2) := by decide +kernel
theorem dX7_coughs_212 : decode cX7_coughs 212 = .ok (.istore 9, 2) := by decide +kernel
theorem dX7_coughs_214 : decode cX7_coughs 214 = .ok (.goto (-20), 3) := by decide +kernel
theorem dX7_coughs_217 : decode cX7_coughs 217 = .ok (.iload 5, 2) := by decide +kernel
theorem dX7_coughs_219 : decode cX7_coughs 219 = .ok (.ifCond .ne 11, 3) := by decide +kernel
theorem dX7_coughs_222 : decode cX7_coughs 222 = .ok (.iload 6, 2) := by decide +kernel
theorem dX7_coughs_224 : decode cX7_coughs 224 = .ok (.iload 8, 2) := by decide +kernel
theorem dX7_coughs_226 : decode cX7_coughs 226 = .ok (.idiv, 1) := by decide +kernel
theorem dX7_coughs_227 : decode cX7_coughs 227 = .ok (.goto 8, 3) := by decide +kernel
theorem dX7_coughs_230 : decode cX7_coughs 230 = .ok (.iload 7, 2) := by decide +kernel
theorem dX7_coughs_232 : decode cX7_coughs 232 = .ok (.iload 8, 2) := by decide +kernel
theorem dX7_coughs_234 : decode cX7_coughs 234 = .ok (.idiv, 1) := by decide +kernel
theorem dX7_coughs_235 : decode cX7_coughs 235 = .ok (.ireturn, 1) := by decide +kernel
theorem dX7_image_0 : decode cX7_image 0 = .ok (.iconst 0, 1) := by decide +kernel
theorem dX7_image_1 : decode cX7_image 1 = .ok (.istore_n 1, 1) := by decide +kernel
theorem dX7_image_2 : decode cX7_image 2 = .ok (.iload_n 1, 1) := by decide +kernel
theorem dX7_image_3 : decode cX7_image 3 = .ok (.bipush 40, 2) := by decide +kernel
theorem dX7_image_5 : decode cX7_image 5 = .ok (.if_icmp .ge 21, 3) := by decide +kernel
theorem dX7_image_8 : decode cX7_image 8 = .ok (.aload_n 0, 1) := by decide +kernel
theorem dX7_image_9 : decode cX7_image 9 = .ok (.getfield 37, 3) := by decide +kernel
theorem dX7_image_12 : decode cX7_image 12 = .ok (.iload_n 1, 1) := by decide +kernel
theorem dX7_image_13 : decode cX7_image 13 = .ok (.aload_n 0, 1) := by decide +kernel
theorem dX7_image_14 : decode cX7_image 14 = .ok (.getfield 7, 3) := by decide +kernel
theorem dX7_image_17 : decode cX7_image 17 = .ok (.iload_n 1, 1) := by decide +kernel
theorem dX7_image_18 : decode cX7_image 18 = .ok (.iaload, 1) := by decide +kernel
theorem dX7_image_19 : decode cX7_image 19 = .ok (.iastore, 1) := by decide +kernel
theorem dX7_image_20 : decode cX7_image 20 = .ok (.iinc 1 1, 3) := by decide +kernel
theorem dX7_image_23 : decode cX7_image 23 = .ok (.goto (-21), 3) := by decide +kernel
theorem dX7_image_26 : decode cX7_image 26 = .ok (.iconst 0, 1) := by decide +kernel
theorem dX7_image_27 : decode cX7_image 27 = .ok (.istore_n 1, 1) := by decide +kernel
theorem dX7_image_28 : decode cX7_image 28 = .ok (.iload_n 1, 1) := by decide +kernel
theorem dX7_image_29 : decode cX7_image 29 = .ok (.bipush 120, 2) := by decide +kernel
theorem dX7_image_31 : decode cX7_image 31 = .ok (.if_icmp .ge 24, 3) := by decide +kernel
theorem dX7_image_34 : decode cX7_image 34 = .ok (.aload_n 0, 1) := by decide +kernel
theorem dX7_image_35 : decode cX7_image 35 = .ok (.getfield 37, 3) := by decide +kernel
theorem dX7_image_38 : decode cX7_image 38 = .ok (.bipush 40, 2) := by decide +kernel
theorem dX7_image_40 : decode cX7_image 40 = .ok (.iload_n 1, 1) := by decide +kernel
theorem dX7_image_41 : decode cX7_image 41 = .ok (.iadd, 1) := by decide +kernel
theorem dX7_image_42 : decode cX7_image 42 = .ok (.aload_n 0, 1) := by decide +kernel
theorem dX7_image_43 : decode cX7_image 43 = .ok (.getfield 25, 3) := by decide +kernel
theorem dX7_image_46 : decode cX7_image 46 = .ok (.iload_n 1, 1) := by decide +kernel
theorem dX7_image_47 : decode cX7_image 47 = .ok (.iaload, 1) := by decide +kernel
theorem dX7_image_48 : decode cX7_image 48 = .ok (.iastore, 1) := by decide +kernel
theorem dX7_image_49 : decode cX7_image 49 = .ok (.iinc 1 1, 3) := by decide +kernel
theorem dX7_image_52 : decode cX7_image 52 = .ok (.goto (-24), 3) := by decide +kernel
theorem dX7_image_55 : decode cX7_image 55 = .ok (.aload_n 0, 1) := by decide +kernel
theorem dX7_image_56 : decode cX7_image 56 = .ok (.aload_n 0, 1) := by decide +kernel
theorem dX7_image_57 : decode cX7_image 57 = .ok (.getfield 100, 3) := by decide +kernel
theorem dX7_image_60 : decode cX7_image 60 = .ok (.putfield 226, 3) := by decide +kernel
theorem dX7_image_63 : decode cX7_image 63 = .ok (.aload_n 0, 1) := by decide +kernel
theorem dX7_image_64 : decode cX7_image 64 = .ok (.iconst 1, 1) := by decide +kernel
theorem dX7_image_65 : decode cX7_image 65 = .ok (.putfield 229, 3) := by decide +kernel
theorem dX7_image_68 : decode cX7_image 68 = .ok (.iconst 1, 1) := by decide +kernel
theorem dX7_image_69 : decode cX7_image 69 = .ok (.ireturn, 1) := by decide +kernel
theorem dX7_restore_0 : decode cX7_restore 0 = .ok (.aload_n 0, 1) := by decide +kernel
theorem dX7_restore_1 : decode cX7_restore 1 = .ok (.getfield 229, 3) := by decide +kernel
theorem dX7_restore_4 : decode cX7_restore 4 = .ok (.ifCond .ne 6, 3) := by decide +kernel
theorem dX7_restore_7 : decode cX7_restore 7 = .ok (.bipush (-4), 2) := by decide +kernel
theorem dX7_restore_9 : decode cX7_restore 9 = .ok (.ireturn, 1) := by decide +kernel
theorem dX7_restore_10 : decode cX7_restore 10 = .ok (.iconst 0, 1) := by decide +kernel
theorem dX7_restore_11 : decode cX7_restore 11 = .ok (.istore_n 1, 1) := by decide +kernel
theorem dX7_restore_12 : decode cX7_restore 12 = .ok (.iload_n 1, 1) := by decide +kernel
theorem dX7_restore_13 : decode cX7_restore 13 = .ok (.bipush 40, 2) := by decide +kernel
theorem dX7_restore_15 : decode cX7_restore 15 = .ok (.if_icmp .ge 21, 3) := by decide +kernel
theorem dX7_restore_18 : decode cX7_restore 18 = .ok (.aload_n 0, 1) := by decide +kernel
theorem dX7_restore_19 : decode cX7_restore 19 = .ok (.getfield 7, 3) := by decide +kernel
theorem dX7_restore_22 : decode cX7_restore 22 = .ok (.iload_n 1, 1) := by decide +kernel
theorem dX7_restore_23 : decode cX7_restore 23 = .ok (.aload_n 0, 1) := by decide +kernel
theorem dX7_restore_24 : decode cX7_restore 24 = .ok (.getfield 37, 3) := by decide +kernel
theorem dX7_restore_27 : decode cX7_restore 27 = .ok (.iload_n 1, 1) := by decide +kernel
theorem dX7_restore_28 : decode cX7_restore 28 = .ok (.iaload, 1) := by decide +kernel
theorem dX7_restore_29 : decode cX7_restore 29 = .ok (.iastore, 1) := by decide +kernel
theorem dX7_restore_30 : decode cX7_restore 30 = .ok (.iinc 1 1, 3) := by decide +kernel
theorem dX7_restore_33 : decode cX7_restore 33 = .ok (.goto (-21), 3) := by decide +kernel
theorem dX7_restore_36 : decode cX7_restore 36 = .ok (.iconst 0, 1) := by decide +kernel
theorem dX7_restore_37 : decode cX7_restore 37 = .ok (.istore_n 1, 1) := by decide +kernel
theorem dX7_restore_38 : decode cX7_restore 38 = .ok (.iload_n 1, 1) := by decide +kernel
theorem dX7_restore_39 : decode cX7_restore 39 = .ok (.bipush 120, 2) := by decide +kernel
theorem dX7_restore_41 : decode cX7_restore 41 = .ok (.if_icmp .ge 24, 3) := by decide +kernel
theorem dX7_restore_44 : decode cX7_restore 44 = .ok (.aload_n 0, 1) := by decide +kernel
theorem dX7_restore_45 : decode cX7_restore 45 = .ok (.getfield 25, 3) := by decide +kernel
theorem dX7_restore_48 : decode cX7_restore 48 = .ok (.iload_n 1, 1) := by decide +kernel
theorem dX7_restore_49 : decode cX7_restore 49 = .ok (.aload_n 0, 1) := by decide +kernel
theorem dX7_restore_50 : decode cX7_restore 50 = .ok (.getfield 37, 3) := by decide +kernel
theorem dX7_restore_53 : decode cX7_restore 53 = .ok (.bipush 40, 2) := by decide +kernel
theorem dX7_restore_55 : decode cX7_restore 55 = .ok (.iload_n 1, 1) := by decide +kernel
theorem dX7_restore_56 : decode cX7_restore 56 = .ok (.iadd, 1) := by decide +kernel
theorem dX7_restore_57 : decode cX7_restore 57 = .ok (.iaload, 1) := by decide +kernel
theorem dX7_restore_58 : decode cX7_restore 58 = .ok (.iastore, 1) := by decide +kernel
theorem dX7_restore_59 : decode cX7_restore 59 = .ok (.iinc 1 1, 3) := by decide +kernel
theorem dX7_restore_62 : decode cX7_restore 62 = .ok (.goto (-24), 3) := by decide +kernel
theorem dX7_restore_65 : decode cX7_restore 65 = .ok (.aload_n 0, 1) := by decide +kernel
theorem dX7_restore_66 : decode cX7_restore 66 = .ok (.aload_n 0, 1) := by decide +kernel
theorem dX7_restore_67 : decode cX7_restore 67 = .ok (.getfield 226, 3) := by decide +kernel
theorem dX7_restore_70 : decode cX7_restore 70 = .ok (.putfield 100, 3) := by decide +kernel
theorem dX7_restore_73 : decode cX7_restore 73 = .ok (.iconst 1, 1) := by decide +kernel
theorem dX7_restore_74 : decode cX7_restore 74 = .ok (.ireturn, 1) := by decide +kernel
theorem dX7_isSheet_0 : decode cX7_isSheet 0 = .ok (.iload_n 0, 1) := by decide +kernel
theorem dX7_isSheet_1 : decode cX7_isSheet 1 = .ok (.i2l, 1) := by decide +kernel
theorem dX7_isSheet_2 : decode cX7_isSheet 2 = .ok (.lconst 0, 1) := by decide +kernel
theorem dX7_isSheet_3 : decode cX7_isSheet 3 = .ok (.ldc2_w 232, 3) := by decide +kernel
theorem dX7_isSheet_6 : decode cX7_isSheet 6 = .ok (.invokestatic 53, 3) := by decide +kernel
theorem dX7_isSheet_9 : decode cX7_isSheet 9 = .ok (.ireturn, 1) := by decide +kernel
theorem dX7_isLane_0 : decode cX7_isLane 0 = .ok (.iload_n 0, 1) := by decide +kernel
theorem dX7_isLane_1 : decode cX7_isLane 1 = .ok (.i2l, 1) := by decide +kernel
theorem dX7_isLane_2 : decode cX7_isLane 2 = .ok (.lconst 0, 1) := by decide +kernel
theorem dX7_isLane_3 : decode cX7_isLane 3 = .ok (.ldc2_w 232, 3) := by decide +kernel
theorem dX7_isLane_6 : decode cX7_isLane 6 = .ok (.invokestatic 53, 3) := by decide +kernel
theorem dX7_isLane_9 : decode cX7_isLane 9 = .ok (.ireturn, 1) := by decide +kernel
theorem dX7_why_0 : decode cX7_why 0 = .ok (.aload_n 0, 1) := by decide +kernel
theorem dX7_why_1 : decode cX7_why 1 = .ok (.getfield 40, 3) := by decide +kernel
theorem dX7_why_4 : decode cX7_why 4 = .ok (.iload_n 1, 1) := by decide +kernel
theorem dX7_why_5 : decode cX7_why 5 = .ok (.iaload, 1) := by decide +kernel
theorem dX7_why_6 : decode cX7_why 6 = .ok (.ifCond .ge 6, 3) := by decide +kernel
theorem dX7_why_9 : decode cX7_why 9 = .ok (.bipush (-11), 2) := by decide +kernel
theorem dX7_why_11 : decode cX7_why 11 = .ok (.ireturn, 1) := by decide +kernel
theorem dX7_why_12 : decode cX7_why 12 = .ok (.aload_n 0, 1) := by decide +kernel
theorem dX7_why_13 : decode cX7_why 13 = .ok (.getfield 40, 3) := by decide +kernel
theorem dX7_why_16 : decode cX7_why 16 = .ok (.iload_n 1, 1) := by decide +kernel
theorem dX7_why_17 : decode cX7_why 17 = .ok (.iaload, 1) := by decide +kernel
theorem dX7_why_18 : decode cX7_why 18 = .ok (.iload_n 2, 1) := by decide +kernel
theorem dX7_why_19 : decode cX7_why 19 = .ok (.if_icmp .eq 6, 3) := by decide +kernel
theorem dX7_why_22 : decode cX7_why 22 = .ok (.bipush (-12), 2) := by decide +kernel
theorem dX7_why_24 : decode cX7_why 24 = .ok (.ireturn, 1) := by decide +kernel
theorem dX7_why_25 : decode cX7_why 25 = .ok (.iload_n 3, 1) := by decide +kernel
theorem dX7_why_26 : decode cX7_why 26 = .ok (.ifCond .lt 25, 3) := by decide +kernel
theorem dX7_why_29 : decode cX7_why 29 = .ok (.iload 4, 2) := by decide +kernel
theorem dX7_why_31 : decode cX7_why 31 = .ok (.ifCond .lt 20, 3) := by decide +kernel
theorem dX7_why_34 : decode cX7_why 34 = .ok (.iload_n 3, 1) := by decide +kernel
theorem dX7_why_35 : decode cX7_why 35 = .ok (.i2l, 1) := by decide +kernel
theorem dX7_why_36 : decode cX7_why 36 = .ok (.iload 4, 2) := by decide +kernel
theorem dX7_why_38 : decode cX7_why 38 = .ok (.i2l, 1) := by decide +kernel
theorem dX7_why_39 : decode cX7_why 39 = .ok (.ladd, 1) := by decide +kernel
theorem dX7_why_40 : decode cX7_why 40 = .ok (.aload_n 0, 1) := by decide +kernel
theorem dX7_why_41 : decode cX7_why 41 = .ok (.getfield 43, 3) := by decide +kernel
theorem dX7_why_44 : decode cX7_why 44 = .ok (.iload_n 1, 1) := by decide +kernel
theorem dX7_why_45 : decode cX7_why 45 = .ok (.iaload, 1) := by decide +kernel
theorem dX7_why_46 : decode cX7_why 46 = .ok (.i2l, 1) := by decide +kernel
theorem dX7_why_47 : decode cX7_why 47 = .ok (.lcmp, 1) := by decide +kernel
theorem dX7_why_48 : decode cX7_why 48 = .ok (.ifCond .le 8, 3) := by decide +kernel
theorem dX7_why_51 : decode cX7_why 51 = .ok (.bipush (-13), 2) := by decide +kernel
theorem dX7_why_53 : decode cX7_why 53 = .ok (.goto 4, 3) := by decide +kernel
theorem dX7_why_56 : decode cX7_why 56 = .ok (.iconst 0, 1) := by decide +kernel
theorem dX7_why_57 : decode cX7_why 57 = .ok (.ireturn, 1) := by decide +kernel
theorem dX7_isSo_0 : decode cX7_isSo 0 = .ok (.iconst 1, 1) := by decide +kernel
theorem dX7_isSo_1 : decode cX7_isSo 1 = .ok (.istore 4, 2) := by decide +kernel
theorem dX7_isSo_3 : decode cX7_isSo 3 = .ok (.iconst 0, 1) := by decide +kernel
theorem dX7_isSo_4 : decode cX7_isSo 4 = .ok (.istore 5, 2) := by decide +kernel
theorem dX7_isSo_6 : decode cX7_isSo 6 = .ok (.iload 5, 2) := by decide +kernel
theorem dX7_isSo_8 : decode cX7_isSo 8 = .ok (.iload_n 3, 1) := by decide +kernel
theorem dX7_isSo_9 : decode cX7_isSo 9 = .ok (.if_icmp .ge 44, 3) := by decide +kernel
theorem dX7_isSo_12 : decode cX7_isSo 12 = .ok (.aload_n 0, 1) := by decide +kernel
theorem dX7_isSo_13 : decode cX7_isSo 13 = .ok (.invokevirtual 97, 3) := by decide +kernel
theorem dX7_isSo_16 : decode cX7_isSo 16 = .ok (.iload 4, 2) := by decide +kernel
theorem dX7_isSo_18 : decode cX7_isSo 18 = .ok (.ifCond .eq 26, 3) := by decide +kernel
theorem dX7_isSo_21 : decode cX7_isSo 21 = .ok (.aload_n 0, 1) := by decide +kernel
theorem dX7_isSo_22 : decode cX7_isSo 22 = .ok (.iload_n 1, 1) := by decide +kernel
theorem dX7_isSo_23 : decode cX7_isSo 23 = .ok (.invokevirtual 63, 3) := by decide +kernel
theorem dX7_isSo_26 : decode cX7_isSo 26 = .ok (.i2l, 1) := by decide +kernel
theorem dX7_isSo_27 : decode cX7_isSo 27 = .ok (.aload_n 0, 1) := by decide +kernel
theorem dX7_isSo_28 : decode cX7_isSo 28 = .ok (.getfield 46, 3) := by decide +kernel
theorem dX7_isSo_31 : decode cX7_isSo 31 = .ok (.iload_n 2, 1) := by decide +kernel
theorem dX7_isSo_32 : decode cX7_isSo 32 = .ok (.iload 5, 2) := by decide +kernel
theorem dX7_isSo_34 : decode cX7_isSo 34 = .ok (.iadd, 1) := by decide +kernel
theorem dX7_isSo_35 : decode cX7_isSo 35 = .ok (.laload, 1) := by decide +kernel
theorem dX7_isSo_36 : decode cX7_isSo 36 = .ok (.lcmp, 1) := by decide +kernel
theorem dX7_isSo_37 : decode cX7_isSo 37 = .ok (.ifCond .ne 7, 3) := by decide +kernel
theorem dX7_isSo_40 : decode cX7_isSo 40 = .ok (.iconst 1, 1) := by decide +kernel
theorem dX7_isSo_41 : decode cX7_isSo 41 = .ok (.goto 4, 3) := by decide +kernel
theorem dX7_isSo_44 : decode cX7_isSo 44 = .ok (.iconst 0, 1) := by decide +kernel
theorem dX7_isSo_45 : decode cX7_isSo 45 = .ok (.istore 4, 2) := by decide +kernel
theorem dX7_isSo_47 : decode cX7_isSo 47 = .ok (.iinc 5 1, 3) := by decide +kernel
theorem dX7_isSo_50 : decode cX7_isSo 50 = .ok (.goto (-44), 3) := by decide +kernel
theorem dX7_isSo_53 : decode cX7_isSo 53 = .ok (.aload_n 0, 1) := by decide +kernel
theorem dX7_isSo_54 : decode cX7_isSo 54 = .ok (.invokevirtual 193, 3) := by decide +kernel
theorem dX7_isSo_57 : decode cX7_isSo 57 = .ok (.iload 4, 2) := by decide +kernel
theorem dX7_isSo_59 : decode cX7_isSo 59 = .ok (.ireturn, 1) := by decide +kernel
theorem dX7_looks_0 : decode cX7_looks 0 = .ok (.aload_n 0, 1) := by decide +kernel
theorem dX7_looks_1 : decode cX7_looks 1 = .ok (.iload_n 1, 1) := by decide +kernel
theorem dX7_looks_2 : decode cX7_looks 2 = .ok (.invokevirtual 120, 3) := by decide +kernel
theorem dX7_looks_5 : decode cX7_looks 5 = .ok (.ifCond .eq 43, 3) := by decide +kernel
theorem dX7_looks_8 : decode cX7_looks 8 = .ok (.iload_n 2, 1) := by decide +kernel
theorem dX7_looks_9 : decode cX7_looks 9 = .ok (.invokestatic 234, 3) := by decide +kernel
theorem dX7_looks_12 : decode cX7_looks 12 = .ok (.ifCond .eq 36, 3) := by decide +kernel
theorem dX7_looks_15 : decode cX7_looks 15 = .ok (.iload_n 3, 1) := by decide +kernel
theorem dX7_looks_16 : decode cX7_looks 16 = .ok (.invokestatic 237, 3) := by decide +kernel
theorem dX7_looks_19 : decode cX7_looks 19 = .ok (.ifCond .eq 29, 3) := by decide +kernel
theorem dX7_looks_22 : decode cX7_looks 22 = .ok (.iload 5, 2) := by decide +kernel
theorem dX7_looks_24 : decode cX7_looks 24 = .ok (.i2l, 1) := by decide +kernel
theorem dX7_looks_25 : decode cX7_looks 25 = .ok (.lconst 1, 1) := by decide +kernel
theorem dX7_looks_26 : decode cX7_looks 26 = .ok (.ldc2_w 240, 3) := by decide +kernel
theorem dX7_looks_29 : decode cX7_looks 29 = .ok (.invokestatic 53, 3) := by decide +kernel
theorem dX7_looks_32 : decode cX7_looks 32 = .ok (.ifCond .eq 16, 3) := by decide +kernel
theorem dX7_looks_35 : decode cX7_looks 35 = .ok (.iload 6, 2) := by decide +kernel
theorem dX7_looks_37 : decode cX7_looks 37 = .ok (.i2l, 1) := by decide +kernel
theorem dX7_looks_38 : decode cX7_looks 38 = .ok (.lconst 0, 1) := by decide +kernel
theorem dX7_looks_39 : decode cX7_looks 39 = .ok (.ldc2_w 123, 3) := by decide +kernel
theorem dX7_looks_42 : decode cX7_looks 42 = .ok (.invokestatic 53, 3) := by decide +kernel
theorem dX7_looks_45 : decode cX7_looks 45 = .ok (.ifCond .ne 5, 3) := by decide +kernel
theorem dX7_looks_48 : decode cX7_looks 48 = .ok (.iconst (-1), 1) := by decide +kernel
theorem dX7_looks_49 : decode cX7_looks 49 = .ok (.ireturn, 1) := by decide +kernel
theorem dX7_looks_50 : decode cX7_looks 50 = .ok (.aload_n 0, 1) := by decide +kernel
theorem dX7_looks_51 : decode cX7_looks 51 = .ok (.iload_n 2, 1) := by decide +kernel
theorem dX7_looks_52 : decode cX7_looks 52 = .ok (.iload_n 3, 1) := by decide +kernel
theorem dX7_looks_53 : decode cX7_looks 53 = .ok (.iload 4, 2) := by decide +kernel
theorem dX7_looks_55 : decode cX7_looks 55 = .ok (.iload 5, 2) := by decide +kernel
theorem dX7_looks_57 : decode cX7_looks 57 = .ok (.invokevirtual 242, 3) := by decide +kernel
theorem dX7_looks_60 : decode cX7_looks 60 = .ok (.istore 7, 2) := by decide +kernel
theorem dX7_looks_62 : decode cX7_looks 62 = .ok (.iload 7, 2) := by decide +kernel
theorem dX7_looks_64 : decode cX7_looks 64 = .ok (.ifCond .ge 6, 3) := by decide +kernel
theorem dX7_looks_67 : decode cX7_looks 67 = .ok (.iload 7, 2) := by decide +kernel
theorem dX7_looks_69 : decode cX7_looks 69 = .ok (.ireturn, 1) := by decide +kernel
theorem dX7_looks_70 : decode cX7_looks 70 = .ok (.iconst 0, 1) := by decide +kernel
theorem dX7_looks_71 : decode cX7_looks 71 = .ok (.istore 8, 2) := by decide +kernel
theorem dX7_looks_73 : decode cX7_looks 73 = .ok (.iconst 0, 1) := by decide +kernel
theorem dX7_looks_74 : decode cX7_looks 74 = .ok (.istore 9, 2) := by decide +kernel
theorem dX7_looks_76 : decode cX7_looks 76 = .ok (.bipush (-4), 2) := by decide +kernel
theorem dX7_looks_78 : decode cX7_looks 78 = .ok (.istore 10, 2) := by decide +kernel
theorem dX7_looks_80 : decode cX7_looks 80 = .ok (.iconst 4, 1) := by decide +kernel
theorem dX7_looks_81 : decode cX7_looks 81 = .ok (.iconst 4, 1) := by decide +kernel
theorem dX7_looks_82 : decode cX7_looks 82 = .ok (.iload_n 1, 1) := by decide +kernel
theorem dX7_looks_83 : decode cX7_looks 83 = .ok (.imul, 1) := by decide +kernel
theorem dX7_looks_84 : decode cX7_looks 84 = .ok (.iadd, 1) := by decide +kernel
theorem dX7_looks_85 : decode cX7_looks 85 = .ok (.istore 11, 2) := by decide +kernel
theorem dX7_looks_87 : decode cX7_looks 87 = .ok (.aload_n 0, 1) := by decide +kernel
theorem dX7_looks_88 : decode cX7_looks 88 = .ok (.invokevirtual 187, 3) := by decide +kernel
theorem dX7_looks_91 : decode cX7_looks 91 = .ok (.iconst 0, 1) := by decide +kernel
theorem dX7_looks_92 : decode cX7_looks 92 = .ok (.istore 12, 2) := by decide +kernel
theorem dX7_looks_94 : decode cX7_looks 94 = .ok (.iload 12, 2) := by decide +kernel
theorem dX7_looks_96 : decode cX7_looks 96 = .ok (.iload 6, 2) := by decide +kernel
theorem dX7_looks_98 : decode cX7_looks 98 = .ok (.ifCond .ne 7, 3) := by decide +kernel
theorem dX7_looks_101 : decode cX7_looks 101 = .ok (.iconst 5, 1) := by decide +kernel
theorem dX7_looks_102 : decode cX7_looks 102 = .ok (.goto 5, 3) := by decide +kernel
theorem dX7_looks_105 : decode cX7_looks 105 = .ok (.bipush 100, 2) := by decide +kernel
theorem dX7_looks_107 : decode cX7_looks 107 = .ok (.if_icmp .ge 103, 3) := by decide +kernel
theorem dX7_looks_110 : decode cX7_looks 110 = .ok (.aload_n 0, 1) := by decide +kernel
theorem dX7_looks_111 : decode cX7_looks 111 = .ok (.getfield 7, 3) := by decide +kernel
theorem dX7_looks_114 : decode cX7_looks 114 = .ok (.iload 6, 2) := by decide +kernel
theorem dX7_looks_116 : decode cX7_looks 116 = .ok (.ifCond .ne 8, 3) := by decide +kernel
theorem dX7_looks_119 : decode cX7_looks 119 = .ok (.iload 11, 2) := by decide +kernel
theorem dX7_looks_121 : decode cX7_looks 121 = .ok (.goto 7, 3) := by decide +kernel
theorem dX7_looks_124 : decode cX7_looks 124 = .ok (.iload 11, 2) := by decide +kernel
theorem dX7_looks_126 : decode cX7_looks 126 = .ok (.iconst 1, 1) := by decide +kernel
theorem dX7_looks_127 : decode cX7_looks 127 = .ok (.iadd, 1) := by decide +kernel
theorem dX7_looks_128 : decode cX7_looks 128 = .ok (.iload 12, 2) := by decide +kernel
theorem dX7_looks_130 : decode cX7_looks 130 = .ok (.iastore, 1) := by decide +kernel
theorem dX7_looks_131 : decode cX7_looks 131 = .ok (.aload_n 0, 1) := by decide +kernel
theorem dX7_looks_132 : decode cX7_looks 132 = .ok (.iload_n 1, 1) := by decide +kernel
theorem dX7_looks_133 : decode cX7_looks 133 = .ok (.bipush 24, 2) := by decide +kernel
theorem dX7_looks_135 : decode cX7_looks 135 = .ok (.iload_n 2, 1) := by decide +kernel
theorem dX7_looks_136 : decode cX7_looks 136 = .ok (.imul, 1) := by decide +kernel
theorem dX7_looks_137 : decode cX7_looks 137 = .ok (.iload 4, 2) := by decide +kernel
theorem dX7_looks_139 : decode cX7_looks 139 = .ok (.iadd, 1) := by decide +kernel
theorem dX7_looks_140 : decode cX7_looks 140 = .ok (.iload 5, 2) := by decide +kernel
theorem dX7_looks_142 : decode cX7_looks 142 = .ok (.invokevirtual 246, 3) := by decide +kernel
theorem dX7_looks_145 : decode cX7_looks 145 = .ok (.istore 13, 2) := by decide +kernel
theorem dX7_looks_147 : decode cX7_looks 147 = .ok (.iload 8, 2) := by decide +kernel
theorem dX7_looks_149 : decode cX7_looks 149 = .ok (.iload 13, 2) := by decide +kernel
theorem dX7_looks_151 : decode cX7_looks 151 = .ok (.ifCond .eq 15, 3) := by decide +kernel
theorem dX7_looks_154 : decode cX7_looks 154 = .ok (.iload 6, 2) := by decide +kernel
theorem dX7_looks_156 : decode cX7_looks 156 = .ok (.ifCond .ne 10, 3) := by decide +kernel
theorem dX7_looks_159 : decode cX7_looks 159 = .ok (.iconst 1, 1) := by decide +kernel
theorem dX7_looks_160 : decode cX7_looks 160 = .ok (.iload 12, 2) := by decide +kernel
theorem dX7_looks_162 : decode cX7_looks 162 = .ok (.ishl, 1) := by decide +kernel
theorem dX7_looks_163 : decode cX7_looks 163 = .ok (.goto 4, 3) := by decide +kernel
theorem dX7_looks_166 : decode cX7_looks 166 = .ok (.iconst 0, 1) := by decide +kernel
theorem dX7_looks_167 : decode cX7_looks 167 = .ok (.ior, 1) := by decide +kernel
theorem dX7_looks_168 : decode cX7_looks 168 = .ok (.istore 8, 2) := by decide +kernel
theorem dX7_looks_170 : decode cX7_looks 170 = .ok (.iload 13, 2) := by decide +kernel
theorem dX7_looks_172 : decode cX7_looks 172 = .ok (.ifCond .eq 13, 3) := by decide +kernel
theorem dX7_looks_175 : decode cX7_looks 175 = .ok (.iload 9, 2) := by decide +kernel
theorem dX7_looks_177 : decode cX7_looks 177 = .ok (.ifCond .ne 8, 3) := by decide +kernel
theorem dX7_looks_180 : decode cX7_looks 180 = .ok (.iload 12, 2) := by decide +kernel
theorem dX7_looks_182 : decode cX7_looks 182 = .ok (.goto 5, 3) := by decide +kernel
theorem dX7_looks_185 : decode cX7_looks 185 = .ok (.iload 10, 2) := by decide +kernel
theorem dX7_looks_187 : decode cX7_looks 187 = .ok (.istore 10, 2) := by decide +kernel
theorem dX7_looks_189 : decode cX7_looks 189 = .ok (.iload 9, 2) := by decide +kernel
theorem dX7_looks_191 : decode cX7_looks 191 = .ok (.iload 13, 2) := by decide +kernel
theorem dX7_looks_193 : decode cX7_looks 193 = .ok (.ifCond .eq 7, 3) := by decide +kernel
theorem dX7_looks_196 : decode cX7_looks 196 = .ok (.iconst 1, 1) := by decide +kernel
theorem dX7_looks_197 : decode cX7_looks 197 = .ok (.goto 4, 3) := by decide +kernel
theorem dX7_looks_200 : decode cX7_looks 200 = .ok (.iconst 0, 1) := by decide +kernel
theorem dX7_looks_201 : decode cX7_looks 201 = .ok (.iadd, 1) := by decide +kernel
theorem dX7_looks_202 : decode cX7_looks 202 = .ok (.istore 9, 2) := by decide +kernel
theorem dX7_looks_204 : decode cX7_looks 204 = .ok (.iinc 12 1, 3) := by decide +kernel
theorem dX7_looks_207 : decode cX7_looks 207 = .ok (.goto (-113), 3) := by decide +kernel
theorem dX7_looks_210 : decode cX7_looks 210 = .ok (.iload 6, 2) := by decide +kernel
theorem dX7_looks_212 : decode cX7_looks 212 = .ok (.ifCond .ne 8, 3) := by decide +kernel
theorem dX7_looks_215 : decode cX7_looks 215 = .ok (.iload 8, 2) := by decide +kernel
theorem dX7_looks_217 : decode cX7_looks 217 = .ok (.goto 16, 3) := by decide +kernel
theorem dX7_looks_220 : decode cX7_looks 220 = .ok (.iload 6, 2) := by decide +kernel
theorem dX7_looks_222 : decode cX7_looks 222 = .ok (.iconst 1, 1) := by decide +kernel
theorem dX7_looks_223 : decode cX7_looks 223 = .ok (.if_icmp .ne 8, 3) := by decide +kernel
theorem dX7_looks_226 : decode cX7_looks 226 = .ok (.iload 9, 2) := by decide +kernel
theorem dX7_looks_228 : decode cX7_looks 228 = .ok (.goto 5, 3) := by decide +kernel
theorem dX7_looks_231 : decode cX7_looks 231 = .ok (.iload 10, 2) := by decide +kernel
theorem dX7_looks_233 : decode cX7_looks 233 = .ok (.ireturn, 1) := by decide +kernel
theorem dX7_film_0 : decode cX7_film 0 = .ok (.aload_n 0, 1) := by decide +kernel
theorem dX7_film_1 : decode cX7_film 1 = .ok (.iload_n 1, 1) := by decide +kernel
theorem dX7_film_2 : decode cX7_film 2 = .ok (.invokevirtual 120, 3) := by decide +kernel
theorem dX7_film_5 : decode cX7_film 5 = .ok (.ifCond .eq 30, 3) := by decide +kernel
theorem dX7_film_8 : decode cX7_film 8 = .ok (.iload_n 2, 1) := by decide +kernel
theorem dX7_film_9 : decode cX7_film 9 = .ok (.i2l, 1) := by decide +kernel
theorem dX7_film_10 : decode cX7_film 10 = .ok (.lconst 1, 1) := by decide +kernel
theorem dX7_film_11 : decode cX7_film 11 = .ok (.ldc2_w 250, 3) := by decide +kernel
theorem dX7_film_14 : decode cX7_film 14 = .ok (.invokestatic 53, 3) := by decide +kernel
theorem dX7_film_17 : decode cX7_film 17 = .ok (.ifCond .eq 18, 3) := by decide +kernel
theorem dX7_film_20 : decode cX7_film 20 = .ok (.iload_n 3, 1) := by decide +kernel
theorem dX7_film_21 : decode cX7_film 21 = .ok (.invokestatic 234, 3) := by decide +kernel
theorem dX7_film_24 : decode cX7_film 24 = .ok (.ifCond .eq 11, 3) := by decide +kernel
theorem dX7_film_27 : decode cX7_film 27 = .ok (.iload 4, 2) := by decide +kernel
theorem dX7_film_29 : decode cX7_film 29 = .ok (.invokestatic 237, 3) := by decide +kernel
theorem dX7_film_32 : decode cX7_film 32 = .ok (.ifCond .ne 5, 3) := by decide +kernel
theorem dX7_film_35 : decode cX7_film 35 = .ok (.iconst (-1), 1) := by decide +kernel
theorem dX7_film_36 : decode cX7_film 36 = .ok (.ireturn, 1) := by decide +kernel
theorem dX7_film_37 : decode cX7_film 37 = .ok (.aload_n 0, 1) := by decide +kernel
theorem dX7_film_38 : decode cX7_film 38 = .ok (.iload_n 3, 1) := by decide +kernel
theorem dX7_film_39 : decode cX7_film 39 = .ok (.iload 4, 2) := by decide +kernel
theorem dX7_film_41 : decode cX7_film 41 = .ok (.iload 5, 2) := by decide +kernel
theorem dX7_film_43 : decode cX7_film 43 = .ok (.iload_n 2, 1) := by decide +kernel
theorem dX7_film_44 : decode cX7_film 44 = .ok (.invokevirtual 242, 3) := by decide +kernel
theorem dX7_film_47 : decode cX7_film 47 = .ok (.istore 6, 2) := by decide +kernel
theorem dX7_film_49 : decode cX7_film 49 = .ok (.iload 6, 2) := by decide +kernel
theorem dX7_film_51 : decode cX7_film 51 = .ok (.ifCond .ge 6, 3) := by decide +kernel
theorem dX7_film_54 : decode cX7_film 54 = .ok (.iload 6, 2) := by decide +kernel
theorem dX7_film_56 : decode cX7_film 56 = .ok (.ireturn, 1) := by decide +kernel
theorem dX7_film_57 : decode cX7_film 57 = .ok (.aload_n 0, 1) := by decide +kernel
theorem dX7_film_58 : decode cX7_film 58 = .ok (.invokevirtual 187, 3) := by decide +kernel
theorem dX7_film_61 : decode cX7_film 61 = .ok (.iconst 0, 1) := by decide +kernel
theorem dX7_film_62 : decode cX7_film 62 = .ok (.istore 7, 2) := by decide +kernel
theorem dX7_film_64 : decode cX7_film 64 = .ok (.iload 7, 2) := by decide +kernel
theorem dX7_film_66 : decode cX7_film 66 = .ok (.iload_n 2, 1) := by decide +kernel
theorem dX7_film_67 : decode cX7_film 67 = .ok (.if_icmp .ge 34, 3) := by decide +kernel
theorem dX7_film_70 : decode cX7_film 70 = .ok (.aload_n 0, 1) := by decide +kernel
theorem dX7_film_71 : decode cX7_film 71 = .ok (.invokevirtual 97, 3) := by decide +kernel
theorem dX7_film_74 : decode cX7_film 74 = .ok (.aload_n 0, 1) := by decide +kernel
theorem dX7_film_75 : decode cX7_film 75 = .ok (.getfield 46, 3) := by decide +kernel
theorem dX7_film_78 : decode cX7_film 78 = .ok (.bipush 24, 2) := by decide +kernel
theorem dX7_film_80 : decode cX7_film 80 = .ok (.iload_n 3, 1) := by decide +kernel
theorem dX7_film_81 : decode cX7_film 81 = .ok (.imul, 1) := by decide +kernel
theorem dX7_film_82 : decode cX7_film 82 = .ok (.iload 5, 2) := by decide +kernel
theorem dX7_film_84 : decode cX7_film 84 = .ok (.iadd, 1) := by decide +kernel
theorem dX7_film_85 : decode cX7_film 85 = .ok (.iload 7, 2) := by decide +kernel
theorem dX7_film_87 : decode cX7_film 87 = .ok (.iadd, 1) := by decide +kernel
theorem dX7_film_88 : decode cX7_film 88 = .ok (.aload_n 0, 1) := by decide +kernel
theorem dX7_film_89 : decode cX7_film 89 = .ok (.iload_n 1, 1) := by decide +kernel
theorem dX7_film_90 : decode cX7_film 90 = .ok (.invokevirtual 63, 3) := by decide +kernel
theorem dX7_film_93 : decode cX7_film 93 = .ok (.i2l, 1) := by decide +kernel
theorem dX7_film_94 : decode cX7_film 94 = .ok (.lastore, 1) := by decide +kernel
theorem dX7_film_95 : decode cX7_film 95 = .ok (.iinc 7 1, 3) := by decide +kernel
theorem dX7_film_98 : decode cX7_film 98 = .ok (.goto (-34), 3) := by decide +kernel
theorem dX7_film_101 : decode cX7_film 101 = .ok (.aload_n 0, 1) := by decide +kernel
theorem dX7_film_102 : decode cX7_film 102 = .ok (.invokevirtual 193, 3) := by decide +kernel
theorem dX7_film_105 : decode cX7_film 105 = .ok (.iload_n 2, 1) := by decide +kernel
theorem dX7_film_106 : decode cX7_film 106 = .ok (.ireturn, 1) := by decide +kernel
theorem dX7_sheet_0 : decode cX7_sheet 0 = .ok (.iload_n 1, 1) := by decide +kernel
theorem dX7_sheet_1 : decode cX7_sheet 1 = .ok (.invokestatic 234, 3) := by decide +kernel
theorem dX7_sheet_4 : decode cX7_sheet 4 = .ok (.ifCond .eq 16, 3) := by decide +kernel
theorem dX7_sheet_7 : decode cX7_sheet 7 = .ok (.iload_n 2, 1) := by decide +kernel
theorem dX7_sheet_8 : decode cX7_sheet 8 = .ok (.invokestatic 237, 3) := by decide +kernel
theorem dX7_sheet_11 : decode cX7_sheet 11 = .ok (.ifCond .eq 9, 3) := by decide +kernel
theorem dX7_sheet_14 : decode cX7_sheet 14 = .ok (.iload_n 3, 1) := by decide +kernel
theorem dX7_sheet_15 : decode cX7_sheet 15 = .ok (.bipush 24, 2) := by decide +kernel
theorem dX7_sheet_17 : decode cX7_sheet 17 = .ok (.if_icmp .le 5, 3) := by decide +kernel
theorem dX7_sheet_20 : decode cX7_sheet 20 = .ok (.iconst (-1), 1) := by decide +kernel
theorem dX7_sheet_21 : decode cX7_sheet 21 = .ok (.ireturn, 1) := by decide +kernel
theorem dX7_sheet_22 : decode cX7_sheet 22 = .ok (.iload_n 3, 1) := by decide +kernel
theorem dX7_sheet_23 : decode cX7_sheet 23 = .ok (.ifCond .ge 6, 3) := by decide +kernel
theorem dX7_sheet_26 : decode cX7_sheet 26 = .ok (.bipush (-14), 2) := by decide +kernel
theorem dX7_sheet_28 : decode cX7_sheet 28 = .ok (.ireturn, 1) := by decide +kernel
theorem dX7_sheet_29 : decode cX7_sheet 29 = .ok (.aload_n 0, 1) := by decide +kernel
theorem dX7_sheet_30 : decode cX7_sheet 30 = .ok (.getfield 40, 3) := by decide +kernel
theorem dX7_sheet_33 : decode cX7_sheet 33 = .ok (.iload_n 1, 1) := by decide +kernel
theorem dX7_sheet_34 : decode cX7_sheet 34 = .ok (.iload_n 2, 1) := by decide +kernel
theorem dX7_sheet_35 : decode cX7_sheet 35 = .ok (.iastore, 1) := by decide +kernel
theorem dX7_sheet_36 : decode cX7_sheet 36 = .ok (.aload_n 0, 1) := by decide +kernel
theorem dX7_sheet_37 : decode cX7_sheet 37 = .ok (.getfield 43, 3) := by decide +kernel
theorem dX7_sheet_40 : decode cX7_sheet 40 = .ok (.iload_n 1, 1) := by decide +kernel
theorem dX7_sheet_41 : decode cX7_sheet 41 = .ok (.iload_n 3, 1) := by decide +kernel
theorem dX7_sheet_42 : decode cX7_sheet 42 = .ok (.iastore, 1) := by decide +kernel
theorem dX7_sheet_43 : decode cX7_sheet 43 = .ok (.iconst 0, 1) := by decide +kernel
theorem dX7_sheet_44 : decode cX7_sheet 44 = .ok (.istore 4, 2) := by decide +kernel
theorem dX7_sheet_46 : decode cX7_sheet 46 = .ok (.iload 4, 2) := by decide +kernel
theorem dX7_sheet_48 : decode cX7_sheet 48 = .ok (.bipush 24, 2) := by decide +kernel
theorem dX7_sheet_50 : decode cX7_sheet 50 = .ok (.if_icmp .ge 22, 3) := by decide +kernel
theorem dX7_sheet_53 : decode cX7_sheet 53 = .ok (.aload_n 0, 1) := by decide +kernel
theorem dX7_sheet_54 : decode cX7_sheet 54 = .ok (.getfield 46, 3) := by decide +kernel
theorem dX7_sheet_57 : decode cX7_sheet 57 = .ok (.bipush 24, 2) := by decide +kernel
theorem dX7_sheet_59 : decode cX7_sheet 59 = .ok (.iload_n 1, 1) := by decide +kernel
theorem dX7_sheet_60 : decode cX7_sheet 60 = .ok (.imul, 1) := by decide +kernel
theorem dX7_sheet_61 : decode cX7_sheet 61 = .ok (.iload 4, 2) := by decide +kernel
theorem dX7_sheet_63 : decode cX7_sheet 63 = .ok (.iadd, 1) := by decide +kernel
theorem dX7_sheet_64 : decode cX7_sheet 64 = .ok (.lconst 0, 1) := by decide +kernel
theorem dX7_sheet_65 : decode cX7_sheet 65 = .ok (.lastore, 1) := by decide +kernel
theorem dX7_sheet_66 : decode cX7_sheet 66 = .ok (.iinc 4 1, 3) := by decide +kernel
theorem dX7_sheet_69 : decode cX7_sheet 69 = .ok (.goto (-23), 3) := by decide +kernel
theorem dX7_sheet_72 : decode cX7_sheet 72 = .ok (.iload_n 3, 1) := by decide +kernel
theorem dX7_sheet_73 : decode cX7_sheet 73 = .ok (.ireturn, 1) := by decide +kernel
theorem dX7_drop_0 : decode cX7_drop 0 = .ok (.iload_n 1, 1) := by decide +kernel
theorem dX7_drop_1 : decode cX7_drop 1 = .ok (.invokestatic 234, 3) := by decide +kernel
theorem dX7_drop_4 : decode cX7_drop 4 = .ok (.ifCond .ne 5, 3) := by decide +kernel
theorem dX7_drop_7 : decode cX7_drop 7 = .ok (.iconst (-1), 1) := by decide +kernel
theorem dX7_drop_8 : decode cX7_drop 8 = .ok (.ireturn, 1) := by decide +kernel
theorem dX7_drop_9 : decode cX7_drop 9 = .ok (.aload_n 0, 1) := by decide +kernel
theorem dX7_drop_10 : decode cX7_drop 10 = .ok (.getfield 40, 3) := by decide +kernel
theorem dX7_drop_13 : decode cX7_drop 13 = .ok (.iload_n 1, 1) := by decide +kernel
theorem dX7_drop_14 : decode cX7_drop 14 = .ok (.iaload, 1) := by decide +kernel
theorem dX7_drop_15 : decode cX7_drop 15 = .ok (.ifCond .ge 6, 3) := by decide +kernel
theorem dX7_drop_18 : decode cX7_drop 18 = .ok (.bipush (-11), 2) := by decide +kernel
theorem dX7_drop_20 : decode cX7_drop 20 = .ok (.ireturn, 1) := by decide +kernel
theorem dX7_drop_21 : decode cX7_drop 21 = .ok (.aload_n 0, 1) := by decide +kernel
theorem dX7_drop_22 : decode cX7_drop 22 = .ok (.getfield 40, 3) := by decide +kernel
theorem dX7_drop_25 : decode cX7_drop 25 = .ok (.iload_n 1, 1) := by decide +kernel
theorem dX7_drop_26 : decode cX7_drop 26 = .ok (.iconst (-1), 1) := by decide +kernel
theorem dX7_drop_27 : decode cX7_drop 27 = .ok (.iastore, 1) := by decide +kernel
theorem dX7_drop_28 : decode cX7_drop 28 = .ok (.aload_n 0, 1) := by decide +kernel
theorem dX7_drop_29 : decode cX7_drop 29 = .ok (.getfield 43, 3) := by decide +kernel
theorem dX7_drop_32 : decode cX7_drop 32 = .ok (.iload_n 1, 1) := by decide +kernel
theorem dX7_drop_33 : decode cX7_drop 33 = .ok (.iaload, 1) := by decide +kernel
theorem dX7_drop_34 : decode cX7_drop 34 = .ok (.ireturn, 1) := by decide +kernel
theorem dX7_item_0 : decode cX7_item 0 = .ok (.iload_n 1, 1) := by decide +kernel
theorem dX7_item_1 : decode cX7_item 1 = .ok (.invokestatic 234, 3) := by decide +kernel
theorem dX7_item_4 : decode cX7_item 4 = .ok (.ifCond .eq 10, 3) := by decide +kernel
theorem dX7_item_7 : decode cX7_item 7 = .ok (.iload_n 2, 1) := by decide +kernel
theorem dX7_item_8 : decode cX7_item 8 = .ok (.invokestatic 237, 3) := by decide +kernel
theorem dX7_item_11 : decode cX7_item 11 = .ok (.ifCond .ne 5, 3) := by decide +kernel
theorem dX7_item_14 : decode cX7_item 14 = .ok (.iconst (-1), 1) := by decide +kernel
theorem dX7_item_15 : decode cX7_item 15 = .ok (.ireturn, 1) := by decide +kernel
theorem dX7_item_16 : decode cX7_item 16 = .ok (.aload_n 0, 1) := by decide +kernel
theorem dX7_item_17 : decode cX7_item 17 = .ok (.iload_n 1, 1) := by decide +kernel
theorem dX7_item_18 : decode cX7_item 18 = .ok (.iload_n 2, 1) := by decide +kernel
theorem dX7_item_19 : decode cX7_item 19 = .ok (.iload_n 3, 1) := by decide +kernel
theorem dX7_item_20 : decode cX7_item 20 = .ok (.iconst 1, 1) := by decide +kernel
theorem dX7_item_21 : decode cX7_item 21 = .ok (.invokevirtual 242, 3) := by decide +kernel
theorem dX7_item_24 : decode cX7_item 24 = .ok (.istore 6, 2) := by decide +kernel
theorem dX7_item_26 : decode cX7_item 26 = .ok (.iload 6, 2) := by decide +kernel
theorem dX7_item_28 : decode cX7_item 28 = .ok (.ifCond .ge 6, 3) := by decide +kernel
theorem dX7_item_31 : decode cX7_item 31 = .ok (.iload 6, 2) := by decide +kernel
theorem dX7_item_33 : decode cX7_item 33 = .ok (.ireturn, 1) := by decide +kernel
theorem dX7_item_34 : decode cX7_item 34 = .ok (.aload_n 0, 1) := by decide +kernel
theorem dX7_item_35 : decode cX7_item 35 = .ok (.getfield 46, 3) := by decide +kernel
theorem dX7_item_38 : decode cX7_item 38 = .ok (.bipush 24, 2) := by decide +kernel
theorem dX7_item_40 : decode cX7_item 40 = .ok (.iload_n 1, 1) := by decide +kernel
theorem dX7_item_41 : decode cX7_item 41 = .ok (.imul, 1) := by decide +kernel
theorem dX7_item_42 : decode cX7_item 42 = .ok (.iload_n 3, 1) := by decide +kernel
theorem dX7_item_43 : decode cX7_item 43 = .ok (.iadd, 1) := by decide +kernel
theorem dX7_item_44 : decode cX7_item 44 = .ok (.iload_n 2, 1) := by decide +kernel
theorem dX7_item_45 : decode cX7_item 45 = .ok (.ifCond .ne 11, 3) := by decide +kernel
theorem dX7_item_48 : decode cX7_item 48 = .ok (.lload 4, 2) := by decide +kernel
theorem dX7_item_50 : decode cX7_item 50 = .ok (.l2i, 1) := by decide +kernel
theorem dX7_item_51 : decode cX7_item 51 = .ok (.i2b, 1) := by decide +kernel
theorem dX7_item_52 : decode cX7_item 52 = .ok (.i2l, 1) := by decide +kernel
theorem dX7_item_53 : decode cX7_item 53 = .ok (.goto 30, 3) := by decide +kernel
theorem dX7_item_56 : decode cX7_item 56 = .ok (.iload_n 2, 1) := by decide +kernel
theorem dX7_item_57 : decode cX7_item 57 = .ok (.iconst 1, 1) := by decide +kernel
theorem dX7_item_58 : decode cX7_item 58 = .ok (.if_icmp .ne 11, 3) := by decide +kernel
theorem dX7_item_61 : decode cX7_item 61 = .ok (.lload 4, 2) := by decide +kernel
theorem dX7_item_63 : decode cX7_item 63 = .ok (.l2i, 1) := by decide +kernel
theorem dX7_item_64 : decode cX7_item 64 = .ok (.i2s, 1) := by decide +kernel
theorem dX7_item_65 : decode cX7_item 65 = .ok (.i2l, 1) := by decide +kernel
theorem dX7_item_66 : decode cX7_item 66 = .ok (.goto 17, 3) := by decide +kernel
theorem dX7_item_69 : decode cX7_item 69 = .ok (.iload_n 2, 1) := by decide +kernel
theorem dX7_item_70 : decode cX7_item 70 = .ok (.iconst 2, 1) := by decide +kernel
theorem dX7_item_71 : decode cX7_item 71 = .ok (.if_icmp .ne 10, 3) := by decide +kernel
theorem dX7_item_74 : decode cX7_item 74 = .ok (.lload 4, 2) := by decide +kernel
theorem dX7_item_76 : decode cX7_item 76 = .ok (.l2i, 1) := by decide +kernel
theorem dX7_item_77 : decode cX7_item 77 = .ok (.i2l, 1) := by decide +kernel
theorem dX7_item_78 : decode cX7_item 78 = .ok (.goto 5, 3) := by decide +kernel
theorem dX7_item_81 : decode cX7_item 81 = .ok (.lload 4, 2) := by decide +kernel
theorem dX7_item_83 : decode cX7_item 83 = .ok (.lastore, 1) := by decide +kernel
theorem dX7_item_84 : decode cX7_item 84 = .ok (.iconst 1, 1) := by decide +kernel
theorem dX7_item_85 : decode cX7_item 85 = .ok (.ireturn, 1) := by decide +kernel
theorem dX7_copy_0 : decode cX7_copy 0 = .ok (.iload_n 1, 1) := by decide +kernel
theorem dX7_copy_1 : decode cX7_copy 1 = .ok (.invokestatic 234, 3) := by decide +kernel
theorem dX7_copy_4 : decode cX7_copy 4 = .ok (.ifCond .eq 10, 3) := by decide +kernel
theorem dX7_copy_7 : decode cX7_copy 7 = .ok (.iload_n 3, 1) := by decide +kernel
theorem dX7_copy_8 : decode cX7_copy 8 = .ok (.invokestatic 234, 3) := by decide +kernel
theorem dX7_copy_11 : decode cX7_copy 11 = .ok (.ifCond .ne 5, 3) := by decide +kernel
theorem dX7_copy_14 : decode cX7_copy 14 = .ok (.iconst (-1), 1) := by decide +kernel
theorem dX7_copy_15 : decode cX7_copy 15 = .ok (.ireturn, 1) := by decide +kernel
theorem dX7_copy_16 : decode cX7_copy 16 = .ok (.aload_n 0, 1) := by decide +kernel
theorem dX7_copy_17 : decode cX7_copy 17 = .ok (.getfield 40, 3) := by decide +kernel
theorem dX7_copy_20 : decode cX7_copy 20 = .ok (.iload_n 1, 1) := by decide +kernel
theorem dX7_copy_21 : decode cX7_copy 21 = .ok (.iaload, 1) := by decide +kernel
theorem dX7_copy_22 : decode cX7_copy 22 = .ok (.ifCond .lt 12, 3) := by decide +kernel
theorem dX7_copy_25 : decode cX7_copy 25 = .ok (.aload_n 0, 1) := by decide +kernel
theorem dX7_copy_26 : decode cX7_copy 26 = .ok (.getfield 40, 3) := by decide +kernel
theorem dX7_copy_29 : decode cX7_copy 29 = .ok (.iload_n 3, 1) := by decide +kernel
theorem dX7_copy_30 : decode cX7_copy 30 = .ok (.iaload, 1) := by decide +kernel
theorem dX7_copy_31 : decode cX7_copy 31 = .ok (.ifCond .ge 6, 3) := by decide +kernel
theorem dX7_copy_34 : decode cX7_copy 34 = .ok (.bipush (-11), 2) := by decide +kernel
theorem dX7_copy_36 : decode cX7_copy 36 = .ok (.ireturn, 1) := by decide +kernel
theorem dX7_copy_37 : decode cX7_copy 37 = .ok (.aload_n 0, 1) := by decide +kernel
theorem dX7_copy_38 : decode cX7_copy 38 = .ok (.iload_n 3, 1) := by decide +kernel
theorem dX7_copy_39 : decode cX7_copy 39 = .ok (.aload_n 0, 1) := by decide +kernel
theorem dX7_copy_40 : decode cX7_copy 40 = .ok (.getfield 40, 3) := by decide +kernel
theorem dX7_copy_43 : decode cX7_copy 43 = .ok (.iload_n 1, 1) := by decide +kernel
theorem dX7_copy_44 : decode cX7_copy 44 = .ok (.iaload, 1) := by decide +kernel
theorem dX7_copy_45 : decode cX7_copy 45 = .ok (.iload 4, 2) := by decide +kernel
theorem dX7_copy_47 : decode cX7_copy 47 = .ok (.iload 5, 2) := by decide +kernel
theorem dX7_copy_49 : decode cX7_copy 49 = .ok (.invokevirtual 242, 3) := by decide +kernel
theorem dX7_copy_52 : decode cX7_copy 52 = .ok (.istore 6, 2) := by decide +kernel
theorem dX7_copy_54 : decode cX7_copy 54 = .ok (.iload 6, 2) := by decide +kernel
theorem dX7_copy_56 : decode cX7_copy 56 = .ok (.ifCond .ne 20, 3) := by decide +kernel
theorem dX7_copy_59 : decode cX7_copy 59 = .ok (.aload_n 0, 1) := by decide +kernel
theorem dX7_copy_60 : decode cX7_copy 60 = .ok (.iload_n 1, 1) := by decide +kernel
theorem dX7_copy_61 : decode cX7_copy 61 = .ok (.aload_n 0, 1) := by decide +kernel
theorem dX7_copy_62 : decode cX7_copy 62 = .ok (.getfield 40, 3) := by decide +kernel
theorem dX7_copy_65 : decode cX7_copy 65 = .ok (.iload_n 1, 1) := by decide +kernel
theorem dX7_copy_66 : decode cX7_copy 66 = .ok (.iaload, 1) := by decide +kernel
theorem dX7_copy_67 : decode cX7_copy 67 = .ok (.iload_n 2, 1) := by decide +kernel
theorem dX7_copy_68 : decode cX7_copy 68 = .ok (.iload 5, 2) := by decide +kernel
theorem dX7_copy_70 : decode cX7_copy 70 = .ok (.invokevirtual 242, 3) := by decide +kernel
theorem dX7_copy_73 : decode cX7_copy 73 = .ok (.goto 5, 3) := by decide +kernel
theorem dX7_copy_76 : decode cX7_copy 76 = .ok (.iload 6, 2) := by decide +kernel
theorem dX7_copy_78 : decode cX7_copy 78 = .ok (.istore 6, 2) := by decide +kernel
theorem dX7_copy_80 : decode cX7_copy 80 = .ok (.iload 6, 2) := by decide +kernel
theorem dX7_copy_82 : decode cX7_copy 82 = .ok (.ifCond .ge 6, 3) := by decide +kernel
theorem dX7_copy_85 : decode cX7_copy 85 = .ok (.iload 6, 2) := by decide +kernel
theorem dX7_copy_87 : decode cX7_copy 87 = .ok (.ireturn, 1) := by decide +kernel
theorem dX7_copy_88 : decode cX7_copy 88 = .ok (.iconst 0, 1) := by decide +kernel
theorem dX7_copy_89 : decode cX7_copy 89 = .ok (.istore 7, 2) := by decide +kernel
theorem dX7_copy_91 : decode cX7_copy 91 = .ok (.iload 7, 2) := by decide +kernel
theorem dX7_copy_93 : decode cX7_copy 93 = .ok (.iload 5, 2) := by decide +kernel
theorem dX7_copy_95 : decode cX7_copy 95 = .ok (.if_icmp .ge 30, 3) := by decide +kernel
theorem dX7_copy_98 : decode cX7_copy 98 = .ok (.aload_n 0, 1) := by decide +kernel
theorem dX7_copy_99 : decode cX7_copy 99 = .ok (.getfield 50, 3) := by decide +kernel
theorem dX7_copy_102 : decode cX7_copy 102 = .ok (.iload 7, 2) := by decide +kernel
theorem dX7_copy_104 : decode cX7_copy 104 = .ok (.aload_n 0, 1) := by decide +kernel
theorem dX7_copy_105 : decode cX7_copy 105 = .ok (.getfield 46, 3) := by decide +kernel
theorem dX7_copy_108 : decode cX7_copy 108 = .ok (.bipush 24, 2) := by decide +kernel
theorem dX7_copy_110 : decode cX7_copy 110 = .ok (.iload_n 1, 1) := by decide +kernel
theorem dX7_copy_111 : decode cX7_copy 111 = .ok (.imul, 1) := by decide +kernel
theorem dX7_copy_112 : decode cX7_copy 112 = .ok (.iload_n 2, 1) := by decide +kernel
theorem dX7_copy_113 : decode cX7_copy 113 = .ok (.iadd, 1) := by decide +kernel
theorem dX7_copy_114 : decode cX7_copy 114 = .ok (.iload 7, 2) := by decide +kernel
theorem dX7_copy_116 : decode cX7_copy 116 = .ok (.iadd, 1) := by decide +kernel
theorem dX7_copy_117 : decode cX7_copy 117 = .ok (.laload, 1) := by decide +kernel
theorem dX7_copy_118 : decode cX7_copy 118 = .ok (.lastore, 1) := by decide +kernel
theorem dX7_copy_119 : decode cX7_copy 119 = .ok (.iinc 7 1, 3) := by decide +kernel
theorem dX7_copy_122 : decode cX7_copy 122 = .ok (.goto (-31), 3) := by decide +kernel
theorem dX7_copy_125 : decode cX7_copy 125 = .ok (.iconst 0, 1) := by decide +kernel
theorem dX7_copy_126 : decode cX7_copy 126 = .ok (.istore 7, 2) := by decide +kernel
theorem dX7_copy_128 : decode cX7_copy 128 = .ok (.iload 7, 2) := by decide +kernel
theorem dX7_copy_130 : decode cX7_copy 130 = .ok (.iload 5, 2) := by decide +kernel
theorem dX7_copy_132 : decode cX7_copy 132 = .ok (.if_icmp .ge 31, 3) := by decide +kernel
theorem dX7_copy_135 : decode cX7_copy 135 = .ok (.aload_n 0, 1) := by decide +kernel
theorem dX7_copy_136 : decode cX7_copy 136 = .ok (.getfield 46, 3) := by decide +kernel
theorem dX7_copy_139 : decode cX7_copy 139 = .ok (.bipush 24, 2) := by decide +kernel
theorem dX7_copy_141 : decode cX7_copy 141 = .ok (.iload_n 3, 1) := by decide +kernel
theorem dX7_copy_142 : decode cX7_copy 142 = .ok (.imul, 1) := by decide +kernel
theorem dX7_copy_143 : decode cX7_copy 143 = .ok (.iload 4, 2) := by decide +kernel
theorem dX7_copy_145 : decode cX7_copy 145 = .ok (.iadd, 1) := by decide +kernel
theorem dX7_copy_146 : decode cX7_copy 146 = .ok (.iload 7, 2) := by decide +kernel
theorem dX7_copy_148 : decode cX7_copy 148 = .ok (.iadd, 1) := by decide +kernel
theorem dX7_copy_149 : decode cX7_copy 149 = .ok (.aload_n 0, 1) := by decide +kernel
theorem dX7_copy_150 : decode cX7_copy 150 = .ok (.getfield 50, 3) := by decide +kernel
theorem dX7_copy_153 : decode cX7_copy 153 = .ok (.iload 7, 2) := by decide +kernel
theorem dX7_copy_155 : decode cX7_copy 155 = .ok (.laload, 1) := by decide +kernel
theorem dX7_copy_156 : decode cX7_copy 156 = .ok (.lastore, 1) := by decide +kernel
theorem dX7_copy_157 : decode cX7_copy 157 = .ok (.iinc 7 1, 3) := by decide +kernel
theorem dX7_copy_160 : decode cX7_copy 160 = .ok (.goto (-32), 3) := by decide +kernel
theorem dX7_copy_163 : decode cX7_copy 163 = .ok (.iload 5, 2) := by decide +kernel
theorem dX7_copy_165 : decode cX7_copy 165 = .ok (.ireturn, 1) := by decide +kernel
