theorem dX6_init_0 : decode cX6_init 0 = .ok (.aload_n 0, 1) := by decide +kernel
theorem dX6_init_1 : decode cX6_init 1 = .ok (.invokespecial 1, 3) := by decide +kernel
theorem dX6_init_4 : decode cX6_init 4 = .ok (.aload_n 0, 1) := by decide +kernel
theorem dX6_init_5 : decode cX6_init 5 = .ok (.new 7, 3) := by decide +kernel
theorem dX6_init_8 : decode cX6_init 8 = .ok (.dup, 1) := by decide +kernel
theorem dX6_init_9 : decode cX6_init 9 = .ok (.invokespecial 9, 3) := by decide +kernel
theorem dX6_init_12 : decode cX6_init 12 = .ok (.putfield 10, 3) := by decide +kernel
theorem dX6_init_15 : decode cX6_init 15 = .ok (.aload_n 0, 1) := by decide +kernel
theorem dX6_init_16 : decode cX6_init 16 = .ok (.new 16, 3) := by decide +kernel
theorem dX6_init_19 : decode cX6_init 19 = .ok (.dup, 1) := by decide +kernel
theorem dX6_init_20 : decode cX6_init 20 = .ok (.invokespecial 18, 3) := by decide +kernel
theorem dX6_init_23 : decode cX6_init 23 = .ok (.putfield 19, 3) := by decide +kernel
theorem dX6_init_26 : decode cX6_init 26 = .ok (.aload_n 0, 1) := by decide +kernel
theorem dX6_init_27 : decode cX6_init 27 = .ok (.new 7, 3) := by decide +kernel
theorem dX6_init_30 : decode cX6_init 30 = .ok (.dup, 1) := by decide +kernel
theorem dX6_init_31 : decode cX6_init 31 = .ok (.invokespecial 9, 3) := by decide +kernel
theorem dX6_init_34 : decode cX6_init 34 = .ok (.putfield 23, 3) := by decide +kernel
theorem dX6_init_37 : decode cX6_init 37 = .ok (.aload_n 0, 1) := by decide +kernel
theorem dX6_init_38 : decode cX6_init 38 = .ok (.new 7, 3) := by decide +kernel
theorem dX6_init_41 : decode cX6_init 41 = .ok (.dup, 1) := by decide +kernel
theorem dX6_init_42 : decode cX6_init 42 = .ok (.invokespecial 9, 3) := by decide +kernel
theorem dX6_init_45 : decode cX6_init 45 = .ok (.putfield 26, 3) := by decide +kernel
theorem dX6_init_48 : decode cX6_init 48 = .ok (.aload_n 0, 1) := by decide +kernel
theorem dX6_init_49 : decode cX6_init 49 = .ok (.new 16, 3) := by decide +kernel
theorem dX6_init_52 : decode cX6_init 52 = .ok (.dup, 1) := by decide +kernel
theorem dX6_init_53 : decode cX6_init 53 = .ok (.invokespecial 18, 3) := by decide +kernel
theorem dX6_init_56 : decode cX6_init 56 = .ok (.putfield 29, 3) := by decide +kernel
theorem dX6_init_59 : decode cX6_init 59 = .ok (.aload_n 0, 1) := by decide +kernel
theorem dX6_init_60 : decode cX6_init 60 = .ok (.new 32, 3) := by decide +kernel
theorem dX6_init_63 : decode cX6_init 63 = .ok (.dup, 1) := by decide +kernel
theorem dX6_init_64 : decode cX6_init 64 = .ok (.invokespecial 34, 3) := by decide +kernel
theorem dX6_init_67 : decode cX6_init 67 = .ok (.putfield 35, 3) := by decide +kernel
theorem dX6_init_70 : decode cX6_init 70 = .ok (.aload_n 0, 1) := by decide +kernel
theorem dX6_init_71 : decode cX6_init 71 = .ok (.new 39, 3) := by decide +kernel
theorem dX6_init_74 : decode cX6_init 74 = .ok (.dup, 1) := by decide +kernel
theorem dX6_init_75 : decode cX6_init 75 = .ok (.invokespecial 41, 3) := by decide +kernel
theorem dX6_init_78 : decode cX6_init 78 = .ok (.putfield 42, 3) := by decide +kernel
theorem dX6_init_81 : decode cX6_init 81 = .ok (.aload_n 0, 1) := by decide +kernel
theorem dX6_init_82 : decode cX6_init 82 = .ok (.iconst 4, 1) := by decide +kernel
theorem dX6_init_83 : decode cX6_init 83 = .ok (.anewarray 46, 3) := by decide +kernel
theorem dX6_init_86 : decode cX6_init 86 = .ok (.putfield 48, 3) := by decide +kernel
theorem dX6_init_89 : decode cX6_init 89 = .ok (.iconst 0, 1) := by decide +kernel
theorem dX6_init_90 : decode cX6_init 90 = .ok (.istore_n 1, 1) := by decide +kernel
theorem dX6_init_91 : decode cX6_init 91 = .ok (.iload_n 1, 1) := by decide +kernel
theorem dX6_init_92 : decode cX6_init 92 = .ok (.iconst 4, 1) := by decide +kernel
theorem dX6_init_93 : decode cX6_init 93 = .ok (.if_icmp .ge 22, 3) := by decide +kernel
theorem dX6_init_96 : decode cX6_init 96 = .ok (.aload_n 0, 1) := by decide +kernel
theorem dX6_init_97 : decode cX6_init 97 = .ok (.getfield 48, 3) := by decide +kernel
theorem dX6_init_100 : decode cX6_init 100 = .ok (.iload_n 1, 1) := by decide +kernel
theorem dX6_init_101 : decode cX6_init 101 = .ok (.new 46, 3) := by decide +kernel
theorem dX6_init_104 : decode cX6_init 104 = .ok (.dup, 1) := by decide +kernel
theorem dX6_init_105 : decode cX6_init 105 = .ok (.invokespecial 52, 3) := by decide +kernel
theorem dX6_init_108 : decode cX6_init 108 = .ok (.aastore, 1) := by decide +kernel
theorem dX6_init_109 : decode cX6_init 109 = .ok (.iinc 1 1, 3) := by decide +kernel
theorem dX6_init_112 : decode cX6_init 112 = .ok (.goto (-21), 3) := by decide +kernel
theorem dX6_init_115 : decode cX6_init 115 = .ok (.return_, 1) := by decide +kernel
theorem dX6_holder_0 : decode cX6_holder 0 = .ok (.iload_n 1, 1) := by decide +kernel
theorem dX6_holder_1 : decode cX6_holder 1 = .ok (.iconst 0, 1) := by decide +kernel
theorem dX6_holder_2 : decode cX6_holder 2 = .ok (.iconst 4, 1) := by decide +kernel
theorem dX6_holder_3 : decode cX6_holder 3 = .ok (.invokestatic 53, 3) := by decide +kernel
theorem dX6_holder_6 : decode cX6_holder 6 = .ok (.ifCond .eq 20, 3) := by decide +kernel
theorem dX6_holder_9 : decode cX6_holder 9 = .ok (.iload_n 2, 1) := by decide +kernel
theorem dX6_holder_10 : decode cX6_holder 10 = .ok (.iconst 0, 1) := by decide +kernel
theorem dX6_holder_11 : decode cX6_holder 11 = .ok (.bipush 99, 2) := by decide +kernel
theorem dX6_holder_13 : decode cX6_holder 13 = .ok (.invokestatic 53, 3) := by decide +kernel
theorem dX6_holder_16 : decode cX6_holder 16 = .ok (.ifCond .eq 10, 3) := by decide +kernel
theorem dX6_holder_19 : decode cX6_holder 19 = .ok (.iload_n 3, 1) := by decide +kernel
theorem dX6_holder_20 : decode cX6_holder 20 = .ok (.invokestatic 57, 3) := by decide +kernel
theorem dX6_holder_23 : decode cX6_holder 23 = .ok (.ifCond .ne 5, 3) := by decide +kernel
theorem dX6_holder_26 : decode cX6_holder 26 = .ok (.iconst (-1), 1) := by decide +kernel
theorem dX6_holder_27 : decode cX6_holder 27 = .ok (.ireturn, 1) := by decide +kernel
theorem dX6_holder_28 : decode cX6_holder 28 = .ok (.aload_n 0, 1) := by decide +kernel
theorem dX6_holder_29 : decode cX6_holder 29 = .ok (.getfield 10, 3) := by decide +kernel
theorem dX6_holder_32 : decode cX6_holder 32 = .ok (.invokevirtual 61, 3) := by decide +kernel
theorem dX6_holder_35 : decode cX6_holder 35 = .ok (.istore 4, 2) := by decide +kernel
theorem dX6_holder_37 : decode cX6_holder 37 = .ok (.iload 4, 2) := by decide +kernel
theorem dX6_holder_39 : decode cX6_holder 39 = .ok (.ifCond .ge 6, 3) := by decide +kernel
theorem dX6_holder_42 : decode cX6_holder 42 = .ok (.bipush (-3), 2) := by decide +kernel
theorem dX6_holder_44 : decode cX6_holder 44 = .ok (.ireturn, 1) := by decide +kernel
theorem dX6_holder_45 : decode cX6_holder 45 = .ok (.aload_n 0, 1) := by decide +kernel
theorem dX6_holder_46 : decode cX6_holder 46 = .ok (.getfield 19, 3) := by decide +kernel
theorem dX6_holder_49 : decode cX6_holder 49 = .ok (.invokevirtual 65, 3) := by decide +kernel
theorem dX6_holder_52 : decode cX6_holder 52 = .ok (.aload_n 0, 1) := by decide +kernel
theorem dX6_holder_53 : decode cX6_holder 53 = .ok (.getfield 10, 3) := by decide +kernel
theorem dX6_holder_56 : decode cX6_holder 56 = .ok (.iload_n 1, 1) := by decide +kernel
theorem dX6_holder_57 : decode cX6_holder 57 = .ok (.iload_n 2, 1) := by decide +kernel
theorem dX6_holder_58 : decode cX6_holder 58 = .ok (.iload 4, 2) := by decide +kernel
theorem dX6_holder_60 : decode cX6_holder 60 = .ok (.iload_n 3, 1) := by decide +kernel
theorem dX6_holder_61 : decode cX6_holder 61 = .ok (.invokevirtual 68, 3) := by decide +kernel
theorem dX6_holder_64 : decode cX6_holder 64 = .ok (.aload_n 0, 1) := by decide +kernel
theorem dX6_holder_65 : decode cX6_holder 65 = .ok (.getfield 10, 3) := by decide +kernel
theorem dX6_holder_68 : decode cX6_holder 68 = .ok (.getfield 72, 3) := by decide +kernel
theorem dX6_holder_71 : decode cX6_holder 71 = .ok (.iconst 1, 1) := by decide +kernel
theorem dX6_holder_72 : decode cX6_holder 72 = .ok (.isub, 1) := by decide +kernel
theorem dX6_holder_73 : decode cX6_holder 73 = .ok (.ireturn, 1) := by decide +kernel
theorem dX6_rule_0 : decode cX6_rule 0 = .ok (.iload_n 1, 1) := by decide +kernel
theorem dX6_rule_1 : decode cX6_rule 1 = .ok (.invokestatic 57, 3) := by decide +kernel
theorem dX6_rule_4 : decode cX6_rule 4 = .ok (.ifCond .eq 31, 3) := by decide +kernel
theorem dX6_rule_7 : decode cX6_rule 7 = .ok (.iload_n 2, 1) := by decide +kernel
theorem dX6_rule_8 : decode cX6_rule 8 = .ok (.iconst 0, 1) := by decide +kernel
theorem dX6_rule_9 : decode cX6_rule 9 = .ok (.iconst 1, 1) := by decide +kernel
theorem dX6_rule_10 : decode cX6_rule 10 = .ok (.invokestatic 53, 3) := by decide +kernel
theorem dX6_rule_13 : decode cX6_rule 13 = .ok (.ifCond .eq 22, 3) := by decide +kernel
theorem dX6_rule_16 : decode cX6_rule 16 = .ok (.iload_n 3, 1) := by decide +kernel
theorem dX6_rule_17 : decode cX6_rule 17 = .ok (.iconst 0, 1) := by decide +kernel
theorem dX6_rule_18 : decode cX6_rule 18 = .ok (.iload_n 2, 1) := by decide +kernel
theorem dX6_rule_19 : decode cX6_rule 19 = .ok (.ifCond .ne 8, 3) := by decide +kernel
theorem dX6_rule_22 : decode cX6_rule 22 = .ok (.bipush 9, 2) := by decide +kernel
theorem dX6_rule_24 : decode cX6_rule 24 = .ok (.goto 5, 3) := by decide +kernel
theorem dX6_rule_27 : decode cX6_rule 27 = .ok (.bipush 99, 2) := by decide +kernel
theorem dX6_rule_29 : decode cX6_rule 29 = .ok (.invokestatic 53, 3) := by decide +kernel
theorem dX6_rule_32 : decode cX6_rule 32 = .ok (.ifCond .ne 5, 3) := by decide +kernel
theorem dX6_rule_35 : decode cX6_rule 35 = .ok (.iconst (-1), 1) := by decide +kernel
theorem dX6_rule_36 : decode cX6_rule 36 = .ok (.ireturn, 1) := by decide +kernel
theorem dX6_rule_37 : decode cX6_rule 37 = .ok (.iload_n 2, 1) := by decide +kernel
theorem dX6_rule_38 : decode cX6_rule 38 = .ok (.ifCond .ne 13, 3) := by decide +kernel
theorem dX6_rule_41 : decode cX6_rule 41 = .ok (.aload_n 0, 1) := by decide +kernel
theorem dX6_rule_42 : decode cX6_rule 42 = .ok (.getfield 10, 3) := by decide +kernel
theorem dX6_rule_45 : decode cX6_rule 45 = .ok (.getfield 76, 3) := by decide +kernel
theorem dX6_rule_48 : decode cX6_rule 48 = .ok (.goto 10, 3) := by decide +kernel
theorem dX6_rule_51 : decode cX6_rule 51 = .ok (.aload_n 0, 1) := by decide +kernel
theorem dX6_rule_52 : decode cX6_rule 52 = .ok (.getfield 10, 3) := by decide +kernel
theorem dX6_rule_55 : decode cX6_rule 55 = .ok (.getfield 80, 3) := by decide +kernel
theorem dX6_rule_58 : decode cX6_rule 58 = .ok (.astore 4, 2) := by decide +kernel
theorem dX6_rule_60 : decode cX6_rule 60 = .ok (.aload 4, 2) := by decide +kernel
theorem dX6_rule_62 : decode cX6_rule 62 = .ok (.iload_n 1, 1) := by decide +kernel
theorem dX6_rule_63 : decode cX6_rule 63 = .ok (.iaload, 1) := by decide +kernel
theorem dX6_rule_64 : decode cX6_rule 64 = .ok (.istore 5, 2) := by decide +kernel
theorem dX6_rule_66 : decode cX6_rule 66 = .ok (.aload 4, 2) := by decide +kernel
theorem dX6_rule_68 : decode cX6_rule 68 = .ok (.iload_n 1, 1) := by decide +kernel
theorem dX6_rule_69 : decode cX6_rule 69 = .ok (.iload_n 3, 1) := by decide +kernel
theorem dX6_rule_70 : decode cX6_rule 70 = .ok (.iastore, 1) := by decide +kernel
theorem dX6_rule_71 : decode cX6_rule 71 = .ok (.iload 5, 2) := by decide +kernel
theorem dX6_rule_73 : decode cX6_rule 73 = .ok (.ireturn, 1) := by decide +kernel
theorem dX6_of_0 : decode cX6_of 0 = .ok (.aload_n 0, 1) := by decide +kernel
theorem dX6_of_1 : decode cX6_of 1 = .ok (.getfield 10, 3) := by decide +kernel
theorem dX6_of_4 : decode cX6_of 4 = .ok (.iload_n 1, 1) := by decide +kernel
theorem dX6_of_5 : decode cX6_of 5 = .ok (.invokevirtual 83, 3) := by decide +kernel
theorem dX6_of_8 : decode cX6_of 8 = .ok (.ifCond .ne 5, 3) := by decide +kernel
theorem dX6_of_11 : decode cX6_of 11 = .ok (.iconst (-1), 1) := by decide +kernel
theorem dX6_of_12 : decode cX6_of 12 = .ok (.ireturn, 1) := by decide +kernel
theorem dX6_of_13 : decode cX6_of 13 = .ok (.iload_n 2, 1) := by decide +kernel
theorem dX6_of_14 : decode cX6_of 14 = .ok (.tableswitch 154 0 7 #[46, 56, 66, 76, 86, 103, 127, 136], 46) := by decide +kernel
theorem dX6_of_60 : decode cX6_of 60 = .ok (.aload_n 0, 1) := by decide +kernel
theorem dX6_of_61 : decode cX6_of 61 = .ok (.getfield 10, 3) := by decide +kernel
theorem dX6_of_64 : decode cX6_of 64 = .ok (.getfield 86, 3) := by decide +kernel
theorem dX6_of_67 : decode cX6_of 67 = .ok (.iload_n 1, 1) := by decide +kernel
theorem dX6_of_68 : decode cX6_of 68 = .ok (.iaload, 1) := by decide +kernel
theorem dX6_of_69 : decode cX6_of 69 = .ok (.ireturn, 1) := by decide +kernel
theorem dX6_of_70 : decode cX6_of 70 = .ok (.aload_n 0, 1) := by decide +kernel
theorem dX6_of_71 : decode cX6_of 71 = .ok (.getfield 10, 3) := by decide +kernel
theorem dX6_of_74 : decode cX6_of 74 = .ok (.getfield 89, 3) := by decide +kernel
theorem dX6_of_77 : decode cX6_of 77 = .ok (.iload_n 1, 1) := by decide +kernel
theorem dX6_of_78 : decode cX6_of 78 = .ok (.iaload, 1) := by decide +kernel
theorem dX6_of_79 : decode cX6_of 79 = .ok (.ireturn, 1) := by decide +kernel
theorem dX6_of_80 : decode cX6_of 80 = .ok (.aload_n 0, 1) := by decide +kernel
theorem dX6_of_81 : decode cX6_of 81 = .ok (.getfield 10, 3) := by decide +kernel
theorem dX6_of_84 : decode cX6_of 84 = .ok (.getfield 92, 3) := by decide +kernel
theorem dX6_of_87 : decode cX6_of 87 = .ok (.iload_n 1, 1) := by decide +kernel
theorem dX6_of_88 : decode cX6_of 88 = .ok (.iaload, 1) := by decide +kernel
theorem dX6_of_89 : decode cX6_of 89 = .ok (.ireturn, 1) := by decide +kernel
theorem dX6_of_90 : decode cX6_of 90 = .ok (.aload_n 0, 1) := by decide +kernel
theorem dX6_of_91 : decode cX6_of 91 = .ok (.getfield 10, 3) := by decide +kernel
theorem dX6_of_94 : decode cX6_of 94 = .ok (.getfield 95, 3) := by decide +kernel
theorem dX6_of_97 : decode cX6_of 97 = .ok (.iload_n 1, 1) := by decide +kernel
theorem dX6_of_98 : decode cX6_of 98 = .ok (.iaload, 1) := by decide +kernel
theorem dX6_of_99 : decode cX6_of 99 = .ok (.ireturn, 1) := by decide +kernel
theorem dX6_of_100 : decode cX6_of 100 = .ok (.aload_n 0, 1) := by decide +kernel
theorem dX6_of_101 : decode cX6_of 101 = .ok (.getfield 10, 3) := by decide +kernel
theorem dX6_of_104 : decode cX6_of 104 = .ok (.iload_n 1, 1) := by decide +kernel
theorem dX6_of_105 : decode cX6_of 105 = .ok (.invokevirtual 98, 3) := by decide +kernel
theorem dX6_of_108 : decode cX6_of 108 = .ok (.ifCond .eq 7, 3) := by decide +kernel
theorem dX6_of_111 : decode cX6_of 111 = .ok (.iconst 1, 1) := by decide +kernel
theorem dX6_of_112 : decode cX6_of 112 = .ok (.goto 4, 3) := by decide +kernel
theorem dX6_of_115 : decode cX6_of 115 = .ok (.iconst 0, 1) := by decide +kernel
theorem dX6_of_116 : decode cX6_of 116 = .ok (.ireturn, 1) := by decide +kernel
theorem dX6_of_117 : decode cX6_of 117 = .ok (.aload_n 0, 1) := by decide +kernel
theorem dX6_of_118 : decode cX6_of 118 = .ok (.getfield 10, 3) := by decide +kernel
theorem dX6_of_121 : decode cX6_of 121 = .ok (.iload_n 1, 1) := by decide +kernel
theorem dX6_of_122 : decode cX6_of 122 = .ok (.invokevirtual 98, 3) := by decide +kernel
theorem dX6_of_125 : decode cX6_of 125 = .ok (.ifCond .eq 7, 3) := by decide +kernel
theorem dX6_of_128 : decode cX6_of 128 = .ok (.iconst 0, 1) := by decide +kernel
theorem dX6_of_129 : decode cX6_of 129 = .ok (.goto 11, 3) := by decide +kernel
theorem dX6_of_132 : decode cX6_of 132 = .ok (.aload_n 0, 1) := by decide +kernel
theorem dX6_of_133 : decode cX6_of 133 = .ok (.getfield 10, 3) := by decide +kernel
theorem dX6_of_136 : decode cX6_of 136 = .ok (.iload_n 1, 1) := by decide +kernel
theorem dX6_of_137 : decode cX6_of 137 = .ok (.invokevirtual 101, 3) := by decide +kernel
theorem dX6_of_140 : decode cX6_of 140 = .ok (.ireturn, 1) := by decide +kernel
theorem dX6_of_141 : decode cX6_of 141 = .ok (.aload_n 0, 1) := by decide +kernel
theorem dX6_of_142 : decode cX6_of 142 = .ok (.getfield 10, 3) := by decide +kernel
theorem dX6_of_145 : decode cX6_of 145 = .ok (.iload_n 1, 1) := by decide +kernel
theorem dX6_of_146 : decode cX6_of 146 = .ok (.invokevirtual 105, 3) := by decide +kernel
theorem dX6_of_149 : decode cX6_of 149 = .ok (.ireturn, 1) := by decide +kernel
theorem dX6_of_150 : decode cX6_of 150 = .ok (.aload_n 0, 1) := by decide +kernel
theorem dX6_of_151 : decode cX6_of 151 = .ok (.getfield 10, 3) := by decide +kernel
theorem dX6_of_154 : decode cX6_of 154 = .ok (.iload_n 1, 1) := by decide +kernel
theorem dX6_of_155 : decode cX6_of 155 = .ok (.aload_n 0, 1) := by decide +kernel
theorem dX6_of_156 : decode cX6_of 156 = .ok (.getfield 10, 3) := by decide +kernel
theorem dX6_of_159 : decode cX6_of 159 = .ok (.getfield 92, 3) := by decide +kernel
theorem dX6_of_162 : decode cX6_of 162 = .ok (.iload_n 1, 1) := by decide +kernel
theorem dX6_of_163 : decode cX6_of 163 = .ok (.iaload, 1) := by decide +kernel
theorem dX6_of_164 : decode cX6_of 164 = .ok (.invokevirtual 108, 3) := by decide +kernel
theorem dX6_of_167 : decode cX6_of 167 = .ok (.ireturn, 1) := by decide +kernel
theorem dX6_of_168 : decode cX6_of 168 = .ok (.iconst (-1), 1) := by decide +kernel
theorem dX6_of_169 : decode cX6_of 169 = .ok (.ireturn, 1) := by decide +kernel
theorem dX6_at_0 : decode cX6_at 0 = .ok (.iload_n 1, 1) := by decide +kernel
theorem dX6_at_1 : decode cX6_at 1 = .ok (.invokestatic 57, 3) := by decide +kernel
theorem dX6_at_4 : decode cX6_at 4 = .ok (.ifCond .ne 5, 3) := by decide +kernel
theorem dX6_at_7 : decode cX6_at 7 = .ok (.iconst (-1), 1) := by decide +kernel
theorem dX6_at_8 : decode cX6_at 8 = .ok (.ireturn, 1) := by decide +kernel
theorem dX6_at_9 : decode cX6_at 9 = .ok (.iload_n 2, 1) := by decide +kernel
theorem dX6_at_10 : decode cX6_at 10 = .ok (.tableswitch 74 0 2 #[26, 36, 46], 26) := by decide +kernel
theorem dX6_at_36 : decode cX6_at 36 = .ok (.aload_n 0, 1) := by decide +kernel
theorem dX6_at_37 : decode cX6_at 37 = .ok (.getfield 10, 3) := by decide +kernel
theorem dX6_at_40 : decode cX6_at 40 = .ok (.getfield 76, 3) := by decide +kernel
theorem dX6_at_43 : decode cX6_at 43 = .ok (.iload_n 1, 1) := by decide +kernel
theorem dX6_at_44 : decode cX6_at 44 = .ok (.iaload, 1) := by decide +kernel
theorem dX6_at_45 : decode cX6_at 45 = .ok (.ireturn, 1) := by decide +kernel
theorem dX6_at_46 : decode cX6_at 46 = .ok (.aload_n 0, 1) := by decide +kernel
theorem dX6_at_47 : decode cX6_at 47 = .ok (.getfield 10, 3) := by decide +kernel
theorem dX6_at_50 : decode cX6_at 50 = .ok (.getfield 80, 3) := by decide +kernel
theorem dX6_at_53 : decode cX6_at 53 = .ok (.iload_n 1, 1) := by decide +kernel
theorem dX6_at_54 : decode cX6_at 54 = .ok (.iaload, 1) := by decide +kernel
theorem dX6_at_55 : decode cX6_at 55 = .ok (.ireturn, 1) := by decide +kernel
theorem dX6_at_56 : decode cX6_at 56 = .ok (.aload_n 0, 1) := by decide +kernel
theorem dX6_at_57 : decode cX6_at 57 = .ok (.getfield 10, 3) := by decide +kernel
theorem dX6_at_60 : decode cX6_at 60 = .ok (.getfield 112, 3) := by decide +kernel
theorem dX6_at_63 : decode cX6_at 63 = .ok (.iload_n 1, 1) := by decide +kernel
theorem dX6_at_64 : decode cX6_at 64 = .ok (.iaload, 1) := by decide +kernel
theorem dX6_at_65 : decode cX6_at 65 = .ok (.iconst (-1), 1) := by decide +kernel
theorem dX6_at_66 : decode cX6_at 66 = .ok (.if_icmp .ne 8, 3) := by decide +kernel
theorem dX6_at_69 : decode cX6_at 69 = .ok (.bipush (-4), 2) := by decide +kernel
theorem dX6_at_71 : decode cX6_at 71 = .ok (.goto 12, 3) := by decide +kernel
theorem dX6_at_74 : decode cX6_at 74 = .ok (.aload_n 0, 1) := by decide +kernel
theorem dX6_at_75 : decode cX6_at 75 = .ok (.getfield 10, 3) := by decide +kernel
theorem dX6_at_78 : decode cX6_at 78 = .ok (.getfield 112, 3) := by decide +kernel
theorem dX6_at_81 : decode cX6_at 81 = .ok (.iload_n 1, 1) := by decide +kernel
theorem dX6_at_82 : decode cX6_at 82 = .ok (.iaload, 1) := by decide +kernel
theorem dX6_at_83 : decode cX6_at 83 = .ok (.ireturn, 1) := by decide +kernel
theorem dX6_at_84 : decode cX6_at 84 = .ok (.iconst (-1), 1) := by decide +kernel
theorem dX6_at_85 : decode cX6_at 85 = .ok (.ireturn, 1) := by decide +kernel
theorem dX6_type_0 : decode cX6_type 0 = .ok (.iload_n 1, 1) := by decide +kernel
theorem dX6_type_1 : decode cX6_type 1 = .ok (.bipush 32, 2) := by decide +kernel
theorem dX6_type_3 : decode cX6_type 3 = .ok (.bipush 126, 2) := by decide +kernel
theorem dX6_type_5 : decode cX6_type 5 = .ok (.invokestatic 53, 3) := by decide +kernel
theorem dX6_type_8 : decode cX6_type 8 = .ok (.ifCond .ne 5, 3) := by decide +kernel
theorem dX6_type_11 : decode cX6_type 11 = .ok (.iconst (-1), 1) := by decide +kernel
theorem dX6_type_12 : decode cX6_type 12 = .ok (.ireturn, 1) := by decide +kernel
theorem dX6_type_13 : decode cX6_type 13 = .ok (.aload_n 0, 1) := by decide +kernel
theorem dX6_type_14 : decode cX6_type 14 = .ok (.getfield 42, 3) := by decide +kernel
theorem dX6_type_17 : decode cX6_type 17 = .ok (.iload_n 1, 1) := by decide +kernel
theorem dX6_type_18 : decode cX6_type 18 = .ok (.i2c, 1) := by decide +kernel
theorem dX6_type_19 : decode cX6_type 19 = .ok (.invokevirtual 115, 3) := by decide +kernel
theorem dX6_type_22 : decode cX6_type 22 = .ok (.ifCond .eq 13, 3) := by decide +kernel
theorem dX6_type_25 : decode cX6_type 25 = .ok (.aload_n 0, 1) := by decide +kernel
theorem dX6_type_26 : decode cX6_type 26 = .ok (.getfield 42, 3) := by decide +kernel
theorem dX6_type_29 : decode cX6_type 29 = .ok (.getfield 119, 3) := by decide +kernel
theorem dX6_type_32 : decode cX6_type 32 = .ok (.goto 5, 3) := by decide +kernel
theorem dX6_type_35 : decode cX6_type 35 = .ok (.bipush (-3), 2) := by decide +kernel
theorem dX6_type_37 : decode cX6_type 37 = .ok (.ireturn, 1) := by decide +kernel
theorem dX6_crypt_0 : decode cX6_crypt 0 = .ok (.aload_n 0, 1) := by decide +kernel
theorem dX6_crypt_1 : decode cX6_crypt 1 = .ok (.getfield 23, 3) := by decide +kernel
theorem dX6_crypt_4 : decode cX6_crypt 4 = .ok (.aload_n 0, 1) := by decide +kernel
theorem dX6_crypt_5 : decode cX6_crypt 5 = .ok (.getfield 10, 3) := by decide +kernel
theorem dX6_crypt_8 : decode cX6_crypt 8 = .ok (.invokevirtual 122, 3) := by decide +kernel
theorem dX6_crypt_11 : decode cX6_crypt 11 = .ok (.aload_n 0, 1) := by decide +kernel
theorem dX6_crypt_12 : decode cX6_crypt 12 = .ok (.getfield 23, 3) := by decide +kernel
theorem dX6_crypt_15 : decode cX6_crypt 15 = .ok (.invokevirtual 126, 3) := by decide +kernel
theorem dX6_crypt_18 : decode cX6_crypt 18 = .ok (.aload_n 0, 1) := by decide +kernel
theorem dX6_crypt_19 : decode cX6_crypt 19 = .ok (.getfield 42, 3) := by decide +kernel
theorem dX6_crypt_22 : decode cX6_crypt 22 = .ok (.aload_n 0, 1) := by decide +kernel
theorem dX6_crypt_23 : decode cX6_crypt 23 = .ok (.getfield 23, 3) := by decide +kernel
theorem dX6_crypt_26 : decode cX6_crypt 26 = .ok (.invokevirtual 129, 3) := by decide +kernel
theorem dX6_crypt_29 : decode cX6_crypt 29 = .ok (.istore_n 1, 1) := by decide +kernel
theorem dX6_crypt_30 : decode cX6_crypt 30 = .ok (.aload_n 0, 1) := by decide +kernel
theorem dX6_crypt_31 : decode cX6_crypt 31 = .ok (.getfield 42, 3) := by decide +kernel
theorem dX6_crypt_34 : decode cX6_crypt 34 = .ok (.getfield 133, 3) := by decide +kernel
theorem dX6_crypt_37 : decode cX6_crypt 37 = .ok (.istore_n 2, 1) := by decide +kernel
theorem dX6_crypt_38 : decode cX6_crypt 38 = .ok (.aload_n 0, 1) := by decide +kernel
theorem dX6_crypt_39 : decode cX6_crypt 39 = .ok (.getfield 42, 3) := by decide +kernel
theorem dX6_crypt_42 : decode cX6_crypt 42 = .ok (.invokevirtual 136, 3) := by decide +kernel
theorem dX6_crypt_45 : decode cX6_crypt 45 = .ok (.iload_n 1, 1) := by decide +kernel
theorem dX6_crypt_46 : decode cX6_crypt 46 = .ok (.ifCond .ne 8, 3) := by decide +kernel
theorem dX6_crypt_49 : decode cX6_crypt 49 = .ok (.bipush (-20), 2) := by decide +kernel
theorem dX6_crypt_51 : decode cX6_crypt 51 = .ok (.iload_n 2, 1) := by decide +kernel
theorem dX6_crypt_52 : decode cX6_crypt 52 = .ok (.isub, 1) := by decide +kernel
theorem dX6_crypt_53 : decode cX6_crypt 53 = .ok (.ireturn, 1) := by decide +kernel
theorem dX6_crypt_54 : decode cX6_crypt 54 = .ok (.aload_n 0, 1) := by decide +kernel
theorem dX6_crypt_55 : decode cX6_crypt 55 = .ok (.getfield 10, 3) := by decide +kernel
theorem dX6_crypt_58 : decode cX6_crypt 58 = .ok (.aload_n 0, 1) := by decide +kernel
theorem dX6_crypt_59 : decode cX6_crypt 59 = .ok (.getfield 23, 3) := by decide +kernel
theorem dX6_crypt_62 : decode cX6_crypt 62 = .ok (.invokevirtual 122, 3) := by decide +kernel
theorem dX6_crypt_65 : decode cX6_crypt 65 = .ok (.aload_n 0, 1) := by decide +kernel
theorem dX6_crypt_66 : decode cX6_crypt 66 = .ok (.getfield 19, 3) := by decide +kernel
theorem dX6_crypt_69 : decode cX6_crypt 69 = .ok (.invokevirtual 65, 3) := by decide +kernel
theorem dX6_crypt_72 : decode cX6_crypt 72 = .ok (.aload_n 0, 1) := by decide +kernel
theorem dX6_crypt_73 : decode cX6_crypt 73 = .ok (.getfield 10, 3) := by decide +kernel
theorem dX6_crypt_76 : decode cX6_crypt 76 = .ok (.getfield 72, 3) := by decide +kernel
theorem dX6_crypt_79 : decode cX6_crypt 79 = .ok (.ireturn, 1) := by decide +kernel
theorem dX6_count_0 : decode cX6_count 0 = .ok (.iload_n 1, 1) := by decide +kernel
theorem dX6_count_1 : decode cX6_count 1 = .ok (.tableswitch 99 0 6 #[43, 51, 59, 67, 75, 83, 91], 43) := by decide +kernel
theorem dX6_count_44 : decode cX6_count 44 = .ok (.aload_n 0, 1) := by decide +kernel
theorem dX6_count_45 : decode cX6_count 45 = .ok (.getfield 10, 3) := by decide +kernel
theorem dX6_count_48 : decode cX6_count 48 = .ok (.getfield 72, 3) := by decide +kernel
theorem dX6_count_51 : decode cX6_count 51 = .ok (.ireturn, 1) := by decide +kernel
theorem dX6_count_52 : decode cX6_count 52 = .ok (.aload_n 0, 1) := by decide +kernel
theorem dX6_count_53 : decode cX6_count 53 = .ok (.getfield 10, 3) := by decide +kernel
theorem dX6_count_56 : decode cX6_count 56 = .ok (.getfield 137, 3) := by decide +kernel
theorem dX6_count_59 : decode cX6_count 59 = .ok (.ireturn, 1) := by decide +kernel
theorem dX6_count_60 : decode cX6_count 60 = .ok (.aload_n 0, 1) := by decide +kernel
theorem dX6_count_61 : decode cX6_count 61 = .ok (.getfield 10, 3) := by decide +kernel
theorem dX6_count_64 : decode cX6_count 64 = .ok (.getfield 140, 3) := by decide +kernel
theorem dX6_count_67 : decode cX6_count 67 = .ok (.ireturn, 1) := by decide +kernel
theorem dX6_count_68 : decode cX6_count 68 = .ok (.aload_n 0, 1) := by decide +kernel
theorem dX6_count_69 : decode cX6_count 69 = .ok (.getfield 10, 3) := by decide +kernel
theorem dX6_count_72 : decode cX6_count 72 = .ok (.invokevirtual 143, 3) := by decide +kernel
theorem dX6_count_75 : decode cX6_count 75 = .ok (.ireturn, 1) := by decide +kernel
theorem dX6_count_76 : decode cX6_count 76 = .ok (.aload_n 0, 1) := by decide +kernel
theorem dX6_count_77 : decode cX6_count 77 = .ok (.getfield 10, 3) := by decide +kernel
theorem dX6_count_80 : decode cX6_count 80 = .ok (.invokevirtual 146, 3) := by decide +kernel
theorem dX6_count_83 : decode cX6_count 83 = .ok (.ireturn, 1) := by decide +kernel
theorem dX6_count_84 : decode cX6_count 84 = .ok (.aload_n 0, 1) := by decide +kernel
theorem dX6_count_85 : decode cX6_count 85 = .ok (.getfield 10, 3) := by decide +kernel
theorem dX6_count_88 : decode cX6_count 88 = .ok (.invokevirtual 149, 3) := by decide +kernel
theorem dX6_count_91 : decode cX6_count 91 = .ok (.ireturn, 1) := by decide +kernel
theorem dX6_count_92 : decode cX6_count 92 = .ok (.aload_n 0, 1) := by decide +kernel
theorem dX6_count_93 : decode cX6_count 93 = .ok (.getfield 19, 3) := by decide +kernel
theorem dX6_count_96 : decode cX6_count 96 = .ok (.getfield 152, 3) := by decide +kernel
theorem dX6_count_99 : decode cX6_count 99 = .ok (.ireturn, 1) := by decide +kernel
theorem dX6_count_100 : decode cX6_count 100 = .ok (.iconst (-1), 1) := by decide +kernel
theorem dX6_count_101 : decode cX6_count 101 = .ok (.ireturn, 1) := by decide +kernel
theorem dX6_days_0 : decode cX6_days 0 = .ok (.aload_n 0, 1) := by decide +kernel
theorem dX6_days_1 : decode cX6_days 1 = .ok (.iload_n 1, 1) := by decide +kernel
theorem dX6_days_2 : decode cX6_days 2 = .ok (.iconst 0, 1) := by decide +kernel
theorem dX6_days_3 : decode cX6_days 3 = .ok (.invokevirtual 155, 3) := by decide +kernel
theorem dX6_days_6 : decode cX6_days 6 = .ok (.ireturn, 1) := by decide +kernel
theorem dX6_change_0 : decode cX6_change 0 = .ok (.aload_n 0, 1) := by decide +kernel
theorem dX6_change_1 : decode cX6_change 1 = .ok (.getfield 10, 3) := by decide +kernel
theorem dX6_change_4 : decode cX6_change 4 = .ok (.iload_n 1, 1) := by decide +kernel
theorem dX6_change_5 : decode cX6_change 5 = .ok (.invokevirtual 83, 3) := by decide +kernel
theorem dX6_change_8 : decode cX6_change 8 = .ok (.ifCond .eq 19, 3) := by decide +kernel
theorem dX6_change_11 : decode cX6_change 11 = .ok (.aload_n 0, 1) := by decide +kernel
theorem dX6_change_12 : decode cX6_change 12 = .ok (.getfield 10, 3) := by decide +kernel
theorem dX6_change_15 : decode cX6_change 15 = .ok (.iload_n 2, 1) := by decide +kernel
theorem dX6_change_16 : decode cX6_change 16 = .ok (.invokevirtual 83, 3) := by decide +kernel
theorem dX6_change_19 : decode cX6_change 19 = .ok (.ifCond .eq 8, 3) := by decide +kernel
theorem dX6_change_22 : decode cX6_change 22 = .ok (.iload_n 1, 1) := by decide +kernel
theorem dX6_change_23 : decode cX6_change 23 = .ok (.iload_n 2, 1) := by decide +kernel
theorem dX6_change_24 : decode cX6_change 24 = .ok (.if_icmp .ne 5, 3) := by decide +kernel
theorem dX6_change_27 : decode cX6_change 27 = .ok (.iconst (-1), 1) := by decide +kernel
theorem dX6_change_28 : decode cX6_change 28 = .ok (.ireturn, 1) := by decide +kernel
theorem dX6_change_29 : decode cX6_change 29 = .ok (.aload_n 0, 1) := by decide +kernel
theorem dX6_change_30 : decode cX6_change 30 = .ok (.getfield 19, 3) := by decide +kernel
theorem dX6_change_33 : decode cX6_change 33 = .ok (.aload_n 0, 1) := by decide +kernel
theorem dX6_change_34 : decode cX6_change 34 = .ok (.getfield 10, 3) := by decide +kernel
theorem dX6_change_37 : decode cX6_change 37 = .ok (.invokevirtual 159, 3) := by decide +kernel
theorem dX6_change_40 : decode cX6_change 40 = .ok (.aload_n 0, 1) := by decide +kernel
theorem dX6_change_41 : decode cX6_change 41 = .ok (.getfield 10, 3) := by decide +kernel
theorem dX6_change_44 : decode cX6_change 44 = .ok (.iload_n 1, 1) := by decide +kernel
theorem dX6_change_45 : decode cX6_change 45 = .ok (.iload_n 2, 1) := by decide +kernel
theorem dX6_change_46 : decode cX6_change 46 = .ok (.invokevirtual 162, 3) := by decide +kernel
theorem dX6_change_49 : decode cX6_change 49 = .ok (.aload_n 0, 1) := by decide +kernel
theorem dX6_change_50 : decode cX6_change 50 = .ok (.getfield 10, 3) := by decide +kernel
theorem dX6_change_53 : decode cX6_change 53 = .ok (.getfield 92, 3) := by decide +kernel
theorem dX6_change_56 : decode cX6_change 56 = .ok (.iload_n 1, 1) := by decide +kernel
theorem dX6_change_57 : decode cX6_change 57 = .ok (.iaload, 1) := by decide +kernel
theorem dX6_change_58 : decode cX6_change 58 = .ok (.ireturn, 1) := by decide +kernel
theorem dX6_move_0 : decode cX6_move 0 = .ok (.aload_n 0, 1) := by decide +kernel
theorem dX6_move_1 : decode cX6_move 1 = .ok (.getfield 10, 3) := by decide +kernel
theorem dX6_move_4 : decode cX6_move 4 = .ok (.iload_n 1, 1) := by decide +kernel
theorem dX6_move_5 : decode cX6_move 5 = .ok (.invokevirtual 83, 3) := by decide +kernel
theorem dX6_move_8 : decode cX6_move 8 = .ok (.ifCond .eq 10, 3) := by decide +kernel
theorem dX6_move_11 : decode cX6_move 11 = .ok (.iload_n 2, 1) := by decide +kernel
theorem dX6_move_12 : decode cX6_move 12 = .ok (.invokestatic 57, 3) := by decide +kernel
theorem dX6_move_15 : decode cX6_move 15 = .ok (.ifCond .ne 5, 3) := by decide +kernel
theorem dX6_move_18 : decode cX6_move 18 = .ok (.iconst (-1), 1) := by decide +kernel
theorem dX6_move_19 : decode cX6_move 19 = .ok (.ireturn, 1) := by decide +kernel
theorem dX6_move_20 : decode cX6_move 20 = .ok (.aload_n 0, 1) := by decide +kernel
theorem dX6_move_21 : decode cX6_move 21 = .ok (.getfield 10, 3) := by decide +kernel
theorem dX6_move_24 : decode cX6_move 24 = .ok (.getfield 112, 3) := by decide +kernel
theorem dX6_move_27 : decode cX6_move 27 = .ok (.iload_n 2, 1) := by decide +kernel
theorem dX6_move_28 : decode cX6_move 28 = .ok (.iaload, 1) := by decide +kernel
theorem dX6_move_29 : decode cX6_move 29 = .ok (.iconst (-1), 1) := by decide +kernel
theorem dX6_move_30 : decode cX6_move 30 = .ok (.if_icmp .eq 6, 3) := by decide +kernel
theorem dX6_move_33 : decode cX6_move 33 = .ok (.bipush (-2), 2) := by decide +kernel
theorem dX6_move_35 : decode cX6_move 35 = .ok (.ireturn, 1) := by decide +kernel
theorem dX6_move_36 : decode cX6_move 36 = .ok (.aload_n 0, 1) := by decide +kernel
theorem dX6_move_37 : decode cX6_move 37 = .ok (.getfield 19, 3) := by decide +kernel
theorem dX6_move_40 : decode cX6_move 40 = .ok (.aload_n 0, 1) := by decide +kernel
theorem dX6_move_41 : decode cX6_move 41 = .ok (.getfield 10, 3) := by decide +kernel
theorem dX6_move_44 : decode cX6_move 44 = .ok (.invokevirtual 159, 3) := by decide +kernel
theorem dX6_move_47 : decode cX6_move 47 = .ok (.aload_n 0, 1) := by decide +kernel
theorem dX6_move_48 : decode cX6_move 48 = .ok (.getfield 10, 3) := by decide +kernel
theorem dX6_move_51 : decode cX6_move 51 = .ok (.getfield 92, 3) := by decide +kernel
theorem dX6_move_54 : decode cX6_move 54 = .ok (.iload_n 1, 1) := by decide +kernel
theorem dX6_move_55 : decode cX6_move 55 = .ok (.iaload, 1) := by decide +kernel
theorem dX6_move_56 : decode cX6_move 56 = .ok (.istore_n 3, 1) := by decide +kernel
theorem dX6_move_57 : decode cX6_move 57 = .ok (.aload_n 0, 1) := by decide +kernel
theorem dX6_move_58 : decode cX6_move 58 = .ok (.getfield 10, 3) := by decide +kernel
theorem dX6_move_61 : decode cX6_move 61 = .ok (.getfield 112, 3) := by decide +kernel
theorem dX6_move_64 : decode cX6_move 64 = .ok (.iload_n 3, 1) := by decide +kernel
theorem dX6_move_65 : decode cX6_move 65 = .ok (.iconst (-1), 1) := by decide +kernel
theorem dX6_move_66 : decode cX6_move 66 = .ok (.iastore, 1) := by decide +kernel
theorem dX6_move_67 : decode cX6_move 67 = .ok (.aload_n 0, 1) := by decide +kernel
theorem dX6_move_68 : decode cX6_move 68 = .ok (.getfield 10, 3) := by decide +kernel
theorem dX6_move_71 : decode cX6_move 71 = .ok (.iload_n 1, 1) := by decide +kernel
theorem dX6_move_72 : decode cX6_move 72 = .ok (.iload_n 2, 1) := by decide +kernel
theorem dX6_move_73 : decode cX6_move 73 = .ok (.invokevirtual 166, 3) := by decide +kernel
theorem dX6_move_76 : decode cX6_move 76 = .ok (.iload_n 3, 1) := by decide +kernel
theorem dX6_move_77 : decode cX6_move 77 = .ok (.ireturn, 1) := by decide +kernel
theorem dX6_talk_0 : decode cX6_talk 0 = .ok (.aload_n 0, 1) := by decide +kernel
theorem dX6_talk_1 : decode cX6_talk 1 = .ok (.getfield 10, 3) := by decide +kernel
theorem dX6_talk_4 : decode cX6_talk 4 = .ok (.iload_n 1, 1) := by decide +kernel
theorem dX6_talk_5 : decode cX6_talk 5 = .ok (.invokevirtual 83, 3) := by decide +kernel
theorem dX6_talk_8 : decode cX6_talk 8 = .ok (.ifCond .ne 5, 3) := by decide +kernel
theorem dX6_talk_11 : decode cX6_talk 11 = .ok (.iconst (-1), 1) := by decide +kernel
theorem dX6_talk_12 : decode cX6_talk 12 = .ok (.ireturn, 1) := by decide +kernel
theorem dX6_talk_13 : decode cX6_talk 13 = .ok (.aload_n 0, 1) := by decide +kernel
theorem dX6_talk_14 : decode cX6_talk 14 = .ok (.getfield 10, 3) := by decide +kernel
theorem dX6_talk_17 : decode cX6_talk 17 = .ok (.iload_n 1, 1) := by decide +kernel
theorem dX6_talk_18 : decode cX6_talk 18 = .ok (.invokevirtual 98, 3) := by decide +kernel
theorem dX6_talk_21 : decode cX6_talk 21 = .ok (.ifCond .eq 6, 3) := by decide +kernel
theorem dX6_talk_24 : decode cX6_talk 24 = .ok (.bipush (-2), 2) := by decide +kernel
theorem dX6_talk_26 : decode cX6_talk 26 = .ok (.ireturn, 1) := by decide +kernel
theorem dX6_talk_27 : decode cX6_talk 27 = .ok (.aload_n 0, 1) := by decide +kernel
theorem dX6_talk_28 : decode cX6_talk 28 = .ok (.getfield 19, 3) := by decide +kernel
theorem dX6_talk_31 : decode cX6_talk 31 = .ok (.aload_n 0, 1) := by decide +kernel
theorem dX6_talk_32 : decode cX6_talk 32 = .ok (.getfield 10, 3) := by decide +kernel
theorem dX6_talk_35 : decode cX6_talk 35 = .ok (.invokevirtual 159, 3) := by decide +kernel
theorem dX6_talk_38 : decode cX6_talk 38 = .ok (.aload_n 0, 1) := by decide +kernel
theorem dX6_talk_39 : decode cX6_talk 39 = .ok (.getfield 10, 3) := by decide +kernel
theorem dX6_talk_42 : decode cX6_talk 42 = .ok (.iload_n 1, 1) := by decide +kernel
theorem dX6_talk_43 : decode cX6_talk 43 = .ok (.invokevirtual 169, 3) := by decide +kernel
theorem dX6_talk_46 : decode cX6_talk 46 = .ok (.aload_n 0, 1) := by decide +kernel
theorem dX6_talk_47 : decode cX6_talk 47 = .ok (.getfield 10, 3) := by decide +kernel
theorem dX6_talk_50 : decode cX6_talk 50 = .ok (.getfield 89, 3) := by decide +kernel
theorem dX6_talk_53 : decode cX6_talk 53 = .ok (.iload_n 1, 1) := by decide +kernel
theorem dX6_talk_54 : decode cX6_talk 54 = .ok (.iaload, 1) := by decide +kernel
theorem dX6_talk_55 : decode cX6_talk 55 = .ok (.ireturn, 1) := by decide +kernel
theorem dX6_drift_0 : decode cX6_drift 0 = .ok (.aload_n 0, 1) := by decide +kernel
theorem dX6_drift_1 : decode cX6_drift 1 = .ok (.iload_n 1, 1) := by decide +kernel
theorem dX6_drift_2 : decode cX6_drift 2 = .ok (.iconst 1, 1) := by decide +kernel
theorem dX6_drift_3 : decode cX6_drift 3 = .ok (.invokevirtual 155, 3) := by decide +kernel
theorem dX6_drift_6 : decode cX6_drift 6 = .ok (.ireturn, 1) := by decide +kernel
theorem dX6_undo_0 : decode cX6_undo 0 = .ok (.aload_n 0, 1) := by decide +kernel
theorem dX6_undo_1 : decode cX6_undo 1 = .ok (.getfield 19, 3) := by decide +kernel
theorem dX6_undo_4 : decode cX6_undo 4 = .ok (.getfield 152, 3) := by decide +kernel
theorem dX6_undo_7 : decode cX6_undo 7 = .ok (.ifCond .ne 6, 3) := by decide +kernel
theorem dX6_undo_10 : decode cX6_undo 10 = .ok (.bipush (-4), 2) := by decide +kernel
theorem dX6_undo_12 : decode cX6_undo 12 = .ok (.ireturn, 1) := by decide +kernel
theorem dX6_undo_13 : decode cX6_undo 13 = .ok (.aload_n 0, 1) := by decide +kernel
theorem dX6_undo_14 : decode cX6_undo 14 = .ok (.getfield 19, 3) := by decide +kernel
theorem dX6_undo_17 : decode cX6_undo 17 = .ok (.aload_n 0, 1) := by decide +kernel
theorem dX6_undo_18 : decode cX6_undo 18 = .ok (.getfield 10, 3) := by decide +kernel
theorem dX6_undo_21 : decode cX6_undo 21 = .ok (.invokevirtual 173, 3) := by decide +kernel
theorem dX6_undo_24 : decode cX6_undo 24 = .ok (.aload_n 0, 1) := by decide +kernel
theorem dX6_undo_25 : decode cX6_undo 25 = .ok (.getfield 19, 3) := by decide +kernel
theorem dX6_undo_28 : decode cX6_undo 28 = .ok (.getfield 152, 3) := by decide +kernel
theorem dX6_undo_31 : decode cX6_undo 31 = .ok (.ireturn, 1) := by decide +kernel
theorem dX6_seed_0 : decode cX6_seed 0 = .ok (.iload_n 1, 1) := by decide +kernel
theorem dX6_seed_1 : decode cX6_seed 1 = .ok (.ifCond .ge 5, 3) := by decide +kernel
theorem dX6_seed_4 : decode cX6_seed 4 = .ok (.iconst (-1), 1) := by decide +kernel
theorem dX6_seed_5 : decode cX6_seed 5 = .ok (.ireturn, 1) := by decide +kernel
theorem dX6_seed_6 : decode cX6_seed 6 = .ok (.aload_n 0, 1) := by decide +kernel
theorem dX6_seed_7 : decode cX6_seed 7 = .ok (.getfield 10, 3) := by decide +kernel
theorem dX6_seed_10 : decode cX6_seed 10 = .ok (.getfield 176, 3) := by decide +kernel
theorem dX6_seed_13 : decode cX6_seed 13 = .ok (.istore_n 2, 1) := by decide +kernel
theorem dX6_seed_14 : decode cX6_seed 14 = .ok (.aload_n 0, 1) := by decide +kernel
theorem dX6_seed_15 : decode cX6_seed 15 = .ok (.getfield 10, 3) := by decide +kernel
theorem dX6_seed_18 : decode cX6_seed 18 = .ok (.iload_n 1, 1) := by decide +kernel
theorem dX6_seed_19 : decode cX6_seed 19 = .ok (.putfield 176, 3) := by decide +kernel
theorem dX6_seed_22 : decode cX6_seed 22 = .ok (.iload_n 2, 1) := by decide +kernel
theorem dX6_seed_23 : decode cX6_seed 23 = .ok (.ireturn, 1) := by decide +kernel
theorem dX6_ahead_0 : decode cX6_ahead 0 = .ok (.aload_n 0, 1) := by decide +kernel
theorem dX6_ahead_1 : decode cX6_ahead 1 = .ok (.getfield 10, 3) := by decide +kernel
theorem dX6_ahead_4 : decode cX6_ahead 4 = .ok (.iload_n 1, 1) := by decide +kernel
theorem dX6_ahead_5 : decode cX6_ahead 5 = .ok (.invokevirtual 83, 3) := by decide +kernel
theorem dX6_ahead_8 : decode cX6_ahead 8 = .ok (.ifCond .eq 13, 3) := by decide +kernel
theorem dX6_ahead_11 : decode cX6_ahead 11 = .ok (.iload_n 2, 1) := by decide +kernel
theorem dX6_ahead_12 : decode cX6_ahead 12 = .ok (.iconst 0, 1) := by decide +kernel
theorem dX6_ahead_13 : decode cX6_ahead 13 = .ok (.bipush 99, 2) := by decide +kernel
theorem dX6_ahead_15 : decode cX6_ahead 15 = .ok (.invokestatic 53, 3) := by decide +kernel
theorem dX6_ahead_18 : decode cX6_ahead 18 = .ok (.ifCond .ne 5, 3) := by decide +kernel
theorem dX6_ahead_21 : decode cX6_ahead 21 = .ok (.iconst (-1), 1) := by decide +kernel
theorem dX6_ahead_22 : decode cX6_ahead 22 = .ok (.ireturn, 1) := by decide +kernel
theorem dX6_ahead_23 : decode cX6_ahead 23 = .ok (.aload_n 0, 1) := by decide +kernel
theorem dX6_ahead_24 : decode cX6_ahead 24 = .ok (.iload_n 2, 1) := by decide +kernel
theorem dX6_ahead_25 : decode cX6_ahead 25 = .ok (.invokevirtual 179, 3) := by decide +kernel
theorem dX6_ahead_28 : decode cX6_ahead 28 = .ok (.aload_n 0, 1) := by decide +kernel
theorem dX6_ahead_29 : decode cX6_ahead 29 = .ok (.getfield 23, 3) := by decide +kernel
theorem dX6_ahead_32 : decode cX6_ahead 32 = .ok (.getfield 89, 3) := by decide +kernel
theorem dX6_ahead_35 : decode cX6_ahead 35 = .ok (.iload_n 1, 1) := by decide +kernel
theorem dX6_ahead_36 : decode cX6_ahead 36 = .ok (.iaload, 1) := by decide +kernel
theorem dX6_ahead_37 : decode cX6_ahead 37 = .ok (.ireturn, 1) := by decide +kernel
theorem dX6_then_0 : decode cX6_then 0 = .ok (.iload_n 1, 1) := by decide +kernel
theorem dX6_then_1 : decode cX6_then 1 = .ok (.iconst 0, 1) := by decide +kernel
theorem dX6_then_2 : decode cX6_then 2 = .ok (.bipush 99, 2) := by decide +kernel
theorem dX6_then_4 : decode cX6_then 4 = .ok (.invokestatic 53, 3) := by decide +kernel
theorem dX6_then_7 : decode cX6_then 7 = .ok (.ifCond .eq 12, 3) := by decide +kernel
theorem dX6_then_10 : decode cX6_then 10 = .ok (.iload_n 2, 1) := by decide +kernel
theorem dX6_then_11 : decode cX6_then 11 = .ok (.iconst 0, 1) := by decide +kernel
theorem dX6_then_12 : decode cX6_then 12 = .ok (.iconst 1, 1) := by decide +kernel
theorem dX6_then_13 : decode cX6_then 13 = .ok (.invokestatic 53, 3) := by decide +kernel
theorem dX6_then_16 : decode cX6_then 16 = .ok (.ifCond .ne 5, 3) := by decide +kernel
theorem dX6_then_19 : decode cX6_then 19 = .ok (.iconst (-1), 1) := by decide +kernel
theorem dX6_then_20 : decode cX6_then 20 = .ok (.ireturn, 1) := by decide +kernel
theorem dX6_then_21 : decode cX6_then 21 = .ok (.aload_n 0, 1) := by decide +kernel
theorem dX6_then_22 : decode cX6_then 22 = .ok (.iload_n 1, 1) := by decide +kernel
theorem dX6_then_23 : decode cX6_then 23 = .ok (.invokevirtual 179, 3) := by decide +kernel
theorem dX6_then_26 : decode cX6_then 26 = .ok (.iload_n 2, 1) := by decide +kernel
theorem dX6_then_27 : decode cX6_then 27 = .ok (.ifCond .ne 13, 3) := by decide +kernel
theorem dX6_then_30 : decode cX6_then 30 = .ok (.aload_n 0, 1) := by decide +kernel
theorem dX6_then_31 : decode cX6_then 31 = .ok (.getfield 23, 3) := by decide +kernel
theorem dX6_then_34 : decode cX6_then 34 = .ok (.invokevirtual 143, 3) := by decide +kernel
theorem dX6_then_37 : decode cX6_then 37 = .ok (.goto 10, 3) := by decide +kernel
theorem dX6_then_40 : decode cX6_then 40 = .ok (.aload_n 0, 1) := by decide +kernel
theorem dX6_then_41 : decode cX6_then 41 = .ok (.getfield 23, 3) := by decide +kernel
theorem dX6_then_44 : decode cX6_then 44 = .ok (.getfield 140, 3) := by decide +kernel
theorem dX6_then_47 : decode cX6_then 47 = .ok (.ireturn, 1) := by decide +kernel
theorem dX6_takes_0 : decode cX6_takes 0 = .ok (.aload_n 0, 1) := by decide +kernel
theorem dX6_takes_1 : decode cX6_takes 1 = .ok (.getfield 10, 3) := by decide +kernel
theorem dX6_takes_4 : decode cX6_takes 4 = .ok (.iload_n 1, 1) := by decide +kernel
theorem dX6_takes_5 : decode cX6_takes 5 = .ok (.invokevirtual 83, 3) := by decide +kernel
theorem dX6_takes_8 : decode cX6_takes 8 = .ok (.ifCond .ne 5, 3) := by decide +kernel
theorem dX6_takes_11 : decode cX6_takes 11 = .ok (.iconst (-1), 1) := by decide +kernel
theorem dX6_takes_12 : decode cX6_takes 12 = .ok (.ireturn, 1) := by decide +kernel
theorem dX6_takes_13 : decode cX6_takes 13 = .ok (.aload_n 0, 1) := by decide +kernel
theorem dX6_takes_14 : decode cX6_takes 14 = .ok (.getfield 23, 3) := by decide +kernel
theorem dX6_takes_17 : decode cX6_takes 17 = .ok (.aload_n 0, 1) := by decide +kernel
theorem dX6_takes_18 : decode cX6_takes 18 = .ok (.getfield 10, 3) := by decide +kernel
theorem dX6_takes_21 : decode cX6_takes 21 = .ok (.invokevirtual 122, 3) := by decide +kernel
theorem dX6_takes_24 : decode cX6_takes 24 = .ok (.iconst 0, 1) := by decide +kernel
theorem dX6_takes_25 : decode cX6_takes 25 = .ok (.istore_n 2, 1) := by decide +kernel
theorem dX6_takes_26 : decode cX6_takes 26 = .ok (.iload_n 2, 1) := by decide +kernel
theorem dX6_takes_27 : decode cX6_takes 27 = .ok (.bipush 99, 2) := by decide +kernel
theorem dX6_takes_29 : decode cX6_takes 29 = .ok (.if_icmp .gt 29, 3) := by decide +kernel
theorem dX6_takes_32 : decode cX6_takes 32 = .ok (.aload_n 0, 1) := by decide +kernel
theorem dX6_takes_33 : decode cX6_takes 33 = .ok (.getfield 23, 3) := by decide +kernel
theorem dX6_takes_36 : decode cX6_takes 36 = .ok (.iload_n 1, 1) := by decide +kernel
theorem dX6_takes_37 : decode cX6_takes 37 = .ok (.invokevirtual 98, 3) := by decide +kernel
theorem dX6_takes_40 : decode cX6_takes 40 = .ok (.ifCond .eq 5, 3) := by decide +kernel
theorem dX6_takes_43 : decode cX6_takes 43 = .ok (.iload_n 2, 1) := by decide +kernel
theorem dX6_takes_44 : decode cX6_takes 44 = .ok (.ireturn, 1) := by decide +kernel
theorem dX6_takes_45 : decode cX6_takes 45 = .ok (.aload_n 0, 1) := by decide +kernel
theorem dX6_takes_46 : decode cX6_takes 46 = .ok (.getfield 23, 3) := by decide +kernel
theorem dX6_takes_49 : decode cX6_takes 49 = .ok (.invokevirtual 182, 3) := by decide +kernel
theorem dX6_takes_52 : decode cX6_takes 52 = .ok (.iinc 2 1, 3) := by decide +kernel
theorem dX6_takes_55 : decode cX6_takes 55 = .ok (.goto (-29), 3) := by decide +kernel
theorem dX6_takes_58 : decode cX6_takes 58 = .ok (.bipush (-4), 2) := by decide +kernel
theorem dX6_takes_60 : decode cX6_takes 60 = .ok (.ireturn, 1) := by decide +kernel
theorem dX6_cough_0 : decode cX6_cough 0 = .ok (.iload_n 1, 1) := by decide +kernel
theorem dX6_cough_1 : decode cX6_cough 1 = .ok (.iconst 0, 1) := by decide +kernel
theorem dX6_cough_2 : decode cX6_cough 2 = .ok (.iconst 1, 1) := by decide +kernel
theorem dX6_cough_3 : decode cX6_cough 3 = .ok (.invokestatic 53, 3) := by decide +kernel
theorem dX6_cough_6 : decode cX6_cough 6 = .ok (.ifCond .ne 5, 3) := by decide +kernel
theorem dX6_cough_9 : decode cX6_cough 9 = .ok (.iconst (-1), 1) := by decide +kernel
theorem dX6_cough_10 : decode cX6_cough 10 = .ok (.ireturn, 1) := by decide +kernel
theorem dX6_cough_11 : decode cX6_cough 11 = .ok (.aload_n 0, 1) := by decide +kernel
theorem dX6_cough_12 : decode cX6_cough 12 = .ok (.getfield 23, 3) := by decide +kernel
theorem dX6_cough_15 : decode cX6_cough 15 = .ok (.aload_n 0, 1) := by decide +kernel
theorem dX6_cough_16 : decode cX6_cough 16 = .ok (.getfield 10, 3) := by decide +kernel
theorem dX6_cough_19 : decode cX6_cough 19 = .ok (.invokevirtual 122, 3) := by decide +kernel
theorem dX6_cough_22 : decode cX6_cough 22 = .ok (.iconst 0, 1) := by decide +kernel
theorem dX6_cough_23 : decode cX6_cough 23 = .ok (.istore_n 2, 1) := by decide +kernel
theorem dX6_cough_24 : decode cX6_cough 24 = .ok (.iload_n 2, 1) := by decide +kernel
theorem dX6_cough_25 : decode cX6_cough 25 = .ok (.bipush 99, 2) := by decide +kernel
theorem dX6_cough_27 : decode cX6_cough 27 = .ok (.if_icmp .gt 40, 3) := by decide +kernel
theorem dX6_cough_30 : decode cX6_cough 30 = .ok (.aload_n 0, 1) := by decide +kernel
theorem dX6_cough_31 : decode cX6_cough 31 = .ok (.getfield 23, 3) := by decide +kernel
theorem dX6_cough_34 : decode cX6_cough 34 = .ok (.invokevirtual 185, 3) := by decide +kernel
theorem dX6_cough_37 : decode cX6_cough 37 = .ok (.istore_n 3, 1) := by decide +kernel
theorem dX6_cough_38 : decode cX6_cough 38 = .ok (.iload_n 3, 1) := by decide +kernel
theorem dX6_cough_39 : decode cX6_cough 39 = .ok (.bipush (-4), 2) := by decide +kernel
theorem dX6_cough_41 : decode cX6_cough 41 = .ok (.if_icmp .eq 13, 3) := by decide +kernel
theorem dX6_cough_44 : decode cX6_cough 44 = .ok (.iload_n 1, 1) := by decide +kernel
theorem dX6_cough_45 : decode cX6_cough 45 = .ok (.ifCond .ne 7, 3) := by decide +kernel
theorem dX6_cough_48 : decode cX6_cough 48 = .ok (.iload_n 2, 1) := by decide +kernel
theorem dX6_cough_49 : decode cX6_cough 49 = .ok (.goto 4, 3) := by decide +kernel
theorem dX6_cough_52 : decode cX6_cough 52 = .ok (.iload_n 3, 1) := by decide +kernel
theorem dX6_cough_53 : decode cX6_cough 53 = .ok (.ireturn, 1) := by decide +kernel
theorem dX6_cough_54 : decode cX6_cough 54 = .ok (.aload_n 0, 1) := by decide +kernel
theorem dX6_cough_55 : decode cX6_cough 55 = .ok (.getfield 23, 3) := by decide +kernel
theorem dX6_cough_58 : decode cX6_cough 58 = .ok (.invokevirtual 182, 3) := by decide +kernel
theorem dX6_cough_61 : decode cX6_cough 61 = .ok (.iinc 2 1, 3) := by decide +kernel
theorem dX6_cough_64 : decode cX6_cough 64 = .ok (.goto (-40), 3) := by decide +kernel
theorem dX6_cough_67 : decode cX6_cough 67 = .ok (.bipush (-4), 2) := by decide +kernel
theorem dX6_cough_69 : decode cX6_cough 69 = .ok (.ireturn, 1) := by decide +kernel
theorem dX6_content_0 : decode cX6_content 0 = .ok (.iload_n 1, 1) := by decide +kernel
theorem dX6_content_1 : decode cX6_content 1 = .ok (.iconst (-1), 1) := by decide +kernel
theorem dX6_content_2 : decode cX6_content 2 = .ok (.if_icmp .ge 5, 3) := by decide +kernel
theorem dX6_content_5 : decode cX6_content 5 = .ok (.iconst (-1), 1) := by decide +kernel
theorem dX6_content_6 : decode cX6_content 6 = .ok (.ireturn, 1) := by decide +kernel
theorem dX6_content_7 : decode cX6_content 7 = .ok (.iload_n 1, 1) := by decide +kernel
theorem dX6_content_8 : decode cX6_content 8 = .ok (.aload_n 0, 1) := by decide +kernel
theorem dX6_content_9 : decode cX6_content 9 = .ok (.getfield 10, 3) := by decide +kernel
theorem dX6_content_12 : decode cX6_content 12 = .ok (.getfield 72, 3) := by decide +kernel
theorem dX6_content_15 : decode cX6_content 15 = .ok (.if_icmp .lt 6, 3) := by decide +kernel
theorem dX6_content_18 : decode cX6_content 18 = .ok (.bipush (-4), 2) := by decide +kernel
theorem dX6_content_20 : decode cX6_content 20 = .ok (.ireturn, 1) := by decide +kernel
theorem dX6_content_21 : decode cX6_content 21 = .ok (.aload_n 0, 1) := by decide +kernel
theorem dX6_content_22 : decode cX6_content 22 = .ok (.invokevirtual 188, 3) := by decide +kernel
theorem dX6_content_25 : decode cX6_content 25 = .ok (.aload_n 0, 1) := by decide +kernel
theorem dX6_content_26 : decode cX6_content 26 = .ok (.getfield 35, 3) := by decide +kernel
theorem dX6_content_29 : decode cX6_content 29 = .ok (.iload_n 1, 1) := by decide +kernel
theorem dX6_content_30 : decode cX6_content 30 = .ok (.invokevirtual 191, 3) := by decide +kernel
theorem dX6_content_33 : decode cX6_content 33 = .ok (.ireturn, 1) := by decide +kernel
theorem dX6_swaps_0 : decode cX6_swaps 0 = .ok (.iload_n 1, 1) := by decide +kernel
theorem dX6_swaps_1 : decode cX6_swaps 1 = .ok (.tableswitch 48 0 2 #[27, 35, 43], 27) := by decide +kernel
theorem dX6_swaps_28 : decode cX6_swaps 28 = .ok (.aload_n 0, 1) := by decide +kernel
theorem dX6_swaps_29 : decode cX6_swaps 29 = .ok (.getfield 10, 3) := by decide +kernel
theorem dX6_swaps_32 : decode cX6_swaps 32 = .ok (.invokevirtual 194, 3) := by decide +kernel
theorem dX6_swaps_35 : decode cX6_swaps 35 = .ok (.ireturn, 1) := by decide +kernel
theorem dX6_swaps_36 : decode cX6_swaps 36 = .ok (.aload_n 0, 1) := by decide +kernel
theorem dX6_swaps_37 : decode cX6_swaps 37 = .ok (.getfield 10, 3) := by decide +kernel
theorem dX6_swaps_40 : decode cX6_swaps 40 = .ok (.invokevirtual 197, 3) := by decide +kernel
theorem dX6_swaps_43 : decode cX6_swaps 43 = .ok (.ireturn, 1) := by decide +kernel
theorem dX6_swaps_44 : decode cX6_swaps 44 = .ok (.aload_n 0, 1) := by decide +kernel
theorem dX6_swaps_45 : decode cX6_swaps 45 = .ok (.invokevirtual 200, 3) := by decide +kernel
theorem dX6_swaps_48 : decode cX6_swaps 48 = .ok (.ireturn, 1) := by decide +kernel
theorem dX6_swaps_49 : decode cX6_swaps 49 = .ok (.iconst (-1), 1) := by decide +kernel
theorem dX6_swaps_50 : decode cX6_swaps 50 = .ok (.ireturn, 1) := by decide +kernel
theorem dX6_latest_0 : decode cX6_latest 0 = .ok (.aload_n 0, 1) := by decide +kernel
theorem dX6_latest_1 : decode cX6_latest 1 = .ok (.getfield 10, 3) := by decide +kernel
theorem dX6_latest_4 : decode cX6_latest 4 = .ok (.iload_n 1, 1) := by decide +kernel
theorem dX6_latest_5 : decode cX6_latest 5 = .ok (.invokevirtual 83, 3) := by decide +kernel
theorem dX6_latest_8 : decode cX6_latest 8 = .ok (.ifCond .eq 18, 3) := by decide +kernel
theorem dX6_latest_11 : decode cX6_latest 11 = .ok (.iload_n 2, 1) := by decide +kernel
theorem dX6_latest_12 : decode cX6_latest 12 = .ok (.iconst 0, 1) := by decide +kernel
theorem dX6_latest_13 : decode cX6_latest 13 = .ok (.bipush 40, 2) := by decide +kernel
theorem dX6_latest_15 : decode cX6_latest 15 = .ok (.invokestatic 53, 3) := by decide +kernel
theorem dX6_latest_18 : decode cX6_latest 18 = .ok (.ifCond .eq 8, 3) := by decide +kernel
theorem dX6_latest_21 : decode cX6_latest 21 = .ok (.iload_n 3, 1) := by decide +kernel
theorem dX6_latest_22 : decode cX6_latest 22 = .ok (.iconst (-1), 1) := by decide +kernel
theorem dX6_latest_23 : decode cX6_latest 23 = .ok (.if_icmp .ge 5, 3) := by decide +kernel
theorem dX6_latest_26 : decode cX6_latest 26 = .ok (.iconst (-1), 1) := by decide +kernel
theorem dX6_latest_27 : decode cX6_latest 27 = .ok (.ireturn, 1) := by decide +kernel
theorem dX6_latest_28 : decode cX6_latest 28 = .ok (.iload_n 3, 1) := by decide +kernel
theorem dX6_latest_29 : decode cX6_latest 29 = .ok (.aload_n 0, 1) := by decide +kernel
theorem dX6_latest_30 : decode cX6_latest 30 = .ok (.getfield 10, 3) := by decide +kernel
theorem dX6_latest_33 : decode cX6_latest 33 = .ok (.getfield 72, 3) := by decide +kernel
theorem dX6_latest_36 : decode cX6_latest 36 = .ok (.if_icmp .lt 6, 3) := by decide +kernel
theorem dX6_latest_39 : decode cX6_latest 39 = .ok (.bipush (-4), 2) := by decide +kernel
theorem dX6_latest_41 : decode cX6_latest 41 = .ok (.ireturn, 1) := by decide +kernel
theorem dX6_latest_42 : decode cX6_latest 42 = .ok (.aload_n 0, 1) := by decide +kernel
theorem dX6_latest_43 : decode cX6_latest 43 = .ok (.iload_n 1, 1) := by decide +kernel
theorem dX6_latest_44 : decode cX6_latest 44 = .ok (.iload_n 2, 1) := by decide +kernel
theorem dX6_latest_45 : decode cX6_latest 45 = .ok (.invokevirtual 203, 3) := by decide +kernel
theorem dX6_latest_48 : decode cX6_latest 48 = .ok (.aload_n 0, 1) := by decide +kernel
theorem dX6_latest_49 : decode cX6_latest 49 = .ok (.getfield 35, 3) := by decide +kernel
theorem dX6_latest_52 : decode cX6_latest 52 = .ok (.iload_n 3, 1) := by decide +kernel
theorem dX6_latest_53 : decode cX6_latest 53 = .ok (.invokevirtual 191, 3) := by decide +kernel
theorem dX6_latest_56 : decode cX6_latest 56 = .ok (.ireturn, 1) := by decide +kernel
theorem dX6_earn_0 : decode cX6_earn 0 = .ok (.iload_n 1, 1) := by decide +kernel
theorem dX6_earn_1 : decode cX6_earn 1 = .ok (.iconst 1, 1) := by decide +kernel
theorem dX6_earn_2 : decode cX6_earn 2 = .ok (.bipush 40, 2) := by decide +kernel
theorem dX6_earn_4 : decode cX6_earn 4 = .ok (.invokestatic 53, 3) := by decide +kernel
theorem dX6_earn_7 : decode cX6_earn 7 = .ok (.ifCond .eq 8, 3) := by decide +kernel
theorem dX6_earn_10 : decode cX6_earn 10 = .ok (.iload_n 2, 1) := by decide +kernel
theorem dX6_earn_11 : decode cX6_earn 11 = .ok (.iconst (-1), 1) := by decide +kernel
theorem dX6_earn_12 : decode cX6_earn 12 = .ok (.if_icmp .ge 5, 3) := by decide +kernel
theorem dX6_earn_15 : decode cX6_earn 15 = .ok (.iconst (-1), 1) := by decide +kernel
theorem dX6_earn_16 : decode cX6_earn 16 = .ok (.ireturn, 1) := by decide +kernel
theorem dX6_earn_17 : decode cX6_earn 17 = .ok (.iload_n 2, 1) := by decide +kernel
theorem dX6_earn_18 : decode cX6_earn 18 = .ok (.aload_n 0, 1) := by decide +kernel
theorem dX6_earn_19 : decode cX6_earn 19 = .ok (.getfield 10, 3) := by decide +kernel
theorem dX6_earn_22 : decode cX6_earn 22 = .ok (.getfield 72, 3) := by decide +kernel
theorem dX6_earn_25 : decode cX6_earn 25 = .ok (.if_icmp .lt 6, 3) := by decide +kernel
theorem dX6_earn_28 : decode cX6_earn 28 = .ok (.bipush (-4), 2) := by decide +kernel
theorem dX6_earn_30 : decode cX6_earn 30 = .ok (.ireturn, 1) := by decide +kernel
theorem dX6_earn_31 : decode cX6_earn 31 = .ok (.aload_n 0, 1) := by decide +kernel
theorem dX6_earn_32 : decode cX6_earn 32 = .ok (.iload_n 1, 1) := by decide +kernel
theorem dX6_earn_33 : decode cX6_earn 33 = .ok (.invokevirtual 206, 3) := by decide +kernel
theorem dX6_earn_36 : decode cX6_earn 36 = .ok (.aload_n 0, 1) := by decide +kernel
theorem dX6_earn_37 : decode cX6_earn 37 = .ok (.getfield 35, 3) := by decide +kernel
theorem dX6_earn_40 : decode cX6_earn 40 = .ok (.iload_n 2, 1) := by decide +kernel
theorem dX6_earn_41 : decode cX6_earn 41 = .ok (.invokevirtual 191, 3) := by decide +kernel
theorem dX6_earn_44 : decode cX6_earn 44 = .ok (.ireturn, 1) := by decide +kernel
theorem dX6_dark_0 : decode cX6_dark 0 = .ok (.aload_n 0, 1) := by decide +kernel
theorem dX6_dark_1 : decode cX6_dark 1 = .ok (.getfield 10, 3) := by decide +kernel
theorem dX6_dark_4 : decode cX6_dark 4 = .ok (.iload_n 1, 1) := by decide +kernel
theorem dX6_dark_5 : decode cX6_dark 5 = .ok (.invokevirtual 83, 3) := by decide +kernel
theorem dX6_dark_8 : decode cX6_dark 8 = .ok (.ifCond .eq 13, 3) := by decide +kernel
theorem dX6_dark_11 : decode cX6_dark 11 = .ok (.iload_n 2, 1) := by decide +kernel
theorem dX6_dark_12 : decode cX6_dark 12 = .ok (.iconst 1, 1) := by decide +kernel
theorem dX6_dark_13 : decode cX6_dark 13 = .ok (.bipush 40, 2) := by decide +kernel
theorem dX6_dark_15 : decode cX6_dark 15 = .ok (.invokestatic 53, 3) := by decide +kernel
theorem dX6_dark_18 : decode cX6_dark 18 = .ok (.ifCond .ne 5, 3) := by decide +kernel
theorem dX6_dark_21 : decode cX6_dark 21 = .ok (.iconst (-1), 1) := by decide +kernel
theorem dX6_dark_22 : decode cX6_dark 22 = .ok (.ireturn, 1) := by decide +kernel
theorem dX6_dark_23 : decode cX6_dark 23 = .ok (.bipush 9, 2) := by decide +kernel
theorem dX6_dark_25 : decode cX6_dark 25 = .ok (.istore_n 3, 1) := by decide +kernel
theorem dX6_dark_26 : decode cX6_dark 26 = .ok (.iload_n 3, 1) := by decide +kernel
theorem dX6_dark_27 : decode cX6_dark 27 = .ok (.ifCond .lt 59, 3) := by decide +kernel
theorem dX6_dark_30 : decode cX6_dark 30 = .ok (.aload_n 0, 1) := by decide +kernel
theorem dX6_dark_31 : decode cX6_dark 31 = .ok (.getfield 23, 3) := by decide +kernel
theorem dX6_dark_34 : decode cX6_dark 34 = .ok (.aload_n 0, 1) := by decide +kernel
theorem dX6_dark_35 : decode cX6_dark 35 = .ok (.getfield 10, 3) := by decide +kernel
theorem dX6_dark_38 : decode cX6_dark 38 = .ok (.invokevirtual 122, 3) := by decide +kernel
theorem dX6_dark_41 : decode cX6_dark 41 = .ok (.aload_n 0, 1) := by decide +kernel
theorem dX6_dark_42 : decode cX6_dark 42 = .ok (.getfield 23, 3) := by decide +kernel
theorem dX6_dark_45 : decode cX6_dark 45 = .ok (.getfield 76, 3) := by decide +kernel
theorem dX6_dark_48 : decode cX6_dark 48 = .ok (.aload_n 0, 1) := by decide +kernel
theorem dX6_dark_49 : decode cX6_dark 49 = .ok (.getfield 10, 3) := by decide +kernel
theorem dX6_dark_52 : decode cX6_dark 52 = .ok (.getfield 92, 3) := by decide +kernel
theorem dX6_dark_55 : decode cX6_dark 55 = .ok (.iload_n 1, 1) := by decide +kernel
theorem dX6_dark_56 : decode cX6_dark 56 = .ok (.iaload, 1) := by decide +kernel
theorem dX6_dark_57 : decode cX6_dark 57 = .ok (.iload_n 3, 1) := by decide +kernel
theorem dX6_dark_58 : decode cX6_dark 58 = .ok (.iastore, 1) := by decide +kernel
theorem dX6_dark_59 : decode cX6_dark 59 = .ok (.aload_n 0, 1) := by decide +kernel
theorem dX6_dark_60 : decode cX6_dark 60 = .ok (.getfield 23, 3) := by decide +kernel
theorem dX6_dark_63 : decode cX6_dark 63 = .ok (.iload_n 2, 1) := by decide +kernel
theorem dX6_dark_64 : decode cX6_dark 64 = .ok (.invokevirtual 209, 3) := by decide +kernel
theorem dX6_dark_67 : decode cX6_dark 67 = .ok (.aload_n 0, 1) := by decide +kernel
theorem dX6_dark_68 : decode cX6_dark 68 = .ok (.getfield 23, 3) := by decide +kernel
theorem dX6_dark_71 : decode cX6_dark 71 = .ok (.iload_n 1, 1) := by decide +kernel
theorem dX6_dark_72 : decode cX6_dark 72 = .ok (.invokevirtual 98, 3) := by decide +kernel
theorem dX6_dark_75 : decode cX6_dark 75 = .ok (.ifCond .eq 5, 3) := by decide +kernel
theorem dX6_dark_78 : decode cX6_dark 78 = .ok (.iload_n 3, 1) := by decide +kernel
theorem dX6_dark_79 : decode cX6_dark 79 = .ok (.ireturn, 1) := by decide +kernel
theorem dX6_dark_80 : decode cX6_dark 80 = .ok (.iinc 3 (-1), 3) := by decide +kernel
theorem dX6_dark_83 : decode cX6_dark 83 = .ok (.goto (-57), 3) := by decide +kernel
theorem dX6_dark_86 : decode cX6_dark 86 = .ok (.bipush (-4), 2) := by decide +kernel
theorem dX6_dark_88 : decode cX6_dark 88 = .ok (.ireturn, 1) := by decide +kernel
theorem dX6_spare_0 : decode cX6_spare 0 = .ok (.aload_n 0, 1) := by decide +kernel
theorem dX6_spare_1 : decode cX6_spare 1 = .ok (.getfield 10, 3) := by decide +kernel
theorem dX6_spare_4 : decode cX6_spare 4 = .ok (.iload_n 1, 1) := by decide +kernel
theorem dX6_spare_5 : decode cX6_spare 5 = .ok (.invokevirtual 83, 3) := by decide +kernel
theorem dX6_spare_8 : decode cX6_spare 8 = .ok (.ifCond .eq 13, 3) := by decide +kernel
theorem dX6_spare_11 : decode cX6_spare 11 = .ok (.iload_n 2, 1) := by decide +kernel
theorem dX6_spare_12 : decode cX6_spare 12 = .ok (.iconst 1, 1) := by decide +kernel
theorem dX6_spare_13 : decode cX6_spare 13 = .ok (.bipush 40, 2) := by decide +kernel
theorem dX6_spare_15 : decode cX6_spare 15 = .ok (.invokestatic 53, 3) := by decide +kernel
theorem dX6_spare_18 : decode cX6_spare 18 = .ok (.ifCond .ne 5, 3) := by decide +kernel
theorem dX6_spare_21 : decode cX6_spare 21 = .ok (.iconst (-1), 1) := by decide +kernel
theorem dX6_spare_22 : decode cX6_spare 22 = .ok (.ireturn, 1) := by decide +kernel
theorem dX6_spare_23 : decode cX6_spare 23 = .ok (.iconst 0, 1) := by decide +kernel
theorem dX6_spare_24 : decode cX6_spare 24 = .ok (.istore_n 3, 1) := by decide +kernel
theorem dX6_spare_25 : decode cX6_spare 25 = .ok (.iload_n 3, 1) := by decide +kernel
theorem dX6_spare_26 : decode cX6_spare 26 = .ok (.bipush 20, 2) := by decide +kernel
theorem dX6_spare_28 : decode cX6_spare 28 = .ok (.if_icmp .gt 64, 3) := by decide +kernel
theorem dX6_spare_31 : decode cX6_spare 31 = .ok (.aload_n 0, 1) := by decide +kernel
theorem dX6_spare_32 : decode cX6_spare 32 = .ok (.getfield 23, 3) := by decide +kernel
theorem dX6_spare_35 : decode cX6_spare 35 = .ok (.aload_n 0, 1) := by decide +kernel
theorem dX6_spare_36 : decode cX6_spare 36 = .ok (.getfield 10, 3) := by decide +kernel
theorem dX6_spare_39 : decode cX6_spare 39 = .ok (.invokevirtual 122, 3) := by decide +kernel
theorem dX6_spare_42 : decode cX6_spare 42 = .ok (.iconst 0, 1) := by decide +kernel
theorem dX6_spare_43 : decode cX6_spare 43 = .ok (.istore 4, 2) := by decide +kernel
theorem dX6_spare_45 : decode cX6_spare 45 = .ok (.iload 4, 2) := by decide +kernel
theorem dX6_spare_47 : decode cX6_spare 47 = .ok (.iload_n 3, 1) := by decide +kernel
theorem dX6_spare_48 : decode cX6_spare 48 = .ok (.if_icmp .ge 17, 3) := by decide +kernel
theorem dX6_spare_51 : decode cX6_spare 51 = .ok (.aload_n 0, 1) := by decide +kernel
theorem dX6_spare_52 : decode cX6_spare 52 = .ok (.getfield 23, 3) := by decide +kernel
theorem dX6_spare_55 : decode cX6_spare 55 = .ok (.iload_n 1, 1) := by decide +kernel
theorem dX6_spare_56 : decode cX6_spare 56 = .ok (.invokevirtual 169, 3) := by decide +kernel
theorem dX6_spare_59 : decode cX6_spare 59 = .ok (.iinc 4 1, 3) := by decide +kernel
theorem dX6_spare_62 : decode cX6_spare 62 = .ok (.goto (-17), 3) := by decide +kernel
theorem dX6_spare_65 : decode cX6_spare 65 = .ok (.aload_n 0, 1) := by decide +kernel
theorem dX6_spare_66 : decode cX6_spare 66 = .ok (.getfield 23, 3) := by decide +kernel
theorem dX6_spare_69 : decode cX6_spare 69 = .ok (.iload_n 2, 1) := by decide +kernel
theorem dX6_spare_70 : decode cX6_spare 70 = .ok (.invokevirtual 209, 3) := by decide +kernel
theorem dX6_spare_73 : decode cX6_spare 73 = .ok (.aload_n 0, 1) := by decide +kernel
theorem dX6_spare_74 : decode cX6_spare 74 = .ok (.getfield 23, 3) := by decide +kernel
theorem dX6_spare_77 : decode cX6_spare 77 = .ok (.iload_n 1, 1) := by decide +kernel
theorem dX6_spare_78 : decode cX6_spare 78 = .ok (.invokevirtual 98, 3) := by decide +kernel
theorem dX6_spare_81 : decode cX6_spare 81 = .ok (.ifCond .ne 5, 3) := by decide +kernel
theorem dX6_spare_84 : decode cX6_spare 84 = .ok (.iload_n 3, 1) := by decide +kernel
theorem dX6_spare_85 : decode cX6_spare 85 = .ok (.ireturn, 1) := by decide +kernel
theorem dX6_spare_86 : decode cX6_spare 86 = .ok (.iinc 3 1, 3) := by decide +kernel
theorem dX6_spare_89 : decode cX6_spare 89 = .ok (.goto (-64), 3) := by decide +kernel
theorem dX6_spare_92 : decode cX6_spare 92 = .ok (.bipush (-4), 2) := by decide +kernel
theorem dX6_spare_94 : decode cX6_spare 94 = .ok (.ireturn, 1) := by decide +kernel
theorem dX6_coughs_0 : decode cX6_coughs 0 = .ok (.aload_n 0, 1) := by decide +kernel
theorem dX6_coughs_1 : decode cX6_coughs 1 = .ok (.getfield 10, 3) := by decide +kernel
theorem dX6_coughs_4 : decode cX6_coughs 4 = .ok (.iload_n 1, 1) := by decide +kernel
theorem dX6_coughs_5 : decode cX6_coughs 5 = .ok (.invokevirtual 83, 3) := by decide +kernel
theorem dX6_coughs_8 : decode cX6_coughs 8 = .ok (.ifCond .eq 44, 3) := by decide +kernel
theorem dX6_coughs_11 : decode cX6_coughs 11 = .ok (.iload_n 2, 1) := by decide +kernel
theorem dX6_coughs_12 : decode cX6_coughs 12 = .ok (.iconst 0, 1) := by decide +kernel
theorem dX6_coughs_13 : decode cX6_coughs 13 = .ok (.bipush 99, 2) := by decide +kernel
theorem dX6_coughs_15 : decode cX6_coughs 15 = .ok (.invokestatic 53, 3) := by decide +kernel
theorem dX6_coughs_18 : decode cX6_coughs 18 = .ok (.ifCond .eq 34, 3) := by decide +kernel
theorem dX6_coughs_21 : decode cX6_coughs 21 = .ok (.iload_n 3, 1) := by decide +kernel
theorem dX6_coughs_22 : decode cX6_coughs 22 = .ok (.iconst 0, 1) := by decide +kernel
theorem dX6_coughs_23 : decode cX6_coughs 23 = .ok (.bipush 6, 2) := by decide +kernel
theorem dX6_coughs_25 : decode cX6_coughs 25 = .ok (.invokestatic 53, 3) := by decide +kernel
theorem dX6_coughs_28 : decode cX6_coughs 28 = .ok (.ifCond .eq 24, 3) := by decide +kernel
theorem dX6_coughs_31 : decode cX6_coughs 31 = .ok (.iload 4, 2) := by decide +kernel
theorem dX6_coughs_33 : decode cX6_coughs 33 = .ok (.iconst 0, 1) := by decide +kernel
theorem dX6_coughs_34 : decode cX6_coughs 34 = .ok (.bipush 10, 2) := by decide +kernel
theorem dX6_coughs_36 : decode cX6_coughs 36 = .ok (.invokestatic 53, 3) := by decide +kernel
theorem dX6_coughs_39 : decode cX6_coughs 39 = .ok (.ifCond .eq 13, 3) := by decide +kernel
theorem dX6_coughs_42 : decode cX6_coughs 42 = .ok (.iload 5, 2) := by decide +kernel
theorem dX6_coughs_44 : decode cX6_coughs 44 = .ok (.iconst 0, 1) := by decide +kernel
theorem dX6_coughs_45 : decode cX6_coughs 45 = .ok (.iconst 1, 1) := by decide +kernel
theorem dX6_coughs_46 : decode cX6_coughs 46 = .ok (.invokestatic 53, 3) := by decide +kernel
theorem dX6_coughs_49 : decode cX6_coughs 49 = .ok (.ifCond .ne 5, 3) := by decide +kernel
theorem dX6_coughs_52 : decode cX6_coughs 52 = .ok (.iconst (-1), 1) := by decide +kernel
theorem dX6_coughs_53 : decode cX6_coughs 53 = .ok (.ireturn, 1) := by decide +kernel
theorem dX6_coughs_54 : decode cX6_coughs 54 = .ok (.iconst 1, 1) := by decide +kernel
theorem dX6_coughs_55 : decode cX6_coughs 55 = .ok (.istore 6, 2) := by decide +kernel
theorem dX6_coughs_57 : decode cX6_coughs 57 = .ok (.iconst 0, 1) := by decide +kernel
theorem dX6_coughs_58 : decode cX6_coughs 58 = .ok (.istore 7, 2) := by decide +kernel
theorem dX6_coughs_60 : decode cX6_coughs 60 = .ok (.iload 7, 2) := by decide +kernel
theorem dX6_coughs_62 : decode cX6_coughs 62 = .ok (.iload_n 3, 1) := by decide +kernel
theorem dX6_coughs_63 : decode cX6_coughs 63 = .ok (.if_icmp .ge 16, 3) := by decide +kernel
theorem dX6_coughs_66 : decode cX6_coughs 66 = .ok (.iload 6, 2) := by decide +kernel
theorem dX6_coughs_68 : decode cX6_coughs 68 = .ok (.bipush 10, 2) := by decide +kernel
theorem dX6_coughs_70 : decode cX6_coughs 70 = .ok (.imul, 1) := by decide +kernel
theorem dX6_coughs_71 : decode cX6_coughs 71 = .ok (.istore 6, 2) := by decide +kernel
theorem dX6_coughs_73 : decode cX6_coughs 73 = .ok (.iinc 7 1, 3) := by decide +kernel
theorem dX6_coughs_76 : decode cX6_coughs 76 = .ok (.goto (-16), 3) := by decide +kernel
theorem dX6_coughs_79 : decode cX6_coughs 79 = .ok (.iconst 0, 1) := by decide +kernel
theorem dX6_coughs_80 : decode cX6_coughs 80 = .ok (.istore 7, 2) := by decide +kernel
theorem dX6_coughs_82 : decode cX6_coughs 82 = .ok (.iconst 0, 1) := by decide +kernel
theorem dX6_coughs_83 : decode cX6_coughs 83 = .ok (.istore 8, 2) := by decide +kernel
theorem dX6_coughs_85 : decode cX6_coughs 85 = .ok (.iload 8, 2) := by decide +kernel
theorem dX6_coughs_87 : decode cX6_coughs 87 = .ok (.iconst 1, 1) := by decide +kernel
theorem dX6_coughs_88 : decode cX6_coughs 88 = .ok (.iload_n 3, 1) := by decide +kernel
theorem dX6_coughs_89 : decode cX6_coughs 89 = .ok (.ishl, 1) := by decide +kernel
theorem dX6_coughs_90 : decode cX6_coughs 90 = .ok (.if_icmp .ge 25, 3) := by decide +kernel
theorem dX6_coughs_93 : decode cX6_coughs 93 = .ok (.iload 7, 2) := by decide +kernel
theorem dX6_coughs_95 : decode cX6_coughs 95 = .ok (.aload_n 0, 1) := by decide +kernel
theorem dX6_coughs_96 : decode cX6_coughs 96 = .ok (.iload_n 1, 1) := by decide +kernel
theorem dX6_coughs_97 : decode cX6_coughs 97 = .ok (.iload_n 2, 1) := by decide +kernel
theorem dX6_coughs_98 : decode cX6_coughs 98 = .ok (.iload_n 3, 1) := by decide +kernel
theorem dX6_coughs_99 : decode cX6_coughs 99 = .ok (.iload 4, 2) := by decide +kernel
theorem dX6_coughs_101 : decode cX6_coughs 101 = .ok (.iload 8, 2) := by decide +kernel
theorem dX6_coughs_103 : decode cX6_coughs 103 = .ok (.invokevirtual 212, 3) := by decide +kernel
theorem dX6_coughs_106 : decode cX6_coughs 106 = .ok (.iadd, 1) := by decide +kernel
theorem dX6_coughs_107 : decode cX6_coughs 107 = .ok (.istore 7, 2) := by decide +kernel
theorem dX6_coughs_109 : decode cX6_coughs 109 = .ok (.iinc 8 1, 3) := by decide +kernel
theorem dX6_coughs_112 : decode cX6_coughs 112 = .ok (.goto (-27), 3) := by decide +kernel
theorem dX6_coughs_115 : decode cX6_coughs 115 = .ok (.iconst 1, 1) := by decide +kernel
theorem dX6_coughs_116 : decode cX6_coughs 116 = .ok (.iload 6, 2) := by decide +kernel
theorem dX6_coughs_118 : decode cX6_coughs 118 = .ok (.iload 7, 2) := by decide +kernel
theorem dX6_coughs_120 : decode cX6_coughs 120 = .ok (.invokestatic 216, 3) := by decide +kernel
theorem dX6_coughs_123 : decode cX6_coughs 123 = .ok (.invokestatic 219, 3) := by decide +kernel
theorem dX6_coughs_126 : decode cX6_coughs 126 = .ok (.istore 8, 2) := by decide +kernel
theorem dX6_coughs_128 : decode cX6_coughs 128 = .ok (.iload 5, 2) := by decide +kernel
theorem dX6_coughs_130 : decode cX6_coughs 130 = .ok (.ifCond .ne 11, 3) := by decide +kernel
theorem dX6_coughs_133 : decode cX6_coughs 133 = .ok (.iload 7, 2) := by decide +kernel
theorem dX6_coughs_135 : decode cX6_coughs 135 = .ok (.iload 8, 2) := by decide +kernel
theorem dX6_coughs_137 : decode cX6_coughs 137 = .ok (.idiv, 1) := by decide +kernel
theorem dX6_coughs_138 : decode cX6_coughs 138 = .ok (.goto 8, 3) := by decide +kernel
theorem dX6_coughs_141 : decode cX6_coughs 141 = .ok (.iload 6, 2) := by decide +kernel
theorem dX6_coughs_143 : decode cX6_coughs 143 = .ok (.iload 8, 2) := by decide +kernel
theorem dX6_coughs_145 : decode cX6_coughs 145 = .ok (.idiv, 1) := by decide +kernel
theorem dX6_coughs_146 : decode cX6_coughs 146 = .ok (.ireturn, 1) := by decide +kernel
theorem dX6_image_0 : decode cX6_image 0 = .ok (.aload_n 0, 1) := by decide +kernel
theorem dX6_image_1 : decode cX6_image 1 = .ok (.getfield 26, 3) := by decide +kernel
theorem dX6_image_4 : decode cX6_image 4 = .ok (.aload_n 0, 1) := by decide +kernel
theorem dX6_image_5 : decode cX6_image 5 = .ok (.getfield 10, 3) := by decide +kernel
theorem dX6_image_8 : decode cX6_image 8 = .ok (.invokevirtual 122, 3) := by decide +kernel
theorem dX6_image_11 : decode cX6_image 11 = .ok (.aload_n 0, 1) := by decide +kernel
theorem dX6_image_12 : decode cX6_image 12 = .ok (.getfield 29, 3) := by decide +kernel
theorem dX6_image_15 : decode cX6_image 15 = .ok (.aload_n 0, 1) := by decide +kernel
theorem dX6_image_16 : decode cX6_image 16 = .ok (.getfield 19, 3) := by decide +kernel
theorem dX6_image_19 : decode cX6_image 19 = .ok (.invokevirtual 224, 3) := by decide +kernel
theorem dX6_image_22 : decode cX6_image 22 = .ok (.aload_n 0, 1) := by decide +kernel
theorem dX6_image_23 : decode cX6_image 23 = .ok (.iconst 1, 1) := by decide +kernel
theorem dX6_image_24 : decode cX6_image 24 = .ok (.putfield 227, 3) := by decide +kernel
theorem dX6_image_27 : decode cX6_image 27 = .ok (.iconst 1, 1) := by decide +kernel
theorem dX6_image_28 : decode cX6_image 28 = .ok (.ireturn, 1) := by decide +kernel
theorem dX6_restore_0 : decode cX6_restore 0 = .ok (.aload_n 0, 1) := by decide +kernel
theorem dX6_restore_1 : decode cX6_restore 1 = .ok (.getfield 227, 3) := by decide +kernel
theorem dX6_restore_4 : decode cX6_restore 4 = .ok (.ifCond .ne 6, 3) := by decide +kernel
theorem dX6_restore_7 : decode cX6_restore 7 = .ok (.bipush (-4), 2) := by decide +kernel
theorem dX6_restore_9 : decode cX6_restore 9 = .ok (.ireturn, 1) := by decide +kernel
theorem dX6_restore_10 : decode cX6_restore 10 = .ok (.aload_n 0, 1) := by decide +kernel
theorem dX6_restore_11 : decode cX6_restore 11 = .ok (.getfield 10, 3) := by decide +kernel
theorem dX6_restore_14 : decode cX6_restore 14 = .ok (.aload_n 0, 1) := by decide +kernel
theorem dX6_restore_15 : decode cX6_restore 15 = .ok (.getfield 26, 3) := by decide +kernel
theorem dX6_restore_18 : decode cX6_restore 18 = .ok (.invokevirtual 122, 3) := by decide +kernel
theorem dX6_restore_21 : decode cX6_restore 21 = .ok (.aload_n 0, 1) := by decide +kernel
theorem dX6_restore_22 : decode cX6_restore 22 = .ok (.getfield 19, 3) := by decide +kernel
theorem dX6_restore_25 : decode cX6_restore 25 = .ok (.aload_n 0, 1) := by decide +kernel
theorem dX6_restore_26 : decode cX6_restore 26 = .ok (.getfield 29, 3) := by decide +kernel
theorem dX6_restore_29 : decode cX6_restore 29 = .ok (.invokevirtual 224, 3) := by decide +kernel
theorem dX6_restore_32 : decode cX6_restore 32 = .ok (.iconst 1, 1) := by decide +kernel
theorem dX6_restore_33 : decode cX6_restore 33 = .ok (.ireturn, 1) := by decide +kernel
theorem dX6_looks_0 : decode cX6_looks 0 = .ok (.aload_n 0, 1) := by decide +kernel
theorem dX6_looks_1 : decode cX6_looks 1 = .ok (.getfield 10, 3) := by decide +kernel
theorem dX6_looks_4 : decode cX6_looks 4 = .ok (.iload_n 1, 1) := by decide +kernel
theorem dX6_looks_5 : decode cX6_looks 5 = .ok (.invokevirtual 83, 3) := by decide +kernel
theorem dX6_looks_8 : decode cX6_looks 8 = .ok (.ifCond .eq 38, 3) := by decide +kernel
theorem dX6_looks_11 : decode cX6_looks 11 = .ok (.iload_n 2, 1) := by decide +kernel
theorem dX6_looks_12 : decode cX6_looks 12 = .ok (.invokestatic 231, 3) := by decide +kernel
theorem dX6_looks_15 : decode cX6_looks 15 = .ok (.ifCond .eq 31, 3) := by decide +kernel
theorem dX6_looks_18 : decode cX6_looks 18 = .ok (.iload_n 3, 1) := by decide +kernel
theorem dX6_looks_19 : decode cX6_looks 19 = .ok (.invokestatic 234, 3) := by decide +kernel
theorem dX6_looks_22 : decode cX6_looks 22 = .ok (.ifCond .eq 24, 3) := by decide +kernel
theorem dX6_looks_25 : decode cX6_looks 25 = .ok (.iload 5, 2) := by decide +kernel
theorem dX6_looks_27 : decode cX6_looks 27 = .ok (.iconst 1, 1) := by decide +kernel
theorem dX6_looks_28 : decode cX6_looks 28 = .ok (.bipush 8, 2) := by decide +kernel
theorem dX6_looks_30 : decode cX6_looks 30 = .ok (.invokestatic 53, 3) := by decide +kernel
theorem dX6_looks_33 : decode cX6_looks 33 = .ok (.ifCond .eq 13, 3) := by decide +kernel
theorem dX6_looks_36 : decode cX6_looks 36 = .ok (.iload 6, 2) := by decide +kernel
theorem dX6_looks_38 : decode cX6_looks 38 = .ok (.iconst 0, 1) := by decide +kernel
theorem dX6_looks_39 : decode cX6_looks 39 = .ok (.iconst 2, 1) := by decide +kernel
theorem dX6_looks_40 : decode cX6_looks 40 = .ok (.invokestatic 53, 3) := by decide +kernel
theorem dX6_looks_43 : decode cX6_looks 43 = .ok (.ifCond .ne 5, 3) := by decide +kernel
theorem dX6_looks_46 : decode cX6_looks 46 = .ok (.iconst (-1), 1) := by decide +kernel
theorem dX6_looks_47 : decode cX6_looks 47 = .ok (.ireturn, 1) := by decide +kernel
theorem dX6_looks_48 : decode cX6_looks 48 = .ok (.aload_n 0, 1) := by decide +kernel
theorem dX6_looks_49 : decode cX6_looks 49 = .ok (.getfield 48, 3) := by decide +kernel
theorem dX6_looks_52 : decode cX6_looks 52 = .ok (.iload_n 2, 1) := by decide +kernel
theorem dX6_looks_53 : decode cX6_looks 53 = .ok (.aaload, 1) := by decide +kernel
theorem dX6_looks_54 : decode cX6_looks 54 = .ok (.iload_n 3, 1) := by decide +kernel
theorem dX6_looks_55 : decode cX6_looks 55 = .ok (.iload 4, 2) := by decide +kernel
theorem dX6_looks_57 : decode cX6_looks 57 = .ok (.iload 5, 2) := by decide +kernel
theorem dX6_looks_59 : decode cX6_looks 59 = .ok (.invokevirtual 237, 3) := by decide +kernel
theorem dX6_looks_62 : decode cX6_looks 62 = .ok (.istore 7, 2) := by decide +kernel
theorem dX6_looks_64 : decode cX6_looks 64 = .ok (.iload 7, 2) := by decide +kernel
theorem dX6_looks_66 : decode cX6_looks 66 = .ok (.ifCond .ge 6, 3) := by decide +kernel
theorem dX6_looks_69 : decode cX6_looks 69 = .ok (.iload 7, 2) := by decide +kernel
theorem dX6_looks_71 : decode cX6_looks 71 = .ok (.ireturn, 1) := by decide +kernel
theorem dX6_looks_72 : decode cX6_looks 72 = .ok (.iload 6, 2) := by decide +kernel
theorem dX6_looks_74 : decode cX6_looks 74 = .ok (.ifCond .ne 19, 3) := by decide +kernel
theorem dX6_looks_77 : decode cX6_looks 77 = .ok (.aload_n 0, 1) := by decide +kernel
theorem dX6_looks_78 : decode cX6_looks 78 = .ok (.iload_n 1, 1) := by decide +kernel
theorem dX6_looks_79 : decode cX6_looks 79 = .ok (.aload_n 0, 1) := by decide +kernel
theorem dX6_looks_80 : decode cX6_looks 80 = .ok (.getfield 48, 3) := by decide +kernel
theorem dX6_looks_83 : decode cX6_looks 83 = .ok (.iload_n 2, 1) := by decide +kernel
theorem dX6_looks_84 : decode cX6_looks 84 = .ok (.aaload, 1) := by decide +kernel
theorem dX6_looks_85 : decode cX6_looks 85 = .ok (.iload 4, 2) := by decide +kernel
theorem dX6_looks_87 : decode cX6_looks 87 = .ok (.iload 5, 2) := by decide +kernel
theorem dX6_looks_89 : decode cX6_looks 89 = .ok (.invokevirtual 241, 3) := by decide +kernel
theorem dX6_looks_92 : decode cX6_looks 92 = .ok (.ireturn, 1) := by decide +kernel
theorem dX6_looks_93 : decode cX6_looks 93 = .ok (.aload_n 0, 1) := by decide +kernel
theorem dX6_looks_94 : decode cX6_looks 94 = .ok (.iload_n 1, 1) := by decide +kernel
theorem dX6_looks_95 : decode cX6_looks 95 = .ok (.aload_n 0, 1) := by decide +kernel
theorem dX6_looks_96 : decode cX6_looks 96 = .ok (.getfield 48, 3) := by decide +kernel
theorem dX6_looks_99 : decode cX6_looks 99 = .ok (.iload_n 2, 1) := by decide +kernel
theorem dX6_looks_100 : decode cX6_looks 100 = .ok (.aaload, 1) := by decide +kernel
theorem dX6_looks_101 : decode cX6_looks 101 = .ok (.iload 4, 2) := by decide +kernel
theorem dX6_looks_103 : decode cX6_looks 103 = .ok (.iload 5, 2) := by decide +kernel
theorem dX6_looks_105 : decode cX6_looks 105 = .ok (.iload 6, 2) := by decide +kernel
theorem dX6_looks_107 : decode cX6_looks 107 = .ok (.iconst 2, 1) := by decide +kernel
theorem dX6_looks_108 : decode cX6_looks 108 = .ok (.if_icmp .ne 7, 3) := by decide +kernel
theorem dX6_looks_111 : decode cX6_looks 111 = .ok (.iconst 1, 1) := by decide +kernel
theorem dX6_looks_112 : decode cX6_looks 112 = .ok (.goto 4, 3) := by decide +kernel
theorem dX6_looks_115 : decode cX6_looks 115 = .ok (.iconst 0, 1) := by decide +kernel
theorem dX6_looks_116 : decode cX6_looks 116 = .ok (.invokevirtual 245, 3) := by decide +kernel
theorem dX6_looks_119 : decode cX6_looks 119 = .ok (.ireturn, 1) := by decide +kernel
theorem dX6_film_0 : decode cX6_film 0 = .ok (.aload_n 0, 1) := by decide +kernel
theorem dX6_film_1 : decode cX6_film 1 = .ok (.getfield 10, 3) := by decide +kernel
theorem dX6_film_4 : decode cX6_film 4 = .ok (.iload_n 1, 1) := by decide +kernel
theorem dX6_film_5 : decode cX6_film 5 = .ok (.invokevirtual 83, 3) := by decide +kernel
theorem dX6_film_8 : decode cX6_film 8 = .ok (.ifCond .eq 28, 3) := by decide +kernel
theorem dX6_film_11 : decode cX6_film 11 = .ok (.iload_n 2, 1) := by decide +kernel
theorem dX6_film_12 : decode cX6_film 12 = .ok (.iconst 1, 1) := by decide +kernel
theorem dX6_film_13 : decode cX6_film 13 = .ok (.bipush 24, 2) := by decide +kernel
theorem dX6_film_15 : decode cX6_film 15 = .ok (.invokestatic 53, 3) := by decide +kernel
theorem dX6_film_18 : decode cX6_film 18 = .ok (.ifCond .eq 18, 3) := by decide +kernel
theorem dX6_film_21 : decode cX6_film 21 = .ok (.iload_n 3, 1) := by decide +kernel
theorem dX6_film_22 : decode cX6_film 22 = .ok (.invokestatic 231, 3) := by decide +kernel
theorem dX6_film_25 : decode cX6_film 25 = .ok (.ifCond .eq 11, 3) := by decide +kernel
theorem dX6_film_28 : decode cX6_film 28 = .ok (.iload 4, 2) := by decide +kernel
theorem dX6_film_30 : decode cX6_film 30 = .ok (.invokestatic 234, 3) := by decide +kernel
theorem dX6_film_33 : decode cX6_film 33 = .ok (.ifCond .ne 5, 3) := by decide +kernel
theorem dX6_film_36 : decode cX6_film 36 = .ok (.iconst (-1), 1) := by decide +kernel
theorem dX6_film_37 : decode cX6_film 37 = .ok (.ireturn, 1) := by decide +kernel
theorem dX6_film_38 : decode cX6_film 38 = .ok (.aload_n 0, 1) := by decide +kernel
theorem dX6_film_39 : decode cX6_film 39 = .ok (.getfield 48, 3) := by decide +kernel
theorem dX6_film_42 : decode cX6_film 42 = .ok (.iload_n 3, 1) := by decide +kernel
theorem dX6_film_43 : decode cX6_film 43 = .ok (.aaload, 1) := by decide +kernel
theorem dX6_film_44 : decode cX6_film 44 = .ok (.iload 4, 2) := by decide +kernel
theorem dX6_film_46 : decode cX6_film 46 = .ok (.iload 5, 2) := by decide +kernel
theorem dX6_film_48 : decode cX6_film 48 = .ok (.iload_n 2, 1) := by decide +kernel
theorem dX6_film_49 : decode cX6_film 49 = .ok (.invokevirtual 237, 3) := by decide +kernel
theorem dX6_film_52 : decode cX6_film 52 = .ok (.istore 6, 2) := by decide +kernel
theorem dX6_film_54 : decode cX6_film 54 = .ok (.iload 6, 2) := by decide +kernel
theorem dX6_film_56 : decode cX6_film 56 = .ok (.ifCond .ge 6, 3) := by decide +kernel
theorem dX6_film_59 : decode cX6_film 59 = .ok (.iload 6, 2) := by decide +kernel
theorem dX6_film_61 : decode cX6_film 61 = .ok (.ireturn, 1) := by decide +kernel
theorem dX6_film_62 : decode cX6_film 62 = .ok (.aload_n 0, 1) := by decide +kernel
theorem dX6_film_63 : decode cX6_film 63 = .ok (.getfield 23, 3) := by decide +kernel
theorem dX6_film_66 : decode cX6_film 66 = .ok (.aload_n 0, 1) := by decide +kernel
theorem dX6_film_67 : decode cX6_film 67 = .ok (.getfield 10, 3) := by decide +kernel
theorem dX6_film_70 : decode cX6_film 70 = .ok (.invokevirtual 122, 3) := by decide +kernel
theorem dX6_film_73 : decode cX6_film 73 = .ok (.iconst 0, 1) := by decide +kernel
theorem dX6_film_74 : decode cX6_film 74 = .ok (.istore 7, 2) := by decide +kernel
theorem dX6_film_76 : decode cX6_film 76 = .ok (.iload 7, 2) := by decide +kernel
theorem dX6_film_78 : decode cX6_film 78 = .ok (.iload_n 2, 1) := by decide +kernel
theorem dX6_film_79 : decode cX6_film 79 = .ok (.if_icmp .ge 40, 3) := by decide +kernel
theorem dX6_film_82 : decode cX6_film 82 = .ok (.aload_n 0, 1) := by decide +kernel
theorem dX6_film_83 : decode cX6_film 83 = .ok (.getfield 23, 3) := by decide +kernel
theorem dX6_film_86 : decode cX6_film 86 = .ok (.invokevirtual 182, 3) := by decide +kernel
theorem dX6_film_89 : decode cX6_film 89 = .ok (.aload_n 0, 1) := by decide +kernel
theorem dX6_film_90 : decode cX6_film 90 = .ok (.getfield 48, 3) := by decide +kernel
theorem dX6_film_93 : decode cX6_film 93 = .ok (.iload_n 3, 1) := by decide +kernel
theorem dX6_film_94 : decode cX6_film 94 = .ok (.aaload, 1) := by decide +kernel
theorem dX6_film_95 : decode cX6_film 95 = .ok (.iload 5, 2) := by decide +kernel
theorem dX6_film_97 : decode cX6_film 97 = .ok (.iload 7, 2) := by decide +kernel
theorem dX6_film_99 : decode cX6_film 99 = .ok (.iadd, 1) := by decide +kernel
theorem dX6_film_100 : decode cX6_film 100 = .ok (.aload_n 0, 1) := by decide +kernel
theorem dX6_film_101 : decode cX6_film 101 = .ok (.getfield 23, 3) := by decide +kernel
theorem dX6_film_104 : decode cX6_film 104 = .ok (.getfield 89, 3) := by decide +kernel
theorem dX6_film_107 : decode cX6_film 107 = .ok (.iload_n 1, 1) := by decide +kernel
theorem dX6_film_108 : decode cX6_film 108 = .ok (.iaload, 1) := by decide +kernel
theorem dX6_film_109 : decode cX6_film 109 = .ok (.i2l, 1) := by decide +kernel
theorem dX6_film_110 : decode cX6_film 110 = .ok (.invokevirtual 249, 3) := by decide +kernel
theorem dX6_film_113 : decode cX6_film 113 = .ok (.iinc 7 1, 3) := by decide +kernel
theorem dX6_film_116 : decode cX6_film 116 = .ok (.goto (-40), 3) := by decide +kernel
theorem dX6_film_119 : decode cX6_film 119 = .ok (.iload_n 2, 1) := by decide +kernel
theorem dX6_film_120 : decode cX6_film 120 = .ok (.ireturn, 1) := by decide +kernel
theorem dX6_sheet_0 : decode cX6_sheet 0 = .ok (.iload_n 1, 1) := by decide +kernel
theorem dX6_sheet_1 : decode cX6_sheet 1 = .ok (.invokestatic 231, 3) := by decide +kernel
theorem dX6_sheet_4 : decode cX6_sheet 4 = .ok (.ifCond .eq 16, 3) := by decide +kernel
theorem dX6_sheet_7 : decode cX6_sheet 7 = .ok (.iload_n 2, 1) := by decide +kernel
theorem dX6_sheet_8 : decode cX6_sheet 8 = .ok (.invokestatic 234, 3) := by decide +kernel
theorem dX6_sheet_11 : decode cX6_sheet 11 = .ok (.ifCond .eq 9, 3) := by decide +kernel
theorem dX6_sheet_14 : decode cX6_sheet 14 = .ok (.iload_n 3, 1) := by decide +kernel
theorem dX6_sheet_15 : decode cX6_sheet 15 = .ok (.bipush 24, 2) := by decide +kernel
theorem dX6_sheet_17 : decode cX6_sheet 17 = .ok (.if_icmp .le 5, 3) := by decide +kernel
theorem dX6_sheet_20 : decode cX6_sheet 20 = .ok (.iconst (-1), 1) := by decide +kernel
theorem dX6_sheet_21 : decode cX6_sheet 21 = .ok (.ireturn, 1) := by decide +kernel
theorem dX6_sheet_22 : decode cX6_sheet 22 = .ok (.iload_n 3, 1) := by decide +kernel
theorem dX6_sheet_23 : decode cX6_sheet 23 = .ok (.ifCond .ge 6, 3) := by decide +kernel
theorem dX6_sheet_26 : decode cX6_sheet 26 = .ok (.bipush (-14), 2) := by decide +kernel
theorem dX6_sheet_28 : decode cX6_sheet 28 = .ok (.ireturn, 1) := by decide +kernel
theorem dX6_sheet_29 : decode cX6_sheet 29 = .ok (.aload_n 0, 1) := by decide +kernel
theorem dX6_sheet_30 : decode cX6_sheet 30 = .ok (.getfield 48, 3) := by decide +kernel
theorem dX6_sheet_33 : decode cX6_sheet 33 = .ok (.iload_n 1, 1) := by decide +kernel
theorem dX6_sheet_34 : decode cX6_sheet 34 = .ok (.aaload, 1) := by decide +kernel
theorem dX6_sheet_35 : decode cX6_sheet 35 = .ok (.iload_n 2, 1) := by decide +kernel
theorem dX6_sheet_36 : decode cX6_sheet 36 = .ok (.iload_n 3, 1) := by decide +kernel
theorem dX6_sheet_37 : decode cX6_sheet 37 = .ok (.invokevirtual 253, 3) := by decide +kernel
theorem dX6_sheet_40 : decode cX6_sheet 40 = .ok (.iload_n 3, 1) := by decide +kernel
theorem dX6_sheet_41 : decode cX6_sheet 41 = .ok (.ireturn, 1) := by decide +kernel
theorem dX6_drop_0 : decode cX6_drop 0 = .ok (.iload_n 1, 1) := by decide +kernel
theorem dX6_drop_1 : decode cX6_drop 1 = .ok (.invokestatic 231, 3) := by decide +kernel
theorem dX6_drop_4 : decode cX6_drop 4 = .ok (.ifCond .ne 5, 3) := by decide +kernel
theorem dX6_drop_7 : decode cX6_drop 7 = .ok (.iconst (-1), 1) := by decide +kernel
theorem dX6_drop_8 : decode cX6_drop 8 = .ok (.ireturn, 1) := by decide +kernel
theorem dX6_drop_9 : decode cX6_drop 9 = .ok (.aload_n 0, 1) := by decide +kernel
theorem dX6_drop_10 : decode cX6_drop 10 = .ok (.getfield 48, 3) := by decide +kernel
theorem dX6_drop_13 : decode cX6_drop 13 = .ok (.iload_n 1, 1) := by decide +kernel
theorem dX6_drop_14 : decode cX6_drop 14 = .ok (.aaload, 1) := by decide +kernel
theorem dX6_drop_15 : decode cX6_drop 15 = .ok (.invokevirtual 256, 3) := by decide +kernel
theorem dX6_drop_18 : decode cX6_drop 18 = .ok (.ifCond .eq 6, 3) := by decide +kernel
theorem dX6_drop_21 : decode cX6_drop 21 = .ok (.bipush (-11), 2) := by decide +kernel
theorem dX6_drop_23 : decode cX6_drop 23 = .ok (.ireturn, 1) := by decide +kernel
theorem dX6_drop_24 : decode cX6_drop 24 = .ok (.aload_n 0, 1) := by decide +kernel
theorem dX6_drop_25 : decode cX6_drop 25 = .ok (.getfield 48, 3) := by decide +kernel
theorem dX6_drop_28 : decode cX6_drop 28 = .ok (.iload_n 1, 1) := by decide +kernel
theorem dX6_drop_29 : decode cX6_drop 29 = .ok (.aaload, 1) := by decide +kernel
theorem dX6_drop_30 : decode cX6_drop 30 = .ok (.invokevirtual 260, 3) := by decide +kernel
theorem dX6_drop_33 : decode cX6_drop 33 = .ok (.ireturn, 1) := by decide +kernel
theorem dX6_item_0 : decode cX6_item 0 = .ok (.iload_n 1, 1) := by decide +kernel
theorem dX6_item_1 : decode cX6_item 1 = .ok (.invokestatic 231, 3) := by decide +kernel
theorem dX6_item_4 : decode cX6_item 4 = .ok (.ifCond .eq 10, 3) := by decide +kernel
theorem dX6_item_7 : decode cX6_item 7 = .ok (.iload_n 2, 1) := by decide +kernel
theorem dX6_item_8 : decode cX6_item 8 = .ok (.invokestatic 234, 3) := by decide +kernel
theorem dX6_item_11 : decode cX6_item 11 = .ok (.ifCond .ne 5, 3) := by decide +kernel
theorem dX6_item_14 : decode cX6_item 14 = .ok (.iconst (-1), 1) := by decide +kernel
theorem dX6_item_15 : decode cX6_item 15 = .ok (.ireturn, 1) := by decide +kernel
theorem dX6_item_16 : decode cX6_item 16 = .ok (.aload_n 0, 1) := by decide +kernel
theorem dX6_item_17 : decode cX6_item 17 = .ok (.getfield 48, 3) := by decide +kernel
theorem dX6_item_20 : decode cX6_item 20 = .ok (.iload_n 1, 1) := by decide +kernel
theorem dX6_item_21 : decode cX6_item 21 = .ok (.aaload, 1) := by decide +kernel
theorem dX6_item_22 : decode cX6_item 22 = .ok (.iload_n 2, 1) := by decide +kernel
theorem dX6_item_23 : decode cX6_item 23 = .ok (.iload_n 3, 1) := by decide +kernel
theorem dX6_item_24 : decode cX6_item 24 = .ok (.iconst 1, 1) := by decide +kernel
theorem dX6_item_25 : decode cX6_item 25 = .ok (.invokevirtual 237, 3) := by decide +kernel
theorem dX6_item_28 : decode cX6_item 28 = .ok (.istore 6, 2) := by decide +kernel
theorem dX6_item_30 : decode cX6_item 30 = .ok (.iload 6, 2) := by decide +kernel
theorem dX6_item_32 : decode cX6_item 32 = .ok (.ifCond .ge 6, 3) := by decide +kernel
theorem dX6_item_35 : decode cX6_item 35 = .ok (.iload 6, 2) := by decide +kernel
theorem dX6_item_37 : decode cX6_item 37 = .ok (.ireturn, 1) := by decide +kernel
theorem dX6_item_38 : decode cX6_item 38 = .ok (.aload_n 0, 1) := by decide +kernel
theorem dX6_item_39 : decode cX6_item 39 = .ok (.getfield 48, 3) := by decide +kernel
theorem dX6_item_42 : decode cX6_item 42 = .ok (.iload_n 1, 1) := by decide +kernel
theorem dX6_item_43 : decode cX6_item 43 = .ok (.aaload, 1) := by decide +kernel
theorem dX6_item_44 : decode cX6_item 44 = .ok (.iload_n 3, 1) := by decide +kernel
theorem dX6_item_45 : decode cX6_item 45 = .ok (.lload 4, 2) := by decide +kernel
theorem dX6_item_47 : decode cX6_item 47 = .ok (.invokevirtual 249, 3) := by decide +kernel
theorem dX6_item_50 : decode cX6_item 50 = .ok (.iconst 1, 1) := by decide +kernel
theorem dX6_item_51 : decode cX6_item 51 = .ok (.ireturn, 1) := by decide +kernel
theorem dX6_copy_0 : decode cX6_copy 0 = .ok (.iload_n 1, 1) := by decide +kernel
theorem dX6_copy_1 : decode cX6_copy 1 = .ok (.invokestatic 231, 3) := by decide +kernel
theorem dX6_copy_4 : decode cX6_copy 4 = .ok (.ifCond .eq 10, 3) := by decide +kernel
theorem dX6_copy_7 : decode cX6_copy 7 = .ok (.iload_n 3, 1) := by decide +kernel
theorem dX6_copy_8 : decode cX6_copy 8 = .ok (.invokestatic 231, 3) := by decide +kernel
theorem dX6_copy_11 : decode cX6_copy 11 = .ok (.ifCond .ne 5, 3) := by decide +kernel
theorem dX6_copy_14 : decode cX6_copy 14 = .ok (.iconst (-1), 1) := by decide +kernel
theorem dX6_copy_15 : decode cX6_copy 15 = .ok (.ireturn, 1) := by decide +kernel
theorem dX6_copy_16 : decode cX6_copy 16 = .ok (.aload_n 0, 1) := by decide +kernel
theorem dX6_copy_17 : decode cX6_copy 17 = .ok (.getfield 48, 3) := by decide +kernel
theorem dX6_copy_20 : decode cX6_copy 20 = .ok (.iload_n 1, 1) := by decide +kernel
theorem dX6_copy_21 : decode cX6_copy 21 = .ok (.aaload, 1) := by decide +kernel
theorem dX6_copy_22 : decode cX6_copy 22 = .ok (.astore 6, 2) := by decide +kernel
theorem dX6_copy_24 : decode cX6_copy 24 = .ok (.aload_n 0, 1) := by decide +kernel
theorem dX6_copy_25 : decode cX6_copy 25 = .ok (.getfield 48, 3) := by decide +kernel
theorem dX6_copy_28 : decode cX6_copy 28 = .ok (.iload_n 3, 1) := by decide +kernel
theorem dX6_copy_29 : decode cX6_copy 29 = .ok (.aaload, 1) := by decide +kernel
theorem dX6_copy_30 : decode cX6_copy 30 = .ok (.astore 7, 2) := by decide +kernel
theorem dX6_copy_32 : decode cX6_copy 32 = .ok (.aload 6, 2) := by decide +kernel
theorem dX6_copy_34 : decode cX6_copy 34 = .ok (.invokevirtual 256, 3) := by decide +kernel
theorem dX6_copy_37 : decode cX6_copy 37 = .ok (.ifCond .ne 11, 3) := by decide +kernel
theorem dX6_copy_40 : decode cX6_copy 40 = .ok (.aload 7, 2) := by decide +kernel
theorem dX6_copy_42 : decode cX6_copy 42 = .ok (.invokevirtual 256, 3) := by decide +kernel
theorem dX6_copy_45 : decode cX6_copy 45 = .ok (.ifCond .eq 6, 3) := by decide +kernel
theorem dX6_copy_48 : decode cX6_copy 48 = .ok (.bipush (-11), 2) := by decide +kernel
theorem dX6_copy_50 : decode cX6_copy 50 = .ok (.ireturn, 1) := by decide +kernel
theorem dX6_copy_51 : decode cX6_copy 51 = .ok (.aload 6, 2) := by decide +kernel
theorem dX6_copy_53 : decode cX6_copy 53 = .ok (.aload 7, 2) := by decide +kernel
theorem dX6_copy_55 : decode cX6_copy 55 = .ok (.getfield 263, 3) := by decide +kernel
theorem dX6_copy_58 : decode cX6_copy 58 = .ok (.iload_n 2, 1) := by decide +kernel
theorem dX6_copy_59 : decode cX6_copy 59 = .ok (.iload 5, 2) := by decide +kernel
theorem dX6_copy_61 : decode cX6_copy 61 = .ok (.invokevirtual 237, 3) := by decide +kernel
theorem dX6_copy_64 : decode cX6_copy 64 = .ok (.istore 8, 2) := by decide +kernel
theorem dX6_copy_66 : decode cX6_copy 66 = .ok (.iload 8, 2) := by decide +kernel
theorem dX6_copy_68 : decode cX6_copy 68 = .ok (.ifCond .ne 19, 3) := by decide +kernel
theorem dX6_copy_71 : decode cX6_copy 71 = .ok (.aload 7, 2) := by decide +kernel
theorem dX6_copy_73 : decode cX6_copy 73 = .ok (.aload 6, 2) := by decide +kernel
theorem dX6_copy_75 : decode cX6_copy 75 = .ok (.getfield 263, 3) := by decide +kernel
theorem dX6_copy_78 : decode cX6_copy 78 = .ok (.iload 4, 2) := by decide +kernel
theorem dX6_copy_80 : decode cX6_copy 80 = .ok (.iload 5, 2) := by decide +kernel
theorem dX6_copy_82 : decode cX6_copy 82 = .ok (.invokevirtual 237, 3) := by decide +kernel
theorem dX6_copy_85 : decode cX6_copy 85 = .ok (.istore 8, 2) := by decide +kernel
theorem dX6_copy_87 : decode cX6_copy 87 = .ok (.iload 8, 2) := by decide +kernel
theorem dX6_copy_89 : decode cX6_copy 89 = .ok (.ifCond .ge 6, 3) := by decide +kernel
theorem dX6_copy_92 : decode cX6_copy 92 = .ok (.iload 8, 2) := by decide +kernel
theorem dX6_copy_94 : decode cX6_copy 94 = .ok (.ireturn, 1) := by decide +kernel
theorem dX6_copy_95 : decode cX6_copy 95 = .ok (.aload 6, 2) := by decide +kernel
theorem dX6_copy_97 : decode cX6_copy 97 = .ok (.getfield 266, 3) := by decide +kernel
theorem dX6_copy_100 : decode cX6_copy 100 = .ok (.iload_n 2, 1) := by decide +kernel
theorem dX6_copy_101 : decode cX6_copy 101 = .ok (.aload 7, 2) := by decide +kernel
theorem dX6_copy_103 : decode cX6_copy 103 = .ok (.getfield 266, 3) := by decide +kernel
theorem dX6_copy_106 : decode cX6_copy 106 = .ok (.iload 4, 2) := by decide +kernel
theorem dX6_copy_108 : decode cX6_copy 108 = .ok (.iload 5, 2) := by decide +kernel
theorem dX6_copy_110 : decode cX6_copy 110 = .ok (.invokestatic 270, 3) := by decide +kernel
theorem dX6_copy_113 : decode cX6_copy 113 = .ok (.iload 5, 2) := by decide +kernel
theorem dX6_copy_115 : decode cX6_copy 115 = .ok (.ireturn, 1) := by decide +kernel
theorem dX6_within_0 : decode cX6_within 0 = .ok (.iload_n 0, 1) := by decide +kernel
theorem dX6_within_1 : decode cX6_within 1 = .ok (.iload_n 1, 1) := by decide +kernel
theorem dX6_within_2 : decode cX6_within 2 = .ok (.if_icmp .lt 12, 3) := by decide +kernel
theorem dX6_within_5 : decode cX6_within 5 = .ok (.iload_n 0, 1) := by decide +kernel
theorem dX6_within_6 : decode cX6_within 6 = .ok (.iload_n 2, 1) := by decide +kernel
theorem dX6_within_7 : decode cX6_within 7 = .ok (.if_icmp .gt 7, 3) := by decide +kernel
theorem dX6_within_10 : decode cX6_within 10 = .ok (.iconst 1, 1) := by decide +kernel
theorem dX6_within_11 : decode cX6_within 11 = .ok (.goto 4, 3) := by decide +kernel
theorem dX6_within_14 : decode cX6_within 14 = .ok (.iconst 0, 1) := by decide +kernel
theorem dX6_within_15 : decode cX6_within 15 = .ok (.ireturn, 1) := by decide +kernel
theorem dX6_isBay_0 : decode cX6_isBay 0 = .ok (.iload_n 0, 1) := by decide +kernel
theorem dX6_isBay_1 : decode cX6_isBay 1 = .ok (.iconst 0, 1) := by decide +kernel
theorem dX6_isBay_2 : decode cX6_isBay 2 = .ok (.iconst 5, 1) := by decide +kernel
theorem dX6_isBay_3 : decode cX6_isBay 3 = .ok (.invokestatic 53, 3) := by decide +kernel
theorem dX6_isBay_6 : decode cX6_isBay 6 = .ok (.ireturn, 1) := by decide +kernel
theorem dX6_isSheet_0 : decode cX6_isSheet 0 = .ok (.iload_n 0, 1) := by decide +kernel
theorem dX6_isSheet_1 : decode cX6_isSheet 1 = .ok (.iconst 0, 1) := by decide +kernel
theorem dX6_isSheet_2 : decode cX6_isSheet 2 = .ok (.iconst 3, 1) := by decide +kernel
theorem dX6_isSheet_3 : decode cX6_isSheet 3 = .ok (.invokestatic 53, 3) := by decide +kernel
theorem dX6_isSheet_6 : decode cX6_isSheet 6 = .ok (.ireturn, 1) := by decide +kernel
theorem dX6_isLane_0 : decode cX6_isLane 0 = .ok (.iload_n 0, 1) := by decide +kernel
theorem dX6_isLane_1 : decode cX6_isLane 1 = .ok (.iconst 0, 1) := by decide +kernel
theorem dX6_isLane_2 : decode cX6_isLane 2 = .ok (.iconst 3, 1) := by decide +kernel
theorem dX6_isLane_3 : decode cX6_isLane 3 = .ok (.invokestatic 53, 3) := by decide +kernel
theorem dX6_isLane_6 : decode cX6_isLane 6 = .ok (.ireturn, 1) := by decide +kernel
theorem dX6_commonDivisor_0 : decode cX6_commonDivisor 0 = .ok (.iconst 0, 1) := by decide +kernel
theorem dX6_commonDivisor_1 : decode cX6_commonDivisor 1 = .ok (.istore_n 2, 1) := by decide +kernel
theorem dX6_commonDivisor_2 : decode cX6_commonDivisor 2 = .ok (.iload_n 2, 1) := by decide +kernel
theorem dX6_commonDivisor_3 : decode cX6_commonDivisor 3 = .ok (.bipush 64, 2) := by decide +kernel
theorem dX6_commonDivisor_5 : decode cX6_commonDivisor 5 = .ok (.if_icmp .ge 21, 3) := by decide +kernel
theorem dX6_commonDivisor_8 : decode cX6_commonDivisor 8 = .ok (.iload_n 1, 1) := by decide +kernel
theorem dX6_commonDivisor_9 : decode cX6_commonDivisor 9 = .ok (.ifCond .eq 17, 3) := by decide +kernel
theorem dX6_commonDivisor_12 : decode cX6_commonDivisor 12 = .ok (.iload_n 0, 1) := by decide +kernel
theorem dX6_commonDivisor_13 : decode cX6_commonDivisor 13 = .ok (.iload_n 1, 1) := by decide +kernel
theorem dX6_commonDivisor_14 : decode cX6_commonDivisor 14 = .ok (.irem, 1) := by decide +kernel
theorem dX6_commonDivisor_15 : decode cX6_commonDivisor 15 = .ok (.istore_n 3, 1) := by decide +kernel
theorem dX6_commonDivisor_16 : decode cX6_commonDivisor 16 = .ok (.iload_n 1, 1) := by decide +kernel
theorem dX6_commonDivisor_17 : decode cX6_commonDivisor 17 = .ok (.istore_n 0, 1) := by decide +kernel
theorem dX6_commonDivisor_18 : decode cX6_commonDivisor 18 = .ok (.iload_n 3, 1) := by decide +kernel
theorem dX6_commonDivisor_19 : decode cX6_commonDivisor 19 = .ok (.istore_n 1, 1) := by decide +kernel
theorem dX6_commonDivisor_20 : decode cX6_commonDivisor 20 = .ok (.iinc 2 1, 3) := by decide +kernel
theorem dX6_commonDivisor_23 : decode cX6_commonDivisor 23 = .ok (.goto (-21), 3) := by decide +kernel
theorem dX6_commonDivisor_26 : decode cX6_commonDivisor 26 = .ok (.iload_n 0, 1) := by decide +kernel
theorem dX6_commonDivisor_27 : decode cX6_commonDivisor 27 = .ok (.ireturn, 1) := by decide +kernel
theorem dX6_pass_0 : decode cX6_pass 0 = .ok (.iload_n 1, 1) := by decide +kernel
theorem dX6_pass_1 : decode cX6_pass 1 = .ok (.iconst 1, 1) := by decide +kernel
theorem dX6_pass_2 : decode cX6_pass 2 = .ok (.bipush 40, 2) := by decide +kernel
theorem dX6_pass_4 : decode cX6_pass 4 = .ok (.invokestatic 53, 3) := by decide +kernel
theorem dX6_pass_7 : decode cX6_pass 7 = .ok (.ifCond .ne 5, 3) := by decide +kernel
theorem dX6_pass_10 : decode cX6_pass 10 = .ok (.iconst (-1), 1) := by decide +kernel
theorem dX6_pass_11 : decode cX6_pass 11 = .ok (.ireturn, 1) := by decide +kernel
theorem dX6_pass_12 : decode cX6_pass 12 = .ok (.aload_n 0, 1) := by decide +kernel
theorem dX6_pass_13 : decode cX6_pass 13 = .ok (.getfield 10, 3) := by decide +kernel
theorem dX6_pass_16 : decode cX6_pass 16 = .ok (.getfield 137, 3) := by decide +kernel
theorem dX6_pass_19 : decode cX6_pass 19 = .ok (.iload_n 1, 1) := by decide +kernel
theorem dX6_pass_20 : decode cX6_pass 20 = .ok (.iadd, 1) := by decide +kernel
theorem dX6_pass_21 : decode cX6_pass 21 = .ok (.sipush 9999, 3) := by decide +kernel
theorem dX6_pass_24 : decode cX6_pass 24 = .ok (.if_icmp .le 6, 3) := by decide +kernel
theorem dX6_pass_27 : decode cX6_pass 27 = .ok (.bipush (-3), 2) := by decide +kernel
theorem dX6_pass_29 : decode cX6_pass 29 = .ok (.ireturn, 1) := by decide +kernel
theorem dX6_pass_30 : decode cX6_pass 30 = .ok (.iconst 0, 1) := by decide +kernel
theorem dX6_pass_31 : decode cX6_pass 31 = .ok (.istore_n 3, 1) := by decide +kernel
theorem dX6_pass_32 : decode cX6_pass 32 = .ok (.iload_n 3, 1) := by decide +kernel
theorem dX6_pass_33 : decode cX6_pass 33 = .ok (.iload_n 1, 1) := by decide +kernel
theorem dX6_pass_34 : decode cX6_pass 34 = .ok (.if_icmp .ge 38, 3) := by decide +kernel
theorem dX6_pass_37 : decode cX6_pass 37 = .ok (.aload_n 0, 1) := by decide +kernel
theorem dX6_pass_38 : decode cX6_pass 38 = .ok (.getfield 19, 3) := by decide +kernel
theorem dX6_pass_41 : decode cX6_pass 41 = .ok (.aload_n 0, 1) := by decide +kernel
theorem dX6_pass_42 : decode cX6_pass 42 = .ok (.getfield 10, 3) := by decide +kernel
theorem dX6_pass_45 : decode cX6_pass 45 = .ok (.invokevirtual 159, 3) := by decide +kernel
theorem dX6_pass_48 : decode cX6_pass 48 = .ok (.iload_n 2, 1) := by decide +kernel
theorem dX6_pass_49 : decode cX6_pass 49 = .ok (.ifCond .eq 10, 3) := by decide +kernel
theorem dX6_pass_52 : decode cX6_pass 52 = .ok (.aload_n 0, 1) := by decide +kernel
theorem dX6_pass_53 : decode cX6_pass 53 = .ok (.getfield 10, 3) := by decide +kernel
theorem dX6_pass_56 : decode cX6_pass 56 = .ok (.invokevirtual 276, 3) := by decide +kernel
theorem dX6_pass_59 : decode cX6_pass 59 = .ok (.aload_n 0, 1) := by decide +kernel
theorem dX6_pass_60 : decode cX6_pass 60 = .ok (.getfield 10, 3) := by decide +kernel
theorem dX6_pass_63 : decode cX6_pass 63 = .ok (.invokevirtual 182, 3) := by decide +kernel
theorem dX6_pass_66 : decode cX6_pass 66 = .ok (.iinc 3 1, 3) := by decide +kernel
theorem dX6_pass_69 : decode cX6_pass 69 = .ok (.goto (-37), 3) := by decide +kernel
theorem dX6_pass_72 : decode cX6_pass 72 = .ok (.aload_n 0, 1) := by decide +kernel
theorem dX6_pass_73 : decode cX6_pass 73 = .ok (.getfield 10, 3) := by decide +kernel
theorem dX6_pass_76 : decode cX6_pass 76 = .ok (.invokevirtual 143, 3) := by decide +kernel
theorem dX6_pass_79 : decode cX6_pass 79 = .ok (.ireturn, 1) := by decide +kernel
theorem dX6_foresee_0 : decode cX6_foresee 0 = .ok (.aload_n 0, 1) := by decide +kernel
theorem dX6_foresee_1 : decode cX6_foresee 1 = .ok (.getfield 23, 3) := by decide +kernel
theorem dX6_foresee_4 : decode cX6_foresee 4 = .ok (.aload_n 0, 1) := by decide +kernel
theorem dX6_foresee_5 : decode cX6_foresee 5 = .ok (.getfield 10, 3) := by decide +kernel
theorem dX6_foresee_8 : decode cX6_foresee 8 = .ok (.invokevirtual 122, 3) := by decide +kernel
theorem dX6_foresee_11 : decode cX6_foresee 11 = .ok (.aload_n 0, 1) := by decide +kernel
theorem dX6_foresee_12 : decode cX6_foresee 12 = .ok (.getfield 23, 3) := by decide +kernel
theorem dX6_foresee_15 : decode cX6_foresee 15 = .ok (.iload_n 1, 1) := by decide +kernel
theorem dX6_foresee_16 : decode cX6_foresee 16 = .ok (.invokevirtual 209, 3) := by decide +kernel
theorem dX6_foresee_19 : decode cX6_foresee 19 = .ok (.return_, 1) := by decide +kernel
theorem dX6_swapsTillCalm_0 : decode cX6_swapsTillCalm 0 = .ok (.aload_n 0, 1) := by decide +kernel
theorem dX6_swapsTillCalm_1 : decode cX6_swapsTillCalm 1 = .ok (.getfield 23, 3) := by decide +kernel
theorem dX6_swapsTillCalm_4 : decode cX6_swapsTillCalm 4 = .ok (.aload_n 0, 1) := by decide +kernel
theorem dX6_swapsTillCalm_5 : decode cX6_swapsTillCalm 5 = .ok (.getfield 10, 3) := by decide +kernel
theorem dX6_swapsTillCalm_8 : decode cX6_swapsTillCalm 8 = .ok (.invokevirtual 122, 3) := by decide +kernel
theorem dX6_swapsTillCalm_11 : decode cX6_swapsTillCalm 11 = .ok (.iconst 0, 1) := by decide +kernel
theorem dX6_swapsTillCalm_12 : decode cX6_swapsTillCalm 12 = .ok (.istore_n 1, 1) := by decide +kernel
theorem dX6_swapsTillCalm_13 : decode cX6_swapsTillCalm 13 = .ok (.iload_n 1, 1) := by decide +kernel
theorem dX6_swapsTillCalm_14 : decode cX6_swapsTillCalm 14 = .ok (.bipush 15, 2) := by decide +kernel
theorem dX6_swapsTillCalm_16 : decode cX6_swapsTillCalm 16 = .ok (.if_icmp .ge 40, 3) := by decide +kernel
theorem dX6_swapsTillCalm_19 : decode cX6_swapsTillCalm 19 = .ok (.aload_n 0, 1) := by decide +kernel
theorem dX6_swapsTillCalm_20 : decode cX6_swapsTillCalm 20 = .ok (.getfield 23, 3) := by decide +kernel
theorem dX6_swapsTillCalm_23 : decode cX6_swapsTillCalm 23 = .ok (.invokevirtual 197, 3) := by decide +kernel
theorem dX6_swapsTillCalm_26 : decode cX6_swapsTillCalm 26 = .ok (.istore_n 2, 1) := by decide +kernel
theorem dX6_swapsTillCalm_27 : decode cX6_swapsTillCalm 27 = .ok (.iload_n 2, 1) := by decide +kernel
theorem dX6_swapsTillCalm_28 : decode cX6_swapsTillCalm 28 = .ok (.bipush (-4), 2) := by decide +kernel
theorem dX6_swapsTillCalm_30 : decode cX6_swapsTillCalm 30 = .ok (.if_icmp .ne 5, 3) := by decide +kernel
theorem dX6_swapsTillCalm_33 : decode cX6_swapsTillCalm 33 = .ok (.iload_n 1, 1) := by decide +kernel
theorem dX6_swapsTillCalm_34 : decode cX6_swapsTillCalm 34 = .ok (.ireturn, 1) := by decide +kernel
theorem dX6_swapsTillCalm_35 : decode cX6_swapsTillCalm 35 = .ok (.aload_n 0, 1) := by decide +kernel
theorem dX6_swapsTillCalm_36 : decode cX6_swapsTillCalm 36 = .ok (.getfield 23, 3) := by decide +kernel
theorem dX6_swapsTillCalm_39 : decode cX6_swapsTillCalm 39 = .ok (.iload_n 2, 1) := by decide +kernel
theorem dX6_swapsTillCalm_40 : decode cX6_swapsTillCalm 40 = .ok (.bipush 10, 2) := by decide +kernel
theorem dX6_swapsTillCalm_42 : decode cX6_swapsTillCalm 42 = .ok (.idiv, 1) := by decide +kernel
theorem dX6_swapsTillCalm_43 : decode cX6_swapsTillCalm 43 = .ok (.iload_n 2, 1) := by decide +kernel
theorem dX6_swapsTillCalm_44 : decode cX6_swapsTillCalm 44 = .ok (.bipush 10, 2) := by decide +kernel
theorem dX6_swapsTillCalm_46 : decode cX6_swapsTillCalm 46 = .ok (.irem, 1) := by decide +kernel
theorem dX6_swapsTillCalm_47 : decode cX6_swapsTillCalm 47 = .ok (.invokevirtual 162, 3) := by decide +kernel
theorem dX6_swapsTillCalm_50 : decode cX6_swapsTillCalm 50 = .ok (.iinc 1 1, 3) := by decide +kernel
theorem dX6_swapsTillCalm_53 : decode cX6_swapsTillCalm 53 = .ok (.goto (-40), 3) := by decide +kernel
theorem dX6_swapsTillCalm_56 : decode cX6_swapsTillCalm 56 = .ok (.bipush 15, 2) := by decide +kernel
theorem dX6_swapsTillCalm_58 : decode cX6_swapsTillCalm 58 = .ok (.ireturn, 1) := by decide +kernel
theorem dX6_dealNearest_0 : decode cX6_dealNearest 0 = .ok (.aload_n 0, 1) := by decide +kernel
theorem dX6_dealNearest_1 : decode cX6_dealNearest 1 = .ok (.getfield 35, 3) := by decide +kernel
theorem dX6_dealNearest_4 : decode cX6_dealNearest 4 = .ok (.aload_n 0, 1) := by decide +kernel
theorem dX6_dealNearest_5 : decode cX6_dealNearest 5 = .ok (.getfield 10, 3) := by decide +kernel
theorem dX6_dealNearest_8 : decode cX6_dealNearest 8 = .ok (.getfield 72, 3) := by decide +kernel
theorem dX6_dealNearest_11 : decode cX6_dealNearest 11 = .ok (.bipush 63, 2) := by decide +kernel
theorem dX6_dealNearest_13 : decode cX6_dealNearest 13 = .ok (.invokevirtual 279, 3) := by decide +kernel
theorem dX6_dealNearest_16 : decode cX6_dealNearest 16 = .ok (.iconst 0, 1) := by decide +kernel
theorem dX6_dealNearest_17 : decode cX6_dealNearest 17 = .ok (.istore_n 1, 1) := by decide +kernel
theorem dX6_dealNearest_18 : decode cX6_dealNearest 18 = .ok (.iload_n 1, 1) := by decide +kernel
theorem dX6_dealNearest_19 : decode cX6_dealNearest 19 = .ok (.sipush 720, 3) := by decide +kernel
theorem dX6_dealNearest_22 : decode cX6_dealNearest 22 = .ok (.if_icmp .ge 86, 3) := by decide +kernel
theorem dX6_dealNearest_25 : decode cX6_dealNearest 25 = .ok (.iconst 0, 1) := by decide +kernel
theorem dX6_dealNearest_26 : decode cX6_dealNearest 26 = .ok (.istore_n 2, 1) := by decide +kernel
theorem dX6_dealNearest_27 : decode cX6_dealNearest 27 = .ok (.iconst 0, 1) := by decide +kernel
theorem dX6_dealNearest_28 : decode cX6_dealNearest 28 = .ok (.istore_n 3, 1) := by decide +kernel
theorem dX6_dealNearest_29 : decode cX6_dealNearest 29 = .ok (.iload_n 3, 1) := by decide +kernel
theorem dX6_dealNearest_30 : decode cX6_dealNearest 30 = .ok (.aload_n 0, 1) := by decide +kernel
theorem dX6_dealNearest_31 : decode cX6_dealNearest 31 = .ok (.getfield 10, 3) := by decide +kernel
theorem dX6_dealNearest_34 : decode cX6_dealNearest 34 = .ok (.getfield 72, 3) := by decide +kernel
theorem dX6_dealNearest_37 : decode cX6_dealNearest 37 = .ok (.if_icmp .ge 29, 3) := by decide +kernel
theorem dX6_dealNearest_40 : decode cX6_dealNearest 40 = .ok (.iload_n 2, 1) := by decide +kernel
theorem dX6_dealNearest_41 : decode cX6_dealNearest 41 = .ok (.aload_n 0, 1) := by decide +kernel
theorem dX6_dealNearest_42 : decode cX6_dealNearest 42 = .ok (.getfield 10, 3) := by decide +kernel
theorem dX6_dealNearest_45 : decode cX6_dealNearest 45 = .ok (.iload_n 3, 1) := by decide +kernel
theorem dX6_dealNearest_46 : decode cX6_dealNearest 46 = .ok (.aload_n 0, 1) := by decide +kernel
theorem dX6_dealNearest_47 : decode cX6_dealNearest 47 = .ok (.getfield 35, 3) := by decide +kernel
theorem dX6_dealNearest_50 : decode cX6_dealNearest 50 = .ok (.getfield 282, 3) := by decide +kernel
theorem dX6_dealNearest_53 : decode cX6_dealNearest 53 = .ok (.iload_n 3, 1) := by decide +kernel
theorem dX6_dealNearest_54 : decode cX6_dealNearest 54 = .ok (.iaload, 1) := by decide +kernel
theorem dX6_dealNearest_55 : decode cX6_dealNearest 55 = .ok (.invokevirtual 108, 3) := by decide +kernel
theorem dX6_dealNearest_58 : decode cX6_dealNearest 58 = .ok (.iadd, 1) := by decide +kernel
theorem dX6_dealNearest_59 : decode cX6_dealNearest 59 = .ok (.istore_n 2, 1) := by decide +kernel
theorem dX6_dealNearest_60 : decode cX6_dealNearest 60 = .ok (.iinc 3 1, 3) := by decide +kernel
theorem dX6_dealNearest_63 : decode cX6_dealNearest 63 = .ok (.goto (-34), 3) := by decide +kernel
theorem dX6_dealNearest_66 : decode cX6_dealNearest 66 = .ok (.iload_n 1, 1) := by decide +kernel
theorem dX6_dealNearest_67 : decode cX6_dealNearest 67 = .ok (.ifCond .eq 14, 3) := by decide +kernel
theorem dX6_dealNearest_70 : decode cX6_dealNearest 70 = .ok (.iload_n 2, 1) := by decide +kernel
theorem dX6_dealNearest_71 : decode cX6_dealNearest 71 = .ok (.aload_n 0, 1) := by decide +kernel
theorem dX6_dealNearest_72 : decode cX6_dealNearest 72 = .ok (.getfield 35, 3) := by decide +kernel
theorem dX6_dealNearest_75 : decode cX6_dealNearest 75 = .ok (.getfield 283, 3) := by decide +kernel
theorem dX6_dealNearest_78 : decode cX6_dealNearest 78 = .ok (.if_icmp .ge 11, 3) := by decide +kernel
theorem dX6_dealNearest_81 : decode cX6_dealNearest 81 = .ok (.aload_n 0, 1) := by decide +kernel
theorem dX6_dealNearest_82 : decode cX6_dealNearest 82 = .ok (.getfield 35, 3) := by decide +kernel
theorem dX6_dealNearest_85 : decode cX6_dealNearest 85 = .ok (.iload_n 2, 1) := by decide +kernel
theorem dX6_dealNearest_86 : decode cX6_dealNearest 86 = .ok (.invokevirtual 286, 3) := by decide +kernel
theorem dX6_dealNearest_89 : decode cX6_dealNearest 89 = .ok (.aload_n 0, 1) := by decide +kernel
theorem dX6_dealNearest_90 : decode cX6_dealNearest 90 = .ok (.getfield 35, 3) := by decide +kernel
theorem dX6_dealNearest_93 : decode cX6_dealNearest 93 = .ok (.invokevirtual 288, 3) := by decide +kernel
theorem dX6_dealNearest_96 : decode cX6_dealNearest 96 = .ok (.ifCond .ne 6, 3) := by decide +kernel
theorem dX6_dealNearest_99 : decode cX6_dealNearest 99 = .ok (.goto 9, 3) := by decide +kernel
theorem dX6_dealNearest_102 : decode cX6_dealNearest 102 = .ok (.iinc 1 1, 3) := by decide +kernel
theorem dX6_dealNearest_105 : decode cX6_dealNearest 105 = .ok (.goto (-87), 3) := by decide +kernel
theorem dX6_dealNearest_108 : decode cX6_dealNearest 108 = .ok (.return_, 1) := by decide +kernel
theorem dX6_dealLeastUsed_0 : decode cX6_dealLeastUsed 0 = .ok (.aload_n 0, 1) := by decide +kernel
theorem dX6_dealLeastUsed_1 : decode cX6_dealLeastUsed 1 = .ok (.getfield 35, 3) := by decide +kernel
theorem dX6_dealLeastUsed_4 : decode cX6_dealLeastUsed 4 = .ok (.aload_n 0, 1) := by decide +kernel
theorem dX6_dealLeastUsed_5 : decode cX6_dealLeastUsed 5 = .ok (.getfield 10, 3) := by decide +kernel
theorem dX6_dealLeastUsed_8 : decode cX6_dealLeastUsed 8 = .ok (.getfield 72, 3) := by decide +kernel
theorem dX6_dealLeastUsed_11 : decode cX6_dealLeastUsed 11 = .ok (.aload_n 0, 1) := by decide +kernel
theorem dX6_dealLeastUsed_12 : decode cX6_dealLeastUsed 12 = .ok (.getfield 10, 3) := by decide +kernel
theorem dX6_dealLeastUsed_15 : decode cX6_dealLeastUsed 15 = .ok (.invokevirtual 291, 3) := by decide +kernel
theorem dX6_dealLeastUsed_18 : decode cX6_dealLeastUsed 18 = .ok (.invokevirtual 279, 3) := by decide +kernel
theorem dX6_dealLeastUsed_21 : decode cX6_dealLeastUsed 21 = .ok (.bipush 100, 2) := by decide +kernel
theorem dX6_dealLeastUsed_23 : decode cX6_dealLeastUsed 23 = .ok (.istore_n 3, 1) := by decide +kernel
theorem dX6_dealLeastUsed_24 : decode cX6_dealLeastUsed 24 = .ok (.iconst 0, 1) := by decide +kernel
theorem dX6_dealLeastUsed_25 : decode cX6_dealLeastUsed 25 = .ok (.istore 4, 2) := by decide +kernel
theorem dX6_dealLeastUsed_27 : decode cX6_dealLeastUsed 27 = .ok (.iload 4, 2) := by decide +kernel
theorem dX6_dealLeastUsed_29 : decode cX6_dealLeastUsed 29 = .ok (.sipush 720, 3) := by decide +kernel
theorem dX6_dealLeastUsed_32 : decode cX6_dealLeastUsed 32 = .ok (.if_icmp .ge 49, 3) := by decide +kernel
theorem dX6_dealLeastUsed_35 : decode cX6_dealLeastUsed 35 = .ok (.aload_n 0, 1) := by decide +kernel
theorem dX6_dealLeastUsed_36 : decode cX6_dealLeastUsed 36 = .ok (.iload_n 1, 1) := by decide +kernel
theorem dX6_dealLeastUsed_37 : decode cX6_dealLeastUsed 37 = .ok (.iload_n 2, 1) := by decide +kernel
theorem dX6_dealLeastUsed_38 : decode cX6_dealLeastUsed 38 = .ok (.iload_n 3, 1) := by decide +kernel
theorem dX6_dealLeastUsed_39 : decode cX6_dealLeastUsed 39 = .ok (.invokevirtual 294, 3) := by decide +kernel
theorem dX6_dealLeastUsed_42 : decode cX6_dealLeastUsed 42 = .ok (.istore 5, 2) := by decide +kernel
theorem dX6_dealLeastUsed_44 : decode cX6_dealLeastUsed 44 = .ok (.iload 5, 2) := by decide +kernel
theorem dX6_dealLeastUsed_46 : decode cX6_dealLeastUsed 46 = .ok (.iload_n 3, 1) := by decide +kernel
theorem dX6_dealLeastUsed_47 : decode cX6_dealLeastUsed 47 = .ok (.if_icmp .ge 15, 3) := by decide +kernel
theorem dX6_dealLeastUsed_50 : decode cX6_dealLeastUsed 50 = .ok (.iload 5, 2) := by decide +kernel
theorem dX6_dealLeastUsed_52 : decode cX6_dealLeastUsed 52 = .ok (.istore_n 3, 1) := by decide +kernel
theorem dX6_dealLeastUsed_53 : decode cX6_dealLeastUsed 53 = .ok (.aload_n 0, 1) := by decide +kernel
theorem dX6_dealLeastUsed_54 : decode cX6_dealLeastUsed 54 = .ok (.getfield 35, 3) := by decide +kernel
theorem dX6_dealLeastUsed_57 : decode cX6_dealLeastUsed 57 = .ok (.iload 5, 2) := by decide +kernel
theorem dX6_dealLeastUsed_59 : decode cX6_dealLeastUsed 59 = .ok (.invokevirtual 286, 3) := by decide +kernel
theorem dX6_dealLeastUsed_62 : decode cX6_dealLeastUsed 62 = .ok (.aload_n 0, 1) := by decide +kernel
theorem dX6_dealLeastUsed_63 : decode cX6_dealLeastUsed 63 = .ok (.getfield 35, 3) := by decide +kernel
theorem dX6_dealLeastUsed_66 : decode cX6_dealLeastUsed 66 = .ok (.invokevirtual 288, 3) := by decide +kernel
theorem dX6_dealLeastUsed_69 : decode cX6_dealLeastUsed 69 = .ok (.ifCond .ne 6, 3) := by decide +kernel
theorem dX6_dealLeastUsed_72 : decode cX6_dealLeastUsed 72 = .ok (.goto 9, 3) := by decide +kernel
theorem dX6_dealLeastUsed_75 : decode cX6_dealLeastUsed 75 = .ok (.iinc 4 1, 3) := by decide +kernel
theorem dX6_dealLeastUsed_78 : decode cX6_dealLeastUsed 78 = .ok (.goto (-51), 3) := by decide +kernel
theorem dX6_dealLeastUsed_81 : decode cX6_dealLeastUsed 81 = .ok (.return_, 1) := by decide +kernel
theorem dX6_usedIfDealt_0 : decode cX6_usedIfDealt 0 = .ok (.aload_n 0, 1) := by decide +kernel
theorem dX6_usedIfDealt_1 : decode cX6_usedIfDealt 1 = .ok (.getfield 23, 3) := by decide +kernel
theorem dX6_usedIfDealt_4 : decode cX6_usedIfDealt 4 = .ok (.aload_n 0, 1) := by decide +kernel
theorem dX6_usedIfDealt_5 : decode cX6_usedIfDealt 5 = .ok (.getfield 10, 3) := by decide +kernel
theorem dX6_usedIfDealt_8 : decode cX6_usedIfDealt 8 = .ok (.invokevirtual 122, 3) := by decide +kernel
theorem dX6_usedIfDealt_11 : decode cX6_usedIfDealt 11 = .ok (.aload_n 0, 1) := by decide +kernel
theorem dX6_usedIfDealt_12 : decode cX6_usedIfDealt 12 = .ok (.getfield 23, 3) := by decide +kernel
theorem dX6_usedIfDealt_15 : decode cX6_usedIfDealt 15 = .ok (.aload_n 0, 1) := by decide +kernel
theorem dX6_usedIfDealt_16 : decode cX6_usedIfDealt 16 = .ok (.getfield 35, 3) := by decide +kernel
theorem dX6_usedIfDealt_19 : decode cX6_usedIfDealt 19 = .ok (.getfield 282, 3) := by decide +kernel
theorem dX6_usedIfDealt_22 : decode cX6_usedIfDealt 22 = .ok (.invokevirtual 297, 3) := by decide +kernel
theorem dX6_usedIfDealt_25 : decode cX6_usedIfDealt 25 = .ok (.iload_n 2, 1) := by decide +kernel
theorem dX6_usedIfDealt_26 : decode cX6_usedIfDealt 26 = .ok (.istore 4, 2) := by decide +kernel
theorem dX6_usedIfDealt_28 : decode cX6_usedIfDealt 28 = .ok (.iload 4, 2) := by decide +kernel
theorem dX6_usedIfDealt_30 : decode cX6_usedIfDealt 30 = .ok (.ifCond .le 37, 3) := by decide +kernel
theorem dX6_usedIfDealt_33 : decode cX6_usedIfDealt 33 = .ok (.aload_n 0, 1) := by decide +kernel
theorem dX6_usedIfDealt_34 : decode cX6_usedIfDealt 34 = .ok (.getfield 23, 3) := by decide +kernel
theorem dX6_usedIfDealt_37 : decode cX6_usedIfDealt 37 = .ok (.iload_n 1, 1) := by decide +kernel
theorem dX6_usedIfDealt_38 : decode cX6_usedIfDealt 38 = .ok (.iload 4, 2) := by decide +kernel
theorem dX6_usedIfDealt_40 : decode cX6_usedIfDealt 40 = .ok (.invokevirtual 301, 3) := by decide +kernel
theorem dX6_usedIfDealt_43 : decode cX6_usedIfDealt 43 = .ok (.istore 5, 2) := by decide +kernel
theorem dX6_usedIfDealt_45 : decode cX6_usedIfDealt 45 = .ok (.iload 5, 2) := by decide +kernel
theorem dX6_usedIfDealt_47 : decode cX6_usedIfDealt 47 = .ok (.iload_n 3, 1) := by decide +kernel
theorem dX6_usedIfDealt_48 : decode cX6_usedIfDealt 48 = .ok (.if_icmp .lt 6, 3) := by decide +kernel
theorem dX6_usedIfDealt_51 : decode cX6_usedIfDealt 51 = .ok (.iload 5, 2) := by decide +kernel
theorem dX6_usedIfDealt_53 : decode cX6_usedIfDealt 53 = .ok (.ireturn, 1) := by decide +kernel
theorem dX6_usedIfDealt_54 : decode cX6_usedIfDealt 54 = .ok (.aload_n 0, 1) := by decide +kernel
theorem dX6_usedIfDealt_55 : decode cX6_usedIfDealt 55 = .ok (.getfield 23, 3) := by decide +kernel
theorem dX6_usedIfDealt_58 : decode cX6_usedIfDealt 58 = .ok (.invokevirtual 182, 3) := by decide +kernel
theorem dX6_usedIfDealt_61 : decode cX6_usedIfDealt 61 = .ok (.iinc 4 (-1), 3) := by decide +kernel
theorem dX6_usedIfDealt_64 : decode cX6_usedIfDealt 64 = .ok (.goto (-36), 3) := by decide +kernel
theorem dX6_usedIfDealt_67 : decode cX6_usedIfDealt 67 = .ok (.aload_n 0, 1) := by decide +kernel
theorem dX6_usedIfDealt_68 : decode cX6_usedIfDealt 68 = .ok (.getfield 23, 3) := by decide +kernel
theorem dX6_usedIfDealt_71 : decode cX6_usedIfDealt 71 = .ok (.getfield 89, 3) := by decide +kernel
theorem dX6_usedIfDealt_74 : decode cX6_usedIfDealt 74 = .ok (.iload_n 1, 1) := by decide +kernel
theorem dX6_usedIfDealt_75 : decode cX6_usedIfDealt 75 = .ok (.iaload, 1) := by decide +kernel
theorem dX6_usedIfDealt_76 : decode cX6_usedIfDealt 76 = .ok (.ireturn, 1) := by decide +kernel
theorem dX6_dealMostDues_0 : decode cX6_dealMostDues 0 = .ok (.aload_n 0, 1) := by decide +kernel
theorem dX6_dealMostDues_1 : decode cX6_dealMostDues 1 = .ok (.getfield 35, 3) := by decide +kernel
theorem dX6_dealMostDues_4 : decode cX6_dealMostDues 4 = .ok (.aload_n 0, 1) := by decide +kernel
theorem dX6_dealMostDues_5 : decode cX6_dealMostDues 5 = .ok (.getfield 10, 3) := by decide +kernel
theorem dX6_dealMostDues_8 : decode cX6_dealMostDues 8 = .ok (.getfield 72, 3) := by decide +kernel
theorem dX6_dealMostDues_11 : decode cX6_dealMostDues 11 = .ok (.aload_n 0, 1) := by decide +kernel
theorem dX6_dealMostDues_12 : decode cX6_dealMostDues 12 = .ok (.getfield 10, 3) := by decide +kernel
theorem dX6_dealMostDues_15 : decode cX6_dealMostDues 15 = .ok (.invokevirtual 291, 3) := by decide +kernel
theorem dX6_dealMostDues_18 : decode cX6_dealMostDues 18 = .ok (.invokevirtual 279, 3) := by decide +kernel
theorem dX6_dealMostDues_21 : decode cX6_dealMostDues 21 = .ok (.iconst (-1), 1) := by decide +kernel
theorem dX6_dealMostDues_22 : decode cX6_dealMostDues 22 = .ok (.istore_n 2, 1) := by decide +kernel
theorem dX6_dealMostDues_23 : decode cX6_dealMostDues 23 = .ok (.iconst 0, 1) := by decide +kernel
theorem dX6_dealMostDues_24 : decode cX6_dealMostDues 24 = .ok (.istore_n 3, 1) := by decide +kernel
theorem dX6_dealMostDues_25 : decode cX6_dealMostDues 25 = .ok (.iload_n 3, 1) := by decide +kernel
theorem dX6_dealMostDues_26 : decode cX6_dealMostDues 26 = .ok (.sipush 720, 3) := by decide +kernel
theorem dX6_dealMostDues_29 : decode cX6_dealMostDues 29 = .ok (.if_icmp .ge 48, 3) := by decide +kernel
theorem dX6_dealMostDues_32 : decode cX6_dealMostDues 32 = .ok (.aload_n 0, 1) := by decide +kernel
theorem dX6_dealMostDues_33 : decode cX6_dealMostDues 33 = .ok (.iload_n 1, 1) := by decide +kernel
theorem dX6_dealMostDues_34 : decode cX6_dealMostDues 34 = .ok (.iload_n 2, 1) := by decide +kernel
theorem dX6_dealMostDues_35 : decode cX6_dealMostDues 35 = .ok (.invokevirtual 304, 3) := by decide +kernel
theorem dX6_dealMostDues_38 : decode cX6_dealMostDues 38 = .ok (.istore 4, 2) := by decide +kernel
theorem dX6_dealMostDues_40 : decode cX6_dealMostDues 40 = .ok (.iload 4, 2) := by decide +kernel
theorem dX6_dealMostDues_42 : decode cX6_dealMostDues 42 = .ok (.iload_n 2, 1) := by decide +kernel
theorem dX6_dealMostDues_43 : decode cX6_dealMostDues 43 = .ok (.if_icmp .le 15, 3) := by decide +kernel
theorem dX6_dealMostDues_46 : decode cX6_dealMostDues 46 = .ok (.iload 4, 2) := by decide +kernel
theorem dX6_dealMostDues_48 : decode cX6_dealMostDues 48 = .ok (.istore_n 2, 1) := by decide +kernel
theorem dX6_dealMostDues_49 : decode cX6_dealMostDues 49 = .ok (.aload_n 0, 1) := by decide +kernel
theorem dX6_dealMostDues_50 : decode cX6_dealMostDues 50 = .ok (.getfield 35, 3) := by decide +kernel
theorem dX6_dealMostDues_53 : decode cX6_dealMostDues 53 = .ok (.iload 4, 2) := by decide +kernel
theorem dX6_dealMostDues_55 : decode cX6_dealMostDues 55 = .ok (.invokevirtual 286, 3) := by decide +kernel
theorem dX6_dealMostDues_58 : decode cX6_dealMostDues 58 = .ok (.aload_n 0, 1) := by decide +kernel
theorem dX6_dealMostDues_59 : decode cX6_dealMostDues 59 = .ok (.getfield 35, 3) := by decide +kernel
theorem dX6_dealMostDues_62 : decode cX6_dealMostDues 62 = .ok (.invokevirtual 288, 3) := by decide +kernel
theorem dX6_dealMostDues_65 : decode cX6_dealMostDues 65 = .ok (.ifCond .ne 6, 3) := by decide +kernel
theorem dX6_dealMostDues_68 : decode cX6_dealMostDues 68 = .ok (.goto 9, 3) := by decide +kernel
theorem dX6_dealMostDues_71 : decode cX6_dealMostDues 71 = .ok (.iinc 3 1, 3) := by decide +kernel
theorem dX6_dealMostDues_74 : decode cX6_dealMostDues 74 = .ok (.goto (-49), 3) := by decide +kernel
theorem dX6_dealMostDues_77 : decode cX6_dealMostDues 77 = .ok (.return_, 1) := by decide +kernel
theorem dX6_duesIfDealt_0 : decode cX6_duesIfDealt 0 = .ok (.aload_n 0, 1) := by decide +kernel
theorem dX6_duesIfDealt_1 : decode cX6_duesIfDealt 1 = .ok (.getfield 23, 3) := by decide +kernel
theorem dX6_duesIfDealt_4 : decode cX6_duesIfDealt 4 = .ok (.aload_n 0, 1) := by decide +kernel
theorem dX6_duesIfDealt_5 : decode cX6_duesIfDealt 5 = .ok (.getfield 10, 3) := by decide +kernel
theorem dX6_duesIfDealt_8 : decode cX6_duesIfDealt 8 = .ok (.invokevirtual 122, 3) := by decide +kernel
theorem dX6_duesIfDealt_11 : decode cX6_duesIfDealt 11 = .ok (.aload_n 0, 1) := by decide +kernel
theorem dX6_duesIfDealt_12 : decode cX6_duesIfDealt 12 = .ok (.getfield 23, 3) := by decide +kernel
theorem dX6_duesIfDealt_15 : decode cX6_duesIfDealt 15 = .ok (.aload_n 0, 1) := by decide +kernel
theorem dX6_duesIfDealt_16 : decode cX6_duesIfDealt 16 = .ok (.getfield 35, 3) := by decide +kernel
theorem dX6_duesIfDealt_19 : decode cX6_duesIfDealt 19 = .ok (.getfield 282, 3) := by decide +kernel
theorem dX6_duesIfDealt_22 : decode cX6_duesIfDealt 22 = .ok (.invokevirtual 297, 3) := by decide +kernel
theorem dX6_duesIfDealt_25 : decode cX6_duesIfDealt 25 = .ok (.aload_n 0, 1) := by decide +kernel
theorem dX6_duesIfDealt_26 : decode cX6_duesIfDealt 26 = .ok (.getfield 23, 3) := by decide +kernel
theorem dX6_duesIfDealt_29 : decode cX6_duesIfDealt 29 = .ok (.iconst 0, 1) := by decide +kernel
theorem dX6_duesIfDealt_30 : decode cX6_duesIfDealt 30 = .ok (.putfield 140, 3) := by decide +kernel
theorem dX6_duesIfDealt_33 : decode cX6_duesIfDealt 33 = .ok (.iload_n 1, 1) := by decide +kernel
theorem dX6_duesIfDealt_34 : decode cX6_duesIfDealt 34 = .ok (.istore_n 3, 1) := by decide +kernel
theorem dX6_duesIfDealt_35 : decode cX6_duesIfDealt 35 = .ok (.iload_n 3, 1) := by decide +kernel
theorem dX6_duesIfDealt_36 : decode cX6_duesIfDealt 36 = .ok (.ifCond .le 43, 3) := by decide +kernel
theorem dX6_duesIfDealt_39 : decode cX6_duesIfDealt 39 = .ok (.aload_n 0, 1) := by decide +kernel
theorem dX6_duesIfDealt_40 : decode cX6_duesIfDealt 40 = .ok (.getfield 23, 3) := by decide +kernel
theorem dX6_duesIfDealt_43 : decode cX6_duesIfDealt 43 = .ok (.getfield 140, 3) := by decide +kernel
theorem dX6_duesIfDealt_46 : decode cX6_duesIfDealt 46 = .ok (.aload_n 0, 1) := by decide +kernel
theorem dX6_duesIfDealt_47 : decode cX6_duesIfDealt 47 = .ok (.getfield 23, 3) := by decide +kernel
theorem dX6_duesIfDealt_50 : decode cX6_duesIfDealt 50 = .ok (.iload_n 3, 1) := by decide +kernel
theorem dX6_duesIfDealt_51 : decode cX6_duesIfDealt 51 = .ok (.invokevirtual 307, 3) := by decide +kernel
theorem dX6_duesIfDealt_54 : decode cX6_duesIfDealt 54 = .ok (.iadd, 1) := by decide +kernel
theorem dX6_duesIfDealt_55 : decode cX6_duesIfDealt 55 = .ok (.istore 4, 2) := by decide +kernel
theorem dX6_duesIfDealt_57 : decode cX6_duesIfDealt 57 = .ok (.iload 4, 2) := by decide +kernel
theorem dX6_duesIfDealt_59 : decode cX6_duesIfDealt 59 = .ok (.iload_n 2, 1) := by decide +kernel
theorem dX6_duesIfDealt_60 : decode cX6_duesIfDealt 60 = .ok (.if_icmp .gt 6, 3) := by decide +kernel
theorem dX6_duesIfDealt_63 : decode cX6_duesIfDealt 63 = .ok (.iload 4, 2) := by decide +kernel
theorem dX6_duesIfDealt_65 : decode cX6_duesIfDealt 65 = .ok (.ireturn, 1) := by decide +kernel
theorem dX6_duesIfDealt_66 : decode cX6_duesIfDealt 66 = .ok (.aload_n 0, 1) := by decide +kernel
theorem dX6_duesIfDealt_67 : decode cX6_duesIfDealt 67 = .ok (.getfield 23, 3) := by decide +kernel
theorem dX6_duesIfDealt_70 : decode cX6_duesIfDealt 70 = .ok (.invokevirtual 182, 3) := by decide +kernel
theorem dX6_duesIfDealt_73 : decode cX6_duesIfDealt 73 = .ok (.iinc 3 (-1), 3) := by decide +kernel
theorem dX6_duesIfDealt_76 : decode cX6_duesIfDealt 76 = .ok (.goto (-41), 3) := by decide +kernel
theorem dX6_duesIfDealt_79 : decode cX6_duesIfDealt 79 = .ok (.aload_n 0, 1) := by decide +kernel
theorem dX6_duesIfDealt_80 : decode cX6_duesIfDealt 80 = .ok (.getfield 23, 3) := by decide +kernel
theorem dX6_duesIfDealt_83 : decode cX6_duesIfDealt 83 = .ok (.getfield 140, 3) := by decide +kernel
theorem dX6_duesIfDealt_86 : decode cX6_duesIfDealt 86 = .ok (.ireturn, 1) := by decide +kernel
theorem dX6_weightIfUsed_0 : decode cX6_weightIfUsed 0 = .ok (.aload_n 0, 1) := by decide +kernel
theorem dX6_weightIfUsed_1 : decode cX6_weightIfUsed 1 = .ok (.getfield 23, 3) := by decide +kernel
theorem dX6_weightIfUsed_4 : decode cX6_weightIfUsed 4 = .ok (.aload_n 0, 1) := by decide +kernel
theorem dX6_weightIfUsed_5 : decode cX6_weightIfUsed 5 = .ok (.getfield 10, 3) := by decide +kernel
theorem dX6_weightIfUsed_8 : decode cX6_weightIfUsed 8 = .ok (.invokevirtual 122, 3) := by decide +kernel
theorem dX6_weightIfUsed_11 : decode cX6_weightIfUsed 11 = .ok (.iconst 1, 1) := by decide +kernel
theorem dX6_weightIfUsed_12 : decode cX6_weightIfUsed 12 = .ok (.istore 6, 2) := by decide +kernel
theorem dX6_weightIfUsed_14 : decode cX6_weightIfUsed 14 = .ok (.iconst 0, 1) := by decide +kernel
theorem dX6_weightIfUsed_15 : decode cX6_weightIfUsed 15 = .ok (.istore 7, 2) := by decide +kernel
theorem dX6_weightIfUsed_17 : decode cX6_weightIfUsed 17 = .ok (.iload 7, 2) := by decide +kernel
theorem dX6_weightIfUsed_19 : decode cX6_weightIfUsed 19 = .ok (.iload_n 3, 1) := by decide +kernel
theorem dX6_weightIfUsed_20 : decode cX6_weightIfUsed 20 = .ok (.if_icmp .ge 60, 3) := by decide +kernel
theorem dX6_weightIfUsed_23 : decode cX6_weightIfUsed 23 = .ok (.iload 6, 2) := by decide +kernel
theorem dX6_weightIfUsed_25 : decode cX6_weightIfUsed 25 = .ok (.ifCond .le 55, 3) := by decide +kernel
theorem dX6_weightIfUsed_28 : decode cX6_weightIfUsed 28 = .ok (.iload 5, 2) := by decide +kernel
theorem dX6_weightIfUsed_30 : decode cX6_weightIfUsed 30 = .ok (.iload 7, 2) := by decide +kernel
theorem dX6_weightIfUsed_32 : decode cX6_weightIfUsed 32 = .ok (.ishr, 1) := by decide +kernel
theorem dX6_weightIfUsed_33 : decode cX6_weightIfUsed 33 = .ok (.iconst 1, 1) := by decide +kernel
theorem dX6_weightIfUsed_34 : decode cX6_weightIfUsed 34 = .ok (.iand, 1) := by decide +kernel
theorem dX6_weightIfUsed_35 : decode cX6_weightIfUsed 35 = .ok (.iconst 1, 1) := by decide +kernel
theorem dX6_weightIfUsed_36 : decode cX6_weightIfUsed 36 = .ok (.if_icmp .ne 21, 3) := by decide +kernel
theorem dX6_weightIfUsed_39 : decode cX6_weightIfUsed 39 = .ok (.iload 6, 2) := by decide +kernel
theorem dX6_weightIfUsed_41 : decode cX6_weightIfUsed 41 = .ok (.iload 4, 2) := by decide +kernel
theorem dX6_weightIfUsed_43 : decode cX6_weightIfUsed 43 = .ok (.imul, 1) := by decide +kernel
theorem dX6_weightIfUsed_44 : decode cX6_weightIfUsed 44 = .ok (.istore 6, 2) := by decide +kernel
theorem dX6_weightIfUsed_46 : decode cX6_weightIfUsed 46 = .ok (.aload_n 0, 1) := by decide +kernel
theorem dX6_weightIfUsed_47 : decode cX6_weightIfUsed 47 = .ok (.getfield 23, 3) := by decide +kernel
theorem dX6_weightIfUsed_50 : decode cX6_weightIfUsed 50 = .ok (.iload_n 1, 1) := by decide +kernel
theorem dX6_weightIfUsed_51 : decode cX6_weightIfUsed 51 = .ok (.invokevirtual 169, 3) := by decide +kernel
theorem dX6_weightIfUsed_54 : decode cX6_weightIfUsed 54 = .ok (.goto 13, 3) := by decide +kernel
theorem dX6_weightIfUsed_57 : decode cX6_weightIfUsed 57 = .ok (.iload 6, 2) := by decide +kernel
theorem dX6_weightIfUsed_59 : decode cX6_weightIfUsed 59 = .ok (.bipush 10, 2) := by decide +kernel
theorem dX6_weightIfUsed_61 : decode cX6_weightIfUsed 61 = .ok (.iload 4, 2) := by decide +kernel
theorem dX6_weightIfUsed_63 : decode cX6_weightIfUsed 63 = .ok (.isub, 1) := by decide +kernel
theorem dX6_weightIfUsed_64 : decode cX6_weightIfUsed 64 = .ok (.imul, 1) := by decide +kernel
theorem dX6_weightIfUsed_65 : decode cX6_weightIfUsed 65 = .ok (.istore 6, 2) := by decide +kernel
theorem dX6_weightIfUsed_67 : decode cX6_weightIfUsed 67 = .ok (.aload_n 0, 1) := by decide +kernel
theorem dX6_weightIfUsed_68 : decode cX6_weightIfUsed 68 = .ok (.getfield 23, 3) := by decide +kernel
theorem dX6_weightIfUsed_71 : decode cX6_weightIfUsed 71 = .ok (.invokevirtual 182, 3) := by decide +kernel
theorem dX6_weightIfUsed_74 : decode cX6_weightIfUsed 74 = .ok (.iinc 7 1, 3) := by decide +kernel
theorem dX6_weightIfUsed_77 : decode cX6_weightIfUsed 77 = .ok (.goto (-60), 3) := by decide +kernel
theorem dX6_weightIfUsed_80 : decode cX6_weightIfUsed 80 = .ok (.aload_n 0, 1) := by decide +kernel
theorem dX6_weightIfUsed_81 : decode cX6_weightIfUsed 81 = .ok (.getfield 23, 3) := by decide +kernel
theorem dX6_weightIfUsed_84 : decode cX6_weightIfUsed 84 = .ok (.getfield 89, 3) := by decide +kernel
theorem dX6_weightIfUsed_87 : decode cX6_weightIfUsed 87 = .ok (.iload_n 1, 1) := by decide +kernel
theorem dX6_weightIfUsed_88 : decode cX6_weightIfUsed 88 = .ok (.iaload, 1) := by decide +kernel
theorem dX6_weightIfUsed_89 : decode cX6_weightIfUsed 89 = .ok (.iload_n 2, 1) := by decide +kernel
theorem dX6_weightIfUsed_90 : decode cX6_weightIfUsed 90 = .ok (.if_icmp .lt 8, 3) := by decide +kernel
theorem dX6_weightIfUsed_93 : decode cX6_weightIfUsed 93 = .ok (.iload 6, 2) := by decide +kernel
theorem dX6_weightIfUsed_95 : decode cX6_weightIfUsed 95 = .ok (.goto 4, 3) := by decide +kernel
theorem dX6_weightIfUsed_98 : decode cX6_weightIfUsed 98 = .ok (.iconst 0, 1) := by decide +kernel
theorem dX6_weightIfUsed_99 : decode cX6_weightIfUsed 99 = .ok (.ireturn, 1) := by decide +kernel
theorem dX6_kindsBy_0 : decode cX6_kindsBy 0 = .ok (.iconst 0, 1) := by decide +kernel
theorem dX6_kindsBy_1 : decode cX6_kindsBy 1 = .ok (.istore 5, 2) := by decide +kernel
theorem dX6_kindsBy_3 : decode cX6_kindsBy 3 = .ok (.iconst 0, 1) := by decide +kernel
theorem dX6_kindsBy_4 : decode cX6_kindsBy 4 = .ok (.istore 6, 2) := by decide +kernel
theorem dX6_kindsBy_6 : decode cX6_kindsBy 6 = .ok (.iload 6, 2) := by decide +kernel
theorem dX6_kindsBy_8 : decode cX6_kindsBy 8 = .ok (.iconst 4, 1) := by decide +kernel
theorem dX6_kindsBy_9 : decode cX6_kindsBy 9 = .ok (.if_icmp .gt 52, 3) := by decide +kernel
theorem dX6_kindsBy_12 : decode cX6_kindsBy 12 = .ok (.aload_n 0, 1) := by decide +kernel
theorem dX6_kindsBy_13 : decode cX6_kindsBy 13 = .ok (.getfield 23, 3) := by decide +kernel
theorem dX6_kindsBy_16 : decode cX6_kindsBy 16 = .ok (.aload_n 0, 1) := by decide +kernel
theorem dX6_kindsBy_17 : decode cX6_kindsBy 17 = .ok (.getfield 10, 3) := by decide +kernel
theorem dX6_kindsBy_20 : decode cX6_kindsBy 20 = .ok (.invokevirtual 122, 3) := by decide +kernel
theorem dX6_kindsBy_23 : decode cX6_kindsBy 23 = .ok (.aload_n 0, 1) := by decide +kernel
theorem dX6_kindsBy_24 : decode cX6_kindsBy 24 = .ok (.getfield 23, 3) := by decide +kernel
theorem dX6_kindsBy_27 : decode cX6_kindsBy 27 = .ok (.getfield 86, 3) := by decide +kernel
theorem dX6_kindsBy_30 : decode cX6_kindsBy 30 = .ok (.iload_n 1, 1) := by decide +kernel
theorem dX6_kindsBy_31 : decode cX6_kindsBy 31 = .ok (.iload 6, 2) := by decide +kernel
theorem dX6_kindsBy_33 : decode cX6_kindsBy 33 = .ok (.iastore, 1) := by decide +kernel
theorem dX6_kindsBy_34 : decode cX6_kindsBy 34 = .ok (.aload_n 0, 1) := by decide +kernel
theorem dX6_kindsBy_35 : decode cX6_kindsBy 35 = .ok (.iload_n 1, 1) := by decide +kernel
theorem dX6_kindsBy_36 : decode cX6_kindsBy 36 = .ok (.aload_n 2, 1) := by decide +kernel
theorem dX6_kindsBy_37 : decode cX6_kindsBy 37 = .ok (.iload_n 3, 1) := by decide +kernel
theorem dX6_kindsBy_38 : decode cX6_kindsBy 38 = .ok (.iload 4, 2) := by decide +kernel
theorem dX6_kindsBy_40 : decode cX6_kindsBy 40 = .ok (.invokevirtual 310, 3) := by decide +kernel
theorem dX6_kindsBy_43 : decode cX6_kindsBy 43 = .ok (.ifCond .eq 12, 3) := by decide +kernel
theorem dX6_kindsBy_46 : decode cX6_kindsBy 46 = .ok (.iload 5, 2) := by decide +kernel
theorem dX6_kindsBy_48 : decode cX6_kindsBy 48 = .ok (.iconst 1, 1) := by decide +kernel
theorem dX6_kindsBy_49 : decode cX6_kindsBy 49 = .ok (.iload 6, 2) := by decide +kernel
theorem dX6_kindsBy_51 : decode cX6_kindsBy 51 = .ok (.ishl, 1) := by decide +kernel
theorem dX6_kindsBy_52 : decode cX6_kindsBy 52 = .ok (.ior, 1) := by decide +kernel
theorem dX6_kindsBy_53 : decode cX6_kindsBy 53 = .ok (.istore 5, 2) := by decide +kernel
theorem dX6_kindsBy_55 : decode cX6_kindsBy 55 = .ok (.iinc 6 1, 3) := by decide +kernel
theorem dX6_kindsBy_58 : decode cX6_kindsBy 58 = .ok (.goto (-52), 3) := by decide +kernel
theorem dX6_kindsBy_61 : decode cX6_kindsBy 61 = .ok (.iload 5, 2) := by decide +kernel
theorem dX6_kindsBy_63 : decode cX6_kindsBy 63 = .ok (.ireturn, 1) := by decide +kernel
theorem dX6_numbersBy_0 : decode cX6_numbersBy 0 = .ok (.iconst 0, 1) := by decide +kernel
theorem dX6_numbersBy_1 : decode cX6_numbersBy 1 = .ok (.istore 6, 2) := by decide +kernel
theorem dX6_numbersBy_3 : decode cX6_numbersBy 3 = .ok (.iconst 0, 1) := by decide +kernel
theorem dX6_numbersBy_4 : decode cX6_numbersBy 4 = .ok (.istore 7, 2) := by decide +kernel
theorem dX6_numbersBy_6 : decode cX6_numbersBy 6 = .ok (.iload 7, 2) := by decide +kernel
theorem dX6_numbersBy_8 : decode cX6_numbersBy 8 = .ok (.bipush 99, 2) := by decide +kernel
theorem dX6_numbersBy_10 : decode cX6_numbersBy 10 = .ok (.if_icmp .gt 54, 3) := by decide +kernel
theorem dX6_numbersBy_13 : decode cX6_numbersBy 13 = .ok (.aload_n 0, 1) := by decide +kernel
theorem dX6_numbersBy_14 : decode cX6_numbersBy 14 = .ok (.getfield 23, 3) := by decide +kernel
theorem dX6_numbersBy_17 : decode cX6_numbersBy 17 = .ok (.aload_n 0, 1) := by decide +kernel
theorem dX6_numbersBy_18 : decode cX6_numbersBy 18 = .ok (.getfield 10, 3) := by decide +kernel
theorem dX6_numbersBy_21 : decode cX6_numbersBy 21 = .ok (.invokevirtual 122, 3) := by decide +kernel
theorem dX6_numbersBy_24 : decode cX6_numbersBy 24 = .ok (.aload_n 0, 1) := by decide +kernel
theorem dX6_numbersBy_25 : decode cX6_numbersBy 25 = .ok (.getfield 23, 3) := by decide +kernel
theorem dX6_numbersBy_28 : decode cX6_numbersBy 28 = .ok (.getfield 89, 3) := by decide +kernel
theorem dX6_numbersBy_31 : decode cX6_numbersBy 31 = .ok (.iload_n 1, 1) := by decide +kernel
theorem dX6_numbersBy_32 : decode cX6_numbersBy 32 = .ok (.iload 7, 2) := by decide +kernel
theorem dX6_numbersBy_34 : decode cX6_numbersBy 34 = .ok (.iastore, 1) := by decide +kernel
theorem dX6_numbersBy_35 : decode cX6_numbersBy 35 = .ok (.aload_n 0, 1) := by decide +kernel
theorem dX6_numbersBy_36 : decode cX6_numbersBy 36 = .ok (.iload_n 1, 1) := by decide +kernel
theorem dX6_numbersBy_37 : decode cX6_numbersBy 37 = .ok (.aload_n 2, 1) := by decide +kernel
theorem dX6_numbersBy_38 : decode cX6_numbersBy 38 = .ok (.iload_n 3, 1) := by decide +kernel
theorem dX6_numbersBy_39 : decode cX6_numbersBy 39 = .ok (.iload 4, 2) := by decide +kernel
theorem dX6_numbersBy_41 : decode cX6_numbersBy 41 = .ok (.invokevirtual 310, 3) := by decide +kernel
theorem dX6_numbersBy_44 : decode cX6_numbersBy 44 = .ok (.ifCond .eq 14, 3) := by decide +kernel
theorem dX6_numbersBy_47 : decode cX6_numbersBy 47 = .ok (.iload 5, 2) := by decide +kernel
theorem dX6_numbersBy_49 : decode cX6_numbersBy 49 = .ok (.ifCond .eq 6, 3) := by decide +kernel
theorem dX6_numbersBy_52 : decode cX6_numbersBy 52 = .ok (.iload 7, 2) := by decide +kernel
theorem dX6_numbersBy_54 : decode cX6_numbersBy 54 = .ok (.ireturn, 1) := by decide +kernel
theorem dX6_numbersBy_55 : decode cX6_numbersBy 55 = .ok (.iinc 6 1, 3) := by decide +kernel
theorem dX6_numbersBy_58 : decode cX6_numbersBy 58 = .ok (.iinc 7 1, 3) := by decide +kernel
theorem dX6_numbersBy_61 : decode cX6_numbersBy 61 = .ok (.goto (-55), 3) := by decide +kernel
theorem dX6_numbersBy_64 : decode cX6_numbersBy 64 = .ok (.iload 5, 2) := by decide +kernel
theorem dX6_numbersBy_66 : decode cX6_numbersBy 66 = .ok (.ifCond .eq 8, 3) := by decide +kernel
theorem dX6_numbersBy_69 : decode cX6_numbersBy 69 = .ok (.bipush (-4), 2) := by decide +kernel
theorem dX6_numbersBy_71 : decode cX6_numbersBy 71 = .ok (.goto 5, 3) := by decide +kernel
theorem dX6_numbersBy_74 : decode cX6_numbersBy 74 = .ok (.iload 6, 2) := by decide +kernel
theorem dX6_numbersBy_76 : decode cX6_numbersBy 76 = .ok (.ireturn, 1) := by decide +kernel
theorem dX6_goesBy_0 : decode cX6_goesBy 0 = .ok (.iconst 0, 1) := by decide +kernel
theorem dX6_goesBy_1 : decode cX6_goesBy 1 = .ok (.istore 5, 2) := by decide +kernel
theorem dX6_goesBy_3 : decode cX6_goesBy 3 = .ok (.iload 5, 2) := by decide +kernel
theorem dX6_goesBy_5 : decode cX6_goesBy 5 = .ok (.iload 4, 2) := by decide +kernel
theorem dX6_goesBy_7 : decode cX6_goesBy 7 = .ok (.if_icmp .ge 41, 3) := by decide +kernel
theorem dX6_goesBy_10 : decode cX6_goesBy 10 = .ok (.aload_n 0, 1) := by decide +kernel
theorem dX6_goesBy_11 : decode cX6_goesBy 11 = .ok (.getfield 23, 3) := by decide +kernel
theorem dX6_goesBy_14 : decode cX6_goesBy 14 = .ok (.invokevirtual 182, 3) := by decide +kernel
theorem dX6_goesBy_17 : decode cX6_goesBy 17 = .ok (.aload_n 2, 1) := by decide +kernel
theorem dX6_goesBy_18 : decode cX6_goesBy 18 = .ok (.getfield 266, 3) := by decide +kernel
theorem dX6_goesBy_21 : decode cX6_goesBy 21 = .ok (.iload_n 3, 1) := by decide +kernel
theorem dX6_goesBy_22 : decode cX6_goesBy 22 = .ok (.iload 5, 2) := by decide +kernel
theorem dX6_goesBy_24 : decode cX6_goesBy 24 = .ok (.iadd, 1) := by decide +kernel
theorem dX6_goesBy_25 : decode cX6_goesBy 25 = .ok (.laload, 1) := by decide +kernel
theorem dX6_goesBy_26 : decode cX6_goesBy 26 = .ok (.aload_n 0, 1) := by decide +kernel
theorem dX6_goesBy_27 : decode cX6_goesBy 27 = .ok (.getfield 23, 3) := by decide +kernel
theorem dX6_goesBy_30 : decode cX6_goesBy 30 = .ok (.getfield 89, 3) := by decide +kernel
theorem dX6_goesBy_33 : decode cX6_goesBy 33 = .ok (.iload_n 1, 1) := by decide +kernel
theorem dX6_goesBy_34 : decode cX6_goesBy 34 = .ok (.iaload, 1) := by decide +kernel
theorem dX6_goesBy_35 : decode cX6_goesBy 35 = .ok (.i2l, 1) := by decide +kernel
theorem dX6_goesBy_36 : decode cX6_goesBy 36 = .ok (.lcmp, 1) := by decide +kernel
theorem dX6_goesBy_37 : decode cX6_goesBy 37 = .ok (.ifCond .eq 5, 3) := by decide +kernel
theorem dX6_goesBy_40 : decode cX6_goesBy 40 = .ok (.iconst 0, 1) := by decide +kernel
theorem dX6_goesBy_41 : decode cX6_goesBy 41 = .ok (.ireturn, 1) := by decide +kernel
theorem dX6_goesBy_42 : decode cX6_goesBy 42 = .ok (.iinc 5 1, 3) := by decide +kernel
theorem dX6_goesBy_45 : decode cX6_goesBy 45 = .ok (.goto (-42), 3) := by decide +kernel
theorem dX6_goesBy_48 : decode cX6_goesBy 48 = .ok (.iconst 1, 1) := by decide +kernel
theorem dX6_goesBy_49 : decode cX6_goesBy 49 = .ok (.ireturn, 1) := by decide +kernel
