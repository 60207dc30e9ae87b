theorem dX0_init_0 : decode cX0_init 0 = .ok (.aload_n 0, 1) := by decide +kernel
theorem dX0_init_1 : decode cX0_init 1 = .ok (.invokespecial 3, 3) := by decide +kernel
theorem dX0_init_4 : decode cX0_init 4 = .ok (.aload_n 0, 1) := by decide +kernel
theorem dX0_init_5 : decode cX0_init 5 = .ok (.iconst 0, 1) := by decide +kernel
theorem dX0_init_6 : decode cX0_init 6 = .ok (.putfield 9, 3) := by decide +kernel
theorem dX0_init_9 : decode cX0_init 9 = .ok (.aload_n 0, 1) := by decide +kernel
theorem dX0_init_10 : decode cX0_init 10 = .ok (.bipush 16, 2) := by decide +kernel
theorem dX0_init_12 : decode cX0_init 12 = .ok (.newarray .long, 2) := by decide +kernel
theorem dX0_init_14 : decode cX0_init 14 = .ok (.putfield 15, 3) := by decide +kernel
theorem dX0_init_17 : decode cX0_init 17 = .ok (.aload_n 0, 1) := by decide +kernel
theorem dX0_init_18 : decode cX0_init 18 = .ok (.bipush 16, 2) := by decide +kernel
theorem dX0_init_20 : decode cX0_init 20 = .ok (.newarray .int, 2) := by decide +kernel
theorem dX0_init_22 : decode cX0_init 22 = .ok (.putfield 19, 3) := by decide +kernel
theorem dX0_init_25 : decode cX0_init 25 = .ok (.aload_n 0, 1) := by decide +kernel
theorem dX0_init_26 : decode cX0_init 26 = .ok (.bipush 96, 2) := by decide +kernel
theorem dX0_init_28 : decode cX0_init 28 = .ok (.newarray .long, 2) := by decide +kernel
theorem dX0_init_30 : decode cX0_init 30 = .ok (.putfield 23, 3) := by decide +kernel
theorem dX0_init_33 : decode cX0_init 33 = .ok (.aload_n 0, 1) := by decide +kernel
theorem dX0_init_34 : decode cX0_init 34 = .ok (.bipush 16, 2) := by decide +kernel
theorem dX0_init_36 : decode cX0_init 36 = .ok (.newarray .int, 2) := by decide +kernel
theorem dX0_init_38 : decode cX0_init 38 = .ok (.putfield 26, 3) := by decide +kernel
theorem dX0_init_41 : decode cX0_init 41 = .ok (.aload_n 0, 1) := by decide +kernel
theorem dX0_init_42 : decode cX0_init 42 = .ok (.bipush 16, 2) := by decide +kernel
theorem dX0_init_44 : decode cX0_init 44 = .ok (.newarray .int, 2) := by decide +kernel
theorem dX0_init_46 : decode cX0_init 46 = .ok (.putfield 29, 3) := by decide +kernel
theorem dX0_init_49 : decode cX0_init 49 = .ok (.aload_n 0, 1) := by decide +kernel
theorem dX0_init_50 : decode cX0_init 50 = .ok (.bipush 16, 2) := by decide +kernel
theorem dX0_init_52 : decode cX0_init 52 = .ok (.newarray .int, 2) := by decide +kernel
theorem dX0_init_54 : decode cX0_init 54 = .ok (.putfield 32, 3) := by decide +kernel
theorem dX0_init_57 : decode cX0_init 57 = .ok (.aload_n 0, 1) := by decide +kernel
theorem dX0_init_58 : decode cX0_init 58 = .ok (.iconst 0, 1) := by decide +kernel
theorem dX0_init_59 : decode cX0_init 59 = .ok (.putfield 35, 3) := by decide +kernel
theorem dX0_init_62 : decode cX0_init 62 = .ok (.aload_n 0, 1) := by decide +kernel
theorem dX0_init_63 : decode cX0_init 63 = .ok (.bipush 60, 2) := by decide +kernel
theorem dX0_init_65 : decode cX0_init 65 = .ok (.newarray .int, 2) := by decide +kernel
theorem dX0_init_67 : decode cX0_init 67 = .ok (.putfield 38, 3) := by decide +kernel
theorem dX0_init_70 : decode cX0_init 70 = .ok (.aload_n 0, 1) := by decide +kernel
theorem dX0_init_71 : decode cX0_init 71 = .ok (.bipush 60, 2) := by decide +kernel
theorem dX0_init_73 : decode cX0_init 73 = .ok (.newarray .int, 2) := by decide +kernel
theorem dX0_init_75 : decode cX0_init 75 = .ok (.putfield 41, 3) := by decide +kernel
theorem dX0_init_78 : decode cX0_init 78 = .ok (.aload_n 0, 1) := by decide +kernel
theorem dX0_init_79 : decode cX0_init 79 = .ok (.bipush 60, 2) := by decide +kernel
theorem dX0_init_81 : decode cX0_init 81 = .ok (.newarray .int, 2) := by decide +kernel
theorem dX0_init_83 : decode cX0_init 83 = .ok (.putfield 44, 3) := by decide +kernel
theorem dX0_init_86 : decode cX0_init 86 = .ok (.aload_n 0, 1) := by decide +kernel
theorem dX0_init_87 : decode cX0_init 87 = .ok (.bipush 60, 2) := by decide +kernel
theorem dX0_init_89 : decode cX0_init 89 = .ok (.newarray .int, 2) := by decide +kernel
theorem dX0_init_91 : decode cX0_init 91 = .ok (.putfield 47, 3) := by decide +kernel
theorem dX0_init_94 : decode cX0_init 94 = .ok (.aload_n 0, 1) := by decide +kernel
theorem dX0_init_95 : decode cX0_init 95 = .ok (.bipush 60, 2) := by decide +kernel
theorem dX0_init_97 : decode cX0_init 97 = .ok (.newarray .boolean, 2) := by decide +kernel
theorem dX0_init_99 : decode cX0_init 99 = .ok (.putfield 50, 3) := by decide +kernel
theorem dX0_init_102 : decode cX0_init 102 = .ok (.aload_n 0, 1) := by decide +kernel
theorem dX0_init_103 : decode cX0_init 103 = .ok (.iconst 0, 1) := by decide +kernel
theorem dX0_init_104 : decode cX0_init 104 = .ok (.putfield 54, 3) := by decide +kernel
theorem dX0_init_107 : decode cX0_init 107 = .ok (.return_, 1) := by decide +kernel
theorem dX0_clear_0 : decode cX0_clear 0 = .ok (.aload_n 0, 1) := by decide +kernel
theorem dX0_clear_1 : decode cX0_clear 1 = .ok (.iconst 0, 1) := by decide +kernel
theorem dX0_clear_2 : decode cX0_clear 2 = .ok (.putfield 9, 3) := by decide +kernel
theorem dX0_clear_5 : decode cX0_clear 5 = .ok (.aload_n 0, 1) := by decide +kernel
theorem dX0_clear_6 : decode cX0_clear 6 = .ok (.iconst 0, 1) := by decide +kernel
theorem dX0_clear_7 : decode cX0_clear 7 = .ok (.putfield 35, 3) := by decide +kernel
theorem dX0_clear_10 : decode cX0_clear 10 = .ok (.return_, 1) := by decide +kernel
theorem dX0_copyFrom_0 : decode cX0_copyFrom 0 = .ok (.aload_n 0, 1) := by decide +kernel
theorem dX0_copyFrom_1 : decode cX0_copyFrom 1 = .ok (.aload_n 1, 1) := by decide +kernel
theorem dX0_copyFrom_2 : decode cX0_copyFrom 2 = .ok (.getfield 9, 3) := by decide +kernel
theorem dX0_copyFrom_5 : decode cX0_copyFrom 5 = .ok (.putfield 9, 3) := by decide +kernel
theorem dX0_copyFrom_8 : decode cX0_copyFrom 8 = .ok (.aload_n 1, 1) := by decide +kernel
theorem dX0_copyFrom_9 : decode cX0_copyFrom 9 = .ok (.getfield 15, 3) := by decide +kernel
theorem dX0_copyFrom_12 : decode cX0_copyFrom 12 = .ok (.iconst 0, 1) := by decide +kernel
theorem dX0_copyFrom_13 : decode cX0_copyFrom 13 = .ok (.aload_n 0, 1) := by decide +kernel
theorem dX0_copyFrom_14 : decode cX0_copyFrom 14 = .ok (.getfield 15, 3) := by decide +kernel
theorem dX0_copyFrom_17 : decode cX0_copyFrom 17 = .ok (.iconst 0, 1) := by decide +kernel
theorem dX0_copyFrom_18 : decode cX0_copyFrom 18 = .ok (.bipush 16, 2) := by decide +kernel
theorem dX0_copyFrom_20 : decode cX0_copyFrom 20 = .ok (.invokestatic 58, 3) := by decide +kernel
theorem dX0_copyFrom_23 : decode cX0_copyFrom 23 = .ok (.aload_n 1, 1) := by decide +kernel
theorem dX0_copyFrom_24 : decode cX0_copyFrom 24 = .ok (.getfield 19, 3) := by decide +kernel
theorem dX0_copyFrom_27 : decode cX0_copyFrom 27 = .ok (.iconst 0, 1) := by decide +kernel
theorem dX0_copyFrom_28 : decode cX0_copyFrom 28 = .ok (.aload_n 0, 1) := by decide +kernel
theorem dX0_copyFrom_29 : decode cX0_copyFrom 29 = .ok (.getfield 19, 3) := by decide +kernel
theorem dX0_copyFrom_32 : decode cX0_copyFrom 32 = .ok (.iconst 0, 1) := by decide +kernel
theorem dX0_copyFrom_33 : decode cX0_copyFrom 33 = .ok (.bipush 16, 2) := by decide +kernel
theorem dX0_copyFrom_35 : decode cX0_copyFrom 35 = .ok (.invokestatic 58, 3) := by decide +kernel
theorem dX0_copyFrom_38 : decode cX0_copyFrom 38 = .ok (.aload_n 1, 1) := by decide +kernel
theorem dX0_copyFrom_39 : decode cX0_copyFrom 39 = .ok (.getfield 23, 3) := by decide +kernel
theorem dX0_copyFrom_42 : decode cX0_copyFrom 42 = .ok (.iconst 0, 1) := by decide +kernel
theorem dX0_copyFrom_43 : decode cX0_copyFrom 43 = .ok (.aload_n 0, 1) := by decide +kernel
theorem dX0_copyFrom_44 : decode cX0_copyFrom 44 = .ok (.getfield 23, 3) := by decide +kernel
theorem dX0_copyFrom_47 : decode cX0_copyFrom 47 = .ok (.iconst 0, 1) := by decide +kernel
theorem dX0_copyFrom_48 : decode cX0_copyFrom 48 = .ok (.bipush 96, 2) := by decide +kernel
theorem dX0_copyFrom_50 : decode cX0_copyFrom 50 = .ok (.invokestatic 58, 3) := by decide +kernel
theorem dX0_copyFrom_53 : decode cX0_copyFrom 53 = .ok (.aload_n 1, 1) := by decide +kernel
theorem dX0_copyFrom_54 : decode cX0_copyFrom 54 = .ok (.getfield 26, 3) := by decide +kernel
theorem dX0_copyFrom_57 : decode cX0_copyFrom 57 = .ok (.iconst 0, 1) := by decide +kernel
theorem dX0_copyFrom_58 : decode cX0_copyFrom 58 = .ok (.aload_n 0, 1) := by decide +kernel
theorem dX0_copyFrom_59 : decode cX0_copyFrom 59 = .ok (.getfield 26, 3) := by decide +kernel
theorem dX0_copyFrom_62 : decode cX0_copyFrom 62 = .ok (.iconst 0, 1) := by decide +kernel
theorem dX0_copyFrom_63 : decode cX0_copyFrom 63 = .ok (.bipush 16, 2) := by decide +kernel
theorem dX0_copyFrom_65 : decode cX0_copyFrom 65 = .ok (.invokestatic 58, 3) := by decide +kernel
theorem dX0_copyFrom_68 : decode cX0_copyFrom 68 = .ok (.aload_n 1, 1) := by decide +kernel
theorem dX0_copyFrom_69 : decode cX0_copyFrom 69 = .ok (.getfield 29, 3) := by decide +kernel
theorem dX0_copyFrom_72 : decode cX0_copyFrom 72 = .ok (.iconst 0, 1) := by decide +kernel
theorem dX0_copyFrom_73 : decode cX0_copyFrom 73 = .ok (.aload_n 0, 1) := by decide +kernel
theorem dX0_copyFrom_74 : decode cX0_copyFrom 74 = .ok (.getfield 29, 3) := by decide +kernel
theorem dX0_copyFrom_77 : decode cX0_copyFrom 77 = .ok (.iconst 0, 1) := by decide +kernel
theorem dX0_copyFrom_78 : decode cX0_copyFrom 78 = .ok (.bipush 16, 2) := by decide +kernel
theorem dX0_copyFrom_80 : decode cX0_copyFrom 80 = .ok (.invokestatic 58, 3) := by decide +kernel
theorem dX0_copyFrom_83 : decode cX0_copyFrom 83 = .ok (.aload_n 1, 1) := by decide +kernel
theorem dX0_copyFrom_84 : decode cX0_copyFrom 84 = .ok (.getfield 32, 3) := by decide +kernel
theorem dX0_copyFrom_87 : decode cX0_copyFrom 87 = .ok (.iconst 0, 1) := by decide +kernel
theorem dX0_copyFrom_88 : decode cX0_copyFrom 88 = .ok (.aload_n 0, 1) := by decide +kernel
theorem dX0_copyFrom_89 : decode cX0_copyFrom 89 = .ok (.getfield 32, 3) := by decide +kernel
theorem dX0_copyFrom_92 : decode cX0_copyFrom 92 = .ok (.iconst 0, 1) := by decide +kernel
theorem dX0_copyFrom_93 : decode cX0_copyFrom 93 = .ok (.bipush 16, 2) := by decide +kernel
theorem dX0_copyFrom_95 : decode cX0_copyFrom 95 = .ok (.invokestatic 58, 3) := by decide +kernel
theorem dX0_copyFrom_98 : decode cX0_copyFrom 98 = .ok (.aload_n 0, 1) := by decide +kernel
theorem dX0_copyFrom_99 : decode cX0_copyFrom 99 = .ok (.aload_n 1, 1) := by decide +kernel
theorem dX0_copyFrom_100 : decode cX0_copyFrom 100 = .ok (.getfield 35, 3) := by decide +kernel
theorem dX0_copyFrom_103 : decode cX0_copyFrom 103 = .ok (.putfield 35, 3) := by decide +kernel
theorem dX0_copyFrom_106 : decode cX0_copyFrom 106 = .ok (.aload_n 1, 1) := by decide +kernel
theorem dX0_copyFrom_107 : decode cX0_copyFrom 107 = .ok (.getfield 38, 3) := by decide +kernel
theorem dX0_copyFrom_110 : decode cX0_copyFrom 110 = .ok (.iconst 0, 1) := by decide +kernel
theorem dX0_copyFrom_111 : decode cX0_copyFrom 111 = .ok (.aload_n 0, 1) := by decide +kernel
theorem dX0_copyFrom_112 : decode cX0_copyFrom 112 = .ok (.getfield 38, 3) := by decide +kernel
theorem dX0_copyFrom_115 : decode cX0_copyFrom 115 = .ok (.iconst 0, 1) := by decide +kernel
theorem dX0_copyFrom_116 : decode cX0_copyFrom 116 = .ok (.bipush 60, 2) := by decide +kernel
theorem dX0_copyFrom_118 : decode cX0_copyFrom 118 = .ok (.invokestatic 58, 3) := by decide +kernel
theorem dX0_copyFrom_121 : decode cX0_copyFrom 121 = .ok (.aload_n 1, 1) := by decide +kernel
theorem dX0_copyFrom_122 : decode cX0_copyFrom 122 = .ok (.getfield 41, 3) := by decide +kernel
theorem dX0_copyFrom_125 : decode cX0_copyFrom 125 = .ok (.iconst 0, 1) := by decide +kernel
theorem dX0_copyFrom_126 : decode cX0_copyFrom 126 = .ok (.aload_n 0, 1) := by decide +kernel
theorem dX0_copyFrom_127 : decode cX0_copyFrom 127 = .ok (.getfield 41, 3) := by decide +kernel
theorem dX0_copyFrom_130 : decode cX0_copyFrom 130 = .ok (.iconst 0, 1) := by decide +kernel
theorem dX0_copyFrom_131 : decode cX0_copyFrom 131 = .ok (.bipush 60, 2) := by decide +kernel
theorem dX0_copyFrom_133 : decode cX0_copyFrom 133 = .ok (.invokestatic 58, 3) := by decide +kernel
theorem dX0_copyFrom_136 : decode cX0_copyFrom 136 = .ok (.aload_n 1, 1) := by decide +kernel
theorem dX0_copyFrom_137 : decode cX0_copyFrom 137 = .ok (.getfield 44, 3) := by decide +kernel
theorem dX0_copyFrom_140 : decode cX0_copyFrom 140 = .ok (.iconst 0, 1) := by decide +kernel
theorem dX0_copyFrom_141 : decode cX0_copyFrom 141 = .ok (.aload_n 0, 1) := by decide +kernel
theorem dX0_copyFrom_142 : decode cX0_copyFrom 142 = .ok (.getfield 44, 3) := by decide +kernel
theorem dX0_copyFrom_145 : decode cX0_copyFrom 145 = .ok (.iconst 0, 1) := by decide +kernel
theorem dX0_copyFrom_146 : decode cX0_copyFrom 146 = .ok (.bipush 60, 2) := by decide +kernel
theorem dX0_copyFrom_148 : decode cX0_copyFrom 148 = .ok (.invokestatic 58, 3) := by decide +kernel
theorem dX0_copyFrom_151 : decode cX0_copyFrom 151 = .ok (.aload_n 1, 1) := by decide +kernel
theorem dX0_copyFrom_152 : decode cX0_copyFrom 152 = .ok (.getfield 47, 3) := by decide +kernel
theorem dX0_copyFrom_155 : decode cX0_copyFrom 155 = .ok (.iconst 0, 1) := by decide +kernel
theorem dX0_copyFrom_156 : decode cX0_copyFrom 156 = .ok (.aload_n 0, 1) := by decide +kernel
theorem dX0_copyFrom_157 : decode cX0_copyFrom 157 = .ok (.getfield 47, 3) := by decide +kernel
theorem dX0_copyFrom_160 : decode cX0_copyFrom 160 = .ok (.iconst 0, 1) := by decide +kernel
theorem dX0_copyFrom_161 : decode cX0_copyFrom 161 = .ok (.bipush 60, 2) := by decide +kernel
theorem dX0_copyFrom_163 : decode cX0_copyFrom 163 = .ok (.invokestatic 58, 3) := by decide +kernel
theorem dX0_copyFrom_166 : decode cX0_copyFrom 166 = .ok (.aload_n 1, 1) := by decide +kernel
theorem dX0_copyFrom_167 : decode cX0_copyFrom 167 = .ok (.getfield 50, 3) := by decide +kernel
theorem dX0_copyFrom_170 : decode cX0_copyFrom 170 = .ok (.iconst 0, 1) := by decide +kernel
theorem dX0_copyFrom_171 : decode cX0_copyFrom 171 = .ok (.aload_n 0, 1) := by decide +kernel
theorem dX0_copyFrom_172 : decode cX0_copyFrom 172 = .ok (.getfield 50, 3) := by decide +kernel
theorem dX0_copyFrom_175 : decode cX0_copyFrom 175 = .ok (.iconst 0, 1) := by decide +kernel
theorem dX0_copyFrom_176 : decode cX0_copyFrom 176 = .ok (.bipush 60, 2) := by decide +kernel
theorem dX0_copyFrom_178 : decode cX0_copyFrom 178 = .ok (.invokestatic 58, 3) := by decide +kernel
theorem dX0_copyFrom_181 : decode cX0_copyFrom 181 = .ok (.return_, 1) := by decide +kernel
theorem dX0_hasHead_0 : decode cX0_hasHead 0 = .ok (.iload_n 1, 1) := by decide +kernel
theorem dX0_hasHead_1 : decode cX0_hasHead 1 = .ok (.ifCond .lt 15, 3) := by decide +kernel
theorem dX0_hasHead_4 : decode cX0_hasHead 4 = .ok (.iload_n 1, 1) := by decide +kernel
theorem dX0_hasHead_5 : decode cX0_hasHead 5 = .ok (.aload_n 0, 1) := by decide +kernel
theorem dX0_hasHead_6 : decode cX0_hasHead 6 = .ok (.getfield 9, 3) := by decide +kernel
theorem dX0_hasHead_9 : decode cX0_hasHead 9 = .ok (.if_icmp .ge 7, 3) := by decide +kernel
theorem dX0_hasHead_12 : decode cX0_hasHead 12 = .ok (.iconst 1, 1) := by decide +kernel
theorem dX0_hasHead_13 : decode cX0_hasHead 13 = .ok (.goto 4, 3) := by decide +kernel
theorem dX0_hasHead_16 : decode cX0_hasHead 16 = .ok (.iconst 0, 1) := by decide +kernel
theorem dX0_hasHead_17 : decode cX0_hasHead 17 = .ok (.ireturn, 1) := by decide +kernel
theorem dX0_hasEntry_0 : decode cX0_hasEntry 0 = .ok (.aload_n 0, 1) := by decide +kernel
theorem dX0_hasEntry_1 : decode cX0_hasEntry 1 = .ok (.iload_n 1, 1) := by decide +kernel
theorem dX0_hasEntry_2 : decode cX0_hasEntry 2 = .ok (.invokevirtual 64, 3) := by decide +kernel
theorem dX0_hasEntry_5 : decode cX0_hasEntry 5 = .ok (.ifCond .eq 22, 3) := by decide +kernel
theorem dX0_hasEntry_8 : decode cX0_hasEntry 8 = .ok (.iload_n 2, 1) := by decide +kernel
theorem dX0_hasEntry_9 : decode cX0_hasEntry 9 = .ok (.iconst (-1), 1) := by decide +kernel
theorem dX0_hasEntry_10 : decode cX0_hasEntry 10 = .ok (.if_icmp .lt 17, 3) := by decide +kernel
theorem dX0_hasEntry_13 : decode cX0_hasEntry 13 = .ok (.iload_n 2, 1) := by decide +kernel
theorem dX0_hasEntry_14 : decode cX0_hasEntry 14 = .ok (.aload_n 0, 1) := by decide +kernel
theorem dX0_hasEntry_15 : decode cX0_hasEntry 15 = .ok (.getfield 19, 3) := by decide +kernel
theorem dX0_hasEntry_18 : decode cX0_hasEntry 18 = .ok (.iload_n 1, 1) := by decide +kernel
theorem dX0_hasEntry_19 : decode cX0_hasEntry 19 = .ok (.iaload, 1) := by decide +kernel
theorem dX0_hasEntry_20 : decode cX0_hasEntry 20 = .ok (.if_icmp .ge 7, 3) := by decide +kernel
theorem dX0_hasEntry_23 : decode cX0_hasEntry 23 = .ok (.iconst 1, 1) := by decide +kernel
theorem dX0_hasEntry_24 : decode cX0_hasEntry 24 = .ok (.goto 4, 3) := by decide +kernel
theorem dX0_hasEntry_27 : decode cX0_hasEntry 27 = .ok (.iconst 0, 1) := by decide +kernel
theorem dX0_hasEntry_28 : decode cX0_hasEntry 28 = .ok (.ireturn, 1) := by decide +kernel
theorem dX0_hasMark_0 : decode cX0_hasMark 0 = .ok (.iload_n 1, 1) := by decide +kernel
theorem dX0_hasMark_1 : decode cX0_hasMark 1 = .ok (.ifCond .lt 15, 3) := by decide +kernel
theorem dX0_hasMark_4 : decode cX0_hasMark 4 = .ok (.iload_n 1, 1) := by decide +kernel
theorem dX0_hasMark_5 : decode cX0_hasMark 5 = .ok (.aload_n 0, 1) := by decide +kernel
theorem dX0_hasMark_6 : decode cX0_hasMark 6 = .ok (.getfield 35, 3) := by decide +kernel
theorem dX0_hasMark_9 : decode cX0_hasMark 9 = .ok (.if_icmp .ge 7, 3) := by decide +kernel
theorem dX0_hasMark_12 : decode cX0_hasMark 12 = .ok (.iconst 1, 1) := by decide +kernel
theorem dX0_hasMark_13 : decode cX0_hasMark 13 = .ok (.goto 4, 3) := by decide +kernel
theorem dX0_hasMark_16 : decode cX0_hasMark 16 = .ok (.iconst 0, 1) := by decide +kernel
theorem dX0_hasMark_17 : decode cX0_hasMark 17 = .ok (.ireturn, 1) := by decide +kernel
theorem dX0_wordOf_0 : decode cX0_wordOf 0 = .ok (.iload_n 2, 1) := by decide +kernel
theorem dX0_wordOf_1 : decode cX0_wordOf 1 = .ok (.iconst (-1), 1) := by decide +kernel
theorem dX0_wordOf_2 : decode cX0_wordOf 2 = .ok (.if_icmp .ne 12, 3) := by decide +kernel
theorem dX0_wordOf_5 : decode cX0_wordOf 5 = .ok (.aload_n 0, 1) := by decide +kernel
theorem dX0_wordOf_6 : decode cX0_wordOf 6 = .ok (.getfield 15, 3) := by decide +kernel
theorem dX0_wordOf_9 : decode cX0_wordOf 9 = .ok (.iload_n 1, 1) := by decide +kernel
theorem dX0_wordOf_10 : decode cX0_wordOf 10 = .ok (.laload, 1) := by decide +kernel
theorem dX0_wordOf_11 : decode cX0_wordOf 11 = .ok (.goto 14, 3) := by decide +kernel
theorem dX0_wordOf_14 : decode cX0_wordOf 14 = .ok (.aload_n 0, 1) := by decide +kernel
theorem dX0_wordOf_15 : decode cX0_wordOf 15 = .ok (.getfield 23, 3) := by decide +kernel
theorem dX0_wordOf_18 : decode cX0_wordOf 18 = .ok (.iload_n 1, 1) := by decide +kernel
theorem dX0_wordOf_19 : decode cX0_wordOf 19 = .ok (.bipush 6, 2) := by decide +kernel
theorem dX0_wordOf_21 : decode cX0_wordOf 21 = .ok (.imul, 1) := by decide +kernel
theorem dX0_wordOf_22 : decode cX0_wordOf 22 = .ok (.iload_n 2, 1) := by decide +kernel
theorem dX0_wordOf_23 : decode cX0_wordOf 23 = .ok (.iadd, 1) := by decide +kernel
theorem dX0_wordOf_24 : decode cX0_wordOf 24 = .ok (.laload, 1) := by decide +kernel
theorem dX0_wordOf_25 : decode cX0_wordOf 25 = .ok (.lreturn, 1) := by decide +kernel
theorem dX0_findHead_0 : decode cX0_findHead 0 = .ok (.iconst 0, 1) := by decide +kernel
theorem dX0_findHead_1 : decode cX0_findHead 1 = .ok (.istore_n 3, 1) := by decide +kernel
theorem dX0_findHead_2 : decode cX0_findHead 2 = .ok (.iload_n 3, 1) := by decide +kernel
theorem dX0_findHead_3 : decode cX0_findHead 3 = .ok (.aload_n 0, 1) := by decide +kernel
theorem dX0_findHead_4 : decode cX0_findHead 4 = .ok (.getfield 9, 3) := by decide +kernel
theorem dX0_findHead_7 : decode cX0_findHead 7 = .ok (.if_icmp .ge 22, 3) := by decide +kernel
theorem dX0_findHead_10 : decode cX0_findHead 10 = .ok (.aload_n 0, 1) := by decide +kernel
theorem dX0_findHead_11 : decode cX0_findHead 11 = .ok (.getfield 15, 3) := by decide +kernel
theorem dX0_findHead_14 : decode cX0_findHead 14 = .ok (.iload_n 3, 1) := by decide +kernel
theorem dX0_findHead_15 : decode cX0_findHead 15 = .ok (.laload, 1) := by decide +kernel
theorem dX0_findHead_16 : decode cX0_findHead 16 = .ok (.lload_n 1, 1) := by decide +kernel
theorem dX0_findHead_17 : decode cX0_findHead 17 = .ok (.lcmp, 1) := by decide +kernel
theorem dX0_findHead_18 : decode cX0_findHead 18 = .ok (.ifCond .ne 5, 3) := by decide +kernel
theorem dX0_findHead_21 : decode cX0_findHead 21 = .ok (.iload_n 3, 1) := by decide +kernel
theorem dX0_findHead_22 : decode cX0_findHead 22 = .ok (.ireturn, 1) := by decide +kernel
theorem dX0_findHead_23 : decode cX0_findHead 23 = .ok (.iinc 3 1, 3) := by decide +kernel
theorem dX0_findHead_26 : decode cX0_findHead 26 = .ok (.goto (-24), 3) := by decide +kernel
theorem dX0_findHead_29 : decode cX0_findHead 29 = .ok (.iconst (-1), 1) := by decide +kernel
theorem dX0_findHead_30 : decode cX0_findHead 30 = .ok (.ireturn, 1) := by decide +kernel
theorem dX0_findSub_0 : decode cX0_findSub 0 = .ok (.aload_n 0, 1) := by decide +kernel
theorem dX0_findSub_1 : decode cX0_findSub 1 = .ok (.iload_n 1, 1) := by decide +kernel
theorem dX0_findSub_2 : decode cX0_findSub 2 = .ok (.invokevirtual 64, 3) := by decide +kernel
theorem dX0_findSub_5 : decode cX0_findSub 5 = .ok (.ifCond .ne 5, 3) := by decide +kernel
theorem dX0_findSub_8 : decode cX0_findSub 8 = .ok (.iconst (-1), 1) := by decide +kernel
theorem dX0_findSub_9 : decode cX0_findSub 9 = .ok (.ireturn, 1) := by decide +kernel
theorem dX0_findSub_10 : decode cX0_findSub 10 = .ok (.iconst 0, 1) := by decide +kernel
theorem dX0_findSub_11 : decode cX0_findSub 11 = .ok (.istore 4, 2) := by decide +kernel
theorem dX0_findSub_13 : decode cX0_findSub 13 = .ok (.iload 4, 2) := by decide +kernel
theorem dX0_findSub_15 : decode cX0_findSub 15 = .ok (.aload_n 0, 1) := by decide +kernel
theorem dX0_findSub_16 : decode cX0_findSub 16 = .ok (.getfield 19, 3) := by decide +kernel
theorem dX0_findSub_19 : decode cX0_findSub 19 = .ok (.iload_n 1, 1) := by decide +kernel
theorem dX0_findSub_20 : decode cX0_findSub 20 = .ok (.iaload, 1) := by decide +kernel
theorem dX0_findSub_21 : decode cX0_findSub 21 = .ok (.if_icmp .ge 29, 3) := by decide +kernel
theorem dX0_findSub_24 : decode cX0_findSub 24 = .ok (.aload_n 0, 1) := by decide +kernel
theorem dX0_findSub_25 : decode cX0_findSub 25 = .ok (.getfield 23, 3) := by decide +kernel
theorem dX0_findSub_28 : decode cX0_findSub 28 = .ok (.iload_n 1, 1) := by decide +kernel
theorem dX0_findSub_29 : decode cX0_findSub 29 = .ok (.bipush 6, 2) := by decide +kernel
theorem dX0_findSub_31 : decode cX0_findSub 31 = .ok (.imul, 1) := by decide +kernel
theorem dX0_findSub_32 : decode cX0_findSub 32 = .ok (.iload 4, 2) := by decide +kernel
theorem dX0_findSub_34 : decode cX0_findSub 34 = .ok (.iadd, 1) := by decide +kernel
theorem dX0_findSub_35 : decode cX0_findSub 35 = .ok (.laload, 1) := by decide +kernel
theorem dX0_findSub_36 : decode cX0_findSub 36 = .ok (.lload_n 2, 1) := by decide +kernel
theorem dX0_findSub_37 : decode cX0_findSub 37 = .ok (.lcmp, 1) := by decide +kernel
theorem dX0_findSub_38 : decode cX0_findSub 38 = .ok (.ifCond .ne 6, 3) := by decide +kernel
theorem dX0_findSub_41 : decode cX0_findSub 41 = .ok (.iload 4, 2) := by decide +kernel
theorem dX0_findSub_43 : decode cX0_findSub 43 = .ok (.ireturn, 1) := by decide +kernel
theorem dX0_findSub_44 : decode cX0_findSub 44 = .ok (.iinc 4 1, 3) := by decide +kernel
theorem dX0_findSub_47 : decode cX0_findSub 47 = .ok (.goto (-34), 3) := by decide +kernel
theorem dX0_findSub_50 : decode cX0_findSub 50 = .ok (.iconst (-1), 1) := by decide +kernel
theorem dX0_findSub_51 : decode cX0_findSub 51 = .ok (.ireturn, 1) := by decide +kernel
theorem dX0_putHead_0 : decode cX0_putHead 0 = .ok (.aload_n 0, 1) := by decide +kernel
theorem dX0_putHead_1 : decode cX0_putHead 1 = .ok (.getfield 9, 3) := by decide +kernel
theorem dX0_putHead_4 : decode cX0_putHead 4 = .ok (.bipush 16, 2) := by decide +kernel
theorem dX0_putHead_6 : decode cX0_putHead 6 = .ok (.if_icmp .lt 5, 3) := by decide +kernel
theorem dX0_putHead_9 : decode cX0_putHead 9 = .ok (.iconst (-1), 1) := by decide +kernel
theorem dX0_putHead_10 : decode cX0_putHead 10 = .ok (.ireturn, 1) := by decide +kernel
theorem dX0_putHead_11 : decode cX0_putHead 11 = .ok (.aload_n 0, 1) := by decide +kernel
theorem dX0_putHead_12 : decode cX0_putHead 12 = .ok (.getfield 15, 3) := by decide +kernel
theorem dX0_putHead_15 : decode cX0_putHead 15 = .ok (.aload_n 0, 1) := by decide +kernel
theorem dX0_putHead_16 : decode cX0_putHead 16 = .ok (.getfield 9, 3) := by decide +kernel
theorem dX0_putHead_19 : decode cX0_putHead 19 = .ok (.lload_n 1, 1) := by decide +kernel
theorem dX0_putHead_20 : decode cX0_putHead 20 = .ok (.lastore, 1) := by decide +kernel
theorem dX0_putHead_21 : decode cX0_putHead 21 = .ok (.aload_n 0, 1) := by decide +kernel
theorem dX0_putHead_22 : decode cX0_putHead 22 = .ok (.getfield 19, 3) := by decide +kernel
theorem dX0_putHead_25 : decode cX0_putHead 25 = .ok (.aload_n 0, 1) := by decide +kernel
theorem dX0_putHead_26 : decode cX0_putHead 26 = .ok (.getfield 9, 3) := by decide +kernel
theorem dX0_putHead_29 : decode cX0_putHead 29 = .ok (.iconst 0, 1) := by decide +kernel
theorem dX0_putHead_30 : decode cX0_putHead 30 = .ok (.iastore, 1) := by decide +kernel
theorem dX0_putHead_31 : decode cX0_putHead 31 = .ok (.aload_n 0, 1) := by decide +kernel
theorem dX0_putHead_32 : decode cX0_putHead 32 = .ok (.getfield 26, 3) := by decide +kernel
theorem dX0_putHead_35 : decode cX0_putHead 35 = .ok (.aload_n 0, 1) := by decide +kernel
theorem dX0_putHead_36 : decode cX0_putHead 36 = .ok (.getfield 9, 3) := by decide +kernel
theorem dX0_putHead_39 : decode cX0_putHead 39 = .ok (.iconst (-1), 1) := by decide +kernel
theorem dX0_putHead_40 : decode cX0_putHead 40 = .ok (.iastore, 1) := by decide +kernel
theorem dX0_putHead_41 : decode cX0_putHead 41 = .ok (.aload_n 0, 1) := by decide +kernel
theorem dX0_putHead_42 : decode cX0_putHead 42 = .ok (.getfield 29, 3) := by decide +kernel
theorem dX0_putHead_45 : decode cX0_putHead 45 = .ok (.aload_n 0, 1) := by decide +kernel
theorem dX0_putHead_46 : decode cX0_putHead 46 = .ok (.getfield 9, 3) := by decide +kernel
theorem dX0_putHead_49 : decode cX0_putHead 49 = .ok (.iconst 0, 1) := by decide +kernel
theorem dX0_putHead_50 : decode cX0_putHead 50 = .ok (.iastore, 1) := by decide +kernel
theorem dX0_putHead_51 : decode cX0_putHead 51 = .ok (.aload_n 0, 1) := by decide +kernel
theorem dX0_putHead_52 : decode cX0_putHead 52 = .ok (.getfield 32, 3) := by decide +kernel
theorem dX0_putHead_55 : decode cX0_putHead 55 = .ok (.aload_n 0, 1) := by decide +kernel
theorem dX0_putHead_56 : decode cX0_putHead 56 = .ok (.getfield 9, 3) := by decide +kernel
theorem dX0_putHead_59 : decode cX0_putHead 59 = .ok (.iconst 0, 1) := by decide +kernel
theorem dX0_putHead_60 : decode cX0_putHead 60 = .ok (.iastore, 1) := by decide +kernel
theorem dX0_putHead_61 : decode cX0_putHead 61 = .ok (.aload_n 0, 1) := by decide +kernel
theorem dX0_putHead_62 : decode cX0_putHead 62 = .ok (.dup, 1) := by decide +kernel
theorem dX0_putHead_63 : decode cX0_putHead 63 = .ok (.getfield 9, 3) := by decide +kernel
theorem dX0_putHead_66 : decode cX0_putHead 66 = .ok (.iconst 1, 1) := by decide +kernel
theorem dX0_putHead_67 : decode cX0_putHead 67 = .ok (.iadd, 1) := by decide +kernel
theorem dX0_putHead_68 : decode cX0_putHead 68 = .ok (.putfield 9, 3) := by decide +kernel
theorem dX0_putHead_71 : decode cX0_putHead 71 = .ok (.aload_n 0, 1) := by decide +kernel
theorem dX0_putHead_72 : decode cX0_putHead 72 = .ok (.getfield 9, 3) := by decide +kernel
theorem dX0_putHead_75 : decode cX0_putHead 75 = .ok (.iconst 1, 1) := by decide +kernel
theorem dX0_putHead_76 : decode cX0_putHead 76 = .ok (.isub, 1) := by decide +kernel
theorem dX0_putHead_77 : decode cX0_putHead 77 = .ok (.ireturn, 1) := by decide +kernel
theorem dX0_putSub_0 : decode cX0_putSub 0 = .ok (.aload_n 0, 1) := by decide +kernel
theorem dX0_putSub_1 : decode cX0_putSub 1 = .ok (.getfield 19, 3) := by decide +kernel
theorem dX0_putSub_4 : decode cX0_putSub 4 = .ok (.iload_n 1, 1) := by decide +kernel
theorem dX0_putSub_5 : decode cX0_putSub 5 = .ok (.iaload, 1) := by decide +kernel
theorem dX0_putSub_6 : decode cX0_putSub 6 = .ok (.bipush 6, 2) := by decide +kernel
theorem dX0_putSub_8 : decode cX0_putSub 8 = .ok (.if_icmp .lt 5, 3) := by decide +kernel
theorem dX0_putSub_11 : decode cX0_putSub 11 = .ok (.iconst (-1), 1) := by decide +kernel
theorem dX0_putSub_12 : decode cX0_putSub 12 = .ok (.ireturn, 1) := by decide +kernel
theorem dX0_putSub_13 : decode cX0_putSub 13 = .ok (.aload_n 0, 1) := by decide +kernel
theorem dX0_putSub_14 : decode cX0_putSub 14 = .ok (.getfield 23, 3) := by decide +kernel
theorem dX0_putSub_17 : decode cX0_putSub 17 = .ok (.iload_n 1, 1) := by decide +kernel
theorem dX0_putSub_18 : decode cX0_putSub 18 = .ok (.bipush 6, 2) := by decide +kernel
theorem dX0_putSub_20 : decode cX0_putSub 20 = .ok (.imul, 1) := by decide +kernel
theorem dX0_putSub_21 : decode cX0_putSub 21 = .ok (.aload_n 0, 1) := by decide +kernel
theorem dX0_putSub_22 : decode cX0_putSub 22 = .ok (.getfield 19, 3) := by decide +kernel
theorem dX0_putSub_25 : decode cX0_putSub 25 = .ok (.iload_n 1, 1) := by decide +kernel
theorem dX0_putSub_26 : decode cX0_putSub 26 = .ok (.iaload, 1) := by decide +kernel
theorem dX0_putSub_27 : decode cX0_putSub 27 = .ok (.iadd, 1) := by decide +kernel
theorem dX0_putSub_28 : decode cX0_putSub 28 = .ok (.lload_n 2, 1) := by decide +kernel
theorem dX0_putSub_29 : decode cX0_putSub 29 = .ok (.lastore, 1) := by decide +kernel
theorem dX0_putSub_30 : decode cX0_putSub 30 = .ok (.aload_n 0, 1) := by decide +kernel
theorem dX0_putSub_31 : decode cX0_putSub 31 = .ok (.getfield 19, 3) := by decide +kernel
theorem dX0_putSub_34 : decode cX0_putSub 34 = .ok (.iload_n 1, 1) := by decide +kernel
theorem dX0_putSub_35 : decode cX0_putSub 35 = .ok (.dup2, 1) := by decide +kernel
theorem dX0_putSub_36 : decode cX0_putSub 36 = .ok (.iaload, 1) := by decide +kernel
theorem dX0_putSub_37 : decode cX0_putSub 37 = .ok (.iconst 1, 1) := by decide +kernel
theorem dX0_putSub_38 : decode cX0_putSub 38 = .ok (.iadd, 1) := by decide +kernel
theorem dX0_putSub_39 : decode cX0_putSub 39 = .ok (.iastore, 1) := by decide +kernel
theorem dX0_putSub_40 : decode cX0_putSub 40 = .ok (.aload_n 0, 1) := by decide +kernel
theorem dX0_putSub_41 : decode cX0_putSub 41 = .ok (.getfield 19, 3) := by decide +kernel
theorem dX0_putSub_44 : decode cX0_putSub 44 = .ok (.iload_n 1, 1) := by decide +kernel
theorem dX0_putSub_45 : decode cX0_putSub 45 = .ok (.iaload, 1) := by decide +kernel
theorem dX0_putSub_46 : decode cX0_putSub 46 = .ok (.iconst 1, 1) := by decide +kernel
theorem dX0_putSub_47 : decode cX0_putSub 47 = .ok (.isub, 1) := by decide +kernel
theorem dX0_putSub_48 : decode cX0_putSub 48 = .ok (.ireturn, 1) := by decide +kernel
theorem dX0_putMark_0 : decode cX0_putMark 0 = .ok (.aload_n 0, 1) := by decide +kernel
theorem dX0_putMark_1 : decode cX0_putMark 1 = .ok (.getfield 35, 3) := by decide +kernel
theorem dX0_putMark_4 : decode cX0_putMark 4 = .ok (.bipush 60, 2) := by decide +kernel
theorem dX0_putMark_6 : decode cX0_putMark 6 = .ok (.if_icmp .lt 5, 3) := by decide +kernel
theorem dX0_putMark_9 : decode cX0_putMark 9 = .ok (.iconst (-1), 1) := by decide +kernel
theorem dX0_putMark_10 : decode cX0_putMark 10 = .ok (.ireturn, 1) := by decide +kernel
theorem dX0_putMark_11 : decode cX0_putMark 11 = .ok (.aload_n 0, 1) := by decide +kernel
theorem dX0_putMark_12 : decode cX0_putMark 12 = .ok (.getfield 38, 3) := by decide +kernel
theorem dX0_putMark_15 : decode cX0_putMark 15 = .ok (.aload_n 0, 1) := by decide +kernel
theorem dX0_putMark_16 : decode cX0_putMark 16 = .ok (.getfield 35, 3) := by decide +kernel
theorem dX0_putMark_19 : decode cX0_putMark 19 = .ok (.iload_n 1, 1) := by decide +kernel
theorem dX0_putMark_20 : decode cX0_putMark 20 = .ok (.iastore, 1) := by decide +kernel
theorem dX0_putMark_21 : decode cX0_putMark 21 = .ok (.aload_n 0, 1) := by decide +kernel
theorem dX0_putMark_22 : decode cX0_putMark 22 = .ok (.getfield 41, 3) := by decide +kernel
theorem dX0_putMark_25 : decode cX0_putMark 25 = .ok (.aload_n 0, 1) := by decide +kernel
theorem dX0_putMark_26 : decode cX0_putMark 26 = .ok (.getfield 35, 3) := by decide +kernel
theorem dX0_putMark_29 : decode cX0_putMark 29 = .ok (.iload_n 2, 1) := by decide +kernel
theorem dX0_putMark_30 : decode cX0_putMark 30 = .ok (.iastore, 1) := by decide +kernel
theorem dX0_putMark_31 : decode cX0_putMark 31 = .ok (.aload_n 0, 1) := by decide +kernel
theorem dX0_putMark_32 : decode cX0_putMark 32 = .ok (.getfield 44, 3) := by decide +kernel
theorem dX0_putMark_35 : decode cX0_putMark 35 = .ok (.aload_n 0, 1) := by decide +kernel
theorem dX0_putMark_36 : decode cX0_putMark 36 = .ok (.getfield 35, 3) := by decide +kernel
theorem dX0_putMark_39 : decode cX0_putMark 39 = .ok (.iload_n 3, 1) := by decide +kernel
theorem dX0_putMark_40 : decode cX0_putMark 40 = .ok (.iastore, 1) := by decide +kernel
theorem dX0_putMark_41 : decode cX0_putMark 41 = .ok (.aload_n 0, 1) := by decide +kernel
theorem dX0_putMark_42 : decode cX0_putMark 42 = .ok (.getfield 47, 3) := by decide +kernel
theorem dX0_putMark_45 : decode cX0_putMark 45 = .ok (.aload_n 0, 1) := by decide +kernel
theorem dX0_putMark_46 : decode cX0_putMark 46 = .ok (.getfield 35, 3) := by decide +kernel
theorem dX0_putMark_49 : decode cX0_putMark 49 = .ok (.iload 4, 2) := by decide +kernel
theorem dX0_putMark_51 : decode cX0_putMark 51 = .ok (.iastore, 1) := by decide +kernel
theorem dX0_putMark_52 : decode cX0_putMark 52 = .ok (.aload_n 0, 1) := by decide +kernel
theorem dX0_putMark_53 : decode cX0_putMark 53 = .ok (.getfield 50, 3) := by decide +kernel
theorem dX0_putMark_56 : decode cX0_putMark 56 = .ok (.aload_n 0, 1) := by decide +kernel
theorem dX0_putMark_57 : decode cX0_putMark 57 = .ok (.getfield 35, 3) := by decide +kernel
theorem dX0_putMark_60 : decode cX0_putMark 60 = .ok (.iload 5, 2) := by decide +kernel
theorem dX0_putMark_62 : decode cX0_putMark 62 = .ok (.bastore, 1) := by decide +kernel
theorem dX0_putMark_63 : decode cX0_putMark 63 = .ok (.aload_n 0, 1) := by decide +kernel
theorem dX0_putMark_64 : decode cX0_putMark 64 = .ok (.dup, 1) := by decide +kernel
theorem dX0_putMark_65 : decode cX0_putMark 65 = .ok (.getfield 35, 3) := by decide +kernel
theorem dX0_putMark_68 : decode cX0_putMark 68 = .ok (.iconst 1, 1) := by decide +kernel
theorem dX0_putMark_69 : decode cX0_putMark 69 = .ok (.iadd, 1) := by decide +kernel
theorem dX0_putMark_70 : decode cX0_putMark 70 = .ok (.putfield 35, 3) := by decide +kernel
theorem dX0_putMark_73 : decode cX0_putMark 73 = .ok (.aload_n 0, 1) := by decide +kernel
theorem dX0_putMark_74 : decode cX0_putMark 74 = .ok (.getfield 35, 3) := by decide +kernel
theorem dX0_putMark_77 : decode cX0_putMark 77 = .ok (.iconst 1, 1) := by decide +kernel
theorem dX0_putMark_78 : decode cX0_putMark 78 = .ok (.isub, 1) := by decide +kernel
theorem dX0_putMark_79 : decode cX0_putMark 79 = .ok (.ireturn, 1) := by decide +kernel
theorem dX0_removeMark_0 : decode cX0_removeMark 0 = .ok (.iload_n 1, 1) := by decide +kernel
theorem dX0_removeMark_1 : decode cX0_removeMark 1 = .ok (.iconst 1, 1) := by decide +kernel
theorem dX0_removeMark_2 : decode cX0_removeMark 2 = .ok (.iadd, 1) := by decide +kernel
theorem dX0_removeMark_3 : decode cX0_removeMark 3 = .ok (.istore_n 2, 1) := by decide +kernel
theorem dX0_removeMark_4 : decode cX0_removeMark 4 = .ok (.iload_n 2, 1) := by decide +kernel
theorem dX0_removeMark_5 : decode cX0_removeMark 5 = .ok (.aload_n 0, 1) := by decide +kernel
theorem dX0_removeMark_6 : decode cX0_removeMark 6 = .ok (.getfield 35, 3) := by decide +kernel
theorem dX0_removeMark_9 : decode cX0_removeMark 9 = .ok (.if_icmp .ge 17, 3) := by decide +kernel
theorem dX0_removeMark_12 : decode cX0_removeMark 12 = .ok (.aload_n 0, 1) := by decide +kernel
theorem dX0_removeMark_13 : decode cX0_removeMark 13 = .ok (.iload_n 2, 1) := by decide +kernel
theorem dX0_removeMark_14 : decode cX0_removeMark 14 = .ok (.iload_n 2, 1) := by decide +kernel
theorem dX0_removeMark_15 : decode cX0_removeMark 15 = .ok (.iconst 1, 1) := by decide +kernel
theorem dX0_removeMark_16 : decode cX0_removeMark 16 = .ok (.isub, 1) := by decide +kernel
theorem dX0_removeMark_17 : decode cX0_removeMark 17 = .ok (.invokevirtual 68, 3) := by decide +kernel
theorem dX0_removeMark_20 : decode cX0_removeMark 20 = .ok (.iinc 2 1, 3) := by decide +kernel
theorem dX0_removeMark_23 : decode cX0_removeMark 23 = .ok (.goto (-19), 3) := by decide +kernel
theorem dX0_removeMark_26 : decode cX0_removeMark 26 = .ok (.aload_n 0, 1) := by decide +kernel
theorem dX0_removeMark_27 : decode cX0_removeMark 27 = .ok (.dup, 1) := by decide +kernel
theorem dX0_removeMark_28 : decode cX0_removeMark 28 = .ok (.getfield 35, 3) := by decide +kernel
theorem dX0_removeMark_31 : decode cX0_removeMark 31 = .ok (.iconst 1, 1) := by decide +kernel
theorem dX0_removeMark_32 : decode cX0_removeMark 32 = .ok (.isub, 1) := by decide +kernel
theorem dX0_removeMark_33 : decode cX0_removeMark 33 = .ok (.putfield 35, 3) := by decide +kernel
theorem dX0_removeMark_36 : decode cX0_removeMark 36 = .ok (.return_, 1) := by decide +kernel
theorem dX0_moveMark_0 : decode cX0_moveMark 0 = .ok (.aload_n 0, 1) := by decide +kernel
theorem dX0_moveMark_1 : decode cX0_moveMark 1 = .ok (.getfield 38, 3) := by decide +kernel
theorem dX0_moveMark_4 : decode cX0_moveMark 4 = .ok (.iload_n 2, 1) := by decide +kernel
theorem dX0_moveMark_5 : decode cX0_moveMark 5 = .ok (.aload_n 0, 1) := by decide +kernel
theorem dX0_moveMark_6 : decode cX0_moveMark 6 = .ok (.getfield 38, 3) := by decide +kernel
theorem dX0_moveMark_9 : decode cX0_moveMark 9 = .ok (.iload_n 1, 1) := by decide +kernel
theorem dX0_moveMark_10 : decode cX0_moveMark 10 = .ok (.iaload, 1) := by decide +kernel
theorem dX0_moveMark_11 : decode cX0_moveMark 11 = .ok (.iastore, 1) := by decide +kernel
theorem dX0_moveMark_12 : decode cX0_moveMark 12 = .ok (.aload_n 0, 1) := by decide +kernel
theorem dX0_moveMark_13 : decode cX0_moveMark 13 = .ok (.getfield 41, 3) := by decide +kernel
theorem dX0_moveMark_16 : decode cX0_moveMark 16 = .ok (.iload_n 2, 1) := by decide +kernel
theorem dX0_moveMark_17 : decode cX0_moveMark 17 = .ok (.aload_n 0, 1) := by decide +kernel
theorem dX0_moveMark_18 : decode cX0_moveMark 18 = .ok (.getfield 41, 3) := by decide +kernel
theorem dX0_moveMark_21 : decode cX0_moveMark 21 = .ok (.iload_n 1, 1) := by decide +kernel
theorem dX0_moveMark_22 : decode cX0_moveMark 22 = .ok (.iaload, 1) := by decide +kernel
theorem dX0_moveMark_23 : decode cX0_moveMark 23 = .ok (.iastore, 1) := by decide +kernel
theorem dX0_moveMark_24 : decode cX0_moveMark 24 = .ok (.aload_n 0, 1) := by decide +kernel
theorem dX0_moveMark_25 : decode cX0_moveMark 25 = .ok (.getfield 44, 3) := by decide +kernel
theorem dX0_moveMark_28 : decode cX0_moveMark 28 = .ok (.iload_n 2, 1) := by decide +kernel
theorem dX0_moveMark_29 : decode cX0_moveMark 29 = .ok (.aload_n 0, 1) := by decide +kernel
theorem dX0_moveMark_30 : decode cX0_moveMark 30 = .ok (.getfield 44, 3) := by decide +kernel
theorem dX0_moveMark_33 : decode cX0_moveMark 33 = .ok (.iload_n 1, 1) := by decide +kernel
theorem dX0_moveMark_34 : decode cX0_moveMark 34 = .ok (.iaload, 1) := by decide +kernel
theorem dX0_moveMark_35 : decode cX0_moveMark 35 = .ok (.iastore, 1) := by decide +kernel
theorem dX0_moveMark_36 : decode cX0_moveMark 36 = .ok (.aload_n 0, 1) := by decide +kernel
theorem dX0_moveMark_37 : decode cX0_moveMark 37 = .ok (.getfield 47, 3) := by decide +kernel
theorem dX0_moveMark_40 : decode cX0_moveMark 40 = .ok (.iload_n 2, 1) := by decide +kernel
theorem dX0_moveMark_41 : decode cX0_moveMark 41 = .ok (.aload_n 0, 1) := by decide +kernel
theorem dX0_moveMark_42 : decode cX0_moveMark 42 = .ok (.getfield 47, 3) := by decide +kernel
theorem dX0_moveMark_45 : decode cX0_moveMark 45 = .ok (.iload_n 1, 1) := by decide +kernel
theorem dX0_moveMark_46 : decode cX0_moveMark 46 = .ok (.iaload, 1) := by decide +kernel
theorem dX0_moveMark_47 : decode cX0_moveMark 47 = .ok (.iastore, 1) := by decide +kernel
theorem dX0_moveMark_48 : decode cX0_moveMark 48 = .ok (.aload_n 0, 1) := by decide +kernel
theorem dX0_moveMark_49 : decode cX0_moveMark 49 = .ok (.getfield 50, 3) := by decide +kernel
theorem dX0_moveMark_52 : decode cX0_moveMark 52 = .ok (.iload_n 2, 1) := by decide +kernel
theorem dX0_moveMark_53 : decode cX0_moveMark 53 = .ok (.aload_n 0, 1) := by decide +kernel
theorem dX0_moveMark_54 : decode cX0_moveMark 54 = .ok (.getfield 50, 3) := by decide +kernel
theorem dX0_moveMark_57 : decode cX0_moveMark 57 = .ok (.iload_n 1, 1) := by decide +kernel
theorem dX0_moveMark_58 : decode cX0_moveMark 58 = .ok (.baload, 1) := by decide +kernel
theorem dX0_moveMark_59 : decode cX0_moveMark 59 = .ok (.bastore, 1) := by decide +kernel
theorem dX0_moveMark_60 : decode cX0_moveMark 60 = .ok (.return_, 1) := by decide +kernel
theorem dX0_marksOf_0 : decode cX0_marksOf 0 = .ok (.iconst 0, 1) := by decide +kernel
theorem dX0_marksOf_1 : decode cX0_marksOf 1 = .ok (.istore_n 2, 1) := by decide +kernel
theorem dX0_marksOf_2 : decode cX0_marksOf 2 = .ok (.iconst 0, 1) := by decide +kernel
theorem dX0_marksOf_3 : decode cX0_marksOf 3 = .ok (.istore_n 3, 1) := by decide +kernel
theorem dX0_marksOf_4 : decode cX0_marksOf 4 = .ok (.iload_n 3, 1) := by decide +kernel
theorem dX0_marksOf_5 : decode cX0_marksOf 5 = .ok (.aload_n 0, 1) := by decide +kernel
theorem dX0_marksOf_6 : decode cX0_marksOf 6 = .ok (.getfield 35, 3) := by decide +kernel
theorem dX0_marksOf_9 : decode cX0_marksOf 9 = .ok (.if_icmp .ge 22, 3) := by decide +kernel
theorem dX0_marksOf_12 : decode cX0_marksOf 12 = .ok (.aload_n 0, 1) := by decide +kernel
theorem dX0_marksOf_13 : decode cX0_marksOf 13 = .ok (.getfield 38, 3) := by decide +kernel
theorem dX0_marksOf_16 : decode cX0_marksOf 16 = .ok (.iload_n 3, 1) := by decide +kernel
theorem dX0_marksOf_17 : decode cX0_marksOf 17 = .ok (.iaload, 1) := by decide +kernel
theorem dX0_marksOf_18 : decode cX0_marksOf 18 = .ok (.iload_n 1, 1) := by decide +kernel
theorem dX0_marksOf_19 : decode cX0_marksOf 19 = .ok (.if_icmp .ne 6, 3) := by decide +kernel
theorem dX0_marksOf_22 : decode cX0_marksOf 22 = .ok (.iinc 2 1, 3) := by decide +kernel
theorem dX0_marksOf_25 : decode cX0_marksOf 25 = .ok (.iinc 3 1, 3) := by decide +kernel
theorem dX0_marksOf_28 : decode cX0_marksOf 28 = .ok (.goto (-24), 3) := by decide +kernel
theorem dX0_marksOf_31 : decode cX0_marksOf 31 = .ok (.iload_n 2, 1) := by decide +kernel
theorem dX0_marksOf_32 : decode cX0_marksOf 32 = .ok (.ireturn, 1) := by decide +kernel
theorem dX0_filledHeads_0 : decode cX0_filledHeads 0 = .ok (.iconst 0, 1) := by decide +kernel
theorem dX0_filledHeads_1 : decode cX0_filledHeads 1 = .ok (.istore_n 1, 1) := by decide +kernel
theorem dX0_filledHeads_2 : decode cX0_filledHeads 2 = .ok (.iconst 0, 1) := by decide +kernel
theorem dX0_filledHeads_3 : decode cX0_filledHeads 3 = .ok (.istore_n 2, 1) := by decide +kernel
theorem dX0_filledHeads_4 : decode cX0_filledHeads 4 = .ok (.iload_n 2, 1) := by decide +kernel
theorem dX0_filledHeads_5 : decode cX0_filledHeads 5 = .ok (.aload_n 0, 1) := by decide +kernel
theorem dX0_filledHeads_6 : decode cX0_filledHeads 6 = .ok (.getfield 35, 3) := by decide +kernel
theorem dX0_filledHeads_9 : decode cX0_filledHeads 9 = .ok (.if_icmp .ge 20, 3) := by decide +kernel
theorem dX0_filledHeads_12 : decode cX0_filledHeads 12 = .ok (.iload_n 1, 1) := by decide +kernel
theorem dX0_filledHeads_13 : decode cX0_filledHeads 13 = .ok (.iconst 1, 1) := by decide +kernel
theorem dX0_filledHeads_14 : decode cX0_filledHeads 14 = .ok (.aload_n 0, 1) := by decide +kernel
theorem dX0_filledHeads_15 : decode cX0_filledHeads 15 = .ok (.getfield 38, 3) := by decide +kernel
theorem dX0_filledHeads_18 : decode cX0_filledHeads 18 = .ok (.iload_n 2, 1) := by decide +kernel
theorem dX0_filledHeads_19 : decode cX0_filledHeads 19 = .ok (.iaload, 1) := by decide +kernel
theorem dX0_filledHeads_20 : decode cX0_filledHeads 20 = .ok (.ishl, 1) := by decide +kernel
theorem dX0_filledHeads_21 : decode cX0_filledHeads 21 = .ok (.ior, 1) := by decide +kernel
theorem dX0_filledHeads_22 : decode cX0_filledHeads 22 = .ok (.istore_n 1, 1) := by decide +kernel
theorem dX0_filledHeads_23 : decode cX0_filledHeads 23 = .ok (.iinc 2 1, 3) := by decide +kernel
theorem dX0_filledHeads_26 : decode cX0_filledHeads 26 = .ok (.goto (-22), 3) := by decide +kernel
theorem dX0_filledHeads_29 : decode cX0_filledHeads 29 = .ok (.iload_n 1, 1) := by decide +kernel
theorem dX0_filledHeads_30 : decode cX0_filledHeads 30 = .ok (.ireturn, 1) := by decide +kernel
theorem dX0_markedSubs_0 : decode cX0_markedSubs 0 = .ok (.iconst 0, 1) := by decide +kernel
theorem dX0_markedSubs_1 : decode cX0_markedSubs 1 = .ok (.istore_n 2, 1) := by decide +kernel
theorem dX0_markedSubs_2 : decode cX0_markedSubs 2 = .ok (.iconst 0, 1) := by decide +kernel
theorem dX0_markedSubs_3 : decode cX0_markedSubs 3 = .ok (.istore_n 3, 1) := by decide +kernel
theorem dX0_markedSubs_4 : decode cX0_markedSubs 4 = .ok (.iload_n 3, 1) := by decide +kernel
theorem dX0_markedSubs_5 : decode cX0_markedSubs 5 = .ok (.aload_n 0, 1) := by decide +kernel
theorem dX0_markedSubs_6 : decode cX0_markedSubs 6 = .ok (.getfield 35, 3) := by decide +kernel
theorem dX0_markedSubs_9 : decode cX0_markedSubs 9 = .ok (.if_icmp .ge 40, 3) := by decide +kernel
theorem dX0_markedSubs_12 : decode cX0_markedSubs 12 = .ok (.aload_n 0, 1) := by decide +kernel
theorem dX0_markedSubs_13 : decode cX0_markedSubs 13 = .ok (.getfield 38, 3) := by decide +kernel
theorem dX0_markedSubs_16 : decode cX0_markedSubs 16 = .ok (.iload_n 3, 1) := by decide +kernel
theorem dX0_markedSubs_17 : decode cX0_markedSubs 17 = .ok (.iaload, 1) := by decide +kernel
theorem dX0_markedSubs_18 : decode cX0_markedSubs 18 = .ok (.iload_n 1, 1) := by decide +kernel
theorem dX0_markedSubs_19 : decode cX0_markedSubs 19 = .ok (.if_icmp .ne 24, 3) := by decide +kernel
theorem dX0_markedSubs_22 : decode cX0_markedSubs 22 = .ok (.aload_n 0, 1) := by decide +kernel
theorem dX0_markedSubs_23 : decode cX0_markedSubs 23 = .ok (.getfield 41, 3) := by decide +kernel
theorem dX0_markedSubs_26 : decode cX0_markedSubs 26 = .ok (.iload_n 3, 1) := by decide +kernel
theorem dX0_markedSubs_27 : decode cX0_markedSubs 27 = .ok (.iaload, 1) := by decide +kernel
theorem dX0_markedSubs_28 : decode cX0_markedSubs 28 = .ok (.iconst (-1), 1) := by decide +kernel
theorem dX0_markedSubs_29 : decode cX0_markedSubs 29 = .ok (.if_icmp .eq 14, 3) := by decide +kernel
theorem dX0_markedSubs_32 : decode cX0_markedSubs 32 = .ok (.iload_n 2, 1) := by decide +kernel
theorem dX0_markedSubs_33 : decode cX0_markedSubs 33 = .ok (.iconst 1, 1) := by decide +kernel
theorem dX0_markedSubs_34 : decode cX0_markedSubs 34 = .ok (.aload_n 0, 1) := by decide +kernel
theorem dX0_markedSubs_35 : decode cX0_markedSubs 35 = .ok (.getfield 41, 3) := by decide +kernel
theorem dX0_markedSubs_38 : decode cX0_markedSubs 38 = .ok (.iload_n 3, 1) := by decide +kernel
theorem dX0_markedSubs_39 : decode cX0_markedSubs 39 = .ok (.iaload, 1) := by decide +kernel
theorem dX0_markedSubs_40 : decode cX0_markedSubs 40 = .ok (.ishl, 1) := by decide +kernel
theorem dX0_markedSubs_41 : decode cX0_markedSubs 41 = .ok (.ior, 1) := by decide +kernel
theorem dX0_markedSubs_42 : decode cX0_markedSubs 42 = .ok (.istore_n 2, 1) := by decide +kernel
theorem dX0_markedSubs_43 : decode cX0_markedSubs 43 = .ok (.iinc 3 1, 3) := by decide +kernel
theorem dX0_markedSubs_46 : decode cX0_markedSubs 46 = .ok (.goto (-42), 3) := by decide +kernel
theorem dX0_markedSubs_49 : decode cX0_markedSubs 49 = .ok (.iload_n 2, 1) := by decide +kernel
theorem dX0_markedSubs_50 : decode cX0_markedSubs 50 = .ok (.ireturn, 1) := by decide +kernel
theorem dX0_gatherRuns_0 : decode cX0_gatherRuns 0 = .ok (.aload_n 3, 1) := by decide +kernel
theorem dX0_gatherRuns_1 : decode cX0_gatherRuns 1 = .ok (.invokevirtual 72, 3) := by decide +kernel
theorem dX0_gatherRuns_4 : decode cX0_gatherRuns 4 = .ok (.iconst 0, 1) := by decide +kernel
theorem dX0_gatherRuns_5 : decode cX0_gatherRuns 5 = .ok (.istore 4, 2) := by decide +kernel
theorem dX0_gatherRuns_7 : decode cX0_gatherRuns 7 = .ok (.iload 4, 2) := by decide +kernel
theorem dX0_gatherRuns_9 : decode cX0_gatherRuns 9 = .ok (.aload_n 0, 1) := by decide +kernel
theorem dX0_gatherRuns_10 : decode cX0_gatherRuns 10 = .ok (.getfield 35, 3) := by decide +kernel
theorem dX0_gatherRuns_13 : decode cX0_gatherRuns 13 = .ok (.if_icmp .ge 62, 3) := by decide +kernel
theorem dX0_gatherRuns_16 : decode cX0_gatherRuns 16 = .ok (.aload_n 0, 1) := by decide +kernel
theorem dX0_gatherRuns_17 : decode cX0_gatherRuns 17 = .ok (.getfield 38, 3) := by decide +kernel
theorem dX0_gatherRuns_20 : decode cX0_gatherRuns 20 = .ok (.iload 4, 2) := by decide +kernel
theorem dX0_gatherRuns_22 : decode cX0_gatherRuns 22 = .ok (.iaload, 1) := by decide +kernel
theorem dX0_gatherRuns_23 : decode cX0_gatherRuns 23 = .ok (.iload_n 1, 1) := by decide +kernel
theorem dX0_gatherRuns_24 : decode cX0_gatherRuns 24 = .ok (.if_icmp .ne 45, 3) := by decide +kernel
theorem dX0_gatherRuns_27 : decode cX0_gatherRuns 27 = .ok (.iload_n 2, 1) := by decide +kernel
theorem dX0_gatherRuns_28 : decode cX0_gatherRuns 28 = .ok (.bipush (-2), 2) := by decide +kernel
theorem dX0_gatherRuns_30 : decode cX0_gatherRuns 30 = .ok (.if_icmp .eq 14, 3) := by decide +kernel
theorem dX0_gatherRuns_33 : decode cX0_gatherRuns 33 = .ok (.aload_n 0, 1) := by decide +kernel
theorem dX0_gatherRuns_34 : decode cX0_gatherRuns 34 = .ok (.getfield 41, 3) := by decide +kernel
theorem dX0_gatherRuns_37 : decode cX0_gatherRuns 37 = .ok (.iload 4, 2) := by decide +kernel
theorem dX0_gatherRuns_39 : decode cX0_gatherRuns 39 = .ok (.iaload, 1) := by decide +kernel
theorem dX0_gatherRuns_40 : decode cX0_gatherRuns 40 = .ok (.iload_n 2, 1) := by decide +kernel
theorem dX0_gatherRuns_41 : decode cX0_gatherRuns 41 = .ok (.if_icmp .ne 28, 3) := by decide +kernel
theorem dX0_gatherRuns_44 : decode cX0_gatherRuns 44 = .ok (.aload_n 3, 1) := by decide +kernel
theorem dX0_gatherRuns_45 : decode cX0_gatherRuns 45 = .ok (.aload_n 0, 1) := by decide +kernel
theorem dX0_gatherRuns_46 : decode cX0_gatherRuns 46 = .ok (.getfield 44, 3) := by decide +kernel
theorem dX0_gatherRuns_49 : decode cX0_gatherRuns 49 = .ok (.iload 4, 2) := by decide +kernel
theorem dX0_gatherRuns_51 : decode cX0_gatherRuns 51 = .ok (.iaload, 1) := by decide +kernel
theorem dX0_gatherRuns_52 : decode cX0_gatherRuns 52 = .ok (.aload_n 0, 1) := by decide +kernel
theorem dX0_gatherRuns_53 : decode cX0_gatherRuns 53 = .ok (.getfield 47, 3) := by decide +kernel
theorem dX0_gatherRuns_56 : decode cX0_gatherRuns 56 = .ok (.iload 4, 2) := by decide +kernel
theorem dX0_gatherRuns_58 : decode cX0_gatherRuns 58 = .ok (.iaload, 1) := by decide +kernel
theorem dX0_gatherRuns_59 : decode cX0_gatherRuns 59 = .ok (.aload_n 0, 1) := by decide +kernel
theorem dX0_gatherRuns_60 : decode cX0_gatherRuns 60 = .ok (.getfield 50, 3) := by decide +kernel
theorem dX0_gatherRuns_63 : decode cX0_gatherRuns 63 = .ok (.iload 4, 2) := by decide +kernel
theorem dX0_gatherRuns_65 : decode cX0_gatherRuns 65 = .ok (.baload, 1) := by decide +kernel
theorem dX0_gatherRuns_66 : decode cX0_gatherRuns 66 = .ok (.invokevirtual 77, 3) := by decide +kernel
theorem dX0_gatherRuns_69 : decode cX0_gatherRuns 69 = .ok (.iinc 4 1, 3) := by decide +kernel
theorem dX0_gatherRuns_72 : decode cX0_gatherRuns 72 = .ok (.goto (-65), 3) := by decide +kernel
theorem dX0_gatherRuns_75 : decode cX0_gatherRuns 75 = .ok (.return_, 1) := by decide +kernel
theorem dX0_headsWith_0 : decode cX0_headsWith 0 = .ok (.iconst 0, 1) := by decide +kernel
theorem dX0_headsWith_1 : decode cX0_headsWith 1 = .ok (.istore_n 2, 1) := by decide +kernel
theorem dX0_headsWith_2 : decode cX0_headsWith 2 = .ok (.iconst 0, 1) := by decide +kernel
theorem dX0_headsWith_3 : decode cX0_headsWith 3 = .ok (.istore_n 3, 1) := by decide +kernel
theorem dX0_headsWith_4 : decode cX0_headsWith 4 = .ok (.iload_n 3, 1) := by decide +kernel
theorem dX0_headsWith_5 : decode cX0_headsWith 5 = .ok (.aload_n 0, 1) := by decide +kernel
theorem dX0_headsWith_6 : decode cX0_headsWith 6 = .ok (.getfield 35, 3) := by decide +kernel
theorem dX0_headsWith_9 : decode cX0_headsWith 9 = .ok (.if_icmp .ge 40, 3) := by decide +kernel
theorem dX0_headsWith_12 : decode cX0_headsWith 12 = .ok (.aload_n 0, 1) := by decide +kernel
theorem dX0_headsWith_13 : decode cX0_headsWith 13 = .ok (.getfield 44, 3) := by decide +kernel
theorem dX0_headsWith_16 : decode cX0_headsWith 16 = .ok (.iload_n 3, 1) := by decide +kernel
theorem dX0_headsWith_17 : decode cX0_headsWith 17 = .ok (.iaload, 1) := by decide +kernel
theorem dX0_headsWith_18 : decode cX0_headsWith 18 = .ok (.iload_n 1, 1) := by decide +kernel
theorem dX0_headsWith_19 : decode cX0_headsWith 19 = .ok (.if_icmp .gt 24, 3) := by decide +kernel
theorem dX0_headsWith_22 : decode cX0_headsWith 22 = .ok (.iload_n 1, 1) := by decide +kernel
theorem dX0_headsWith_23 : decode cX0_headsWith 23 = .ok (.aload_n 0, 1) := by decide +kernel
theorem dX0_headsWith_24 : decode cX0_headsWith 24 = .ok (.getfield 47, 3) := by decide +kernel
theorem dX0_headsWith_27 : decode cX0_headsWith 27 = .ok (.iload_n 3, 1) := by decide +kernel
theorem dX0_headsWith_28 : decode cX0_headsWith 28 = .ok (.iaload, 1) := by decide +kernel
theorem dX0_headsWith_29 : decode cX0_headsWith 29 = .ok (.if_icmp .gt 14, 3) := by decide +kernel
theorem dX0_headsWith_32 : decode cX0_headsWith 32 = .ok (.iload_n 2, 1) := by decide +kernel
theorem dX0_headsWith_33 : decode cX0_headsWith 33 = .ok (.iconst 1, 1) := by decide +kernel
theorem dX0_headsWith_34 : decode cX0_headsWith 34 = .ok (.aload_n 0, 1) := by decide +kernel
theorem dX0_headsWith_35 : decode cX0_headsWith 35 = .ok (.getfield 38, 3) := by decide +kernel
theorem dX0_headsWith_38 : decode cX0_headsWith 38 = .ok (.iload_n 3, 1) := by decide +kernel
theorem dX0_headsWith_39 : decode cX0_headsWith 39 = .ok (.iaload, 1) := by decide +kernel
theorem dX0_headsWith_40 : decode cX0_headsWith 40 = .ok (.ishl, 1) := by decide +kernel
theorem dX0_headsWith_41 : decode cX0_headsWith 41 = .ok (.ior, 1) := by decide +kernel
theorem dX0_headsWith_42 : decode cX0_headsWith 42 = .ok (.istore_n 2, 1) := by decide +kernel
theorem dX0_headsWith_43 : decode cX0_headsWith 43 = .ok (.iinc 3 1, 3) := by decide +kernel
theorem dX0_headsWith_46 : decode cX0_headsWith 46 = .ok (.goto (-42), 3) := by decide +kernel
theorem dX0_headsWith_49 : decode cX0_headsWith 49 = .ok (.iload_n 2, 1) := by decide +kernel
theorem dX0_headsWith_50 : decode cX0_headsWith 50 = .ok (.ireturn, 1) := by decide +kernel
theorem dX0_stepsToFilled_0 : decode cX0_stepsToFilled 0 = .ok (.iload_n 1, 1) := by decide +kernel
theorem dX0_stepsToFilled_1 : decode cX0_stepsToFilled 1 = .ok (.istore_n 3, 1) := by decide +kernel
theorem dX0_stepsToFilled_2 : decode cX0_stepsToFilled 2 = .ok (.iconst 0, 1) := by decide +kernel
theorem dX0_stepsToFilled_3 : decode cX0_stepsToFilled 3 = .ok (.istore 4, 2) := by decide +kernel
theorem dX0_stepsToFilled_5 : decode cX0_stepsToFilled 5 = .ok (.iload 4, 2) := by decide +kernel
theorem dX0_stepsToFilled_7 : decode cX0_stepsToFilled 7 = .ok (.bipush 16, 2) := by decide +kernel
theorem dX0_stepsToFilled_9 : decode cX0_stepsToFilled 9 = .ok (.if_icmp .ge 34, 3) := by decide +kernel
theorem dX0_stepsToFilled_12 : decode cX0_stepsToFilled 12 = .ok (.iload_n 2, 1) := by decide +kernel
theorem dX0_stepsToFilled_13 : decode cX0_stepsToFilled 13 = .ok (.iload_n 3, 1) := by decide +kernel
theorem dX0_stepsToFilled_14 : decode cX0_stepsToFilled 14 = .ok (.invokestatic 81, 3) := by decide +kernel
theorem dX0_stepsToFilled_17 : decode cX0_stepsToFilled 17 = .ok (.ifCond .eq 6, 3) := by decide +kernel
theorem dX0_stepsToFilled_20 : decode cX0_stepsToFilled 20 = .ok (.iload 4, 2) := by decide +kernel
theorem dX0_stepsToFilled_22 : decode cX0_stepsToFilled 22 = .ok (.ireturn, 1) := by decide +kernel
theorem dX0_stepsToFilled_23 : decode cX0_stepsToFilled 23 = .ok (.aload_n 0, 1) := by decide +kernel
theorem dX0_stepsToFilled_24 : decode cX0_stepsToFilled 24 = .ok (.getfield 26, 3) := by decide +kernel
theorem dX0_stepsToFilled_27 : decode cX0_stepsToFilled 27 = .ok (.iload_n 3, 1) := by decide +kernel
theorem dX0_stepsToFilled_28 : decode cX0_stepsToFilled 28 = .ok (.iaload, 1) := by decide +kernel
theorem dX0_stepsToFilled_29 : decode cX0_stepsToFilled 29 = .ok (.istore_n 3, 1) := by decide +kernel
theorem dX0_stepsToFilled_30 : decode cX0_stepsToFilled 30 = .ok (.iload_n 3, 1) := by decide +kernel
theorem dX0_stepsToFilled_31 : decode cX0_stepsToFilled 31 = .ok (.iconst (-1), 1) := by decide +kernel
theorem dX0_stepsToFilled_32 : decode cX0_stepsToFilled 32 = .ok (.if_icmp .ne 5, 3) := by decide +kernel
theorem dX0_stepsToFilled_35 : decode cX0_stepsToFilled 35 = .ok (.iconst (-1), 1) := by decide +kernel
theorem dX0_stepsToFilled_36 : decode cX0_stepsToFilled 36 = .ok (.ireturn, 1) := by decide +kernel
theorem dX0_stepsToFilled_37 : decode cX0_stepsToFilled 37 = .ok (.iinc 4 1, 3) := by decide +kernel
theorem dX0_stepsToFilled_40 : decode cX0_stepsToFilled 40 = .ok (.goto (-35), 3) := by decide +kernel
theorem dX0_stepsToFilled_43 : decode cX0_stepsToFilled 43 = .ok (.iconst (-1), 1) := by decide +kernel
theorem dX0_stepsToFilled_44 : decode cX0_stepsToFilled 44 = .ok (.ireturn, 1) := by decide +kernel
theorem dX0_headAfter_0 : decode cX0_headAfter 0 = .ok (.iload_n 1, 1) := by decide +kernel
theorem dX0_headAfter_1 : decode cX0_headAfter 1 = .ok (.istore_n 3, 1) := by decide +kernel
theorem dX0_headAfter_2 : decode cX0_headAfter 2 = .ok (.iconst 0, 1) := by decide +kernel
theorem dX0_headAfter_3 : decode cX0_headAfter 3 = .ok (.istore 4, 2) := by decide +kernel
theorem dX0_headAfter_5 : decode cX0_headAfter 5 = .ok (.iload 4, 2) := by decide +kernel
theorem dX0_headAfter_7 : decode cX0_headAfter 7 = .ok (.iload_n 2, 1) := by decide +kernel
theorem dX0_headAfter_8 : decode cX0_headAfter 8 = .ok (.if_icmp .ge 26, 3) := by decide +kernel
theorem dX0_headAfter_11 : decode cX0_headAfter 11 = .ok (.aload_n 0, 1) := by decide +kernel
theorem dX0_headAfter_12 : decode cX0_headAfter 12 = .ok (.getfield 26, 3) := by decide +kernel
theorem dX0_headAfter_15 : decode cX0_headAfter 15 = .ok (.iload_n 3, 1) := by decide +kernel
theorem dX0_headAfter_16 : decode cX0_headAfter 16 = .ok (.iaload, 1) := by decide +kernel
theorem dX0_headAfter_17 : decode cX0_headAfter 17 = .ok (.iconst (-1), 1) := by decide +kernel
theorem dX0_headAfter_18 : decode cX0_headAfter 18 = .ok (.if_icmp .eq 16, 3) := by decide +kernel
theorem dX0_headAfter_21 : decode cX0_headAfter 21 = .ok (.aload_n 0, 1) := by decide +kernel
theorem dX0_headAfter_22 : decode cX0_headAfter 22 = .ok (.getfield 26, 3) := by decide +kernel
theorem dX0_headAfter_25 : decode cX0_headAfter 25 = .ok (.iload_n 3, 1) := by decide +kernel
theorem dX0_headAfter_26 : decode cX0_headAfter 26 = .ok (.iaload, 1) := by decide +kernel
theorem dX0_headAfter_27 : decode cX0_headAfter 27 = .ok (.istore_n 3, 1) := by decide +kernel
theorem dX0_headAfter_28 : decode cX0_headAfter 28 = .ok (.iinc 4 1, 3) := by decide +kernel
theorem dX0_headAfter_31 : decode cX0_headAfter 31 = .ok (.goto (-26), 3) := by decide +kernel
theorem dX0_headAfter_34 : decode cX0_headAfter 34 = .ok (.iload_n 3, 1) := by decide +kernel
theorem dX0_headAfter_35 : decode cX0_headAfter 35 = .ok (.ireturn, 1) := by decide +kernel
theorem dX0_goesRound_0 : decode cX0_goesRound 0 = .ok (.iload_n 1, 1) := by decide +kernel
theorem dX0_goesRound_1 : decode cX0_goesRound 1 = .ok (.istore_n 2, 1) := by decide +kernel
theorem dX0_goesRound_2 : decode cX0_goesRound 2 = .ok (.iconst 0, 1) := by decide +kernel
theorem dX0_goesRound_3 : decode cX0_goesRound 3 = .ok (.istore_n 3, 1) := by decide +kernel
theorem dX0_goesRound_4 : decode cX0_goesRound 4 = .ok (.iload_n 3, 1) := by decide +kernel
theorem dX0_goesRound_5 : decode cX0_goesRound 5 = .ok (.bipush 16, 2) := by decide +kernel
theorem dX0_goesRound_7 : decode cX0_goesRound 7 = .ok (.if_icmp .ge 37, 3) := by decide +kernel
theorem dX0_goesRound_10 : decode cX0_goesRound 10 = .ok (.aload_n 0, 1) := by decide +kernel
theorem dX0_goesRound_11 : decode cX0_goesRound 11 = .ok (.getfield 26, 3) := by decide +kernel
theorem dX0_goesRound_14 : decode cX0_goesRound 14 = .ok (.iload_n 2, 1) := by decide +kernel
theorem dX0_goesRound_15 : decode cX0_goesRound 15 = .ok (.iaload, 1) := by decide +kernel
theorem dX0_goesRound_16 : decode cX0_goesRound 16 = .ok (.istore_n 2, 1) := by decide +kernel
theorem dX0_goesRound_17 : decode cX0_goesRound 17 = .ok (.iload_n 2, 1) := by decide +kernel
theorem dX0_goesRound_18 : decode cX0_goesRound 18 = .ok (.iconst (-1), 1) := by decide +kernel
theorem dX0_goesRound_19 : decode cX0_goesRound 19 = .ok (.if_icmp .eq 8, 3) := by decide +kernel
theorem dX0_goesRound_22 : decode cX0_goesRound 22 = .ok (.iload_n 2, 1) := by decide +kernel
theorem dX0_goesRound_23 : decode cX0_goesRound 23 = .ok (.iload_n 1, 1) := by decide +kernel
theorem dX0_goesRound_24 : decode cX0_goesRound 24 = .ok (.if_icmp .ne 14, 3) := by decide +kernel
theorem dX0_goesRound_27 : decode cX0_goesRound 27 = .ok (.iload_n 2, 1) := by decide +kernel
theorem dX0_goesRound_28 : decode cX0_goesRound 28 = .ok (.iload_n 1, 1) := by decide +kernel
theorem dX0_goesRound_29 : decode cX0_goesRound 29 = .ok (.if_icmp .ne 7, 3) := by decide +kernel
theorem dX0_goesRound_32 : decode cX0_goesRound 32 = .ok (.iconst 1, 1) := by decide +kernel
theorem dX0_goesRound_33 : decode cX0_goesRound 33 = .ok (.goto 4, 3) := by decide +kernel
theorem dX0_goesRound_36 : decode cX0_goesRound 36 = .ok (.iconst 0, 1) := by decide +kernel
theorem dX0_goesRound_37 : decode cX0_goesRound 37 = .ok (.ireturn, 1) := by decide +kernel
theorem dX0_goesRound_38 : decode cX0_goesRound 38 = .ok (.iinc 3 1, 3) := by decide +kernel
theorem dX0_goesRound_41 : decode cX0_goesRound 41 = .ok (.goto (-37), 3) := by decide +kernel
theorem dX0_goesRound_44 : decode cX0_goesRound 44 = .ok (.iconst 0, 1) := by decide +kernel
theorem dX0_goesRound_45 : decode cX0_goesRound 45 = .ok (.ireturn, 1) := by decide +kernel
theorem dX0_oneStepOn_0 : decode cX0_oneStepOn 0 = .ok (.iload_n 1, 1) := by decide +kernel
theorem dX0_oneStepOn_1 : decode cX0_oneStepOn 1 = .ok (.istore_n 2, 1) := by decide +kernel
theorem dX0_oneStepOn_2 : decode cX0_oneStepOn 2 = .ok (.iconst 0, 1) := by decide +kernel
theorem dX0_oneStepOn_3 : decode cX0_oneStepOn 3 = .ok (.istore_n 3, 1) := by decide +kernel
theorem dX0_oneStepOn_4 : decode cX0_oneStepOn 4 = .ok (.iload_n 3, 1) := by decide +kernel
theorem dX0_oneStepOn_5 : decode cX0_oneStepOn 5 = .ok (.aload_n 0, 1) := by decide +kernel
theorem dX0_oneStepOn_6 : decode cX0_oneStepOn 6 = .ok (.getfield 9, 3) := by decide +kernel
theorem dX0_oneStepOn_9 : decode cX0_oneStepOn 9 = .ok (.if_icmp .ge 47, 3) := by decide +kernel
theorem dX0_oneStepOn_12 : decode cX0_oneStepOn 12 = .ok (.iload_n 1, 1) := by decide +kernel
theorem dX0_oneStepOn_13 : decode cX0_oneStepOn 13 = .ok (.iload_n 3, 1) := by decide +kernel
theorem dX0_oneStepOn_14 : decode cX0_oneStepOn 14 = .ok (.invokestatic 81, 3) := by decide +kernel
theorem dX0_oneStepOn_17 : decode cX0_oneStepOn 17 = .ok (.ifCond .eq 33, 3) := by decide +kernel
theorem dX0_oneStepOn_20 : decode cX0_oneStepOn 20 = .ok (.iload_n 2, 1) := by decide +kernel
theorem dX0_oneStepOn_21 : decode cX0_oneStepOn 21 = .ok (.aload_n 0, 1) := by decide +kernel
theorem dX0_oneStepOn_22 : decode cX0_oneStepOn 22 = .ok (.getfield 29, 3) := by decide +kernel
theorem dX0_oneStepOn_25 : decode cX0_oneStepOn 25 = .ok (.iload_n 3, 1) := by decide +kernel
theorem dX0_oneStepOn_26 : decode cX0_oneStepOn 26 = .ok (.iaload, 1) := by decide +kernel
theorem dX0_oneStepOn_27 : decode cX0_oneStepOn 27 = .ok (.ior, 1) := by decide +kernel
theorem dX0_oneStepOn_28 : decode cX0_oneStepOn 28 = .ok (.istore_n 2, 1) := by decide +kernel
theorem dX0_oneStepOn_29 : decode cX0_oneStepOn 29 = .ok (.aload_n 0, 1) := by decide +kernel
theorem dX0_oneStepOn_30 : decode cX0_oneStepOn 30 = .ok (.getfield 26, 3) := by decide +kernel
theorem dX0_oneStepOn_33 : decode cX0_oneStepOn 33 = .ok (.iload_n 3, 1) := by decide +kernel
theorem dX0_oneStepOn_34 : decode cX0_oneStepOn 34 = .ok (.iaload, 1) := by decide +kernel
theorem dX0_oneStepOn_35 : decode cX0_oneStepOn 35 = .ok (.iconst (-1), 1) := by decide +kernel
theorem dX0_oneStepOn_36 : decode cX0_oneStepOn 36 = .ok (.if_icmp .eq 14, 3) := by decide +kernel
theorem dX0_oneStepOn_39 : decode cX0_oneStepOn 39 = .ok (.iload_n 2, 1) := by decide +kernel
theorem dX0_oneStepOn_40 : decode cX0_oneStepOn 40 = .ok (.iconst 1, 1) := by decide +kernel
theorem dX0_oneStepOn_41 : decode cX0_oneStepOn 41 = .ok (.aload_n 0, 1) := by decide +kernel
theorem dX0_oneStepOn_42 : decode cX0_oneStepOn 42 = .ok (.getfield 26, 3) := by decide +kernel
theorem dX0_oneStepOn_45 : decode cX0_oneStepOn 45 = .ok (.iload_n 3, 1) := by decide +kernel
theorem dX0_oneStepOn_46 : decode cX0_oneStepOn 46 = .ok (.iaload, 1) := by decide +kernel
theorem dX0_oneStepOn_47 : decode cX0_oneStepOn 47 = .ok (.ishl, 1) := by decide +kernel
theorem dX0_oneStepOn_48 : decode cX0_oneStepOn 48 = .ok (.ior, 1) := by decide +kernel
theorem dX0_oneStepOn_49 : decode cX0_oneStepOn 49 = .ok (.istore_n 2, 1) := by decide +kernel
theorem dX0_oneStepOn_50 : decode cX0_oneStepOn 50 = .ok (.iinc 3 1, 3) := by decide +kernel
theorem dX0_oneStepOn_53 : decode cX0_oneStepOn 53 = .ok (.goto (-49), 3) := by decide +kernel
theorem dX0_oneStepOn_56 : decode cX0_oneStepOn 56 = .ok (.iload_n 2, 1) := by decide +kernel
theorem dX0_oneStepOn_57 : decode cX0_oneStepOn 57 = .ok (.ireturn, 1) := by decide +kernel
theorem dX0_lastPageAbove_0 : decode cX0_lastPageAbove 0 = .ok (.iconst 0, 1) := by decide +kernel
theorem dX0_lastPageAbove_1 : decode cX0_lastPageAbove 1 = .ok (.istore_n 2, 1) := by decide +kernel
theorem dX0_lastPageAbove_2 : decode cX0_lastPageAbove 2 = .ok (.iconst 0, 1) := by decide +kernel
theorem dX0_lastPageAbove_3 : decode cX0_lastPageAbove 3 = .ok (.istore_n 3, 1) := by decide +kernel
theorem dX0_lastPageAbove_4 : decode cX0_lastPageAbove 4 = .ok (.iload_n 3, 1) := by decide +kernel
theorem dX0_lastPageAbove_5 : decode cX0_lastPageAbove 5 = .ok (.aload_n 0, 1) := by decide +kernel
theorem dX0_lastPageAbove_6 : decode cX0_lastPageAbove 6 = .ok (.getfield 35, 3) := by decide +kernel
theorem dX0_lastPageAbove_9 : decode cX0_lastPageAbove 9 = .ok (.if_icmp .ge 30, 3) := by decide +kernel
theorem dX0_lastPageAbove_12 : decode cX0_lastPageAbove 12 = .ok (.aload_n 0, 1) := by decide +kernel
theorem dX0_lastPageAbove_13 : decode cX0_lastPageAbove 13 = .ok (.getfield 47, 3) := by decide +kernel
theorem dX0_lastPageAbove_16 : decode cX0_lastPageAbove 16 = .ok (.iload_n 3, 1) := by decide +kernel
theorem dX0_lastPageAbove_17 : decode cX0_lastPageAbove 17 = .ok (.iaload, 1) := by decide +kernel
theorem dX0_lastPageAbove_18 : decode cX0_lastPageAbove 18 = .ok (.iload_n 1, 1) := by decide +kernel
theorem dX0_lastPageAbove_19 : decode cX0_lastPageAbove 19 = .ok (.if_icmp .le 14, 3) := by decide +kernel
theorem dX0_lastPageAbove_22 : decode cX0_lastPageAbove 22 = .ok (.iload_n 2, 1) := by decide +kernel
theorem dX0_lastPageAbove_23 : decode cX0_lastPageAbove 23 = .ok (.aload_n 0, 1) := by decide +kernel
theorem dX0_lastPageAbove_24 : decode cX0_lastPageAbove 24 = .ok (.getfield 47, 3) := by decide +kernel
theorem dX0_lastPageAbove_27 : decode cX0_lastPageAbove 27 = .ok (.iload_n 3, 1) := by decide +kernel
theorem dX0_lastPageAbove_28 : decode cX0_lastPageAbove 28 = .ok (.iaload, 1) := by decide +kernel
theorem dX0_lastPageAbove_29 : decode cX0_lastPageAbove 29 = .ok (.invokestatic 85, 3) := by decide +kernel
theorem dX0_lastPageAbove_32 : decode cX0_lastPageAbove 32 = .ok (.istore_n 2, 1) := by decide +kernel
theorem dX0_lastPageAbove_33 : decode cX0_lastPageAbove 33 = .ok (.iinc 3 1, 3) := by decide +kernel
theorem dX0_lastPageAbove_36 : decode cX0_lastPageAbove 36 = .ok (.goto (-32), 3) := by decide +kernel
theorem dX0_lastPageAbove_39 : decode cX0_lastPageAbove 39 = .ok (.iload_n 2, 1) := by decide +kernel
theorem dX0_lastPageAbove_40 : decode cX0_lastPageAbove 40 = .ok (.ireturn, 1) := by decide +kernel
theorem dX0_pushPages_0 : decode cX0_pushPages 0 = .ok (.iconst 0, 1) := by decide +kernel
theorem dX0_pushPages_1 : decode cX0_pushPages 1 = .ok (.istore_n 3, 1) := by decide +kernel
theorem dX0_pushPages_2 : decode cX0_pushPages 2 = .ok (.iconst 0, 1) := by decide +kernel
theorem dX0_pushPages_3 : decode cX0_pushPages 3 = .ok (.istore 4, 2) := by decide +kernel
theorem dX0_pushPages_5 : decode cX0_pushPages 5 = .ok (.iload 4, 2) := by decide +kernel
theorem dX0_pushPages_7 : decode cX0_pushPages 7 = .ok (.aload_n 0, 1) := by decide +kernel
theorem dX0_pushPages_8 : decode cX0_pushPages 8 = .ok (.getfield 35, 3) := by decide +kernel
theorem dX0_pushPages_11 : decode cX0_pushPages 11 = .ok (.if_icmp .ge 56, 3) := by decide +kernel
theorem dX0_pushPages_14 : decode cX0_pushPages 14 = .ok (.aload_n 0, 1) := by decide +kernel
theorem dX0_pushPages_15 : decode cX0_pushPages 15 = .ok (.getfield 47, 3) := by decide +kernel
theorem dX0_pushPages_18 : decode cX0_pushPages 18 = .ok (.iload 4, 2) := by decide +kernel
theorem dX0_pushPages_20 : decode cX0_pushPages 20 = .ok (.iaload, 1) := by decide +kernel
theorem dX0_pushPages_21 : decode cX0_pushPages 21 = .ok (.iload_n 1, 1) := by decide +kernel
theorem dX0_pushPages_22 : decode cX0_pushPages 22 = .ok (.if_icmp .le 39, 3) := by decide +kernel
theorem dX0_pushPages_25 : decode cX0_pushPages 25 = .ok (.iinc 3 1, 3) := by decide +kernel
theorem dX0_pushPages_28 : decode cX0_pushPages 28 = .ok (.aload_n 0, 1) := by decide +kernel
theorem dX0_pushPages_29 : decode cX0_pushPages 29 = .ok (.getfield 47, 3) := by decide +kernel
theorem dX0_pushPages_32 : decode cX0_pushPages 32 = .ok (.iload 4, 2) := by decide +kernel
theorem dX0_pushPages_34 : decode cX0_pushPages 34 = .ok (.dup2, 1) := by decide +kernel
theorem dX0_pushPages_35 : decode cX0_pushPages 35 = .ok (.iaload, 1) := by decide +kernel
theorem dX0_pushPages_36 : decode cX0_pushPages 36 = .ok (.iload_n 2, 1) := by decide +kernel
theorem dX0_pushPages_37 : decode cX0_pushPages 37 = .ok (.iadd, 1) := by decide +kernel
theorem dX0_pushPages_38 : decode cX0_pushPages 38 = .ok (.iastore, 1) := by decide +kernel
theorem dX0_pushPages_39 : decode cX0_pushPages 39 = .ok (.aload_n 0, 1) := by decide +kernel
theorem dX0_pushPages_40 : decode cX0_pushPages 40 = .ok (.getfield 44, 3) := by decide +kernel
theorem dX0_pushPages_43 : decode cX0_pushPages 43 = .ok (.iload 4, 2) := by decide +kernel
theorem dX0_pushPages_45 : decode cX0_pushPages 45 = .ok (.iaload, 1) := by decide +kernel
theorem dX0_pushPages_46 : decode cX0_pushPages 46 = .ok (.iload_n 1, 1) := by decide +kernel
theorem dX0_pushPages_47 : decode cX0_pushPages 47 = .ok (.if_icmp .le 14, 3) := by decide +kernel
theorem dX0_pushPages_50 : decode cX0_pushPages 50 = .ok (.aload_n 0, 1) := by decide +kernel
theorem dX0_pushPages_51 : decode cX0_pushPages 51 = .ok (.getfield 44, 3) := by decide +kernel
theorem dX0_pushPages_54 : decode cX0_pushPages 54 = .ok (.iload 4, 2) := by decide +kernel
theorem dX0_pushPages_56 : decode cX0_pushPages 56 = .ok (.dup2, 1) := by decide +kernel
theorem dX0_pushPages_57 : decode cX0_pushPages 57 = .ok (.iaload, 1) := by decide +kernel
theorem dX0_pushPages_58 : decode cX0_pushPages 58 = .ok (.iload_n 2, 1) := by decide +kernel
theorem dX0_pushPages_59 : decode cX0_pushPages 59 = .ok (.iadd, 1) := by decide +kernel
theorem dX0_pushPages_60 : decode cX0_pushPages 60 = .ok (.iastore, 1) := by decide +kernel
theorem dX0_pushPages_61 : decode cX0_pushPages 61 = .ok (.iinc 4 1, 3) := by decide +kernel
theorem dX0_pushPages_64 : decode cX0_pushPages 64 = .ok (.goto (-59), 3) := by decide +kernel
theorem dX0_pushPages_67 : decode cX0_pushPages 67 = .ok (.iload_n 3, 1) := by decide +kernel
theorem dX0_pushPages_68 : decode cX0_pushPages 68 = .ok (.ireturn, 1) := by decide +kernel
theorem dX0_cutPages_0 : decode cX0_cutPages 0 = .ok (.iload_n 2, 1) := by decide +kernel
theorem dX0_cutPages_1 : decode cX0_cutPages 1 = .ok (.iload_n 1, 1) := by decide +kernel
theorem dX0_cutPages_2 : decode cX0_cutPages 2 = .ok (.isub, 1) := by decide +kernel
theorem dX0_cutPages_3 : decode cX0_cutPages 3 = .ok (.iconst 1, 1) := by decide +kernel
theorem dX0_cutPages_4 : decode cX0_cutPages 4 = .ok (.iadd, 1) := by decide +kernel
theorem dX0_cutPages_5 : decode cX0_cutPages 5 = .ok (.istore_n 3, 1) := by decide +kernel
theorem dX0_cutPages_6 : decode cX0_cutPages 6 = .ok (.iconst 0, 1) := by decide +kernel
theorem dX0_cutPages_7 : decode cX0_cutPages 7 = .ok (.istore 4, 2) := by decide +kernel
theorem dX0_cutPages_9 : decode cX0_cutPages 9 = .ok (.iconst 0, 1) := by decide +kernel
theorem dX0_cutPages_10 : decode cX0_cutPages 10 = .ok (.istore 5, 2) := by decide +kernel
theorem dX0_cutPages_12 : decode cX0_cutPages 12 = .ok (.iload 5, 2) := by decide +kernel
theorem dX0_cutPages_14 : decode cX0_cutPages 14 = .ok (.aload_n 0, 1) := by decide +kernel
theorem dX0_cutPages_15 : decode cX0_cutPages 15 = .ok (.getfield 35, 3) := by decide +kernel
theorem dX0_cutPages_18 : decode cX0_cutPages 18 = .ok (.if_icmp .ge 119, 3) := by decide +kernel
theorem dX0_cutPages_21 : decode cX0_cutPages 21 = .ok (.aload_n 0, 1) := by decide +kernel
theorem dX0_cutPages_22 : decode cX0_cutPages 22 = .ok (.getfield 44, 3) := by decide +kernel
theorem dX0_cutPages_25 : decode cX0_cutPages 25 = .ok (.iload 5, 2) := by decide +kernel
theorem dX0_cutPages_27 : decode cX0_cutPages 27 = .ok (.iaload, 1) := by decide +kernel
theorem dX0_cutPages_28 : decode cX0_cutPages 28 = .ok (.iload_n 1, 1) := by decide +kernel
theorem dX0_cutPages_29 : decode cX0_cutPages 29 = .ok (.if_icmp .ge 13, 3) := by decide +kernel
theorem dX0_cutPages_32 : decode cX0_cutPages 32 = .ok (.aload_n 0, 1) := by decide +kernel
theorem dX0_cutPages_33 : decode cX0_cutPages 33 = .ok (.getfield 44, 3) := by decide +kernel
theorem dX0_cutPages_36 : decode cX0_cutPages 36 = .ok (.iload 5, 2) := by decide +kernel
theorem dX0_cutPages_38 : decode cX0_cutPages 38 = .ok (.iaload, 1) := by decide +kernel
theorem dX0_cutPages_39 : decode cX0_cutPages 39 = .ok (.goto 16, 3) := by decide +kernel
theorem dX0_cutPages_42 : decode cX0_cutPages 42 = .ok (.aload_n 0, 1) := by decide +kernel
theorem dX0_cutPages_43 : decode cX0_cutPages 43 = .ok (.getfield 44, 3) := by decide +kernel
theorem dX0_cutPages_46 : decode cX0_cutPages 46 = .ok (.iload 5, 2) := by decide +kernel
theorem dX0_cutPages_48 : decode cX0_cutPages 48 = .ok (.iaload, 1) := by decide +kernel
theorem dX0_cutPages_49 : decode cX0_cutPages 49 = .ok (.iload_n 3, 1) := by decide +kernel
theorem dX0_cutPages_50 : decode cX0_cutPages 50 = .ok (.isub, 1) := by decide +kernel
theorem dX0_cutPages_51 : decode cX0_cutPages 51 = .ok (.iload_n 1, 1) := by decide +kernel
theorem dX0_cutPages_52 : decode cX0_cutPages 52 = .ok (.invokestatic 85, 3) := by decide +kernel
theorem dX0_cutPages_55 : decode cX0_cutPages 55 = .ok (.istore 6, 2) := by decide +kernel
theorem dX0_cutPages_57 : decode cX0_cutPages 57 = .ok (.aload_n 0, 1) := by decide +kernel
theorem dX0_cutPages_58 : decode cX0_cutPages 58 = .ok (.getfield 47, 3) := by decide +kernel
theorem dX0_cutPages_61 : decode cX0_cutPages 61 = .ok (.iload 5, 2) := by decide +kernel
theorem dX0_cutPages_63 : decode cX0_cutPages 63 = .ok (.iaload, 1) := by decide +kernel
theorem dX0_cutPages_64 : decode cX0_cutPages 64 = .ok (.iload_n 2, 1) := by decide +kernel
theorem dX0_cutPages_65 : decode cX0_cutPages 65 = .ok (.if_icmp .le 15, 3) := by decide +kernel
theorem dX0_cutPages_68 : decode cX0_cutPages 68 = .ok (.aload_n 0, 1) := by decide +kernel
theorem dX0_cutPages_69 : decode cX0_cutPages 69 = .ok (.getfield 47, 3) := by decide +kernel
theorem dX0_cutPages_72 : decode cX0_cutPages 72 = .ok (.iload 5, 2) := by decide +kernel
theorem dX0_cutPages_74 : decode cX0_cutPages 74 = .ok (.iaload, 1) := by decide +kernel
theorem dX0_cutPages_75 : decode cX0_cutPages 75 = .ok (.iload_n 3, 1) := by decide +kernel
theorem dX0_cutPages_76 : decode cX0_cutPages 76 = .ok (.isub, 1) := by decide +kernel
theorem dX0_cutPages_77 : decode cX0_cutPages 77 = .ok (.goto 16, 3) := by decide +kernel
theorem dX0_cutPages_80 : decode cX0_cutPages 80 = .ok (.aload_n 0, 1) := by decide +kernel
theorem dX0_cutPages_81 : decode cX0_cutPages 81 = .ok (.getfield 47, 3) := by decide +kernel
theorem dX0_cutPages_84 : decode cX0_cutPages 84 = .ok (.iload 5, 2) := by decide +kernel
theorem dX0_cutPages_86 : decode cX0_cutPages 86 = .ok (.iaload, 1) := by decide +kernel
theorem dX0_cutPages_87 : decode cX0_cutPages 87 = .ok (.iload_n 1, 1) := by decide +kernel
theorem dX0_cutPages_88 : decode cX0_cutPages 88 = .ok (.iconst 1, 1) := by decide +kernel
theorem dX0_cutPages_89 : decode cX0_cutPages 89 = .ok (.isub, 1) := by decide +kernel
theorem dX0_cutPages_90 : decode cX0_cutPages 90 = .ok (.invokestatic 91, 3) := by decide +kernel
theorem dX0_cutPages_93 : decode cX0_cutPages 93 = .ok (.istore 7, 2) := by decide +kernel
theorem dX0_cutPages_95 : decode cX0_cutPages 95 = .ok (.iload 6, 2) := by decide +kernel
theorem dX0_cutPages_97 : decode cX0_cutPages 97 = .ok (.iload 7, 2) := by decide +kernel
theorem dX0_cutPages_99 : decode cX0_cutPages 99 = .ok (.if_icmp .gt 32, 3) := by decide +kernel
theorem dX0_cutPages_102 : decode cX0_cutPages 102 = .ok (.aload_n 0, 1) := by decide +kernel
theorem dX0_cutPages_103 : decode cX0_cutPages 103 = .ok (.iload 5, 2) := by decide +kernel
theorem dX0_cutPages_105 : decode cX0_cutPages 105 = .ok (.iload 4, 2) := by decide +kernel
theorem dX0_cutPages_107 : decode cX0_cutPages 107 = .ok (.invokevirtual 68, 3) := by decide +kernel
theorem dX0_cutPages_110 : decode cX0_cutPages 110 = .ok (.aload_n 0, 1) := by decide +kernel
theorem dX0_cutPages_111 : decode cX0_cutPages 111 = .ok (.getfield 44, 3) := by decide +kernel
theorem dX0_cutPages_114 : decode cX0_cutPages 114 = .ok (.iload 4, 2) := by decide +kernel
theorem dX0_cutPages_116 : decode cX0_cutPages 116 = .ok (.iload 6, 2) := by decide +kernel
theorem dX0_cutPages_118 : decode cX0_cutPages 118 = .ok (.iastore, 1) := by decide +kernel
theorem dX0_cutPages_119 : decode cX0_cutPages 119 = .ok (.aload_n 0, 1) := by decide +kernel
theorem dX0_cutPages_120 : decode cX0_cutPages 120 = .ok (.getfield 47, 3) := by decide +kernel
theorem dX0_cutPages_123 : decode cX0_cutPages 123 = .ok (.iload 4, 2) := by decide +kernel
theorem dX0_cutPages_125 : decode cX0_cutPages 125 = .ok (.iload 7, 2) := by decide +kernel
theorem dX0_cutPages_127 : decode cX0_cutPages 127 = .ok (.iastore, 1) := by decide +kernel
theorem dX0_cutPages_128 : decode cX0_cutPages 128 = .ok (.iinc 4 1, 3) := by decide +kernel
theorem dX0_cutPages_131 : decode cX0_cutPages 131 = .ok (.iinc 5 1, 3) := by decide +kernel
theorem dX0_cutPages_134 : decode cX0_cutPages 134 = .ok (.goto (-122), 3) := by decide +kernel
theorem dX0_cutPages_137 : decode cX0_cutPages 137 = .ok (.aload_n 0, 1) := by decide +kernel
theorem dX0_cutPages_138 : decode cX0_cutPages 138 = .ok (.getfield 35, 3) := by decide +kernel
theorem dX0_cutPages_141 : decode cX0_cutPages 141 = .ok (.iload 4, 2) := by decide +kernel
theorem dX0_cutPages_143 : decode cX0_cutPages 143 = .ok (.isub, 1) := by decide +kernel
theorem dX0_cutPages_144 : decode cX0_cutPages 144 = .ok (.istore 5, 2) := by decide +kernel
theorem dX0_cutPages_146 : decode cX0_cutPages 146 = .ok (.aload_n 0, 1) := by decide +kernel
theorem dX0_cutPages_147 : decode cX0_cutPages 147 = .ok (.iload 4, 2) := by decide +kernel
theorem dX0_cutPages_149 : decode cX0_cutPages 149 = .ok (.putfield 35, 3) := by decide +kernel
theorem dX0_cutPages_152 : decode cX0_cutPages 152 = .ok (.iload 5, 2) := by decide +kernel
theorem dX0_cutPages_154 : decode cX0_cutPages 154 = .ok (.ireturn, 1) := by decide +kernel
theorem dX0_subsMissing_0 : decode cX0_subsMissing 0 = .ok (.iconst 0, 1) := by decide +kernel
theorem dX0_subsMissing_1 : decode cX0_subsMissing 1 = .ok (.istore_n 3, 1) := by decide +kernel
theorem dX0_subsMissing_2 : decode cX0_subsMissing 2 = .ok (.iconst 0, 1) := by decide +kernel
theorem dX0_subsMissing_3 : decode cX0_subsMissing 3 = .ok (.istore 4, 2) := by decide +kernel
theorem dX0_subsMissing_5 : decode cX0_subsMissing 5 = .ok (.iload 4, 2) := by decide +kernel
theorem dX0_subsMissing_7 : decode cX0_subsMissing 7 = .ok (.aload_n 0, 1) := by decide +kernel
theorem dX0_subsMissing_8 : decode cX0_subsMissing 8 = .ok (.getfield 19, 3) := by decide +kernel
theorem dX0_subsMissing_11 : decode cX0_subsMissing 11 = .ok (.iload_n 2, 1) := by decide +kernel
theorem dX0_subsMissing_12 : decode cX0_subsMissing 12 = .ok (.iaload, 1) := by decide +kernel
theorem dX0_subsMissing_13 : decode cX0_subsMissing 13 = .ok (.if_icmp .ge 28, 3) := by decide +kernel
theorem dX0_subsMissing_16 : decode cX0_subsMissing 16 = .ok (.aload_n 0, 1) := by decide +kernel
theorem dX0_subsMissing_17 : decode cX0_subsMissing 17 = .ok (.iload_n 1, 1) := by decide +kernel
theorem dX0_subsMissing_18 : decode cX0_subsMissing 18 = .ok (.aload_n 0, 1) := by decide +kernel
theorem dX0_subsMissing_19 : decode cX0_subsMissing 19 = .ok (.iload_n 2, 1) := by decide +kernel
theorem dX0_subsMissing_20 : decode cX0_subsMissing 20 = .ok (.iload 4, 2) := by decide +kernel
theorem dX0_subsMissing_22 : decode cX0_subsMissing 22 = .ok (.invokevirtual 94, 3) := by decide +kernel
theorem dX0_subsMissing_25 : decode cX0_subsMissing 25 = .ok (.invokevirtual 98, 3) := by decide +kernel
theorem dX0_subsMissing_28 : decode cX0_subsMissing 28 = .ok (.iconst (-1), 1) := by decide +kernel
theorem dX0_subsMissing_29 : decode cX0_subsMissing 29 = .ok (.if_icmp .ne 6, 3) := by decide +kernel
theorem dX0_subsMissing_32 : decode cX0_subsMissing 32 = .ok (.iinc 3 1, 3) := by decide +kernel
theorem dX0_subsMissing_35 : decode cX0_subsMissing 35 = .ok (.iinc 4 1, 3) := by decide +kernel
theorem dX0_subsMissing_38 : decode cX0_subsMissing 38 = .ok (.goto (-33), 3) := by decide +kernel
theorem dX0_subsMissing_41 : decode cX0_subsMissing 41 = .ok (.iload_n 3, 1) := by decide +kernel
theorem dX0_subsMissing_42 : decode cX0_subsMissing 42 = .ok (.ireturn, 1) := by decide +kernel
theorem dX0_joinMarks_0 : decode cX0_joinMarks 0 = .ok (.aload_n 0, 1) := by decide +kernel
theorem dX0_joinMarks_1 : decode cX0_joinMarks 1 = .ok (.iload_n 2, 1) := by decide +kernel
theorem dX0_joinMarks_2 : decode cX0_joinMarks 2 = .ok (.iconst (-1), 1) := by decide +kernel
theorem dX0_joinMarks_3 : decode cX0_joinMarks 3 = .ok (.iload_n 1, 1) := by decide +kernel
theorem dX0_joinMarks_4 : decode cX0_joinMarks 4 = .ok (.iconst (-1), 1) := by decide +kernel
theorem dX0_joinMarks_5 : decode cX0_joinMarks 5 = .ok (.invokevirtual 102, 3) := by decide +kernel
theorem dX0_joinMarks_8 : decode cX0_joinMarks 8 = .ok (.iconst 0, 1) := by decide +kernel
theorem dX0_joinMarks_9 : decode cX0_joinMarks 9 = .ok (.istore_n 3, 1) := by decide +kernel
theorem dX0_joinMarks_10 : decode cX0_joinMarks 10 = .ok (.iload_n 3, 1) := by decide +kernel
theorem dX0_joinMarks_11 : decode cX0_joinMarks 11 = .ok (.aload_n 0, 1) := by decide +kernel
theorem dX0_joinMarks_12 : decode cX0_joinMarks 12 = .ok (.getfield 19, 3) := by decide +kernel
theorem dX0_joinMarks_15 : decode cX0_joinMarks 15 = .ok (.iload_n 2, 1) := by decide +kernel
theorem dX0_joinMarks_16 : decode cX0_joinMarks 16 = .ok (.iaload, 1) := by decide +kernel
theorem dX0_joinMarks_17 : decode cX0_joinMarks 17 = .ok (.if_icmp .ge 51, 3) := by decide +kernel
theorem dX0_joinMarks_20 : decode cX0_joinMarks 20 = .ok (.aload_n 0, 1) := by decide +kernel
theorem dX0_joinMarks_21 : decode cX0_joinMarks 21 = .ok (.iload_n 2, 1) := by decide +kernel
theorem dX0_joinMarks_22 : decode cX0_joinMarks 22 = .ok (.iload_n 3, 1) := by decide +kernel
theorem dX0_joinMarks_23 : decode cX0_joinMarks 23 = .ok (.invokevirtual 94, 3) := by decide +kernel
theorem dX0_joinMarks_26 : decode cX0_joinMarks 26 = .ok (.lstore 4, 2) := by decide +kernel
theorem dX0_joinMarks_28 : decode cX0_joinMarks 28 = .ok (.aload_n 0, 1) := by decide +kernel
theorem dX0_joinMarks_29 : decode cX0_joinMarks 29 = .ok (.iload_n 1, 1) := by decide +kernel
theorem dX0_joinMarks_30 : decode cX0_joinMarks 30 = .ok (.lload 4, 2) := by decide +kernel
theorem dX0_joinMarks_32 : decode cX0_joinMarks 32 = .ok (.invokevirtual 98, 3) := by decide +kernel
theorem dX0_joinMarks_35 : decode cX0_joinMarks 35 = .ok (.istore 6, 2) := by decide +kernel
theorem dX0_joinMarks_37 : decode cX0_joinMarks 37 = .ok (.aload_n 0, 1) := by decide +kernel
theorem dX0_joinMarks_38 : decode cX0_joinMarks 38 = .ok (.iload_n 2, 1) := by decide +kernel
theorem dX0_joinMarks_39 : decode cX0_joinMarks 39 = .ok (.iload_n 3, 1) := by decide +kernel
theorem dX0_joinMarks_40 : decode cX0_joinMarks 40 = .ok (.iload_n 1, 1) := by decide +kernel
theorem dX0_joinMarks_41 : decode cX0_joinMarks 41 = .ok (.iload 6, 2) := by decide +kernel
theorem dX0_joinMarks_43 : decode cX0_joinMarks 43 = .ok (.iconst (-1), 1) := by decide +kernel
theorem dX0_joinMarks_44 : decode cX0_joinMarks 44 = .ok (.if_icmp .ne 13, 3) := by decide +kernel
theorem dX0_joinMarks_47 : decode cX0_joinMarks 47 = .ok (.aload_n 0, 1) := by decide +kernel
theorem dX0_joinMarks_48 : decode cX0_joinMarks 48 = .ok (.iload_n 1, 1) := by decide +kernel
theorem dX0_joinMarks_49 : decode cX0_joinMarks 49 = .ok (.lload 4, 2) := by decide +kernel
theorem dX0_joinMarks_51 : decode cX0_joinMarks 51 = .ok (.invokevirtual 106, 3) := by decide +kernel
theorem dX0_joinMarks_54 : decode cX0_joinMarks 54 = .ok (.goto 5, 3) := by decide +kernel
theorem dX0_joinMarks_57 : decode cX0_joinMarks 57 = .ok (.iload 6, 2) := by decide +kernel
theorem dX0_joinMarks_59 : decode cX0_joinMarks 59 = .ok (.invokevirtual 102, 3) := by decide +kernel
theorem dX0_joinMarks_62 : decode cX0_joinMarks 62 = .ok (.iinc 3 1, 3) := by decide +kernel
theorem dX0_joinMarks_65 : decode cX0_joinMarks 65 = .ok (.goto (-55), 3) := by decide +kernel
theorem dX0_joinMarks_68 : decode cX0_joinMarks 68 = .ok (.aload_n 0, 1) := by decide +kernel
theorem dX0_joinMarks_69 : decode cX0_joinMarks 69 = .ok (.getfield 19, 3) := by decide +kernel
theorem dX0_joinMarks_72 : decode cX0_joinMarks 72 = .ok (.iload_n 2, 1) := by decide +kernel
theorem dX0_joinMarks_73 : decode cX0_joinMarks 73 = .ok (.iconst 0, 1) := by decide +kernel
theorem dX0_joinMarks_74 : decode cX0_joinMarks 74 = .ok (.iastore, 1) := by decide +kernel
theorem dX0_joinMarks_75 : decode cX0_joinMarks 75 = .ok (.return_, 1) := by decide +kernel
theorem dX0_giveMarks_0 : decode cX0_giveMarks 0 = .ok (.iconst 0, 1) := by decide +kernel
theorem dX0_giveMarks_1 : decode cX0_giveMarks 1 = .ok (.istore 5, 2) := by decide +kernel
theorem dX0_giveMarks_3 : decode cX0_giveMarks 3 = .ok (.iload 5, 2) := by decide +kernel
theorem dX0_giveMarks_5 : decode cX0_giveMarks 5 = .ok (.aload_n 0, 1) := by decide +kernel
theorem dX0_giveMarks_6 : decode cX0_giveMarks 6 = .ok (.getfield 35, 3) := by decide +kernel
theorem dX0_giveMarks_9 : decode cX0_giveMarks 9 = .ok (.if_icmp .ge 48, 3) := by decide +kernel
theorem dX0_giveMarks_12 : decode cX0_giveMarks 12 = .ok (.aload_n 0, 1) := by decide +kernel
theorem dX0_giveMarks_13 : decode cX0_giveMarks 13 = .ok (.getfield 38, 3) := by decide +kernel
theorem dX0_giveMarks_16 : decode cX0_giveMarks 16 = .ok (.iload 5, 2) := by decide +kernel
theorem dX0_giveMarks_18 : decode cX0_giveMarks 18 = .ok (.iaload, 1) := by decide +kernel
theorem dX0_giveMarks_19 : decode cX0_giveMarks 19 = .ok (.iload_n 1, 1) := by decide +kernel
theorem dX0_giveMarks_20 : decode cX0_giveMarks 20 = .ok (.if_icmp .ne 31, 3) := by decide +kernel
theorem dX0_giveMarks_23 : decode cX0_giveMarks 23 = .ok (.aload_n 0, 1) := by decide +kernel
theorem dX0_giveMarks_24 : decode cX0_giveMarks 24 = .ok (.getfield 41, 3) := by decide +kernel
theorem dX0_giveMarks_27 : decode cX0_giveMarks 27 = .ok (.iload 5, 2) := by decide +kernel
theorem dX0_giveMarks_29 : decode cX0_giveMarks 29 = .ok (.iaload, 1) := by decide +kernel
theorem dX0_giveMarks_30 : decode cX0_giveMarks 30 = .ok (.iload_n 2, 1) := by decide +kernel
theorem dX0_giveMarks_31 : decode cX0_giveMarks 31 = .ok (.if_icmp .ne 20, 3) := by decide +kernel
theorem dX0_giveMarks_34 : decode cX0_giveMarks 34 = .ok (.aload_n 0, 1) := by decide +kernel
theorem dX0_giveMarks_35 : decode cX0_giveMarks 35 = .ok (.getfield 38, 3) := by decide +kernel
theorem dX0_giveMarks_38 : decode cX0_giveMarks 38 = .ok (.iload 5, 2) := by decide +kernel
theorem dX0_giveMarks_40 : decode cX0_giveMarks 40 = .ok (.iload_n 3, 1) := by decide +kernel
theorem dX0_giveMarks_41 : decode cX0_giveMarks 41 = .ok (.iastore, 1) := by decide +kernel
theorem dX0_giveMarks_42 : decode cX0_giveMarks 42 = .ok (.aload_n 0, 1) := by decide +kernel
theorem dX0_giveMarks_43 : decode cX0_giveMarks 43 = .ok (.getfield 41, 3) := by decide +kernel
theorem dX0_giveMarks_46 : decode cX0_giveMarks 46 = .ok (.iload 5, 2) := by decide +kernel
theorem dX0_giveMarks_48 : decode cX0_giveMarks 48 = .ok (.iload 4, 2) := by decide +kernel
theorem dX0_giveMarks_50 : decode cX0_giveMarks 50 = .ok (.iastore, 1) := by decide +kernel
theorem dX0_giveMarks_51 : decode cX0_giveMarks 51 = .ok (.iinc 5 1, 3) := by decide +kernel
theorem dX0_giveMarks_54 : decode cX0_giveMarks 54 = .ok (.goto (-51), 3) := by decide +kernel
theorem dX0_giveMarks_57 : decode cX0_giveMarks 57 = .ok (.return_, 1) := by decide +kernel
theorem dX0_joinRest_0 : decode cX0_joinRest 0 = .ok (.aload_n 0, 1) := by decide +kernel
theorem dX0_joinRest_1 : decode cX0_joinRest 1 = .ok (.getfield 29, 3) := by decide +kernel
theorem dX0_joinRest_4 : decode cX0_joinRest 4 = .ok (.iload_n 1, 1) := by decide +kernel
theorem dX0_joinRest_5 : decode cX0_joinRest 5 = .ok (.dup2, 1) := by decide +kernel
theorem dX0_joinRest_6 : decode cX0_joinRest 6 = .ok (.iaload, 1) := by decide +kernel
theorem dX0_joinRest_7 : decode cX0_joinRest 7 = .ok (.aload_n 0, 1) := by decide +kernel
theorem dX0_joinRest_8 : decode cX0_joinRest 8 = .ok (.getfield 29, 3) := by decide +kernel
theorem dX0_joinRest_11 : decode cX0_joinRest 11 = .ok (.iload_n 2, 1) := by decide +kernel
theorem dX0_joinRest_12 : decode cX0_joinRest 12 = .ok (.iaload, 1) := by decide +kernel
theorem dX0_joinRest_13 : decode cX0_joinRest 13 = .ok (.iconst 1, 1) := by decide +kernel
theorem dX0_joinRest_14 : decode cX0_joinRest 14 = .ok (.iload_n 1, 1) := by decide +kernel
theorem dX0_joinRest_15 : decode cX0_joinRest 15 = .ok (.ishl, 1) := by decide +kernel
theorem dX0_joinRest_16 : decode cX0_joinRest 16 = .ok (.iconst (-1), 1) := by decide +kernel
theorem dX0_joinRest_17 : decode cX0_joinRest 17 = .ok (.ixor, 1) := by decide +kernel
theorem dX0_joinRest_18 : decode cX0_joinRest 18 = .ok (.iand, 1) := by decide +kernel
theorem dX0_joinRest_19 : decode cX0_joinRest 19 = .ok (.ior, 1) := by decide +kernel
theorem dX0_joinRest_20 : decode cX0_joinRest 20 = .ok (.iastore, 1) := by decide +kernel
theorem dX0_joinRest_21 : decode cX0_joinRest 21 = .ok (.aload_n 0, 1) := by decide +kernel
theorem dX0_joinRest_22 : decode cX0_joinRest 22 = .ok (.getfield 29, 3) := by decide +kernel
theorem dX0_joinRest_25 : decode cX0_joinRest 25 = .ok (.iload_n 2, 1) := by decide +kernel
theorem dX0_joinRest_26 : decode cX0_joinRest 26 = .ok (.iconst 0, 1) := by decide +kernel
theorem dX0_joinRest_27 : decode cX0_joinRest 27 = .ok (.iastore, 1) := by decide +kernel
theorem dX0_joinRest_28 : decode cX0_joinRest 28 = .ok (.aload_n 0, 1) := by decide +kernel
theorem dX0_joinRest_29 : decode cX0_joinRest 29 = .ok (.getfield 32, 3) := by decide +kernel
theorem dX0_joinRest_32 : decode cX0_joinRest 32 = .ok (.iload_n 1, 1) := by decide +kernel
theorem dX0_joinRest_33 : decode cX0_joinRest 33 = .ok (.aload_n 0, 1) := by decide +kernel
theorem dX0_joinRest_34 : decode cX0_joinRest 34 = .ok (.getfield 32, 3) := by decide +kernel
theorem dX0_joinRest_37 : decode cX0_joinRest 37 = .ok (.iload_n 1, 1) := by decide +kernel
theorem dX0_joinRest_38 : decode cX0_joinRest 38 = .ok (.iaload, 1) := by decide +kernel
theorem dX0_joinRest_39 : decode cX0_joinRest 39 = .ok (.aload_n 0, 1) := by decide +kernel
theorem dX0_joinRest_40 : decode cX0_joinRest 40 = .ok (.getfield 32, 3) := by decide +kernel
theorem dX0_joinRest_43 : decode cX0_joinRest 43 = .ok (.iload_n 2, 1) := by decide +kernel
theorem dX0_joinRest_44 : decode cX0_joinRest 44 = .ok (.iaload, 1) := by decide +kernel
theorem dX0_joinRest_45 : decode cX0_joinRest 45 = .ok (.iadd, 1) := by decide +kernel
theorem dX0_joinRest_46 : decode cX0_joinRest 46 = .ok (.bipush 99, 2) := by decide +kernel
theorem dX0_joinRest_48 : decode cX0_joinRest 48 = .ok (.invokestatic 91, 3) := by decide +kernel
theorem dX0_joinRest_51 : decode cX0_joinRest 51 = .ok (.iastore, 1) := by decide +kernel
theorem dX0_joinRest_52 : decode cX0_joinRest 52 = .ok (.aload_n 0, 1) := by decide +kernel
theorem dX0_joinRest_53 : decode cX0_joinRest 53 = .ok (.getfield 32, 3) := by decide +kernel
theorem dX0_joinRest_56 : decode cX0_joinRest 56 = .ok (.iload_n 2, 1) := by decide +kernel
theorem dX0_joinRest_57 : decode cX0_joinRest 57 = .ok (.iconst 0, 1) := by decide +kernel
theorem dX0_joinRest_58 : decode cX0_joinRest 58 = .ok (.iastore, 1) := by decide +kernel
theorem dX0_joinRest_59 : decode cX0_joinRest 59 = .ok (.aload_n 0, 1) := by decide +kernel
theorem dX0_joinRest_60 : decode cX0_joinRest 60 = .ok (.getfield 26, 3) := by decide +kernel
theorem dX0_joinRest_63 : decode cX0_joinRest 63 = .ok (.iload_n 2, 1) := by decide +kernel
theorem dX0_joinRest_64 : decode cX0_joinRest 64 = .ok (.iload_n 1, 1) := by decide +kernel
theorem dX0_joinRest_65 : decode cX0_joinRest 65 = .ok (.iastore, 1) := by decide +kernel
theorem dX0_joinRest_66 : decode cX0_joinRest 66 = .ok (.return_, 1) := by decide +kernel
theorem dX1_init_0 : decode cX1_init 0 = .ok (.aload_n 0, 1) := by decide +kernel
theorem dX1_init_1 : decode cX1_init 1 = .ok (.invokespecial 3, 3) := by decide +kernel
theorem dX1_init_4 : decode cX1_init 4 = .ok (.aload_n 0, 1) := by decide +kernel
theorem dX1_init_5 : decode cX1_init 5 = .ok (.iconst 0, 1) := by decide +kernel
theorem dX1_init_6 : decode cX1_init 6 = .ok (.putfield 9, 3) := by decide +kernel
theorem dX1_init_9 : decode cX1_init 9 = .ok (.aload_n 0, 1) := by decide +kernel
theorem dX1_init_10 : decode cX1_init 10 = .ok (.bipush 16, 2) := by decide +kernel
theorem dX1_init_12 : decode cX1_init 12 = .ok (.newarray .int, 2) := by decide +kernel
theorem dX1_init_14 : decode cX1_init 14 = .ok (.putfield 15, 3) := by decide +kernel
theorem dX1_init_17 : decode cX1_init 17 = .ok (.aload_n 0, 1) := by decide +kernel
theorem dX1_init_18 : decode cX1_init 18 = .ok (.bipush 48, 2) := by decide +kernel
theorem dX1_init_20 : decode cX1_init 20 = .ok (.newarray .int, 2) := by decide +kernel
theorem dX1_init_22 : decode cX1_init 22 = .ok (.putfield 19, 3) := by decide +kernel
theorem dX1_init_25 : decode cX1_init 25 = .ok (.aload_n 0, 1) := by decide +kernel
theorem dX1_init_26 : decode cX1_init 26 = .ok (.bipush 48, 2) := by decide +kernel
theorem dX1_init_28 : decode cX1_init 28 = .ok (.newarray .int, 2) := by decide +kernel
theorem dX1_init_30 : decode cX1_init 30 = .ok (.putfield 22, 3) := by decide +kernel
theorem dX1_init_33 : decode cX1_init 33 = .ok (.aload_n 0, 1) := by decide +kernel
theorem dX1_init_34 : decode cX1_init 34 = .ok (.sipush 3417, 3) := by decide +kernel
theorem dX1_init_37 : decode cX1_init 37 = .ok (.newarray .int, 2) := by decide +kernel
theorem dX1_init_39 : decode cX1_init 39 = .ok (.putfield 25, 3) := by decide +kernel
theorem dX1_init_42 : decode cX1_init 42 = .ok (.return_, 1) := by decide +kernel
theorem dX1_clear_0 : decode cX1_clear 0 = .ok (.iconst 0, 1) := by decide +kernel
theorem dX1_clear_1 : decode cX1_clear 1 = .ok (.istore_n 2, 1) := by decide +kernel
theorem dX1_clear_2 : decode cX1_clear 2 = .ok (.iload_n 2, 1) := by decide +kernel
theorem dX1_clear_3 : decode cX1_clear 3 = .ok (.iconst 3, 1) := by decide +kernel
theorem dX1_clear_4 : decode cX1_clear 4 = .ok (.if_icmp .ge 32, 3) := by decide +kernel
theorem dX1_clear_7 : decode cX1_clear 7 = .ok (.aload_n 0, 1) := by decide +kernel
theorem dX1_clear_8 : decode cX1_clear 8 = .ok (.getfield 19, 3) := by decide +kernel
theorem dX1_clear_11 : decode cX1_clear 11 = .ok (.iload_n 1, 1) := by decide +kernel
theorem dX1_clear_12 : decode cX1_clear 12 = .ok (.iconst 3, 1) := by decide +kernel
theorem dX1_clear_13 : decode cX1_clear 13 = .ok (.imul, 1) := by decide +kernel
theorem dX1_clear_14 : decode cX1_clear 14 = .ok (.iload_n 2, 1) := by decide +kernel
theorem dX1_clear_15 : decode cX1_clear 15 = .ok (.iadd, 1) := by decide +kernel
theorem dX1_clear_16 : decode cX1_clear 16 = .ok (.iconst 0, 1) := by decide +kernel
theorem dX1_clear_17 : decode cX1_clear 17 = .ok (.iastore, 1) := by decide +kernel
theorem dX1_clear_18 : decode cX1_clear 18 = .ok (.aload_n 0, 1) := by decide +kernel
theorem dX1_clear_19 : decode cX1_clear 19 = .ok (.getfield 22, 3) := by decide +kernel
theorem dX1_clear_22 : decode cX1_clear 22 = .ok (.iload_n 1, 1) := by decide +kernel
theorem dX1_clear_23 : decode cX1_clear 23 = .ok (.iconst 3, 1) := by decide +kernel
theorem dX1_clear_24 : decode cX1_clear 24 = .ok (.imul, 1) := by decide +kernel
theorem dX1_clear_25 : decode cX1_clear 25 = .ok (.iload_n 2, 1) := by decide +kernel
theorem dX1_clear_26 : decode cX1_clear 26 = .ok (.iadd, 1) := by decide +kernel
theorem dX1_clear_27 : decode cX1_clear 27 = .ok (.ldc 28, 2) := by decide +kernel
theorem dX1_clear_29 : decode cX1_clear 29 = .ok (.iastore, 1) := by decide +kernel
theorem dX1_clear_30 : decode cX1_clear 30 = .ok (.iinc 2 1, 3) := by decide +kernel
theorem dX1_clear_33 : decode cX1_clear 33 = .ok (.goto (-31), 3) := by decide +kernel
theorem dX1_clear_36 : decode cX1_clear 36 = .ok (.return_, 1) := by decide +kernel
theorem dX1_offer_0 : decode cX1_offer 0 = .ok (.aload_n 0, 1) := by decide +kernel
theorem dX1_offer_1 : decode cX1_offer 1 = .ok (.getfield 19, 3) := by decide +kernel
theorem dX1_offer_4 : decode cX1_offer 4 = .ok (.iload_n 1, 1) := by decide +kernel
theorem dX1_offer_5 : decode cX1_offer 5 = .ok (.iconst 3, 1) := by decide +kernel
theorem dX1_offer_6 : decode cX1_offer 6 = .ok (.imul, 1) := by decide +kernel
theorem dX1_offer_7 : decode cX1_offer 7 = .ok (.iload_n 2, 1) := by decide +kernel
theorem dX1_offer_8 : decode cX1_offer 8 = .ok (.iadd, 1) := by decide +kernel
theorem dX1_offer_9 : decode cX1_offer 9 = .ok (.iload_n 3, 1) := by decide +kernel
theorem dX1_offer_10 : decode cX1_offer 10 = .ok (.iastore, 1) := by decide +kernel
theorem dX1_offer_11 : decode cX1_offer 11 = .ok (.aload_n 0, 1) := by decide +kernel
theorem dX1_offer_12 : decode cX1_offer 12 = .ok (.getfield 22, 3) := by decide +kernel
theorem dX1_offer_15 : decode cX1_offer 15 = .ok (.iload_n 1, 1) := by decide +kernel
theorem dX1_offer_16 : decode cX1_offer 16 = .ok (.iconst 3, 1) := by decide +kernel
theorem dX1_offer_17 : decode cX1_offer 17 = .ok (.imul, 1) := by decide +kernel
theorem dX1_offer_18 : decode cX1_offer 18 = .ok (.iload_n 2, 1) := by decide +kernel
theorem dX1_offer_19 : decode cX1_offer 19 = .ok (.iadd, 1) := by decide +kernel
theorem dX1_offer_20 : decode cX1_offer 20 = .ok (.iload 4, 2) := by decide +kernel
theorem dX1_offer_22 : decode cX1_offer 22 = .ok (.iastore, 1) := by decide +kernel
theorem dX1_offer_23 : decode cX1_offer 23 = .ok (.return_, 1) := by decide +kernel
theorem dX1_choose_0 : decode cX1_choose 0 = .ok (.iload_n 2, 1) := by decide +kernel
theorem dX1_choose_1 : decode cX1_choose 1 = .ok (.aload_n 0, 1) := by decide +kernel
theorem dX1_choose_2 : decode cX1_choose 2 = .ok (.iload_n 1, 1) := by decide +kernel
theorem dX1_choose_3 : decode cX1_choose 3 = .ok (.invokevirtual 29, 3) := by decide +kernel
theorem dX1_choose_6 : decode cX1_choose 6 = .ok (.invokestatic 33, 3) := by decide +kernel
theorem dX1_choose_9 : decode cX1_choose 9 = .ok (.istore_n 3, 1) := by decide +kernel
theorem dX1_choose_10 : decode cX1_choose 10 = .ok (.iconst 0, 1) := by decide +kernel
theorem dX1_choose_11 : decode cX1_choose 11 = .ok (.istore 4, 2) := by decide +kernel
theorem dX1_choose_13 : decode cX1_choose 13 = .ok (.iload 4, 2) := by decide +kernel
theorem dX1_choose_15 : decode cX1_choose 15 = .ok (.iload_n 3, 1) := by decide +kernel
theorem dX1_choose_16 : decode cX1_choose 16 = .ok (.if_icmp .gt 33, 3) := by decide +kernel
theorem dX1_choose_19 : decode cX1_choose 19 = .ok (.aload_n 0, 1) := by decide +kernel
theorem dX1_choose_20 : decode cX1_choose 20 = .ok (.getfield 25, 3) := by decide +kernel
theorem dX1_choose_23 : decode cX1_choose 23 = .ok (.iload_n 1, 1) := by decide +kernel
theorem dX1_choose_24 : decode cX1_choose 24 = .ok (.sipush 201, 3) := by decide +kernel
theorem dX1_choose_27 : decode cX1_choose 27 = .ok (.imul, 1) := by decide +kernel
theorem dX1_choose_28 : decode cX1_choose 28 = .ok (.iload 4, 2) := by decide +kernel
theorem dX1_choose_30 : decode cX1_choose 30 = .ok (.iadd, 1) := by decide +kernel
theorem dX1_choose_31 : decode cX1_choose 31 = .ok (.iload 4, 2) := by decide +kernel
theorem dX1_choose_33 : decode cX1_choose 33 = .ok (.ifCond .ne 7, 3) := by decide +kernel
theorem dX1_choose_36 : decode cX1_choose 36 = .ok (.iconst 0, 1) := by decide +kernel
theorem dX1_choose_37 : decode cX1_choose 37 = .ok (.goto 5, 3) := by decide +kernel
theorem dX1_choose_40 : decode cX1_choose 40 = .ok (.ldc 28, 2) := by decide +kernel
theorem dX1_choose_42 : decode cX1_choose 42 = .ok (.iastore, 1) := by decide +kernel
theorem dX1_choose_43 : decode cX1_choose 43 = .ok (.iinc 4 1, 3) := by decide +kernel
theorem dX1_choose_46 : decode cX1_choose 46 = .ok (.goto (-33), 3) := by decide +kernel
theorem dX1_choose_49 : decode cX1_choose 49 = .ok (.iload_n 1, 1) := by decide +kernel
theorem dX1_choose_50 : decode cX1_choose 50 = .ok (.iconst 1, 1) := by decide +kernel
theorem dX1_choose_51 : decode cX1_choose 51 = .ok (.isub, 1) := by decide +kernel
theorem dX1_choose_52 : decode cX1_choose 52 = .ok (.istore 4, 2) := by decide +kernel
theorem dX1_choose_54 : decode cX1_choose 54 = .ok (.iload 4, 2) := by decide +kernel
theorem dX1_choose_56 : decode cX1_choose 56 = .ok (.ifCond .lt 46, 3) := by decide +kernel
theorem dX1_choose_59 : decode cX1_choose 59 = .ok (.iconst 0, 1) := by decide +kernel
theorem dX1_choose_60 : decode cX1_choose 60 = .ok (.istore 5, 2) := by decide +kernel
theorem dX1_choose_62 : decode cX1_choose 62 = .ok (.iload 5, 2) := by decide +kernel
theorem dX1_choose_64 : decode cX1_choose 64 = .ok (.iload_n 3, 1) := by decide +kernel
theorem dX1_choose_65 : decode cX1_choose 65 = .ok (.if_icmp .gt 31, 3) := by decide +kernel
theorem dX1_choose_68 : decode cX1_choose 68 = .ok (.aload_n 0, 1) := by decide +kernel
theorem dX1_choose_69 : decode cX1_choose 69 = .ok (.getfield 25, 3) := by decide +kernel
theorem dX1_choose_72 : decode cX1_choose 72 = .ok (.iload 4, 2) := by decide +kernel
theorem dX1_choose_74 : decode cX1_choose 74 = .ok (.sipush 201, 3) := by decide +kernel
theorem dX1_choose_77 : decode cX1_choose 77 = .ok (.imul, 1) := by decide +kernel
theorem dX1_choose_78 : decode cX1_choose 78 = .ok (.iload 5, 2) := by decide +kernel
theorem dX1_choose_80 : decode cX1_choose 80 = .ok (.iadd, 1) := by decide +kernel
theorem dX1_choose_81 : decode cX1_choose 81 = .ok (.aload_n 0, 1) := by decide +kernel
theorem dX1_choose_82 : decode cX1_choose 82 = .ok (.iload 4, 2) := by decide +kernel
theorem dX1_choose_84 : decode cX1_choose 84 = .ok (.iload 5, 2) := by decide +kernel
theorem dX1_choose_86 : decode cX1_choose 86 = .ok (.invokevirtual 39, 3) := by decide +kernel
theorem dX1_choose_89 : decode cX1_choose 89 = .ok (.iastore, 1) := by decide +kernel
theorem dX1_choose_90 : decode cX1_choose 90 = .ok (.iinc 5 1, 3) := by decide +kernel
theorem dX1_choose_93 : decode cX1_choose 93 = .ok (.goto (-31), 3) := by decide +kernel
theorem dX1_choose_96 : decode cX1_choose 96 = .ok (.iinc 4 (-1), 3) := by decide +kernel
theorem dX1_choose_99 : decode cX1_choose 99 = .ok (.goto (-45), 3) := by decide +kernel
theorem dX1_choose_102 : decode cX1_choose 102 = .ok (.iconst 0, 1) := by decide +kernel
theorem dX1_choose_103 : decode cX1_choose 103 = .ok (.istore 4, 2) := by decide +kernel
theorem dX1_choose_105 : decode cX1_choose 105 = .ok (.iconst 1, 1) := by decide +kernel
theorem dX1_choose_106 : decode cX1_choose 106 = .ok (.istore 5, 2) := by decide +kernel
theorem dX1_choose_108 : decode cX1_choose 108 = .ok (.iload 5, 2) := by decide +kernel
theorem dX1_choose_110 : decode cX1_choose 110 = .ok (.iload_n 3, 1) := by decide +kernel
theorem dX1_choose_111 : decode cX1_choose 111 = .ok (.if_icmp .gt 30, 3) := by decide +kernel
theorem dX1_choose_114 : decode cX1_choose 114 = .ok (.aload_n 0, 1) := by decide +kernel
theorem dX1_choose_115 : decode cX1_choose 115 = .ok (.getfield 25, 3) := by decide +kernel
theorem dX1_choose_118 : decode cX1_choose 118 = .ok (.iload 5, 2) := by decide +kernel
theorem dX1_choose_120 : decode cX1_choose 120 = .ok (.iaload, 1) := by decide +kernel
theorem dX1_choose_121 : decode cX1_choose 121 = .ok (.aload_n 0, 1) := by decide +kernel
theorem dX1_choose_122 : decode cX1_choose 122 = .ok (.getfield 25, 3) := by decide +kernel
theorem dX1_choose_125 : decode cX1_choose 125 = .ok (.iload 4, 2) := by decide +kernel
theorem dX1_choose_127 : decode cX1_choose 127 = .ok (.iaload, 1) := by decide +kernel
theorem dX1_choose_128 : decode cX1_choose 128 = .ok (.if_icmp .ge 7, 3) := by decide +kernel
theorem dX1_choose_131 : decode cX1_choose 131 = .ok (.iload 5, 2) := by decide +kernel
theorem dX1_choose_133 : decode cX1_choose 133 = .ok (.istore 4, 2) := by decide +kernel
theorem dX1_choose_135 : decode cX1_choose 135 = .ok (.iinc 5 1, 3) := by decide +kernel
theorem dX1_choose_138 : decode cX1_choose 138 = .ok (.goto (-30), 3) := by decide +kernel
theorem dX1_choose_141 : decode cX1_choose 141 = .ok (.aload_n 0, 1) := by decide +kernel
theorem dX1_choose_142 : decode cX1_choose 142 = .ok (.aload_n 0, 1) := by decide +kernel
theorem dX1_choose_143 : decode cX1_choose 143 = .ok (.getfield 25, 3) := by decide +kernel
theorem dX1_choose_146 : decode cX1_choose 146 = .ok (.iload 4, 2) := by decide +kernel
theorem dX1_choose_148 : decode cX1_choose 148 = .ok (.iaload, 1) := by decide +kernel
theorem dX1_choose_149 : decode cX1_choose 149 = .ok (.putfield 9, 3) := by decide +kernel
theorem dX1_choose_152 : decode cX1_choose 152 = .ok (.aload_n 0, 1) := by decide +kernel
theorem dX1_choose_153 : decode cX1_choose 153 = .ok (.iload_n 1, 1) := by decide +kernel
theorem dX1_choose_154 : decode cX1_choose 154 = .ok (.iload 4, 2) := by decide +kernel
theorem dX1_choose_156 : decode cX1_choose 156 = .ok (.invokevirtual 42, 3) := by decide +kernel
theorem dX1_choose_159 : decode cX1_choose 159 = .ok (.return_, 1) := by decide +kernel
theorem dX1_mostNeeded_0 : decode cX1_mostNeeded 0 = .ok (.iconst 0, 1) := by decide +kernel
theorem dX1_mostNeeded_1 : decode cX1_mostNeeded 1 = .ok (.istore_n 2, 1) := by decide +kernel
theorem dX1_mostNeeded_2 : decode cX1_mostNeeded 2 = .ok (.iconst 0, 1) := by decide +kernel
theorem dX1_mostNeeded_3 : decode cX1_mostNeeded 3 = .ok (.istore_n 3, 1) := by decide +kernel
theorem dX1_mostNeeded_4 : decode cX1_mostNeeded 4 = .ok (.iload_n 3, 1) := by decide +kernel
theorem dX1_mostNeeded_5 : decode cX1_mostNeeded 5 = .ok (.iload_n 1, 1) := by decide +kernel
theorem dX1_mostNeeded_6 : decode cX1_mostNeeded 6 = .ok (.if_icmp .ge 33, 3) := by decide +kernel
theorem dX1_mostNeeded_9 : decode cX1_mostNeeded 9 = .ok (.iload_n 2, 1) := by decide +kernel
theorem dX1_mostNeeded_10 : decode cX1_mostNeeded 10 = .ok (.aload_n 0, 1) := by decide +kernel
theorem dX1_mostNeeded_11 : decode cX1_mostNeeded 11 = .ok (.getfield 19, 3) := by decide +kernel
theorem dX1_mostNeeded_14 : decode cX1_mostNeeded 14 = .ok (.iload_n 3, 1) := by decide +kernel
theorem dX1_mostNeeded_15 : decode cX1_mostNeeded 15 = .ok (.iconst 3, 1) := by decide +kernel
theorem dX1_mostNeeded_16 : decode cX1_mostNeeded 16 = .ok (.imul, 1) := by decide +kernel
theorem dX1_mostNeeded_17 : decode cX1_mostNeeded 17 = .ok (.iaload, 1) := by decide +kernel
theorem dX1_mostNeeded_18 : decode cX1_mostNeeded 18 = .ok (.aload_n 0, 1) := by decide +kernel
theorem dX1_mostNeeded_19 : decode cX1_mostNeeded 19 = .ok (.getfield 19, 3) := by decide +kernel
theorem dX1_mostNeeded_22 : decode cX1_mostNeeded 22 = .ok (.iload_n 3, 1) := by decide +kernel
theorem dX1_mostNeeded_23 : decode cX1_mostNeeded 23 = .ok (.iconst 3, 1) := by decide +kernel
theorem dX1_mostNeeded_24 : decode cX1_mostNeeded 24 = .ok (.imul, 1) := by decide +kernel
theorem dX1_mostNeeded_25 : decode cX1_mostNeeded 25 = .ok (.iconst 1, 1) := by decide +kernel
theorem dX1_mostNeeded_26 : decode cX1_mostNeeded 26 = .ok (.iadd, 1) := by decide +kernel
theorem dX1_mostNeeded_27 : decode cX1_mostNeeded 27 = .ok (.iaload, 1) := by decide +kernel
theorem dX1_mostNeeded_28 : decode cX1_mostNeeded 28 = .ok (.invokestatic 46, 3) := by decide +kernel
theorem dX1_mostNeeded_31 : decode cX1_mostNeeded 31 = .ok (.iadd, 1) := by decide +kernel
theorem dX1_mostNeeded_32 : decode cX1_mostNeeded 32 = .ok (.istore_n 2, 1) := by decide +kernel
theorem dX1_mostNeeded_33 : decode cX1_mostNeeded 33 = .ok (.iinc 3 1, 3) := by decide +kernel
theorem dX1_mostNeeded_36 : decode cX1_mostNeeded 36 = .ok (.goto (-32), 3) := by decide +kernel
theorem dX1_mostNeeded_39 : decode cX1_mostNeeded 39 = .ok (.iload_n 2, 1) := by decide +kernel
theorem dX1_mostNeeded_40 : decode cX1_mostNeeded 40 = .ok (.ireturn, 1) := by decide +kernel
theorem dX1_leastFrom_0 : decode cX1_leastFrom 0 = .ok (.ldc 28, 2) := by decide +kernel
theorem dX1_leastFrom_2 : decode cX1_leastFrom 2 = .ok (.istore_n 3, 1) := by decide +kernel
theorem dX1_leastFrom_3 : decode cX1_leastFrom 3 = .ok (.iconst 0, 1) := by decide +kernel
theorem dX1_leastFrom_4 : decode cX1_leastFrom 4 = .ok (.istore 4, 2) := by decide +kernel
theorem dX1_leastFrom_6 : decode cX1_leastFrom 6 = .ok (.iload 4, 2) := by decide +kernel
theorem dX1_leastFrom_8 : decode cX1_leastFrom 8 = .ok (.iconst 3, 1) := by decide +kernel
theorem dX1_leastFrom_9 : decode cX1_leastFrom 9 = .ok (.if_icmp .ge 22, 3) := by decide +kernel
theorem dX1_leastFrom_12 : decode cX1_leastFrom 12 = .ok (.iload_n 3, 1) := by decide +kernel
theorem dX1_leastFrom_13 : decode cX1_leastFrom 13 = .ok (.aload_n 0, 1) := by decide +kernel
theorem dX1_leastFrom_14 : decode cX1_leastFrom 14 = .ok (.iload_n 1, 1) := by decide +kernel
theorem dX1_leastFrom_15 : decode cX1_leastFrom 15 = .ok (.iload 4, 2) := by decide +kernel
theorem dX1_leastFrom_17 : decode cX1_leastFrom 17 = .ok (.iload_n 2, 1) := by decide +kernel
theorem dX1_leastFrom_18 : decode cX1_leastFrom 18 = .ok (.invokevirtual 49, 3) := by decide +kernel
theorem dX1_leastFrom_21 : decode cX1_leastFrom 21 = .ok (.invokestatic 33, 3) := by decide +kernel
theorem dX1_leastFrom_24 : decode cX1_leastFrom 24 = .ok (.istore_n 3, 1) := by decide +kernel
theorem dX1_leastFrom_25 : decode cX1_leastFrom 25 = .ok (.iinc 4 1, 3) := by decide +kernel
theorem dX1_leastFrom_28 : decode cX1_leastFrom 28 = .ok (.goto (-22), 3) := by decide +kernel
theorem dX1_leastFrom_31 : decode cX1_leastFrom 31 = .ok (.iload_n 3, 1) := by decide +kernel
theorem dX1_leastFrom_32 : decode cX1_leastFrom 32 = .ok (.ireturn, 1) := by decide +kernel
theorem dX1_lossBy_0 : decode cX1_lossBy 0 = .ok (.iload_n 3, 1) := by decide +kernel
theorem dX1_lossBy_1 : decode cX1_lossBy 1 = .ok (.aload_n 0, 1) := by decide +kernel
theorem dX1_lossBy_2 : decode cX1_lossBy 2 = .ok (.getfield 19, 3) := by decide +kernel
theorem dX1_lossBy_5 : decode cX1_lossBy 5 = .ok (.iload_n 1, 1) := by decide +kernel
theorem dX1_lossBy_6 : decode cX1_lossBy 6 = .ok (.iconst 3, 1) := by decide +kernel
theorem dX1_lossBy_7 : decode cX1_lossBy 7 = .ok (.imul, 1) := by decide +kernel
theorem dX1_lossBy_8 : decode cX1_lossBy 8 = .ok (.iload_n 2, 1) := by decide +kernel
theorem dX1_lossBy_9 : decode cX1_lossBy 9 = .ok (.iadd, 1) := by decide +kernel
theorem dX1_lossBy_10 : decode cX1_lossBy 10 = .ok (.iaload, 1) := by decide +kernel
theorem dX1_lossBy_11 : decode cX1_lossBy 11 = .ok (.isub, 1) := by decide +kernel
theorem dX1_lossBy_12 : decode cX1_lossBy 12 = .ok (.istore 4, 2) := by decide +kernel
theorem dX1_lossBy_14 : decode cX1_lossBy 14 = .ok (.aload_n 0, 1) := by decide +kernel
theorem dX1_lossBy_15 : decode cX1_lossBy 15 = .ok (.getfield 22, 3) := by decide +kernel
theorem dX1_lossBy_18 : decode cX1_lossBy 18 = .ok (.iload_n 1, 1) := by decide +kernel
theorem dX1_lossBy_19 : decode cX1_lossBy 19 = .ok (.iconst 3, 1) := by decide +kernel
theorem dX1_lossBy_20 : decode cX1_lossBy 20 = .ok (.imul, 1) := by decide +kernel
theorem dX1_lossBy_21 : decode cX1_lossBy 21 = .ok (.iload_n 2, 1) := by decide +kernel
theorem dX1_lossBy_22 : decode cX1_lossBy 22 = .ok (.iadd, 1) := by decide +kernel
theorem dX1_lossBy_23 : decode cX1_lossBy 23 = .ok (.iaload, 1) := by decide +kernel
theorem dX1_lossBy_24 : decode cX1_lossBy 24 = .ok (.istore 5, 2) := by decide +kernel
theorem dX1_lossBy_26 : decode cX1_lossBy 26 = .ok (.iload 4, 2) := by decide +kernel
theorem dX1_lossBy_28 : decode cX1_lossBy 28 = .ok (.ifCond .lt 10, 3) := by decide +kernel
theorem dX1_lossBy_31 : decode cX1_lossBy 31 = .ok (.iload 5, 2) := by decide +kernel
theorem dX1_lossBy_33 : decode cX1_lossBy 33 = .ok (.ldc 28, 2) := by decide +kernel
theorem dX1_lossBy_35 : decode cX1_lossBy 35 = .ok (.if_icmp .ne 6, 3) := by decide +kernel
theorem dX1_lossBy_38 : decode cX1_lossBy 38 = .ok (.ldc 28, 2) := by decide +kernel
theorem dX1_lossBy_40 : decode cX1_lossBy 40 = .ok (.ireturn, 1) := by decide +kernel
theorem dX1_lossBy_41 : decode cX1_lossBy 41 = .ok (.ldc 28, 2) := by decide +kernel
theorem dX1_lossBy_43 : decode cX1_lossBy 43 = .ok (.iload 5, 2) := by decide +kernel
theorem dX1_lossBy_45 : decode cX1_lossBy 45 = .ok (.aload_n 0, 1) := by decide +kernel
theorem dX1_lossBy_46 : decode cX1_lossBy 46 = .ok (.getfield 25, 3) := by decide +kernel
theorem dX1_lossBy_49 : decode cX1_lossBy 49 = .ok (.iload_n 1, 1) := by decide +kernel
theorem dX1_lossBy_50 : decode cX1_lossBy 50 = .ok (.iconst 1, 1) := by decide +kernel
theorem dX1_lossBy_51 : decode cX1_lossBy 51 = .ok (.iadd, 1) := by decide +kernel
theorem dX1_lossBy_52 : decode cX1_lossBy 52 = .ok (.sipush 201, 3) := by decide +kernel
theorem dX1_lossBy_55 : decode cX1_lossBy 55 = .ok (.imul, 1) := by decide +kernel
theorem dX1_lossBy_56 : decode cX1_lossBy 56 = .ok (.iload 4, 2) := by decide +kernel
theorem dX1_lossBy_58 : decode cX1_lossBy 58 = .ok (.iadd, 1) := by decide +kernel
theorem dX1_lossBy_59 : decode cX1_lossBy 59 = .ok (.iaload, 1) := by decide +kernel
theorem dX1_lossBy_60 : decode cX1_lossBy 60 = .ok (.iadd, 1) := by decide +kernel
theorem dX1_lossBy_61 : decode cX1_lossBy 61 = .ok (.invokestatic 33, 3) := by decide +kernel
theorem dX1_lossBy_64 : decode cX1_lossBy 64 = .ok (.ireturn, 1) := by decide +kernel
theorem dX1_follow_0 : decode cX1_follow 0 = .ok (.iload_n 2, 1) := by decide +kernel
theorem dX1_follow_1 : decode cX1_follow 1 = .ok (.istore_n 3, 1) := by decide +kernel
theorem dX1_follow_2 : decode cX1_follow 2 = .ok (.iconst 0, 1) := by decide +kernel
theorem dX1_follow_3 : decode cX1_follow 3 = .ok (.istore 4, 2) := by decide +kernel
theorem dX1_follow_5 : decode cX1_follow 5 = .ok (.iload 4, 2) := by decide +kernel
theorem dX1_follow_7 : decode cX1_follow 7 = .ok (.iload_n 1, 1) := by decide +kernel
theorem dX1_follow_8 : decode cX1_follow 8 = .ok (.if_icmp .ge 77, 3) := by decide +kernel
theorem dX1_follow_11 : decode cX1_follow 11 = .ok (.iconst 0, 1) := by decide +kernel
theorem dX1_follow_12 : decode cX1_follow 12 = .ok (.istore 5, 2) := by decide +kernel
theorem dX1_follow_14 : decode cX1_follow 14 = .ok (.iload 5, 2) := by decide +kernel
theorem dX1_follow_16 : decode cX1_follow 16 = .ok (.iconst 2, 1) := by decide +kernel
theorem dX1_follow_17 : decode cX1_follow 17 = .ok (.if_icmp .ge 34, 3) := by decide +kernel
theorem dX1_follow_20 : decode cX1_follow 20 = .ok (.aload_n 0, 1) := by decide +kernel
theorem dX1_follow_21 : decode cX1_follow 21 = .ok (.iload 4, 2) := by decide +kernel
theorem dX1_follow_23 : decode cX1_follow 23 = .ok (.iload 5, 2) := by decide +kernel
theorem dX1_follow_25 : decode cX1_follow 25 = .ok (.iload_n 3, 1) := by decide +kernel
theorem dX1_follow_26 : decode cX1_follow 26 = .ok (.invokevirtual 49, 3) := by decide +kernel
theorem dX1_follow_29 : decode cX1_follow 29 = .ok (.aload_n 0, 1) := by decide +kernel
theorem dX1_follow_30 : decode cX1_follow 30 = .ok (.getfield 25, 3) := by decide +kernel
theorem dX1_follow_33 : decode cX1_follow 33 = .ok (.iload 4, 2) := by decide +kernel
theorem dX1_follow_35 : decode cX1_follow 35 = .ok (.sipush 201, 3) := by decide +kernel
theorem dX1_follow_38 : decode cX1_follow 38 = .ok (.imul, 1) := by decide +kernel
theorem dX1_follow_39 : decode cX1_follow 39 = .ok (.iload_n 3, 1) := by decide +kernel
theorem dX1_follow_40 : decode cX1_follow 40 = .ok (.iadd, 1) := by decide +kernel
theorem dX1_follow_41 : decode cX1_follow 41 = .ok (.iaload, 1) := by decide +kernel
theorem dX1_follow_42 : decode cX1_follow 42 = .ok (.if_icmp .eq 9, 3) := by decide +kernel
theorem dX1_follow_45 : decode cX1_follow 45 = .ok (.iinc 5 1, 3) := by decide +kernel
theorem dX1_follow_48 : decode cX1_follow 48 = .ok (.goto (-34), 3) := by decide +kernel
theorem dX1_follow_51 : decode cX1_follow 51 = .ok (.aload_n 0, 1) := by decide +kernel
theorem dX1_follow_52 : decode cX1_follow 52 = .ok (.getfield 15, 3) := by decide +kernel
theorem dX1_follow_55 : decode cX1_follow 55 = .ok (.iload 4, 2) := by decide +kernel
theorem dX1_follow_57 : decode cX1_follow 57 = .ok (.iload 5, 2) := by decide +kernel
theorem dX1_follow_59 : decode cX1_follow 59 = .ok (.iastore, 1) := by decide +kernel
theorem dX1_follow_60 : decode cX1_follow 60 = .ok (.iconst 0, 1) := by decide +kernel
theorem dX1_follow_61 : decode cX1_follow 61 = .ok (.iload_n 3, 1) := by decide +kernel
theorem dX1_follow_62 : decode cX1_follow 62 = .ok (.aload_n 0, 1) := by decide +kernel
theorem dX1_follow_63 : decode cX1_follow 63 = .ok (.getfield 19, 3) := by decide +kernel
theorem dX1_follow_66 : decode cX1_follow 66 = .ok (.iload 4, 2) := by decide +kernel
theorem dX1_follow_68 : decode cX1_follow 68 = .ok (.iconst 3, 1) := by decide +kernel
theorem dX1_follow_69 : decode cX1_follow 69 = .ok (.imul, 1) := by decide +kernel
theorem dX1_follow_70 : decode cX1_follow 70 = .ok (.iload 5, 2) := by decide +kernel
theorem dX1_follow_72 : decode cX1_follow 72 = .ok (.iadd, 1) := by decide +kernel
theorem dX1_follow_73 : decode cX1_follow 73 = .ok (.iaload, 1) := by decide +kernel
theorem dX1_follow_74 : decode cX1_follow 74 = .ok (.isub, 1) := by decide +kernel
theorem dX1_follow_75 : decode cX1_follow 75 = .ok (.invokestatic 46, 3) := by decide +kernel
theorem dX1_follow_78 : decode cX1_follow 78 = .ok (.istore_n 3, 1) := by decide +kernel
theorem dX1_follow_79 : decode cX1_follow 79 = .ok (.iinc 4 1, 3) := by decide +kernel
theorem dX1_follow_82 : decode cX1_follow 82 = .ok (.goto (-77), 3) := by decide +kernel
theorem dX1_follow_85 : decode cX1_follow 85 = .ok (.return_, 1) := by decide +kernel
theorem dX2_init_0 : decode cX2_init 0 = .ok (.aload_n 0, 1) := by decide +kernel
theorem dX2_init_1 : decode cX2_init 1 = .ok (.invokespecial 3, 3) := by decide +kernel
theorem dX2_init_4 : decode cX2_init 4 = .ok (.aload_n 0, 1) := by decide +kernel
theorem dX2_init_5 : decode cX2_init 5 = .ok (.bipush 16, 2) := by decide +kernel
theorem dX2_init_7 : decode cX2_init 7 = .ok (.newarray .long, 2) := by decide +kernel
theorem dX2_init_9 : decode cX2_init 9 = .ok (.putfield 9, 3) := by decide +kernel
theorem dX2_init_12 : decode cX2_init 12 = .ok (.aload_n 0, 1) := by decide +kernel
theorem dX2_init_13 : decode cX2_init 13 = .ok (.bipush 16, 2) := by decide +kernel
theorem dX2_init_15 : decode cX2_init 15 = .ok (.newarray .long, 2) := by decide +kernel
theorem dX2_init_17 : decode cX2_init 17 = .ok (.putfield 15, 3) := by decide +kernel
theorem dX2_init_20 : decode cX2_init 20 = .ok (.return_, 1) := by decide +kernel
theorem dX2_gather_0 : decode cX2_gather 0 = .ok (.iconst 0, 1) := by decide +kernel
theorem dX2_gather_1 : decode cX2_gather 1 = .ok (.istore_n 2, 1) := by decide +kernel
theorem dX2_gather_2 : decode cX2_gather 2 = .ok (.iload_n 2, 1) := by decide +kernel
theorem dX2_gather_3 : decode cX2_gather 3 = .ok (.bipush 16, 2) := by decide +kernel
theorem dX2_gather_5 : decode cX2_gather 5 = .ok (.if_icmp .ge 23, 3) := by decide +kernel
theorem dX2_gather_8 : decode cX2_gather 8 = .ok (.aload_n 0, 1) := by decide +kernel
theorem dX2_gather_9 : decode cX2_gather 9 = .ok (.getfield 9, 3) := by decide +kernel
theorem dX2_gather_12 : decode cX2_gather 12 = .ok (.iload_n 2, 1) := by decide +kernel
theorem dX2_gather_13 : decode cX2_gather 13 = .ok (.lconst 0, 1) := by decide +kernel
theorem dX2_gather_14 : decode cX2_gather 14 = .ok (.lastore, 1) := by decide +kernel
theorem dX2_gather_15 : decode cX2_gather 15 = .ok (.aload_n 0, 1) := by decide +kernel
theorem dX2_gather_16 : decode cX2_gather 16 = .ok (.getfield 15, 3) := by decide +kernel
theorem dX2_gather_19 : decode cX2_gather 19 = .ok (.iload_n 2, 1) := by decide +kernel
theorem dX2_gather_20 : decode cX2_gather 20 = .ok (.lconst 0, 1) := by decide +kernel
theorem dX2_gather_21 : decode cX2_gather 21 = .ok (.lastore, 1) := by decide +kernel
theorem dX2_gather_22 : decode cX2_gather 22 = .ok (.iinc 2 1, 3) := by decide +kernel
theorem dX2_gather_25 : decode cX2_gather 25 = .ok (.goto (-23), 3) := by decide +kernel
theorem dX2_gather_28 : decode cX2_gather 28 = .ok (.iconst 0, 1) := by decide +kernel
theorem dX2_gather_29 : decode cX2_gather 29 = .ok (.istore_n 2, 1) := by decide +kernel
theorem dX2_gather_30 : decode cX2_gather 30 = .ok (.iload_n 2, 1) := by decide +kernel
theorem dX2_gather_31 : decode cX2_gather 31 = .ok (.aload_n 1, 1) := by decide +kernel
theorem dX2_gather_32 : decode cX2_gather 32 = .ok (.getfield 18, 3) := by decide +kernel
theorem dX2_gather_35 : decode cX2_gather 35 = .ok (.if_icmp .ge 90, 3) := by decide +kernel
theorem dX2_gather_38 : decode cX2_gather 38 = .ok (.aload_n 1, 1) := by decide +kernel
theorem dX2_gather_39 : decode cX2_gather 39 = .ok (.getfield 24, 3) := by decide +kernel
theorem dX2_gather_42 : decode cX2_gather 42 = .ok (.iload_n 2, 1) := by decide +kernel
theorem dX2_gather_43 : decode cX2_gather 43 = .ok (.iaload, 1) := by decide +kernel
theorem dX2_gather_44 : decode cX2_gather 44 = .ok (.istore_n 3, 1) := by decide +kernel
theorem dX2_gather_45 : decode cX2_gather 45 = .ok (.aload_n 1, 1) := by decide +kernel
theorem dX2_gather_46 : decode cX2_gather 46 = .ok (.getfield 28, 3) := by decide +kernel
theorem dX2_gather_49 : decode cX2_gather 49 = .ok (.iload_n 2, 1) := by decide +kernel
theorem dX2_gather_50 : decode cX2_gather 50 = .ok (.iaload, 1) := by decide +kernel
theorem dX2_gather_51 : decode cX2_gather 51 = .ok (.istore 4, 2) := by decide +kernel
theorem dX2_gather_53 : decode cX2_gather 53 = .ok (.aload_n 0, 1) := by decide +kernel
theorem dX2_gather_54 : decode cX2_gather 54 = .ok (.getfield 9, 3) := by decide +kernel
theorem dX2_gather_57 : decode cX2_gather 57 = .ok (.aload_n 1, 1) := by decide +kernel
theorem dX2_gather_58 : decode cX2_gather 58 = .ok (.getfield 31, 3) := by decide +kernel
theorem dX2_gather_61 : decode cX2_gather 61 = .ok (.iload_n 2, 1) := by decide +kernel
theorem dX2_gather_62 : decode cX2_gather 62 = .ok (.iaload, 1) := by decide +kernel
theorem dX2_gather_63 : decode cX2_gather 63 = .ok (.dup2, 1) := by decide +kernel
theorem dX2_gather_64 : decode cX2_gather 64 = .ok (.laload, 1) := by decide +kernel
theorem dX2_gather_65 : decode cX2_gather 65 = .ok (.iload 4, 2) := by decide +kernel
theorem dX2_gather_67 : decode cX2_gather 67 = .ok (.iconst 1, 1) := by decide +kernel
theorem dX2_gather_68 : decode cX2_gather 68 = .ok (.iadd, 1) := by decide +kernel
theorem dX2_gather_69 : decode cX2_gather 69 = .ok (.invokestatic 34, 3) := by decide +kernel
theorem dX2_gather_72 : decode cX2_gather 72 = .ok (.iload_n 3, 1) := by decide +kernel
theorem dX2_gather_73 : decode cX2_gather 73 = .ok (.invokestatic 34, 3) := by decide +kernel
theorem dX2_gather_76 : decode cX2_gather 76 = .ok (.ldc2_w 38, 3) := by decide +kernel
theorem dX2_gather_79 : decode cX2_gather 79 = .ok (.lxor, 1) := by decide +kernel
theorem dX2_gather_80 : decode cX2_gather 80 = .ok (.land, 1) := by decide +kernel
theorem dX2_gather_81 : decode cX2_gather 81 = .ok (.lor, 1) := by decide +kernel
theorem dX2_gather_82 : decode cX2_gather 82 = .ok (.lastore, 1) := by decide +kernel
theorem dX2_gather_83 : decode cX2_gather 83 = .ok (.aload_n 0, 1) := by decide +kernel
theorem dX2_gather_84 : decode cX2_gather 84 = .ok (.getfield 15, 3) := by decide +kernel
theorem dX2_gather_87 : decode cX2_gather 87 = .ok (.aload_n 1, 1) := by decide +kernel
theorem dX2_gather_88 : decode cX2_gather 88 = .ok (.getfield 31, 3) := by decide +kernel
theorem dX2_gather_91 : decode cX2_gather 91 = .ok (.iload_n 2, 1) := by decide +kernel
theorem dX2_gather_92 : decode cX2_gather 92 = .ok (.iaload, 1) := by decide +kernel
theorem dX2_gather_93 : decode cX2_gather 93 = .ok (.dup2, 1) := by decide +kernel
theorem dX2_gather_94 : decode cX2_gather 94 = .ok (.laload, 1) := by decide +kernel
theorem dX2_gather_95 : decode cX2_gather 95 = .ok (.iload 4, 2) := by decide +kernel
theorem dX2_gather_97 : decode cX2_gather 97 = .ok (.iconst 1, 1) := by decide +kernel
theorem dX2_gather_98 : decode cX2_gather 98 = .ok (.iadd, 1) := by decide +kernel
theorem dX2_gather_99 : decode cX2_gather 99 = .ok (.bipush 64, 2) := by decide +kernel
theorem dX2_gather_101 : decode cX2_gather 101 = .ok (.isub, 1) := by decide +kernel
theorem dX2_gather_102 : decode cX2_gather 102 = .ok (.invokestatic 34, 3) := by decide +kernel
theorem dX2_gather_105 : decode cX2_gather 105 = .ok (.iload_n 3, 1) := by decide +kernel
theorem dX2_gather_106 : decode cX2_gather 106 = .ok (.bipush 64, 2) := by decide +kernel
theorem dX2_gather_108 : decode cX2_gather 108 = .ok (.isub, 1) := by decide +kernel
theorem dX2_gather_109 : decode cX2_gather 109 = .ok (.invokestatic 34, 3) := by decide +kernel
theorem dX2_gather_112 : decode cX2_gather 112 = .ok (.ldc2_w 38, 3) := by decide +kernel
theorem dX2_gather_115 : decode cX2_gather 115 = .ok (.lxor, 1) := by decide +kernel
theorem dX2_gather_116 : decode cX2_gather 116 = .ok (.land, 1) := by decide +kernel
theorem dX2_gather_117 : decode cX2_gather 117 = .ok (.lor, 1) := by decide +kernel
theorem dX2_gather_118 : decode cX2_gather 118 = .ok (.lastore, 1) := by decide +kernel
theorem dX2_gather_119 : decode cX2_gather 119 = .ok (.iinc 2 1, 3) := by decide +kernel
theorem dX2_gather_122 : decode cX2_gather 122 = .ok (.goto (-92), 3) := by decide +kernel
theorem dX2_gather_125 : decode cX2_gather 125 = .ok (.return_, 1) := by decide +kernel
theorem dX2_below_0 : decode cX2_below 0 = .ok (.iload_n 0, 1) := by decide +kernel
theorem dX2_below_1 : decode cX2_below 1 = .ok (.ifCond .gt 5, 3) := by decide +kernel
theorem dX2_below_4 : decode cX2_below 4 = .ok (.lconst 0, 1) := by decide +kernel
theorem dX2_below_5 : decode cX2_below 5 = .ok (.lreturn, 1) := by decide +kernel
theorem dX2_below_6 : decode cX2_below 6 = .ok (.iload_n 0, 1) := by decide +kernel
theorem dX2_below_7 : decode cX2_below 7 = .ok (.bipush 64, 2) := by decide +kernel
theorem dX2_below_9 : decode cX2_below 9 = .ok (.if_icmp .lt 9, 3) := by decide +kernel
theorem dX2_below_12 : decode cX2_below 12 = .ok (.ldc2_w 38, 3) := by decide +kernel
theorem dX2_below_15 : decode cX2_below 15 = .ok (.goto 8, 3) := by decide +kernel
theorem dX2_below_18 : decode cX2_below 18 = .ok (.lconst 1, 1) := by decide +kernel
theorem dX2_below_19 : decode cX2_below 19 = .ok (.iload_n 0, 1) := by decide +kernel
theorem dX2_below_20 : decode cX2_below 20 = .ok (.lshl, 1) := by decide +kernel
theorem dX2_below_21 : decode cX2_below 21 = .ok (.lconst 1, 1) := by decide +kernel
theorem dX2_below_22 : decode cX2_below 22 = .ok (.lsub, 1) := by decide +kernel
theorem dX2_below_23 : decode cX2_below 23 = .ok (.lreturn, 1) := by decide +kernel
theorem dX2_sizeOf_0 : decode cX2_sizeOf 0 = .ok (.lconst 0, 1) := by decide +kernel
theorem dX2_sizeOf_1 : decode cX2_sizeOf 1 = .ok (.lstore_n 2, 1) := by decide +kernel
theorem dX2_sizeOf_2 : decode cX2_sizeOf 2 = .ok (.lconst 0, 1) := by decide +kernel
theorem dX2_sizeOf_3 : decode cX2_sizeOf 3 = .ok (.lstore 4, 2) := by decide +kernel
theorem dX2_sizeOf_5 : decode cX2_sizeOf 5 = .ok (.iconst 0, 1) := by decide +kernel
theorem dX2_sizeOf_6 : decode cX2_sizeOf 6 = .ok (.istore 6, 2) := by decide +kernel
theorem dX2_sizeOf_8 : decode cX2_sizeOf 8 = .ok (.iload 6, 2) := by decide +kernel
theorem dX2_sizeOf_10 : decode cX2_sizeOf 10 = .ok (.bipush 16, 2) := by decide +kernel
theorem dX2_sizeOf_12 : decode cX2_sizeOf 12 = .ok (.if_icmp .ge 40, 3) := by decide +kernel
theorem dX2_sizeOf_15 : decode cX2_sizeOf 15 = .ok (.iload_n 1, 1) := by decide +kernel
theorem dX2_sizeOf_16 : decode cX2_sizeOf 16 = .ok (.iload 6, 2) := by decide +kernel
theorem dX2_sizeOf_18 : decode cX2_sizeOf 18 = .ok (.invokestatic 40, 3) := by decide +kernel
theorem dX2_sizeOf_21 : decode cX2_sizeOf 21 = .ok (.ifCond .eq 25, 3) := by decide +kernel
theorem dX2_sizeOf_24 : decode cX2_sizeOf 24 = .ok (.lload_n 2, 1) := by decide +kernel
theorem dX2_sizeOf_25 : decode cX2_sizeOf 25 = .ok (.aload_n 0, 1) := by decide +kernel
theorem dX2_sizeOf_26 : decode cX2_sizeOf 26 = .ok (.getfield 9, 3) := by decide +kernel
theorem dX2_sizeOf_29 : decode cX2_sizeOf 29 = .ok (.iload 6, 2) := by decide +kernel
theorem dX2_sizeOf_31 : decode cX2_sizeOf 31 = .ok (.laload, 1) := by decide +kernel
theorem dX2_sizeOf_32 : decode cX2_sizeOf 32 = .ok (.lor, 1) := by decide +kernel
theorem dX2_sizeOf_33 : decode cX2_sizeOf 33 = .ok (.lstore_n 2, 1) := by decide +kernel
theorem dX2_sizeOf_34 : decode cX2_sizeOf 34 = .ok (.lload 4, 2) := by decide +kernel
theorem dX2_sizeOf_36 : decode cX2_sizeOf 36 = .ok (.aload_n 0, 1) := by decide +kernel
theorem dX2_sizeOf_37 : decode cX2_sizeOf 37 = .ok (.getfield 15, 3) := by decide +kernel
theorem dX2_sizeOf_40 : decode cX2_sizeOf 40 = .ok (.iload 6, 2) := by decide +kernel
theorem dX2_sizeOf_42 : decode cX2_sizeOf 42 = .ok (.laload, 1) := by decide +kernel
theorem dX2_sizeOf_43 : decode cX2_sizeOf 43 = .ok (.lor, 1) := by decide +kernel
theorem dX2_sizeOf_44 : decode cX2_sizeOf 44 = .ok (.lstore 4, 2) := by decide +kernel
theorem dX2_sizeOf_46 : decode cX2_sizeOf 46 = .ok (.iinc 6 1, 3) := by decide +kernel
theorem dX2_sizeOf_49 : decode cX2_sizeOf 49 = .ok (.goto (-41), 3) := by decide +kernel
theorem dX2_sizeOf_52 : decode cX2_sizeOf 52 = .ok (.lload_n 2, 1) := by decide +kernel
theorem dX2_sizeOf_53 : decode cX2_sizeOf 53 = .ok (.invokestatic 44, 3) := by decide +kernel
theorem dX2_sizeOf_56 : decode cX2_sizeOf 56 = .ok (.lload 4, 2) := by decide +kernel
theorem dX2_sizeOf_58 : decode cX2_sizeOf 58 = .ok (.invokestatic 44, 3) := by decide +kernel
theorem dX2_sizeOf_61 : decode cX2_sizeOf 61 = .ok (.iadd, 1) := by decide +kernel
theorem dX2_sizeOf_62 : decode cX2_sizeOf 62 = .ok (.ireturn, 1) := by decide +kernel
theorem dX2_hasTwin_0 : decode cX2_hasTwin 0 = .ok (.iconst 0, 1) := by decide +kernel
theorem dX2_hasTwin_1 : decode cX2_hasTwin 1 = .ok (.istore_n 3, 1) := by decide +kernel
theorem dX2_hasTwin_2 : decode cX2_hasTwin 2 = .ok (.iload_n 3, 1) := by decide +kernel
theorem dX2_hasTwin_3 : decode cX2_hasTwin 3 = .ok (.iload_n 2, 1) := by decide +kernel
theorem dX2_hasTwin_4 : decode cX2_hasTwin 4 = .ok (.if_icmp .ge 48, 3) := by decide +kernel
theorem dX2_hasTwin_7 : decode cX2_hasTwin 7 = .ok (.iload_n 3, 1) := by decide +kernel
theorem dX2_hasTwin_8 : decode cX2_hasTwin 8 = .ok (.iload_n 1, 1) := by decide +kernel
theorem dX2_hasTwin_9 : decode cX2_hasTwin 9 = .ok (.if_icmp .eq 37, 3) := by decide +kernel
theorem dX2_hasTwin_12 : decode cX2_hasTwin 12 = .ok (.aload_n 0, 1) := by decide +kernel
theorem dX2_hasTwin_13 : decode cX2_hasTwin 13 = .ok (.getfield 9, 3) := by decide +kernel
theorem dX2_hasTwin_16 : decode cX2_hasTwin 16 = .ok (.iload_n 3, 1) := by decide +kernel
theorem dX2_hasTwin_17 : decode cX2_hasTwin 17 = .ok (.laload, 1) := by decide +kernel
theorem dX2_hasTwin_18 : decode cX2_hasTwin 18 = .ok (.aload_n 0, 1) := by decide +kernel
theorem dX2_hasTwin_19 : decode cX2_hasTwin 19 = .ok (.getfield 9, 3) := by decide +kernel
theorem dX2_hasTwin_22 : decode cX2_hasTwin 22 = .ok (.iload_n 1, 1) := by decide +kernel
theorem dX2_hasTwin_23 : decode cX2_hasTwin 23 = .ok (.laload, 1) := by decide +kernel
theorem dX2_hasTwin_24 : decode cX2_hasTwin 24 = .ok (.lcmp, 1) := by decide +kernel
theorem dX2_hasTwin_25 : decode cX2_hasTwin 25 = .ok (.ifCond .ne 21, 3) := by decide +kernel
theorem dX2_hasTwin_28 : decode cX2_hasTwin 28 = .ok (.aload_n 0, 1) := by decide +kernel
theorem dX2_hasTwin_29 : decode cX2_hasTwin 29 = .ok (.getfield 15, 3) := by decide +kernel
theorem dX2_hasTwin_32 : decode cX2_hasTwin 32 = .ok (.iload_n 3, 1) := by decide +kernel
theorem dX2_hasTwin_33 : decode cX2_hasTwin 33 = .ok (.laload, 1) := by decide +kernel
theorem dX2_hasTwin_34 : decode cX2_hasTwin 34 = .ok (.aload_n 0, 1) := by decide +kernel
theorem dX2_hasTwin_35 : decode cX2_hasTwin 35 = .ok (.getfield 15, 3) := by decide +kernel
theorem dX2_hasTwin_38 : decode cX2_hasTwin 38 = .ok (.iload_n 1, 1) := by decide +kernel
theorem dX2_hasTwin_39 : decode cX2_hasTwin 39 = .ok (.laload, 1) := by decide +kernel
theorem dX2_hasTwin_40 : decode cX2_hasTwin 40 = .ok (.lcmp, 1) := by decide +kernel
theorem dX2_hasTwin_41 : decode cX2_hasTwin 41 = .ok (.ifCond .ne 5, 3) := by decide +kernel
theorem dX2_hasTwin_44 : decode cX2_hasTwin 44 = .ok (.iconst 1, 1) := by decide +kernel
theorem dX2_hasTwin_45 : decode cX2_hasTwin 45 = .ok (.ireturn, 1) := by decide +kernel
theorem dX2_hasTwin_46 : decode cX2_hasTwin 46 = .ok (.iinc 3 1, 3) := by decide +kernel
theorem dX2_hasTwin_49 : decode cX2_hasTwin 49 = .ok (.goto (-47), 3) := by decide +kernel
theorem dX2_hasTwin_52 : decode cX2_hasTwin 52 = .ok (.iconst 0, 1) := by decide +kernel
theorem dX2_hasTwin_53 : decode cX2_hasTwin 53 = .ok (.ireturn, 1) := by decide +kernel
theorem dX3_init_0 : decode cX3_init 0 = .ok (.aload_n 0, 1) := by decide +kernel
theorem dX3_init_1 : decode cX3_init 1 = .ok (.invokespecial 3, 3) := by decide +kernel
theorem dX3_init_4 : decode cX3_init 4 = .ok (.aload_n 0, 1) := by decide +kernel
theorem dX3_init_5 : decode cX3_init 5 = .ok (.iconst 0, 1) := by decide +kernel
theorem dX3_init_6 : decode cX3_init 6 = .ok (.putfield 9, 3) := by decide +kernel
theorem dX3_init_9 : decode cX3_init 9 = .ok (.aload_n 0, 1) := by decide +kernel
theorem dX3_init_10 : decode cX3_init 10 = .ok (.iconst 0, 1) := by decide +kernel
theorem dX3_init_11 : decode cX3_init 11 = .ok (.putfield 15, 3) := by decide +kernel
theorem dX3_init_14 : decode cX3_init 14 = .ok (.aload_n 0, 1) := by decide +kernel
theorem dX3_init_15 : decode cX3_init 15 = .ok (.iconst 0, 1) := by decide +kernel
theorem dX3_init_16 : decode cX3_init 16 = .ok (.putfield 18, 3) := by decide +kernel
theorem dX3_init_19 : decode cX3_init 19 = .ok (.aload_n 0, 1) := by decide +kernel
theorem dX3_init_20 : decode cX3_init 20 = .ok (.iconst 0, 1) := by decide +kernel
theorem dX3_init_21 : decode cX3_init 21 = .ok (.putfield 21, 3) := by decide +kernel
theorem dX3_init_24 : decode cX3_init 24 = .ok (.aload_n 0, 1) := by decide +kernel
theorem dX3_init_25 : decode cX3_init 25 = .ok (.bipush 10, 2) := by decide +kernel
theorem dX3_init_27 : decode cX3_init 27 = .ok (.newarray .int, 2) := by decide +kernel
theorem dX3_init_29 : decode cX3_init 29 = .ok (.putfield 24, 3) := by decide +kernel
theorem dX3_init_32 : decode cX3_init 32 = .ok (.aload_n 0, 1) := by decide +kernel
theorem dX3_init_33 : decode cX3_init 33 = .ok (.bipush 10, 2) := by decide +kernel
theorem dX3_init_35 : decode cX3_init 35 = .ok (.newarray .int, 2) := by decide +kernel
theorem dX3_init_37 : decode cX3_init 37 = .ok (.putfield 28, 3) := by decide +kernel
theorem dX3_init_40 : decode cX3_init 40 = .ok (.aload_n 0, 1) := by decide +kernel
theorem dX3_init_41 : decode cX3_init 41 = .ok (.bipush 10, 2) := by decide +kernel
theorem dX3_init_43 : decode cX3_init 43 = .ok (.newarray .int, 2) := by decide +kernel
theorem dX3_init_45 : decode cX3_init 45 = .ok (.putfield 31, 3) := by decide +kernel
theorem dX3_init_48 : decode cX3_init 48 = .ok (.return_, 1) := by decide +kernel
theorem dX3_postable_0 : decode cX3_postable 0 = .ok (.aload_n 1, 1) := by decide +kernel
theorem dX3_postable_1 : decode cX3_postable 1 = .ok (.invokevirtual 34, 3) := by decide +kernel
theorem dX3_postable_4 : decode cX3_postable 4 = .ok (.istore_n 2, 1) := by decide +kernel
theorem dX3_postable_5 : decode cX3_postable 5 = .ok (.iconst 0, 1) := by decide +kernel
theorem dX3_postable_6 : decode cX3_postable 6 = .ok (.istore_n 3, 1) := by decide +kernel
theorem dX3_postable_7 : decode cX3_postable 7 = .ok (.iconst 0, 1) := by decide +kernel
theorem dX3_postable_8 : decode cX3_postable 8 = .ok (.istore 4, 2) := by decide +kernel
theorem dX3_postable_10 : decode cX3_postable 10 = .ok (.iload 4, 2) := by decide +kernel
theorem dX3_postable_12 : decode cX3_postable 12 = .ok (.aload_n 1, 1) := by decide +kernel
theorem dX3_postable_13 : decode cX3_postable 13 = .ok (.getfield 40, 3) := by decide +kernel
theorem dX3_postable_16 : decode cX3_postable 16 = .ok (.if_icmp .ge 26, 3) := by decide +kernel
theorem dX3_postable_19 : decode cX3_postable 19 = .ok (.aload_n 1, 1) := by decide +kernel
theorem dX3_postable_20 : decode cX3_postable 20 = .ok (.iload 4, 2) := by decide +kernel
theorem dX3_postable_22 : decode cX3_postable 22 = .ok (.iload_n 2, 1) := by decide +kernel
theorem dX3_postable_23 : decode cX3_postable 23 = .ok (.invokevirtual 43, 3) := by decide +kernel
theorem dX3_postable_26 : decode cX3_postable 26 = .ok (.ifCond .le 10, 3) := by decide +kernel
theorem dX3_postable_29 : decode cX3_postable 29 = .ok (.iload_n 3, 1) := by decide +kernel
theorem dX3_postable_30 : decode cX3_postable 30 = .ok (.iconst 1, 1) := by decide +kernel
theorem dX3_postable_31 : decode cX3_postable 31 = .ok (.iload 4, 2) := by decide +kernel
theorem dX3_postable_33 : decode cX3_postable 33 = .ok (.ishl, 1) := by decide +kernel
theorem dX3_postable_34 : decode cX3_postable 34 = .ok (.ior, 1) := by decide +kernel
theorem dX3_postable_35 : decode cX3_postable 35 = .ok (.istore_n 3, 1) := by decide +kernel
theorem dX3_postable_36 : decode cX3_postable 36 = .ok (.iinc 4 1, 3) := by decide +kernel
theorem dX3_postable_39 : decode cX3_postable 39 = .ok (.goto (-29), 3) := by decide +kernel
theorem dX3_postable_42 : decode cX3_postable 42 = .ok (.iload_n 3, 1) := by decide +kernel
theorem dX3_postable_43 : decode cX3_postable 43 = .ok (.ireturn, 1) := by decide +kernel
theorem dX3_clear_0 : decode cX3_clear 0 = .ok (.aload_n 0, 1) := by decide +kernel
theorem dX3_clear_1 : decode cX3_clear 1 = .ok (.iconst 0, 1) := by decide +kernel
theorem dX3_clear_2 : decode cX3_clear 2 = .ok (.putfield 21, 3) := by decide +kernel
theorem dX3_clear_5 : decode cX3_clear 5 = .ok (.return_, 1) := by decide +kernel
theorem dX3_offer_0 : decode cX3_offer 0 = .ok (.aload_n 0, 1) := by decide +kernel
theorem dX3_offer_1 : decode cX3_offer 1 = .ok (.getfield 21, 3) := by decide +kernel
theorem dX3_offer_4 : decode cX3_offer 4 = .ok (.bipush 10, 2) := by decide +kernel
theorem dX3_offer_6 : decode cX3_offer 6 = .ok (.if_icmp .ge 43, 3) := by decide +kernel
theorem dX3_offer_9 : decode cX3_offer 9 = .ok (.aload_n 0, 1) := by decide +kernel
theorem dX3_offer_10 : decode cX3_offer 10 = .ok (.getfield 24, 3) := by decide +kernel
theorem dX3_offer_13 : decode cX3_offer 13 = .ok (.aload_n 0, 1) := by decide +kernel
theorem dX3_offer_14 : decode cX3_offer 14 = .ok (.getfield 21, 3) := by decide +kernel
theorem dX3_offer_17 : decode cX3_offer 17 = .ok (.iload_n 1, 1) := by decide +kernel
theorem dX3_offer_18 : decode cX3_offer 18 = .ok (.iastore, 1) := by decide +kernel
theorem dX3_offer_19 : decode cX3_offer 19 = .ok (.aload_n 0, 1) := by decide +kernel
theorem dX3_offer_20 : decode cX3_offer 20 = .ok (.getfield 28, 3) := by decide +kernel
theorem dX3_offer_23 : decode cX3_offer 23 = .ok (.aload_n 0, 1) := by decide +kernel
theorem dX3_offer_24 : decode cX3_offer 24 = .ok (.getfield 21, 3) := by decide +kernel
theorem dX3_offer_27 : decode cX3_offer 27 = .ok (.iload_n 2, 1) := by decide +kernel
theorem dX3_offer_28 : decode cX3_offer 28 = .ok (.iastore, 1) := by decide +kernel
theorem dX3_offer_29 : decode cX3_offer 29 = .ok (.aload_n 0, 1) := by decide +kernel
theorem dX3_offer_30 : decode cX3_offer 30 = .ok (.getfield 31, 3) := by decide +kernel
theorem dX3_offer_33 : decode cX3_offer 33 = .ok (.aload_n 0, 1) := by decide +kernel
theorem dX3_offer_34 : decode cX3_offer 34 = .ok (.getfield 21, 3) := by decide +kernel
theorem dX3_offer_37 : decode cX3_offer 37 = .ok (.iload_n 3, 1) := by decide +kernel
theorem dX3_offer_38 : decode cX3_offer 38 = .ok (.iastore, 1) := by decide +kernel
theorem dX3_offer_39 : decode cX3_offer 39 = .ok (.aload_n 0, 1) := by decide +kernel
theorem dX3_offer_40 : decode cX3_offer 40 = .ok (.dup, 1) := by decide +kernel
theorem dX3_offer_41 : decode cX3_offer 41 = .ok (.getfield 21, 3) := by decide +kernel
theorem dX3_offer_44 : decode cX3_offer 44 = .ok (.iconst 1, 1) := by decide +kernel
theorem dX3_offer_45 : decode cX3_offer 45 = .ok (.iadd, 1) := by decide +kernel
theorem dX3_offer_46 : decode cX3_offer 46 = .ok (.putfield 21, 3) := by decide +kernel
theorem dX3_offer_49 : decode cX3_offer 49 = .ok (.return_, 1) := by decide +kernel
theorem dX3_choose_0 : decode cX3_choose 0 = .ok (.iconst 0, 1) := by decide +kernel
theorem dX3_choose_1 : decode cX3_choose 1 = .ok (.istore_n 3, 1) := by decide +kernel
theorem dX3_choose_2 : decode cX3_choose 2 = .ok (.iconst 0, 1) := by decide +kernel
theorem dX3_choose_3 : decode cX3_choose 3 = .ok (.istore 4, 2) := by decide +kernel
theorem dX3_choose_5 : decode cX3_choose 5 = .ok (.iload_n 1, 1) := by decide +kernel
theorem dX3_choose_6 : decode cX3_choose 6 = .ok (.istore 5, 2) := by decide +kernel
theorem dX3_choose_8 : decode cX3_choose 8 = .ok (.aload_n 0, 1) := by decide +kernel
theorem dX3_choose_9 : decode cX3_choose 9 = .ok (.iconst 0, 1) := by decide +kernel
theorem dX3_choose_10 : decode cX3_choose 10 = .ok (.putfield 9, 3) := by decide +kernel
theorem dX3_choose_13 : decode cX3_choose 13 = .ok (.aload_n 0, 1) := by decide +kernel
theorem dX3_choose_14 : decode cX3_choose 14 = .ok (.iconst 0, 1) := by decide +kernel
theorem dX3_choose_15 : decode cX3_choose 15 = .ok (.putfield 15, 3) := by decide +kernel
theorem dX3_choose_18 : decode cX3_choose 18 = .ok (.aload_n 0, 1) := by decide +kernel
theorem dX3_choose_19 : decode cX3_choose 19 = .ok (.iload_n 1, 1) := by decide +kernel
theorem dX3_choose_20 : decode cX3_choose 20 = .ok (.putfield 18, 3) := by decide +kernel
theorem dX3_choose_23 : decode cX3_choose 23 = .ok (.iconst 1, 1) := by decide +kernel
theorem dX3_choose_24 : decode cX3_choose 24 = .ok (.istore 6, 2) := by decide +kernel
theorem dX3_choose_26 : decode cX3_choose 26 = .ok (.iload 6, 2) := by decide +kernel
theorem dX3_choose_28 : decode cX3_choose 28 = .ok (.iconst 1, 1) := by decide +kernel
theorem dX3_choose_29 : decode cX3_choose 29 = .ok (.aload_n 0, 1) := by decide +kernel
theorem dX3_choose_30 : decode cX3_choose 30 = .ok (.getfield 21, 3) := by decide +kernel
theorem dX3_choose_33 : decode cX3_choose 33 = .ok (.ishl, 1) := by decide +kernel
theorem dX3_choose_34 : decode cX3_choose 34 = .ok (.if_icmp .ge 157, 3) := by decide +kernel
theorem dX3_choose_37 : decode cX3_choose 37 = .ok (.iconst 0, 1) := by decide +kernel
theorem dX3_choose_38 : decode cX3_choose 38 = .ok (.istore 7, 2) := by decide +kernel
theorem dX3_choose_40 : decode cX3_choose 40 = .ok (.iload 7, 2) := by decide +kernel
theorem dX3_choose_42 : decode cX3_choose 42 = .ok (.aload_n 0, 1) := by decide +kernel
theorem dX3_choose_43 : decode cX3_choose 43 = .ok (.getfield 21, 3) := by decide +kernel
theorem dX3_choose_46 : decode cX3_choose 46 = .ok (.iconst 1, 1) := by decide +kernel
theorem dX3_choose_47 : decode cX3_choose 47 = .ok (.isub, 1) := by decide +kernel
theorem dX3_choose_48 : decode cX3_choose 48 = .ok (.if_icmp .ge 53, 3) := by decide +kernel
theorem dX3_choose_51 : decode cX3_choose 51 = .ok (.iload 6, 2) := by decide +kernel
theorem dX3_choose_53 : decode cX3_choose 53 = .ok (.iload 7, 2) := by decide +kernel
theorem dX3_choose_55 : decode cX3_choose 55 = .ok (.invokestatic 47, 3) := by decide +kernel
theorem dX3_choose_58 : decode cX3_choose 58 = .ok (.ifCond .ne 43, 3) := by decide +kernel
theorem dX3_choose_61 : decode cX3_choose 61 = .ok (.iload_n 3, 1) := by decide +kernel
theorem dX3_choose_62 : decode cX3_choose 62 = .ok (.aload_n 0, 1) := by decide +kernel
theorem dX3_choose_63 : decode cX3_choose 63 = .ok (.getfield 24, 3) := by decide +kernel
theorem dX3_choose_66 : decode cX3_choose 66 = .ok (.iload 7, 2) := by decide +kernel
theorem dX3_choose_68 : decode cX3_choose 68 = .ok (.iaload, 1) := by decide +kernel
theorem dX3_choose_69 : decode cX3_choose 69 = .ok (.isub, 1) := by decide +kernel
theorem dX3_choose_70 : decode cX3_choose 70 = .ok (.istore_n 3, 1) := by decide +kernel
theorem dX3_choose_71 : decode cX3_choose 71 = .ok (.iload 4, 2) := by decide +kernel
theorem dX3_choose_73 : decode cX3_choose 73 = .ok (.aload_n 0, 1) := by decide +kernel
theorem dX3_choose_74 : decode cX3_choose 74 = .ok (.getfield 28, 3) := by decide +kernel
theorem dX3_choose_77 : decode cX3_choose 77 = .ok (.iload 7, 2) := by decide +kernel
theorem dX3_choose_79 : decode cX3_choose 79 = .ok (.iaload, 1) := by decide +kernel
theorem dX3_choose_80 : decode cX3_choose 80 = .ok (.isub, 1) := by decide +kernel
theorem dX3_choose_81 : decode cX3_choose 81 = .ok (.istore 4, 2) := by decide +kernel
theorem dX3_choose_83 : decode cX3_choose 83 = .ok (.iload 5, 2) := by decide +kernel
theorem dX3_choose_85 : decode cX3_choose 85 = .ok (.aload_n 0, 1) := by decide +kernel
theorem dX3_choose_86 : decode cX3_choose 86 = .ok (.getfield 31, 3) := by decide +kernel
theorem dX3_choose_89 : decode cX3_choose 89 = .ok (.iload 7, 2) := by decide +kernel
theorem dX3_choose_91 : decode cX3_choose 91 = .ok (.iaload, 1) := by decide +kernel
theorem dX3_choose_92 : decode cX3_choose 92 = .ok (.isub, 1) := by decide +kernel
theorem dX3_choose_93 : decode cX3_choose 93 = .ok (.istore 5, 2) := by decide +kernel
theorem dX3_choose_95 : decode cX3_choose 95 = .ok (.iinc 7 1, 3) := by decide +kernel
theorem dX3_choose_98 : decode cX3_choose 98 = .ok (.goto (-58), 3) := by decide +kernel
theorem dX3_choose_101 : decode cX3_choose 101 = .ok (.iload_n 3, 1) := by decide +kernel
theorem dX3_choose_102 : decode cX3_choose 102 = .ok (.aload_n 0, 1) := by decide +kernel
theorem dX3_choose_103 : decode cX3_choose 103 = .ok (.getfield 24, 3) := by decide +kernel
theorem dX3_choose_106 : decode cX3_choose 106 = .ok (.iload 7, 2) := by decide +kernel
theorem dX3_choose_108 : decode cX3_choose 108 = .ok (.iaload, 1) := by decide +kernel
theorem dX3_choose_109 : decode cX3_choose 109 = .ok (.iadd, 1) := by decide +kernel
theorem dX3_choose_110 : decode cX3_choose 110 = .ok (.istore_n 3, 1) := by decide +kernel
theorem dX3_choose_111 : decode cX3_choose 111 = .ok (.iload 4, 2) := by decide +kernel
theorem dX3_choose_113 : decode cX3_choose 113 = .ok (.aload_n 0, 1) := by decide +kernel
theorem dX3_choose_114 : decode cX3_choose 114 = .ok (.getfield 28, 3) := by decide +kernel
theorem dX3_choose_117 : decode cX3_choose 117 = .ok (.iload 7, 2) := by decide +kernel
theorem dX3_choose_119 : decode cX3_choose 119 = .ok (.iaload, 1) := by decide +kernel
theorem dX3_choose_120 : decode cX3_choose 120 = .ok (.iadd, 1) := by decide +kernel
theorem dX3_choose_121 : decode cX3_choose 121 = .ok (.istore 4, 2) := by decide +kernel
theorem dX3_choose_123 : decode cX3_choose 123 = .ok (.iload 5, 2) := by decide +kernel
theorem dX3_choose_125 : decode cX3_choose 125 = .ok (.aload_n 0, 1) := by decide +kernel
theorem dX3_choose_126 : decode cX3_choose 126 = .ok (.getfield 31, 3) := by decide +kernel
theorem dX3_choose_129 : decode cX3_choose 129 = .ok (.iload 7, 2) := by decide +kernel
theorem dX3_choose_131 : decode cX3_choose 131 = .ok (.iaload, 1) := by decide +kernel
theorem dX3_choose_132 : decode cX3_choose 132 = .ok (.iadd, 1) := by decide +kernel
theorem dX3_choose_133 : decode cX3_choose 133 = .ok (.istore 5, 2) := by decide +kernel
theorem dX3_choose_135 : decode cX3_choose 135 = .ok (.iload 5, 2) := by decide +kernel
theorem dX3_choose_137 : decode cX3_choose 137 = .ok (.iload_n 2, 1) := by decide +kernel
theorem dX3_choose_138 : decode cX3_choose 138 = .ok (.if_icmp .gt 47, 3) := by decide +kernel
theorem dX3_choose_141 : decode cX3_choose 141 = .ok (.iload 4, 2) := by decide +kernel
theorem dX3_choose_143 : decode cX3_choose 143 = .ok (.aload_n 0, 1) := by decide +kernel
theorem dX3_choose_144 : decode cX3_choose 144 = .ok (.getfield 15, 3) := by decide +kernel
theorem dX3_choose_147 : decode cX3_choose 147 = .ok (.if_icmp .gt 21, 3) := by decide +kernel
theorem dX3_choose_150 : decode cX3_choose 150 = .ok (.iload 4, 2) := by decide +kernel
theorem dX3_choose_152 : decode cX3_choose 152 = .ok (.aload_n 0, 1) := by decide +kernel
theorem dX3_choose_153 : decode cX3_choose 153 = .ok (.getfield 15, 3) := by decide +kernel
theorem dX3_choose_156 : decode cX3_choose 156 = .ok (.if_icmp .ne 29, 3) := by decide +kernel
theorem dX3_choose_159 : decode cX3_choose 159 = .ok (.iload 5, 2) := by decide +kernel
theorem dX3_choose_161 : decode cX3_choose 161 = .ok (.aload_n 0, 1) := by decide +kernel
theorem dX3_choose_162 : decode cX3_choose 162 = .ok (.getfield 18, 3) := by decide +kernel
theorem dX3_choose_165 : decode cX3_choose 165 = .ok (.if_icmp .ge 20, 3) := by decide +kernel
theorem dX3_choose_168 : decode cX3_choose 168 = .ok (.aload_n 0, 1) := by decide +kernel
theorem dX3_choose_169 : decode cX3_choose 169 = .ok (.iload_n 3, 1) := by decide +kernel
theorem dX3_choose_170 : decode cX3_choose 170 = .ok (.putfield 9, 3) := by decide +kernel
theorem dX3_choose_173 : decode cX3_choose 173 = .ok (.aload_n 0, 1) := by decide +kernel
theorem dX3_choose_174 : decode cX3_choose 174 = .ok (.iload 4, 2) := by decide +kernel
theorem dX3_choose_176 : decode cX3_choose 176 = .ok (.putfield 15, 3) := by decide +kernel
theorem dX3_choose_179 : decode cX3_choose 179 = .ok (.aload_n 0, 1) := by decide +kernel
theorem dX3_choose_180 : decode cX3_choose 180 = .ok (.iload 5, 2) := by decide +kernel
theorem dX3_choose_182 : decode cX3_choose 182 = .ok (.putfield 18, 3) := by decide +kernel
theorem dX3_choose_185 : decode cX3_choose 185 = .ok (.iinc 6 1, 3) := by decide +kernel
theorem dX3_choose_188 : decode cX3_choose 188 = .ok (.goto (-162), 3) := by decide +kernel
theorem dX3_choose_191 : decode cX3_choose 191 = .ok (.return_, 1) := by decide +kernel
theorem dX4_init_0 : decode cX4_init 0 = .ok (.aload_n 0, 1) := by decide +kernel
theorem dX4_init_1 : decode cX4_init 1 = .ok (.invokespecial 3, 3) := by decide +kernel
theorem dX4_init_4 : decode cX4_init 4 = .ok (.aload_n 0, 1) := by decide +kernel
theorem dX4_init_5 : decode cX4_init 5 = .ok (.new 9, 3) := by decide +kernel
theorem dX4_init_8 : decode cX4_init 8 = .ok (.dup, 1) := by decide +kernel
theorem dX4_init_9 : decode cX4_init 9 = .ok (.invokespecial 11, 3) := by decide +kernel
theorem dX4_init_12 : decode cX4_init 12 = .ok (.putfield 12, 3) := by decide +kernel
theorem dX4_init_15 : decode cX4_init 15 = .ok (.aload_n 0, 1) := by decide +kernel
theorem dX4_init_16 : decode cX4_init 16 = .ok (.new 9, 3) := by decide +kernel
theorem dX4_init_19 : decode cX4_init 19 = .ok (.dup, 1) := by decide +kernel
theorem dX4_init_20 : decode cX4_init 20 = .ok (.invokespecial 11, 3) := by decide +kernel
theorem dX4_init_23 : decode cX4_init 23 = .ok (.putfield 18, 3) := by decide +kernel
theorem dX4_init_26 : decode cX4_init 26 = .ok (.aload_n 0, 1) := by decide +kernel
theorem dX4_init_27 : decode cX4_init 27 = .ok (.iconst 0, 1) := by decide +kernel
theorem dX4_init_28 : decode cX4_init 28 = .ok (.putfield 21, 3) := by decide +kernel
theorem dX4_init_31 : decode cX4_init 31 = .ok (.aload_n 0, 1) := by decide +kernel
theorem dX4_init_32 : decode cX4_init 32 = .ok (.new 25, 3) := by decide +kernel
theorem dX4_init_35 : decode cX4_init 35 = .ok (.dup, 1) := by decide +kernel
theorem dX4_init_36 : decode cX4_init 36 = .ok (.invokespecial 27, 3) := by decide +kernel
theorem dX4_init_39 : decode cX4_init 39 = .ok (.putfield 28, 3) := by decide +kernel
theorem dX4_init_42 : decode cX4_init 42 = .ok (.return_, 1) := by decide +kernel
theorem dX4_arrange_0 : decode cX4_arrange 0 = .ok (.aload_n 0, 1) := by decide +kernel
theorem dX4_arrange_1 : decode cX4_arrange 1 = .ok (.iload_n 2, 1) := by decide +kernel
theorem dX4_arrange_2 : decode cX4_arrange 2 = .ok (.putfield 21, 3) := by decide +kernel
theorem dX4_arrange_5 : decode cX4_arrange 5 = .ok (.aload_n 0, 1) := by decide +kernel
theorem dX4_arrange_6 : decode cX4_arrange 6 = .ok (.getfield 12, 3) := by decide +kernel
theorem dX4_arrange_9 : decode cX4_arrange 9 = .ok (.aload_n 1, 1) := by decide +kernel
theorem dX4_arrange_10 : decode cX4_arrange 10 = .ok (.getfield 32, 3) := by decide +kernel
theorem dX4_arrange_13 : decode cX4_arrange 13 = .ok (.iconst 0, 1) := by decide +kernel
theorem dX4_arrange_14 : decode cX4_arrange 14 = .ok (.aload_n 1, 1) := by decide +kernel
theorem dX4_arrange_15 : decode cX4_arrange 15 = .ok (.getfield 38, 3) := by decide +kernel
theorem dX4_arrange_18 : decode cX4_arrange 18 = .ok (.iload_n 2, 1) := by decide +kernel
theorem dX4_arrange_19 : decode cX4_arrange 19 = .ok (.invokevirtual 41, 3) := by decide +kernel
theorem dX4_arrange_22 : decode cX4_arrange 22 = .ok (.return_, 1) := by decide +kernel
theorem dX4_arrangeSubs_0 : decode cX4_arrangeSubs 0 = .ok (.aload_n 0, 1) := by decide +kernel
theorem dX4_arrangeSubs_1 : decode cX4_arrangeSubs 1 = .ok (.getfield 18, 3) := by decide +kernel
theorem dX4_arrangeSubs_4 : decode cX4_arrangeSubs 4 = .ok (.aload_n 1, 1) := by decide +kernel
theorem dX4_arrangeSubs_5 : decode cX4_arrangeSubs 5 = .ok (.getfield 45, 3) := by decide +kernel
theorem dX4_arrangeSubs_8 : decode cX4_arrangeSubs 8 = .ok (.iload_n 2, 1) := by decide +kernel
theorem dX4_arrangeSubs_9 : decode cX4_arrangeSubs 9 = .ok (.bipush 6, 2) := by decide +kernel
theorem dX4_arrangeSubs_11 : decode cX4_arrangeSubs 11 = .ok (.imul, 1) := by decide +kernel
theorem dX4_arrangeSubs_12 : decode cX4_arrangeSubs 12 = .ok (.aload_n 1, 1) := by decide +kernel
theorem dX4_arrangeSubs_13 : decode cX4_arrangeSubs 13 = .ok (.getfield 48, 3) := by decide +kernel
theorem dX4_arrangeSubs_16 : decode cX4_arrangeSubs 16 = .ok (.iload_n 2, 1) := by decide +kernel
theorem dX4_arrangeSubs_17 : decode cX4_arrangeSubs 17 = .ok (.iaload, 1) := by decide +kernel
theorem dX4_arrangeSubs_18 : decode cX4_arrangeSubs 18 = .ok (.iload_n 3, 1) := by decide +kernel
theorem dX4_arrangeSubs_19 : decode cX4_arrangeSubs 19 = .ok (.invokevirtual 41, 3) := by decide +kernel
theorem dX4_arrangeSubs_22 : decode cX4_arrangeSubs 22 = .ok (.return_, 1) := by decide +kernel
theorem dX4_setHead_0 : decode cX4_setHead 0 = .ok (.aload_n 1, 1) := by decide +kernel
theorem dX4_setHead_1 : decode cX4_setHead 1 = .ok (.getfield 52, 3) := by decide +kernel
theorem dX4_setHead_4 : decode cX4_setHead 4 = .ok (.istore 6, 2) := by decide +kernel
theorem dX4_setHead_6 : decode cX4_setHead 6 = .ok (.iload 4, 2) := by decide +kernel
theorem dX4_setHead_8 : decode cX4_setHead 8 = .ok (.iload_n 3, 1) := by decide +kernel
theorem dX4_setHead_9 : decode cX4_setHead 9 = .ok (.if_icmp .ne 12, 3) := by decide +kernel
theorem dX4_setHead_12 : decode cX4_setHead 12 = .ok (.aload_n 2, 1) := by decide +kernel
theorem dX4_setHead_13 : decode cX4_setHead 13 = .ok (.getfield 57, 3) := by decide +kernel
theorem dX4_setHead_16 : decode cX4_setHead 16 = .ok (.iload_n 3, 1) := by decide +kernel
theorem dX4_setHead_17 : decode cX4_setHead 17 = .ok (.iaload, 1) := by decide +kernel
theorem dX4_setHead_18 : decode cX4_setHead 18 = .ok (.goto 4, 3) := by decide +kernel
theorem dX4_setHead_21 : decode cX4_setHead 21 = .ok (.iconst (-1), 1) := by decide +kernel
theorem dX4_setHead_22 : decode cX4_setHead 22 = .ok (.istore 7, 2) := by decide +kernel
theorem dX4_setHead_24 : decode cX4_setHead 24 = .ok (.aload_n 2, 1) := by decide +kernel
theorem dX4_setHead_25 : decode cX4_setHead 25 = .ok (.iload 4, 2) := by decide +kernel
theorem dX4_setHead_27 : decode cX4_setHead 27 = .ok (.invokevirtual 60, 3) := by decide +kernel
theorem dX4_setHead_30 : decode cX4_setHead 30 = .ok (.ifCond .le 144, 3) := by decide +kernel
theorem dX4_setHead_33 : decode cX4_setHead 33 = .ok (.aload_n 1, 1) := by decide +kernel
theorem dX4_setHead_34 : decode cX4_setHead 34 = .ok (.aload_n 2, 1) := by decide +kernel
theorem dX4_setHead_35 : decode cX4_setHead 35 = .ok (.getfield 32, 3) := by decide +kernel
theorem dX4_setHead_38 : decode cX4_setHead 38 = .ok (.iload_n 3, 1) := by decide +kernel
theorem dX4_setHead_39 : decode cX4_setHead 39 = .ok (.laload, 1) := by decide +kernel
theorem dX4_setHead_40 : decode cX4_setHead 40 = .ok (.invokevirtual 64, 3) := by decide +kernel
theorem dX4_setHead_43 : decode cX4_setHead 43 = .ok (.aload_n 0, 1) := by decide +kernel
theorem dX4_setHead_44 : decode cX4_setHead 44 = .ok (.aload_n 1, 1) := by decide +kernel
theorem dX4_setHead_45 : decode cX4_setHead 45 = .ok (.aload_n 2, 1) := by decide +kernel
theorem dX4_setHead_46 : decode cX4_setHead 46 = .ok (.iload 4, 2) := by decide +kernel
theorem dX4_setHead_48 : decode cX4_setHead 48 = .ok (.iload 5, 2) := by decide +kernel
theorem dX4_setHead_50 : decode cX4_setHead 50 = .ok (.ifCond .eq 8, 3) := by decide +kernel
theorem dX4_setHead_53 : decode cX4_setHead 53 = .ok (.bipush (-2), 2) := by decide +kernel
theorem dX4_setHead_55 : decode cX4_setHead 55 = .ok (.goto 4, 3) := by decide +kernel
theorem dX4_setHead_58 : decode cX4_setHead 58 = .ok (.iconst (-1), 1) := by decide +kernel
theorem dX4_setHead_59 : decode cX4_setHead 59 = .ok (.invokevirtual 68, 3) := by decide +kernel
theorem dX4_setHead_62 : decode cX4_setHead 62 = .ok (.iload 5, 2) := by decide +kernel
theorem dX4_setHead_64 : decode cX4_setHead 64 = .ok (.ifCond .eq 7, 3) := by decide +kernel
theorem dX4_setHead_67 : decode cX4_setHead 67 = .ok (.iconst 0, 1) := by decide +kernel
theorem dX4_setHead_68 : decode cX4_setHead 68 = .ok (.goto 9, 3) := by decide +kernel
theorem dX4_setHead_71 : decode cX4_setHead 71 = .ok (.aload_n 2, 1) := by decide +kernel
theorem dX4_setHead_72 : decode cX4_setHead 72 = .ok (.iload 4, 2) := by decide +kernel
theorem dX4_setHead_74 : decode cX4_setHead 74 = .ok (.invokevirtual 72, 3) := by decide +kernel
theorem dX4_setHead_77 : decode cX4_setHead 77 = .ok (.istore 8, 2) := by decide +kernel
theorem dX4_setHead_79 : decode cX4_setHead 79 = .ok (.aload_n 0, 1) := by decide +kernel
theorem dX4_setHead_80 : decode cX4_setHead 80 = .ok (.aload_n 2, 1) := by decide +kernel
theorem dX4_setHead_81 : decode cX4_setHead 81 = .ok (.iload 4, 2) := by decide +kernel
theorem dX4_setHead_83 : decode cX4_setHead 83 = .ok (.aload_n 0, 1) := by decide +kernel
theorem dX4_setHead_84 : decode cX4_setHead 84 = .ok (.getfield 21, 3) := by decide +kernel
theorem dX4_setHead_87 : decode cX4_setHead 87 = .ok (.invokevirtual 75, 3) := by decide +kernel
theorem dX4_setHead_90 : decode cX4_setHead 90 = .ok (.iconst 0, 1) := by decide +kernel
theorem dX4_setHead_91 : decode cX4_setHead 91 = .ok (.istore 9, 2) := by decide +kernel
theorem dX4_setHead_93 : decode cX4_setHead 93 = .ok (.iload 9, 2) := by decide +kernel
theorem dX4_setHead_95 : decode cX4_setHead 95 = .ok (.aload_n 2, 1) := by decide +kernel
theorem dX4_setHead_96 : decode cX4_setHead 96 = .ok (.getfield 48, 3) := by decide +kernel
theorem dX4_setHead_99 : decode cX4_setHead 99 = .ok (.iload 4, 2) := by decide +kernel
theorem dX4_setHead_101 : decode cX4_setHead 101 = .ok (.iaload, 1) := by decide +kernel
theorem dX4_setHead_102 : decode cX4_setHead 102 = .ok (.if_icmp .ge 59, 3) := by decide +kernel
theorem dX4_setHead_105 : decode cX4_setHead 105 = .ok (.aload_n 0, 1) := by decide +kernel
theorem dX4_setHead_106 : decode cX4_setHead 106 = .ok (.getfield 18, 3) := by decide +kernel
theorem dX4_setHead_109 : decode cX4_setHead 109 = .ok (.getfield 79, 3) := by decide +kernel
theorem dX4_setHead_112 : decode cX4_setHead 112 = .ok (.iload 9, 2) := by decide +kernel
theorem dX4_setHead_114 : decode cX4_setHead 114 = .ok (.iaload, 1) := by decide +kernel
theorem dX4_setHead_115 : decode cX4_setHead 115 = .ok (.istore 10, 2) := by decide +kernel
theorem dX4_setHead_117 : decode cX4_setHead 117 = .ok (.iload 8, 2) := by decide +kernel
theorem dX4_setHead_119 : decode cX4_setHead 119 = .ok (.iload 10, 2) := by decide +kernel
theorem dX4_setHead_121 : decode cX4_setHead 121 = .ok (.invokestatic 82, 3) := by decide +kernel
theorem dX4_setHead_124 : decode cX4_setHead 124 = .ok (.ifCond .eq 31, 3) := by decide +kernel
theorem dX4_setHead_127 : decode cX4_setHead 127 = .ok (.aload_n 1, 1) := by decide +kernel
theorem dX4_setHead_128 : decode cX4_setHead 128 = .ok (.ldc 86, 2) := by decide +kernel
theorem dX4_setHead_130 : decode cX4_setHead 130 = .ok (.invokevirtual 88, 3) := by decide +kernel
theorem dX4_setHead_133 : decode cX4_setHead 133 = .ok (.aload_n 1, 1) := by decide +kernel
theorem dX4_setHead_134 : decode cX4_setHead 134 = .ok (.aload_n 2, 1) := by decide +kernel
theorem dX4_setHead_135 : decode cX4_setHead 135 = .ok (.iload 4, 2) := by decide +kernel
theorem dX4_setHead_137 : decode cX4_setHead 137 = .ok (.iload 10, 2) := by decide +kernel
theorem dX4_setHead_139 : decode cX4_setHead 139 = .ok (.invokevirtual 92, 3) := by decide +kernel
theorem dX4_setHead_142 : decode cX4_setHead 142 = .ok (.invokevirtual 64, 3) := by decide +kernel
theorem dX4_setHead_145 : decode cX4_setHead 145 = .ok (.aload_n 0, 1) := by decide +kernel
theorem dX4_setHead_146 : decode cX4_setHead 146 = .ok (.aload_n 1, 1) := by decide +kernel
theorem dX4_setHead_147 : decode cX4_setHead 147 = .ok (.aload_n 2, 1) := by decide +kernel
theorem dX4_setHead_148 : decode cX4_setHead 148 = .ok (.iload 4, 2) := by decide +kernel
theorem dX4_setHead_150 : decode cX4_setHead 150 = .ok (.iload 10, 2) := by decide +kernel
theorem dX4_setHead_152 : decode cX4_setHead 152 = .ok (.invokevirtual 68, 3) := by decide +kernel
theorem dX4_setHead_155 : decode cX4_setHead 155 = .ok (.iinc 9 1, 3) := by decide +kernel
theorem dX4_setHead_158 : decode cX4_setHead 158 = .ok (.goto (-65), 3) := by decide +kernel
theorem dX4_setHead_161 : decode cX4_setHead 161 = .ok (.aload_n 0, 1) := by decide +kernel
theorem dX4_setHead_162 : decode cX4_setHead 162 = .ok (.aload_n 1, 1) := by decide +kernel
theorem dX4_setHead_163 : decode cX4_setHead 163 = .ok (.aload_n 2, 1) := by decide +kernel
theorem dX4_setHead_164 : decode cX4_setHead 164 = .ok (.ldc 96, 2) := by decide +kernel
theorem dX4_setHead_166 : decode cX4_setHead 166 = .ok (.iload 7, 2) := by decide +kernel
theorem dX4_setHead_168 : decode cX4_setHead 168 = .ok (.invokevirtual 98, 3) := by decide +kernel
theorem dX4_setHead_171 : decode cX4_setHead 171 = .ok (.goto 55, 3) := by decide +kernel
theorem dX4_setHead_174 : decode cX4_setHead 174 = .ok (.iload 7, 2) := by decide +kernel
theorem dX4_setHead_176 : decode cX4_setHead 176 = .ok (.iconst (-1), 1) := by decide +kernel
theorem dX4_setHead_177 : decode cX4_setHead 177 = .ok (.if_icmp .eq 26, 3) := by decide +kernel
theorem dX4_setHead_180 : decode cX4_setHead 180 = .ok (.aload_n 1, 1) := by decide +kernel
theorem dX4_setHead_181 : decode cX4_setHead 181 = .ok (.aload_n 2, 1) := by decide +kernel
theorem dX4_setHead_182 : decode cX4_setHead 182 = .ok (.getfield 32, 3) := by decide +kernel
theorem dX4_setHead_185 : decode cX4_setHead 185 = .ok (.iload_n 3, 1) := by decide +kernel
theorem dX4_setHead_186 : decode cX4_setHead 186 = .ok (.laload, 1) := by decide +kernel
theorem dX4_setHead_187 : decode cX4_setHead 187 = .ok (.invokevirtual 64, 3) := by decide +kernel
theorem dX4_setHead_190 : decode cX4_setHead 190 = .ok (.aload_n 0, 1) := by decide +kernel
theorem dX4_setHead_191 : decode cX4_setHead 191 = .ok (.aload_n 1, 1) := by decide +kernel
theorem dX4_setHead_192 : decode cX4_setHead 192 = .ok (.aload_n 2, 1) := by decide +kernel
theorem dX4_setHead_193 : decode cX4_setHead 193 = .ok (.ldc 102, 2) := by decide +kernel
theorem dX4_setHead_195 : decode cX4_setHead 195 = .ok (.iload 7, 2) := by decide +kernel
theorem dX4_setHead_197 : decode cX4_setHead 197 = .ok (.invokevirtual 98, 3) := by decide +kernel
theorem dX4_setHead_200 : decode cX4_setHead 200 = .ok (.goto 26, 3) := by decide +kernel
theorem dX4_setHead_203 : decode cX4_setHead 203 = .ok (.aload_n 2, 1) := by decide +kernel
theorem dX4_setHead_204 : decode cX4_setHead 204 = .ok (.getfield 104, 3) := by decide +kernel
theorem dX4_setHead_207 : decode cX4_setHead 207 = .ok (.iload_n 3, 1) := by decide +kernel
theorem dX4_setHead_208 : decode cX4_setHead 208 = .ok (.iaload, 1) := by decide +kernel
theorem dX4_setHead_209 : decode cX4_setHead 209 = .ok (.ifCond .eq 17, 3) := by decide +kernel
theorem dX4_setHead_212 : decode cX4_setHead 212 = .ok (.aload_n 1, 1) := by decide +kernel
theorem dX4_setHead_213 : decode cX4_setHead 213 = .ok (.aload_n 2, 1) := by decide +kernel
theorem dX4_setHead_214 : decode cX4_setHead 214 = .ok (.getfield 32, 3) := by decide +kernel
theorem dX4_setHead_217 : decode cX4_setHead 217 = .ok (.iload_n 3, 1) := by decide +kernel
theorem dX4_setHead_218 : decode cX4_setHead 218 = .ok (.laload, 1) := by decide +kernel
theorem dX4_setHead_219 : decode cX4_setHead 219 = .ok (.invokevirtual 64, 3) := by decide +kernel
theorem dX4_setHead_222 : decode cX4_setHead 222 = .ok (.aload_n 1, 1) := by decide +kernel
theorem dX4_setHead_223 : decode cX4_setHead 223 = .ok (.invokevirtual 107, 3) := by decide +kernel
theorem dX4_setHead_226 : decode cX4_setHead 226 = .ok (.aload_n 0, 1) := by decide +kernel
theorem dX4_setHead_227 : decode cX4_setHead 227 = .ok (.aload_n 1, 1) := by decide +kernel
theorem dX4_setHead_228 : decode cX4_setHead 228 = .ok (.aload_n 2, 1) := by decide +kernel
theorem dX4_setHead_229 : decode cX4_setHead 229 = .ok (.aload_n 2, 1) := by decide +kernel
theorem dX4_setHead_230 : decode cX4_setHead 230 = .ok (.getfield 104, 3) := by decide +kernel
theorem dX4_setHead_233 : decode cX4_setHead 233 = .ok (.iload_n 3, 1) := by decide +kernel
theorem dX4_setHead_234 : decode cX4_setHead 234 = .ok (.iaload, 1) := by decide +kernel
theorem dX4_setHead_235 : decode cX4_setHead 235 = .ok (.invokevirtual 110, 3) := by decide +kernel
theorem dX4_setHead_238 : decode cX4_setHead 238 = .ok (.aload_n 1, 1) := by decide +kernel
theorem dX4_setHead_239 : decode cX4_setHead 239 = .ok (.getfield 52, 3) := by decide +kernel
theorem dX4_setHead_242 : decode cX4_setHead 242 = .ok (.iload 6, 2) := by decide +kernel
theorem dX4_setHead_244 : decode cX4_setHead 244 = .ok (.isub, 1) := by decide +kernel
theorem dX4_setHead_245 : decode cX4_setHead 245 = .ok (.ireturn, 1) := by decide +kernel
theorem dX4_setRuns_0 : decode cX4_setRuns 0 = .ok (.aload_n 1, 1) := by decide +kernel
theorem dX4_setRuns_1 : decode cX4_setRuns 1 = .ok (.invokevirtual 114, 3) := by decide +kernel
theorem dX4_setRuns_4 : decode cX4_setRuns 4 = .ok (.aload_n 2, 1) := by decide +kernel
theorem dX4_setRuns_5 : decode cX4_setRuns 5 = .ok (.iload_n 3, 1) := by decide +kernel
theorem dX4_setRuns_6 : decode cX4_setRuns 6 = .ok (.iload 4, 2) := by decide +kernel
theorem dX4_setRuns_8 : decode cX4_setRuns 8 = .ok (.aload_n 0, 1) := by decide +kernel
theorem dX4_setRuns_9 : decode cX4_setRuns 9 = .ok (.getfield 28, 3) := by decide +kernel
theorem dX4_setRuns_12 : decode cX4_setRuns 12 = .ok (.invokevirtual 117, 3) := by decide +kernel
theorem dX4_setRuns_15 : decode cX4_setRuns 15 = .ok (.iconst 0, 1) := by decide +kernel
theorem dX4_setRuns_16 : decode cX4_setRuns 16 = .ok (.istore 5, 2) := by decide +kernel
theorem dX4_setRuns_18 : decode cX4_setRuns 18 = .ok (.iload 5, 2) := by decide +kernel
theorem dX4_setRuns_20 : decode cX4_setRuns 20 = .ok (.aload_n 0, 1) := by decide +kernel
theorem dX4_setRuns_21 : decode cX4_setRuns 21 = .ok (.getfield 28, 3) := by decide +kernel
theorem dX4_setRuns_24 : decode cX4_setRuns 24 = .ok (.getfield 121, 3) := by decide +kernel
theorem dX4_setRuns_27 : decode cX4_setRuns 27 = .ok (.if_icmp .ge 47, 3) := by decide +kernel
theorem dX4_setRuns_30 : decode cX4_setRuns 30 = .ok (.aload_n 1, 1) := by decide +kernel
theorem dX4_setRuns_31 : decode cX4_setRuns 31 = .ok (.aload_n 0, 1) := by decide +kernel
theorem dX4_setRuns_32 : decode cX4_setRuns 32 = .ok (.getfield 28, 3) := by decide +kernel
theorem dX4_setRuns_35 : decode cX4_setRuns 35 = .ok (.getfield 124, 3) := by decide +kernel
theorem dX4_setRuns_38 : decode cX4_setRuns 38 = .ok (.iload 5, 2) := by decide +kernel
theorem dX4_setRuns_40 : decode cX4_setRuns 40 = .ok (.iaload, 1) := by decide +kernel
theorem dX4_setRuns_41 : decode cX4_setRuns 41 = .ok (.aload_n 0, 1) := by decide +kernel
theorem dX4_setRuns_42 : decode cX4_setRuns 42 = .ok (.getfield 28, 3) := by decide +kernel
theorem dX4_setRuns_45 : decode cX4_setRuns 45 = .ok (.getfield 127, 3) := by decide +kernel
theorem dX4_setRuns_48 : decode cX4_setRuns 48 = .ok (.iload 5, 2) := by decide +kernel
theorem dX4_setRuns_50 : decode cX4_setRuns 50 = .ok (.iaload, 1) := by decide +kernel
theorem dX4_setRuns_51 : decode cX4_setRuns 51 = .ok (.aload_n 0, 1) := by decide +kernel
theorem dX4_setRuns_52 : decode cX4_setRuns 52 = .ok (.getfield 28, 3) := by decide +kernel
theorem dX4_setRuns_55 : decode cX4_setRuns 55 = .ok (.getfield 130, 3) := by decide +kernel
theorem dX4_setRuns_58 : decode cX4_setRuns 58 = .ok (.iload 5, 2) := by decide +kernel
theorem dX4_setRuns_60 : decode cX4_setRuns 60 = .ok (.baload, 1) := by decide +kernel
theorem dX4_setRuns_61 : decode cX4_setRuns 61 = .ok (.invokevirtual 134, 3) := by decide +kernel
theorem dX4_setRuns_64 : decode cX4_setRuns 64 = .ok (.aload_n 1, 1) := by decide +kernel
theorem dX4_setRuns_65 : decode cX4_setRuns 65 = .ok (.invokevirtual 114, 3) := by decide +kernel
theorem dX4_setRuns_68 : decode cX4_setRuns 68 = .ok (.iinc 5 1, 3) := by decide +kernel
theorem dX4_setRuns_71 : decode cX4_setRuns 71 = .ok (.goto (-53), 3) := by decide +kernel
theorem dX4_setRuns_74 : decode cX4_setRuns 74 = .ok (.aload_n 1, 1) := by decide +kernel
theorem dX4_setRuns_75 : decode cX4_setRuns 75 = .ok (.invokevirtual 107, 3) := by decide +kernel
theorem dX4_setRuns_78 : decode cX4_setRuns 78 = .ok (.return_, 1) := by decide +kernel
theorem dX4_setSee_0 : decode cX4_setSee 0 = .ok (.iload 4, 2) := by decide +kernel
theorem dX4_setSee_2 : decode cX4_setSee 2 = .ok (.iconst (-1), 1) := by decide +kernel
theorem dX4_setSee_3 : decode cX4_setSee 3 = .ok (.if_icmp .eq 23, 3) := by decide +kernel
theorem dX4_setSee_6 : decode cX4_setSee 6 = .ok (.aload_n 1, 1) := by decide +kernel
theorem dX4_setSee_7 : decode cX4_setSee 7 = .ok (.aload_n 3, 1) := by decide +kernel
theorem dX4_setSee_8 : decode cX4_setSee 8 = .ok (.invokevirtual 88, 3) := by decide +kernel
theorem dX4_setSee_11 : decode cX4_setSee 11 = .ok (.aload_n 1, 1) := by decide +kernel
theorem dX4_setSee_12 : decode cX4_setSee 12 = .ok (.aload_n 2, 1) := by decide +kernel
theorem dX4_setSee_13 : decode cX4_setSee 13 = .ok (.getfield 32, 3) := by decide +kernel
theorem dX4_setSee_16 : decode cX4_setSee 16 = .ok (.iload 4, 2) := by decide +kernel
theorem dX4_setSee_18 : decode cX4_setSee 18 = .ok (.laload, 1) := by decide +kernel
theorem dX4_setSee_19 : decode cX4_setSee 19 = .ok (.invokevirtual 64, 3) := by decide +kernel
theorem dX4_setSee_22 : decode cX4_setSee 22 = .ok (.aload_n 1, 1) := by decide +kernel
theorem dX4_setSee_23 : decode cX4_setSee 23 = .ok (.invokevirtual 107, 3) := by decide +kernel
theorem dX4_setSee_26 : decode cX4_setSee 26 = .ok (.return_, 1) := by decide +kernel
theorem dX4_setAlso_0 : decode cX4_setAlso 0 = .ok (.iload_n 3, 1) := by decide +kernel
theorem dX4_setAlso_1 : decode cX4_setAlso 1 = .ok (.ifCond .ne 4, 3) := by decide +kernel
theorem dX4_setAlso_4 : decode cX4_setAlso 4 = .ok (.return_, 1) := by decide +kernel
theorem dX4_setAlso_5 : decode cX4_setAlso 5 = .ok (.aload_n 1, 1) := by decide +kernel
theorem dX4_setAlso_6 : decode cX4_setAlso 6 = .ok (.ldc 138, 2) := by decide +kernel
theorem dX4_setAlso_8 : decode cX4_setAlso 8 = .ok (.invokevirtual 88, 3) := by decide +kernel
theorem dX4_setAlso_11 : decode cX4_setAlso 11 = .ok (.iconst 0, 1) := by decide +kernel
theorem dX4_setAlso_12 : decode cX4_setAlso 12 = .ok (.istore 4, 2) := by decide +kernel
theorem dX4_setAlso_14 : decode cX4_setAlso 14 = .ok (.iload 4, 2) := by decide +kernel
theorem dX4_setAlso_16 : decode cX4_setAlso 16 = .ok (.aload_n 2, 1) := by decide +kernel
theorem dX4_setAlso_17 : decode cX4_setAlso 17 = .ok (.getfield 38, 3) := by decide +kernel
theorem dX4_setAlso_20 : decode cX4_setAlso 20 = .ok (.if_icmp .ge 45, 3) := by decide +kernel
theorem dX4_setAlso_23 : decode cX4_setAlso 23 = .ok (.aload_n 0, 1) := by decide +kernel
theorem dX4_setAlso_24 : decode cX4_setAlso 24 = .ok (.getfield 12, 3) := by decide +kernel
theorem dX4_setAlso_27 : decode cX4_setAlso 27 = .ok (.getfield 79, 3) := by decide +kernel
theorem dX4_setAlso_30 : decode cX4_setAlso 30 = .ok (.iload 4, 2) := by decide +kernel
theorem dX4_setAlso_32 : decode cX4_setAlso 32 = .ok (.iaload, 1) := by decide +kernel
theorem dX4_setAlso_33 : decode cX4_setAlso 33 = .ok (.istore 5, 2) := by decide +kernel
theorem dX4_setAlso_35 : decode cX4_setAlso 35 = .ok (.iload_n 3, 1) := by decide +kernel
theorem dX4_setAlso_36 : decode cX4_setAlso 36 = .ok (.iload 5, 2) := by decide +kernel
theorem dX4_setAlso_38 : decode cX4_setAlso 38 = .ok (.invokestatic 82, 3) := by decide +kernel
theorem dX4_setAlso_41 : decode cX4_setAlso 41 = .ok (.ifCond .eq 18, 3) := by decide +kernel
theorem dX4_setAlso_44 : decode cX4_setAlso 44 = .ok (.aload_n 1, 1) := by decide +kernel
theorem dX4_setAlso_45 : decode cX4_setAlso 45 = .ok (.aload_n 2, 1) := by decide +kernel
theorem dX4_setAlso_46 : decode cX4_setAlso 46 = .ok (.getfield 32, 3) := by decide +kernel
theorem dX4_setAlso_49 : decode cX4_setAlso 49 = .ok (.iload 5, 2) := by decide +kernel
theorem dX4_setAlso_51 : decode cX4_setAlso 51 = .ok (.laload, 1) := by decide +kernel
theorem dX4_setAlso_52 : decode cX4_setAlso 52 = .ok (.invokevirtual 64, 3) := by decide +kernel
theorem dX4_setAlso_55 : decode cX4_setAlso 55 = .ok (.aload_n 1, 1) := by decide +kernel
theorem dX4_setAlso_56 : decode cX4_setAlso 56 = .ok (.invokevirtual 114, 3) := by decide +kernel
theorem dX4_setAlso_59 : decode cX4_setAlso 59 = .ok (.iinc 4 1, 3) := by decide +kernel
theorem dX4_setAlso_62 : decode cX4_setAlso 62 = .ok (.goto (-48), 3) := by decide +kernel
theorem dX4_setAlso_65 : decode cX4_setAlso 65 = .ok (.aload_n 1, 1) := by decide +kernel
theorem dX4_setAlso_66 : decode cX4_setAlso 66 = .ok (.invokevirtual 107, 3) := by decide +kernel
theorem dX4_setAlso_69 : decode cX4_setAlso 69 = .ok (.return_, 1) := by decide +kernel
