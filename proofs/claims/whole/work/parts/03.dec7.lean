theorem dX12_headAlike_12 : decode cX12_headAlike 12 = .ok (.aload_n 0, 1) := by decide +kernel
theorem dX12_headAlike_13 : decode cX12_headAlike 13 = .ok (.iload_n 2, 1) := by decide +kernel
theorem dX12_headAlike_14 : decode cX12_headAlike 14 = .ok (.invokevirtual 485, 3) := by decide +kernel
theorem dX12_headAlike_17 : decode cX12_headAlike 17 = .ok (.if_icmp .ge 24, 3) := by decide +kernel
theorem dX12_headAlike_20 : decode cX12_headAlike 20 = .ok (.aload_n 0, 1) := by decide +kernel
theorem dX12_headAlike_21 : decode cX12_headAlike 21 = .ok (.iload_n 1, 1) := by decide +kernel
theorem dX12_headAlike_22 : decode cX12_headAlike 22 = .ok (.iload_n 3, 1) := by decide +kernel
theorem dX12_headAlike_23 : decode cX12_headAlike 23 = .ok (.invokevirtual 488, 3) := by decide +kernel
theorem dX12_headAlike_26 : decode cX12_headAlike 26 = .ok (.aload_n 0, 1) := by decide +kernel
theorem dX12_headAlike_27 : decode cX12_headAlike 27 = .ok (.iload_n 2, 1) := by decide +kernel
theorem dX12_headAlike_28 : decode cX12_headAlike 28 = .ok (.iload_n 3, 1) := by decide +kernel
theorem dX12_headAlike_29 : decode cX12_headAlike 29 = .ok (.invokevirtual 488, 3) := by decide +kernel
theorem dX12_headAlike_32 : decode cX12_headAlike 32 = .ok (.if_icmp .ne 9, 3) := by decide +kernel
theorem dX12_headAlike_35 : decode cX12_headAlike 35 = .ok (.iinc 3 1, 3) := by decide +kernel
theorem dX12_headAlike_38 : decode cX12_headAlike 38 = .ok (.goto (-36), 3) := by decide +kernel
theorem dX12_headAlike_41 : decode cX12_headAlike 41 = .ok (.iload_n 3, 1) := by decide +kernel
theorem dX12_headAlike_42 : decode cX12_headAlike 42 = .ok (.ireturn, 1) := by decide +kernel
theorem dX12_tailAlike_0 : decode cX12_tailAlike 0 = .ok (.aload_n 0, 1) := by decide +kernel
theorem dX12_tailAlike_1 : decode cX12_tailAlike 1 = .ok (.iload_n 1, 1) := by decide +kernel
theorem dX12_tailAlike_2 : decode cX12_tailAlike 2 = .ok (.invokevirtual 485, 3) := by decide +kernel
theorem dX12_tailAlike_5 : decode cX12_tailAlike 5 = .ok (.istore_n 3, 1) := by decide +kernel
theorem dX12_tailAlike_6 : decode cX12_tailAlike 6 = .ok (.aload_n 0, 1) := by decide +kernel
theorem dX12_tailAlike_7 : decode cX12_tailAlike 7 = .ok (.iload_n 2, 1) := by decide +kernel
theorem dX12_tailAlike_8 : decode cX12_tailAlike 8 = .ok (.invokevirtual 485, 3) := by decide +kernel
theorem dX12_tailAlike_11 : decode cX12_tailAlike 11 = .ok (.istore 4, 2) := by decide +kernel
theorem dX12_tailAlike_13 : decode cX12_tailAlike 13 = .ok (.iconst 0, 1) := by decide +kernel
theorem dX12_tailAlike_14 : decode cX12_tailAlike 14 = .ok (.istore 5, 2) := by decide +kernel
theorem dX12_tailAlike_16 : decode cX12_tailAlike 16 = .ok (.iload 5, 2) := by decide +kernel
theorem dX12_tailAlike_18 : decode cX12_tailAlike 18 = .ok (.iload_n 3, 1) := by decide +kernel
theorem dX12_tailAlike_19 : decode cX12_tailAlike 19 = .ok (.if_icmp .ge 42, 3) := by decide +kernel
theorem dX12_tailAlike_22 : decode cX12_tailAlike 22 = .ok (.iload 5, 2) := by decide +kernel
theorem dX12_tailAlike_24 : decode cX12_tailAlike 24 = .ok (.iload 4, 2) := by decide +kernel
theorem dX12_tailAlike_26 : decode cX12_tailAlike 26 = .ok (.if_icmp .ge 35, 3) := by decide +kernel
theorem dX12_tailAlike_29 : decode cX12_tailAlike 29 = .ok (.aload_n 0, 1) := by decide +kernel
theorem dX12_tailAlike_30 : decode cX12_tailAlike 30 = .ok (.iload_n 1, 1) := by decide +kernel
theorem dX12_tailAlike_31 : decode cX12_tailAlike 31 = .ok (.iload_n 3, 1) := by decide +kernel
theorem dX12_tailAlike_32 : decode cX12_tailAlike 32 = .ok (.iconst 1, 1) := by decide +kernel
theorem dX12_tailAlike_33 : decode cX12_tailAlike 33 = .ok (.isub, 1) := by decide +kernel
theorem dX12_tailAlike_34 : decode cX12_tailAlike 34 = .ok (.iload 5, 2) := by decide +kernel
theorem dX12_tailAlike_36 : decode cX12_tailAlike 36 = .ok (.isub, 1) := by decide +kernel
theorem dX12_tailAlike_37 : decode cX12_tailAlike 37 = .ok (.invokevirtual 488, 3) := by decide +kernel
theorem dX12_tailAlike_40 : decode cX12_tailAlike 40 = .ok (.aload_n 0, 1) := by decide +kernel
theorem dX12_tailAlike_41 : decode cX12_tailAlike 41 = .ok (.iload_n 2, 1) := by decide +kernel
theorem dX12_tailAlike_42 : decode cX12_tailAlike 42 = .ok (.iload 4, 2) := by decide +kernel
theorem dX12_tailAlike_44 : decode cX12_tailAlike 44 = .ok (.iconst 1, 1) := by decide +kernel
theorem dX12_tailAlike_45 : decode cX12_tailAlike 45 = .ok (.isub, 1) := by decide +kernel
theorem dX12_tailAlike_46 : decode cX12_tailAlike 46 = .ok (.iload 5, 2) := by decide +kernel
theorem dX12_tailAlike_48 : decode cX12_tailAlike 48 = .ok (.isub, 1) := by decide +kernel
theorem dX12_tailAlike_49 : decode cX12_tailAlike 49 = .ok (.invokevirtual 488, 3) := by decide +kernel
theorem dX12_tailAlike_52 : decode cX12_tailAlike 52 = .ok (.if_icmp .ne 9, 3) := by decide +kernel
theorem dX12_tailAlike_55 : decode cX12_tailAlike 55 = .ok (.iinc 5 1, 3) := by decide +kernel
theorem dX12_tailAlike_58 : decode cX12_tailAlike 58 = .ok (.goto (-42), 3) := by decide +kernel
theorem dX12_tailAlike_61 : decode cX12_tailAlike 61 = .ok (.iload 5, 2) := by decide +kernel
theorem dX12_tailAlike_63 : decode cX12_tailAlike 63 = .ok (.ireturn, 1) := by decide +kernel
theorem dX12_isPlural_0 : decode cX12_isPlural 0 = .ok (.aload_n 0, 1) := by decide +kernel
theorem dX12_isPlural_1 : decode cX12_isPlural 1 = .ok (.iload_n 1, 1) := by decide +kernel
theorem dX12_isPlural_2 : decode cX12_isPlural 2 = .ok (.invokevirtual 485, 3) := by decide +kernel
theorem dX12_isPlural_5 : decode cX12_isPlural 5 = .ok (.istore_n 3, 1) := by decide +kernel
theorem dX12_isPlural_6 : decode cX12_isPlural 6 = .ok (.aload_n 0, 1) := by decide +kernel
theorem dX12_isPlural_7 : decode cX12_isPlural 7 = .ok (.iload_n 2, 1) := by decide +kernel
theorem dX12_isPlural_8 : decode cX12_isPlural 8 = .ok (.invokevirtual 485, 3) := by decide +kernel
theorem dX12_isPlural_11 : decode cX12_isPlural 11 = .ok (.iload_n 3, 1) := by decide +kernel
theorem dX12_isPlural_12 : decode cX12_isPlural 12 = .ok (.iconst 1, 1) := by decide +kernel
theorem dX12_isPlural_13 : decode cX12_isPlural 13 = .ok (.iadd, 1) := by decide +kernel
theorem dX12_isPlural_14 : decode cX12_isPlural 14 = .ok (.if_icmp .ne 28, 3) := by decide +kernel
theorem dX12_isPlural_17 : decode cX12_isPlural 17 = .ok (.aload_n 0, 1) := by decide +kernel
theorem dX12_isPlural_18 : decode cX12_isPlural 18 = .ok (.iload_n 1, 1) := by decide +kernel
theorem dX12_isPlural_19 : decode cX12_isPlural 19 = .ok (.iload_n 2, 1) := by decide +kernel
theorem dX12_isPlural_20 : decode cX12_isPlural 20 = .ok (.invokevirtual 491, 3) := by decide +kernel
theorem dX12_isPlural_23 : decode cX12_isPlural 23 = .ok (.iload_n 3, 1) := by decide +kernel
theorem dX12_isPlural_24 : decode cX12_isPlural 24 = .ok (.if_icmp .ne 18, 3) := by decide +kernel
theorem dX12_isPlural_27 : decode cX12_isPlural 27 = .ok (.aload_n 0, 1) := by decide +kernel
theorem dX12_isPlural_28 : decode cX12_isPlural 28 = .ok (.iload_n 2, 1) := by decide +kernel
theorem dX12_isPlural_29 : decode cX12_isPlural 29 = .ok (.iload_n 3, 1) := by decide +kernel
theorem dX12_isPlural_30 : decode cX12_isPlural 30 = .ok (.invokevirtual 488, 3) := by decide +kernel
theorem dX12_isPlural_33 : decode cX12_isPlural 33 = .ok (.bipush 115, 2) := by decide +kernel
theorem dX12_isPlural_35 : decode cX12_isPlural 35 = .ok (.if_icmp .ne 7, 3) := by decide +kernel
theorem dX12_isPlural_38 : decode cX12_isPlural 38 = .ok (.iconst 1, 1) := by decide +kernel
theorem dX12_isPlural_39 : decode cX12_isPlural 39 = .ok (.goto 4, 3) := by decide +kernel
theorem dX12_isPlural_42 : decode cX12_isPlural 42 = .ok (.iconst 0, 1) := by decide +kernel
theorem dX12_isPlural_43 : decode cX12_isPlural 43 = .ok (.ireturn, 1) := by decide +kernel
theorem dX12_near_0 : decode cX12_near 0 = .ok (.aload_n 0, 1) := by decide +kernel
theorem dX12_near_1 : decode cX12_near 1 = .ok (.iload_n 1, 1) := by decide +kernel
theorem dX12_near_2 : decode cX12_near 2 = .ok (.invokevirtual 293, 3) := by decide +kernel
theorem dX12_near_5 : decode cX12_near 5 = .ok (.ifCond .ne 16, 3) := by decide +kernel
theorem dX12_near_8 : decode cX12_near 8 = .ok (.aload_n 0, 1) := by decide +kernel
theorem dX12_near_9 : decode cX12_near 9 = .ok (.iload_n 2, 1) := by decide +kernel
theorem dX12_near_10 : decode cX12_near 10 = .ok (.invokevirtual 293, 3) := by decide +kernel
theorem dX12_near_13 : decode cX12_near 13 = .ok (.ifCond .ne 8, 3) := by decide +kernel
theorem dX12_near_16 : decode cX12_near 16 = .ok (.iload_n 1, 1) := by decide +kernel
theorem dX12_near_17 : decode cX12_near 17 = .ok (.iload_n 2, 1) := by decide +kernel
theorem dX12_near_18 : decode cX12_near 18 = .ok (.if_icmp .ne 7, 3) := by decide +kernel
theorem dX12_near_21 : decode cX12_near 21 = .ok (.sipush (-1001), 3) := by decide +kernel
theorem dX12_near_24 : decode cX12_near 24 = .ok (.ireturn, 1) := by decide +kernel
theorem dX12_near_25 : decode cX12_near 25 = .ok (.iload_n 1, 1) := by decide +kernel
theorem dX12_near_26 : decode cX12_near 26 = .ok (.iconst (-1), 1) := by decide +kernel
theorem dX12_near_27 : decode cX12_near 27 = .ok (.invokestatic 195, 3) := by decide +kernel
theorem dX12_near_30 : decode cX12_near 30 = .ok (.istore_n 3, 1) := by decide +kernel
theorem dX12_near_31 : decode cX12_near 31 = .ok (.iload_n 2, 1) := by decide +kernel
theorem dX12_near_32 : decode cX12_near 32 = .ok (.iconst (-1), 1) := by decide +kernel
theorem dX12_near_33 : decode cX12_near 33 = .ok (.invokestatic 195, 3) := by decide +kernel
theorem dX12_near_36 : decode cX12_near 36 = .ok (.istore 4, 2) := by decide +kernel
theorem dX12_near_38 : decode cX12_near 38 = .ok (.aload_n 0, 1) := by decide +kernel
theorem dX12_near_39 : decode cX12_near 39 = .ok (.iload_n 3, 1) := by decide +kernel
theorem dX12_near_40 : decode cX12_near 40 = .ok (.invokevirtual 485, 3) := by decide +kernel
theorem dX12_near_43 : decode cX12_near 43 = .ok (.istore 5, 2) := by decide +kernel
theorem dX12_near_45 : decode cX12_near 45 = .ok (.aload_n 0, 1) := by decide +kernel
theorem dX12_near_46 : decode cX12_near 46 = .ok (.iload 4, 2) := by decide +kernel
theorem dX12_near_48 : decode cX12_near 48 = .ok (.invokevirtual 485, 3) := by decide +kernel
theorem dX12_near_51 : decode cX12_near 51 = .ok (.istore 6, 2) := by decide +kernel
theorem dX12_near_53 : decode cX12_near 53 = .ok (.aload_n 0, 1) := by decide +kernel
theorem dX12_near_54 : decode cX12_near 54 = .ok (.iload_n 3, 1) := by decide +kernel
theorem dX12_near_55 : decode cX12_near 55 = .ok (.iload 4, 2) := by decide +kernel
theorem dX12_near_57 : decode cX12_near 57 = .ok (.invokevirtual 491, 3) := by decide +kernel
theorem dX12_near_60 : decode cX12_near 60 = .ok (.istore 7, 2) := by decide +kernel
theorem dX12_near_62 : decode cX12_near 62 = .ok (.iload 5, 2) := by decide +kernel
theorem dX12_near_64 : decode cX12_near 64 = .ok (.iload 6, 2) := by decide +kernel
theorem dX12_near_66 : decode cX12_near 66 = .ok (.if_icmp .ne 12, 3) := by decide +kernel
theorem dX12_near_69 : decode cX12_near 69 = .ok (.iload 7, 2) := by decide +kernel
theorem dX12_near_71 : decode cX12_near 71 = .ok (.iload 5, 2) := by decide +kernel
theorem dX12_near_73 : decode cX12_near 73 = .ok (.if_icmp .ne 5, 3) := by decide +kernel
theorem dX12_near_76 : decode cX12_near 76 = .ok (.iconst 1, 1) := by decide +kernel
theorem dX12_near_77 : decode cX12_near 77 = .ok (.ireturn, 1) := by decide +kernel
theorem dX12_near_78 : decode cX12_near 78 = .ok (.aload_n 0, 1) := by decide +kernel
theorem dX12_near_79 : decode cX12_near 79 = .ok (.iload_n 3, 1) := by decide +kernel
theorem dX12_near_80 : decode cX12_near 80 = .ok (.iload 4, 2) := by decide +kernel
theorem dX12_near_82 : decode cX12_near 82 = .ok (.invokevirtual 494, 3) := by decide +kernel
theorem dX12_near_85 : decode cX12_near 85 = .ok (.ifCond .ne 13, 3) := by decide +kernel
theorem dX12_near_88 : decode cX12_near 88 = .ok (.aload_n 0, 1) := by decide +kernel
theorem dX12_near_89 : decode cX12_near 89 = .ok (.iload 4, 2) := by decide +kernel
theorem dX12_near_91 : decode cX12_near 91 = .ok (.iload_n 3, 1) := by decide +kernel
theorem dX12_near_92 : decode cX12_near 92 = .ok (.invokevirtual 494, 3) := by decide +kernel
theorem dX12_near_95 : decode cX12_near 95 = .ok (.ifCond .eq 5, 3) := by decide +kernel
theorem dX12_near_98 : decode cX12_near 98 = .ok (.iconst 2, 1) := by decide +kernel
theorem dX12_near_99 : decode cX12_near 99 = .ok (.ireturn, 1) := by decide +kernel
theorem dX12_near_100 : decode cX12_near 100 = .ok (.iload 7, 2) := by decide +kernel
theorem dX12_near_102 : decode cX12_near 102 = .ok (.aload_n 0, 1) := by decide +kernel
theorem dX12_near_103 : decode cX12_near 103 = .ok (.iload_n 3, 1) := by decide +kernel
theorem dX12_near_104 : decode cX12_near 104 = .ok (.iload 4, 2) := by decide +kernel
theorem dX12_near_106 : decode cX12_near 106 = .ok (.invokevirtual 497, 3) := by decide +kernel
theorem dX12_near_109 : decode cX12_near 109 = .ok (.iadd, 1) := by decide +kernel
theorem dX12_near_110 : decode cX12_near 110 = .ok (.istore 8, 2) := by decide +kernel
theorem dX12_near_112 : decode cX12_near 112 = .ok (.iload 5, 2) := by decide +kernel
theorem dX12_near_114 : decode cX12_near 114 = .ok (.iload 6, 2) := by decide +kernel
theorem dX12_near_116 : decode cX12_near 116 = .ok (.if_icmp .le 8, 3) := by decide +kernel
theorem dX12_near_119 : decode cX12_near 119 = .ok (.iload 5, 2) := by decide +kernel
theorem dX12_near_121 : decode cX12_near 121 = .ok (.goto 5, 3) := by decide +kernel
theorem dX12_near_124 : decode cX12_near 124 = .ok (.iload 6, 2) := by decide +kernel
theorem dX12_near_126 : decode cX12_near 126 = .ok (.istore 9, 2) := by decide +kernel
theorem dX12_near_128 : decode cX12_near 128 = .ok (.iload 5, 2) := by decide +kernel
theorem dX12_near_130 : decode cX12_near 130 = .ok (.iload 6, 2) := by decide +kernel
theorem dX12_near_132 : decode cX12_near 132 = .ok (.if_icmp .eq 21, 3) := by decide +kernel
theorem dX12_near_135 : decode cX12_near 135 = .ok (.iload 5, 2) := by decide +kernel
theorem dX12_near_137 : decode cX12_near 137 = .ok (.iload 6, 2) := by decide +kernel
theorem dX12_near_139 : decode cX12_near 139 = .ok (.iconst 1, 1) := by decide +kernel
theorem dX12_near_140 : decode cX12_near 140 = .ok (.iadd, 1) := by decide +kernel
theorem dX12_near_141 : decode cX12_near 141 = .ok (.if_icmp .eq 12, 3) := by decide +kernel
theorem dX12_near_144 : decode cX12_near 144 = .ok (.iload 6, 2) := by decide +kernel
theorem dX12_near_146 : decode cX12_near 146 = .ok (.iload 5, 2) := by decide +kernel
theorem dX12_near_148 : decode cX12_near 148 = .ok (.iconst 1, 1) := by decide +kernel
theorem dX12_near_149 : decode cX12_near 149 = .ok (.iadd, 1) := by decide +kernel
theorem dX12_near_150 : decode cX12_near 150 = .ok (.if_icmp .ne 7, 3) := by decide +kernel
theorem dX12_near_153 : decode cX12_near 153 = .ok (.iconst 1, 1) := by decide +kernel
theorem dX12_near_154 : decode cX12_near 154 = .ok (.goto 4, 3) := by decide +kernel
theorem dX12_near_157 : decode cX12_near 157 = .ok (.iconst 0, 1) := by decide +kernel
theorem dX12_near_158 : decode cX12_near 158 = .ok (.istore 10, 2) := by decide +kernel
theorem dX12_near_160 : decode cX12_near 160 = .ok (.iload 10, 2) := by decide +kernel
theorem dX12_near_162 : decode cX12_near 162 = .ok (.ifCond .eq 16, 3) := by decide +kernel
theorem dX12_near_165 : decode cX12_near 165 = .ok (.iload 8, 2) := by decide +kernel
theorem dX12_near_167 : decode cX12_near 167 = .ok (.iload 9, 2) := by decide +kernel
theorem dX12_near_169 : decode cX12_near 169 = .ok (.iconst 1, 1) := by decide +kernel
theorem dX12_near_170 : decode cX12_near 170 = .ok (.isub, 1) := by decide +kernel
theorem dX12_near_171 : decode cX12_near 171 = .ok (.if_icmp .lt 7, 3) := by decide +kernel
theorem dX12_near_174 : decode cX12_near 174 = .ok (.iconst 3, 1) := by decide +kernel
theorem dX12_near_175 : decode cX12_near 175 = .ok (.goto 4, 3) := by decide +kernel
theorem dX12_near_178 : decode cX12_near 178 = .ok (.iconst 0, 1) := by decide +kernel
theorem dX12_near_179 : decode cX12_near 179 = .ok (.ireturn, 1) := by decide +kernel
theorem dX12_likeSub_0 : decode cX12_likeSub 0 = .ok (.iconst 0, 1) := by decide +kernel
theorem dX12_likeSub_1 : decode cX12_likeSub 1 = .ok (.istore_n 3, 1) := by decide +kernel
theorem dX12_likeSub_2 : decode cX12_likeSub 2 = .ok (.iload_n 3, 1) := by decide +kernel
theorem dX12_likeSub_3 : decode cX12_likeSub 3 = .ok (.aload_n 0, 1) := by decide +kernel
theorem dX12_likeSub_4 : decode cX12_likeSub 4 = .ok (.getfield 7, 3) := by decide +kernel
theorem dX12_likeSub_7 : decode cX12_likeSub 7 = .ok (.iload_n 1, 1) := by decide +kernel
theorem dX12_likeSub_8 : decode cX12_likeSub 8 = .ok (.iaload, 1) := by decide +kernel
theorem dX12_likeSub_9 : decode cX12_likeSub 9 = .ok (.if_icmp .ge 106, 3) := by decide +kernel
theorem dX12_likeSub_12 : decode cX12_likeSub 12 = .ok (.iload_n 1, 1) := by decide +kernel
theorem dX12_likeSub_13 : decode cX12_likeSub 13 = .ok (.iload_n 3, 1) := by decide +kernel
theorem dX12_likeSub_14 : decode cX12_likeSub 14 = .ok (.invokestatic 195, 3) := by decide +kernel
theorem dX12_likeSub_17 : decode cX12_likeSub 17 = .ok (.istore 4, 2) := by decide +kernel
theorem dX12_likeSub_19 : decode cX12_likeSub 19 = .ok (.aload_n 0, 1) := by decide +kernel
theorem dX12_likeSub_20 : decode cX12_likeSub 20 = .ok (.getfield 13, 3) := by decide +kernel
theorem dX12_likeSub_23 : decode cX12_likeSub 23 = .ok (.iload 4, 2) := by decide +kernel
theorem dX12_likeSub_25 : decode cX12_likeSub 25 = .ok (.iaload, 1) := by decide +kernel
theorem dX12_likeSub_26 : decode cX12_likeSub 26 = .ok (.aload_n 0, 1) := by decide +kernel
theorem dX12_likeSub_27 : decode cX12_likeSub 27 = .ok (.getfield 13, 3) := by decide +kernel
theorem dX12_likeSub_30 : decode cX12_likeSub 30 = .ok (.iload_n 2, 1) := by decide +kernel
theorem dX12_likeSub_31 : decode cX12_likeSub 31 = .ok (.iaload, 1) := by decide +kernel
theorem dX12_likeSub_32 : decode cX12_likeSub 32 = .ok (.if_icmp .ne 7, 3) := by decide +kernel
theorem dX12_likeSub_35 : decode cX12_likeSub 35 = .ok (.iconst 1, 1) := by decide +kernel
theorem dX12_likeSub_36 : decode cX12_likeSub 36 = .ok (.goto 4, 3) := by decide +kernel
theorem dX12_likeSub_39 : decode cX12_likeSub 39 = .ok (.iconst 0, 1) := by decide +kernel
theorem dX12_likeSub_40 : decode cX12_likeSub 40 = .ok (.istore 5, 2) := by decide +kernel
theorem dX12_likeSub_42 : decode cX12_likeSub 42 = .ok (.iconst 0, 1) := by decide +kernel
theorem dX12_likeSub_43 : decode cX12_likeSub 43 = .ok (.istore 6, 2) := by decide +kernel
theorem dX12_likeSub_45 : decode cX12_likeSub 45 = .ok (.iload 6, 2) := by decide +kernel
theorem dX12_likeSub_47 : decode cX12_likeSub 47 = .ok (.aload_n 0, 1) := by decide +kernel
theorem dX12_likeSub_48 : decode cX12_likeSub 48 = .ok (.getfield 13, 3) := by decide +kernel
theorem dX12_likeSub_51 : decode cX12_likeSub 51 = .ok (.iload_n 2, 1) := by decide +kernel
theorem dX12_likeSub_52 : decode cX12_likeSub 52 = .ok (.iaload, 1) := by decide +kernel
theorem dX12_likeSub_53 : decode cX12_likeSub 53 = .ok (.if_icmp .ge 49, 3) := by decide +kernel
theorem dX12_likeSub_56 : decode cX12_likeSub 56 = .ok (.iload 5, 2) := by decide +kernel
theorem dX12_likeSub_58 : decode cX12_likeSub 58 = .ok (.ifCond .eq 44, 3) := by decide +kernel
theorem dX12_likeSub_61 : decode cX12_likeSub 61 = .ok (.aload_n 0, 1) := by decide +kernel
theorem dX12_likeSub_62 : decode cX12_likeSub 62 = .ok (.getfield 16, 3) := by decide +kernel
theorem dX12_likeSub_65 : decode cX12_likeSub 65 = .ok (.bipush 12, 2) := by decide +kernel
theorem dX12_likeSub_67 : decode cX12_likeSub 67 = .ok (.iload 4, 2) := by decide +kernel
theorem dX12_likeSub_69 : decode cX12_likeSub 69 = .ok (.imul, 1) := by decide +kernel
theorem dX12_likeSub_70 : decode cX12_likeSub 70 = .ok (.iload 6, 2) := by decide +kernel
theorem dX12_likeSub_72 : decode cX12_likeSub 72 = .ok (.iadd, 1) := by decide +kernel
theorem dX12_likeSub_73 : decode cX12_likeSub 73 = .ok (.iaload, 1) := by decide +kernel
theorem dX12_likeSub_74 : decode cX12_likeSub 74 = .ok (.aload_n 0, 1) := by decide +kernel
theorem dX12_likeSub_75 : decode cX12_likeSub 75 = .ok (.getfield 16, 3) := by decide +kernel
theorem dX12_likeSub_78 : decode cX12_likeSub 78 = .ok (.bipush 12, 2) := by decide +kernel
theorem dX12_likeSub_80 : decode cX12_likeSub 80 = .ok (.iload_n 2, 1) := by decide +kernel
theorem dX12_likeSub_81 : decode cX12_likeSub 81 = .ok (.imul, 1) := by decide +kernel
theorem dX12_likeSub_82 : decode cX12_likeSub 82 = .ok (.iload 6, 2) := by decide +kernel
theorem dX12_likeSub_84 : decode cX12_likeSub 84 = .ok (.iadd, 1) := by decide +kernel
theorem dX12_likeSub_85 : decode cX12_likeSub 85 = .ok (.iaload, 1) := by decide +kernel
theorem dX12_likeSub_86 : decode cX12_likeSub 86 = .ok (.if_icmp .ne 7, 3) := by decide +kernel
theorem dX12_likeSub_89 : decode cX12_likeSub 89 = .ok (.iconst 1, 1) := by decide +kernel
theorem dX12_likeSub_90 : decode cX12_likeSub 90 = .ok (.goto 4, 3) := by decide +kernel
theorem dX12_likeSub_93 : decode cX12_likeSub 93 = .ok (.iconst 0, 1) := by decide +kernel
theorem dX12_likeSub_94 : decode cX12_likeSub 94 = .ok (.istore 5, 2) := by decide +kernel
theorem dX12_likeSub_96 : decode cX12_likeSub 96 = .ok (.iinc 6 1, 3) := by decide +kernel
theorem dX12_likeSub_99 : decode cX12_likeSub 99 = .ok (.goto (-54), 3) := by decide +kernel
theorem dX12_likeSub_102 : decode cX12_likeSub 102 = .ok (.iload 5, 2) := by decide +kernel
theorem dX12_likeSub_104 : decode cX12_likeSub 104 = .ok (.ifCond .eq 5, 3) := by decide +kernel
theorem dX12_likeSub_107 : decode cX12_likeSub 107 = .ok (.iload_n 3, 1) := by decide +kernel
theorem dX12_likeSub_108 : decode cX12_likeSub 108 = .ok (.ireturn, 1) := by decide +kernel
theorem dX12_likeSub_109 : decode cX12_likeSub 109 = .ok (.iinc 3 1, 3) := by decide +kernel
theorem dX12_likeSub_112 : decode cX12_likeSub 112 = .ok (.goto (-110), 3) := by decide +kernel
theorem dX12_likeSub_115 : decode cX12_likeSub 115 = .ok (.iconst (-1), 1) := by decide +kernel
theorem dX12_likeSub_116 : decode cX12_likeSub 116 = .ok (.ireturn, 1) := by decide +kernel
theorem dX12_copyWord_0 : decode cX12_copyWord 0 = .ok (.aload_n 0, 1) := by decide +kernel
theorem dX12_copyWord_1 : decode cX12_copyWord 1 = .ok (.getfield 13, 3) := by decide +kernel
theorem dX12_copyWord_4 : decode cX12_copyWord 4 = .ok (.iload_n 2, 1) := by decide +kernel
theorem dX12_copyWord_5 : decode cX12_copyWord 5 = .ok (.aload_n 0, 1) := by decide +kernel
theorem dX12_copyWord_6 : decode cX12_copyWord 6 = .ok (.getfield 13, 3) := by decide +kernel
theorem dX12_copyWord_9 : decode cX12_copyWord 9 = .ok (.iload_n 1, 1) := by decide +kernel
theorem dX12_copyWord_10 : decode cX12_copyWord 10 = .ok (.iaload, 1) := by decide +kernel
theorem dX12_copyWord_11 : decode cX12_copyWord 11 = .ok (.iastore, 1) := by decide +kernel
theorem dX12_copyWord_12 : decode cX12_copyWord 12 = .ok (.iconst 0, 1) := by decide +kernel
theorem dX12_copyWord_13 : decode cX12_copyWord 13 = .ok (.istore_n 3, 1) := by decide +kernel
theorem dX12_copyWord_14 : decode cX12_copyWord 14 = .ok (.iload_n 3, 1) := by decide +kernel
theorem dX12_copyWord_15 : decode cX12_copyWord 15 = .ok (.bipush 12, 2) := by decide +kernel
theorem dX12_copyWord_17 : decode cX12_copyWord 17 = .ok (.if_icmp .ge 31, 3) := by decide +kernel
theorem dX12_copyWord_20 : decode cX12_copyWord 20 = .ok (.aload_n 0, 1) := by decide +kernel
theorem dX12_copyWord_21 : decode cX12_copyWord 21 = .ok (.getfield 16, 3) := by decide +kernel
theorem dX12_copyWord_24 : decode cX12_copyWord 24 = .ok (.bipush 12, 2) := by decide +kernel
theorem dX12_copyWord_26 : decode cX12_copyWord 26 = .ok (.iload_n 2, 1) := by decide +kernel
theorem dX12_copyWord_27 : decode cX12_copyWord 27 = .ok (.imul, 1) := by decide +kernel
theorem dX12_copyWord_28 : decode cX12_copyWord 28 = .ok (.iload_n 3, 1) := by decide +kernel
theorem dX12_copyWord_29 : decode cX12_copyWord 29 = .ok (.iadd, 1) := by decide +kernel
theorem dX12_copyWord_30 : decode cX12_copyWord 30 = .ok (.aload_n 0, 1) := by decide +kernel
theorem dX12_copyWord_31 : decode cX12_copyWord 31 = .ok (.getfield 16, 3) := by decide +kernel
theorem dX12_copyWord_34 : decode cX12_copyWord 34 = .ok (.bipush 12, 2) := by decide +kernel
theorem dX12_copyWord_36 : decode cX12_copyWord 36 = .ok (.iload_n 1, 1) := by decide +kernel
theorem dX12_copyWord_37 : decode cX12_copyWord 37 = .ok (.imul, 1) := by decide +kernel
theorem dX12_copyWord_38 : decode cX12_copyWord 38 = .ok (.iload_n 3, 1) := by decide +kernel
theorem dX12_copyWord_39 : decode cX12_copyWord 39 = .ok (.iadd, 1) := by decide +kernel
theorem dX12_copyWord_40 : decode cX12_copyWord 40 = .ok (.iaload, 1) := by decide +kernel
theorem dX12_copyWord_41 : decode cX12_copyWord 41 = .ok (.iastore, 1) := by decide +kernel
theorem dX12_copyWord_42 : decode cX12_copyWord 42 = .ok (.iinc 3 1, 3) := by decide +kernel
theorem dX12_copyWord_45 : decode cX12_copyWord 45 = .ok (.goto (-31), 3) := by decide +kernel
theorem dX12_copyWord_48 : decode cX12_copyWord 48 = .ok (.return_, 1) := by decide +kernel
theorem dX12_join_0 : decode cX12_join 0 = .ok (.aload_n 0, 1) := by decide +kernel
theorem dX12_join_1 : decode cX12_join 1 = .ok (.iload_n 1, 1) := by decide +kernel
theorem dX12_join_2 : decode cX12_join 2 = .ok (.invokevirtual 293, 3) := by decide +kernel
theorem dX12_join_5 : decode cX12_join 5 = .ok (.ifCond .ne 16, 3) := by decide +kernel
theorem dX12_join_8 : decode cX12_join 8 = .ok (.aload_n 0, 1) := by decide +kernel
theorem dX12_join_9 : decode cX12_join 9 = .ok (.iload_n 2, 1) := by decide +kernel
theorem dX12_join_10 : decode cX12_join 10 = .ok (.invokevirtual 293, 3) := by decide +kernel
theorem dX12_join_13 : decode cX12_join 13 = .ok (.ifCond .ne 8, 3) := by decide +kernel
theorem dX12_join_16 : decode cX12_join 16 = .ok (.iload_n 1, 1) := by decide +kernel
theorem dX12_join_17 : decode cX12_join 17 = .ok (.iload_n 2, 1) := by decide +kernel
theorem dX12_join_18 : decode cX12_join 18 = .ok (.if_icmp .ne 7, 3) := by decide +kernel
theorem dX12_join_21 : decode cX12_join 21 = .ok (.sipush (-1001), 3) := by decide +kernel
theorem dX12_join_24 : decode cX12_join 24 = .ok (.ireturn, 1) := by decide +kernel
theorem dX12_join_25 : decode cX12_join 25 = .ok (.aload_n 0, 1) := by decide +kernel
theorem dX12_join_26 : decode cX12_join 26 = .ok (.getfield 19, 3) := by decide +kernel
theorem dX12_join_29 : decode cX12_join 29 = .ok (.iload_n 1, 1) := by decide +kernel
theorem dX12_join_30 : decode cX12_join 30 = .ok (.iaload, 1) := by decide +kernel
theorem dX12_join_31 : decode cX12_join 31 = .ok (.ifCond .lt 7, 3) := by decide +kernel
theorem dX12_join_34 : decode cX12_join 34 = .ok (.sipush (-1003), 3) := by decide +kernel
theorem dX12_join_37 : decode cX12_join 37 = .ok (.ireturn, 1) := by decide +kernel
theorem dX12_join_38 : decode cX12_join 38 = .ok (.iconst 0, 1) := by decide +kernel
theorem dX12_join_39 : decode cX12_join 39 = .ok (.istore_n 3, 1) := by decide +kernel
theorem dX12_join_40 : decode cX12_join 40 = .ok (.iconst 0, 1) := by decide +kernel
theorem dX12_join_41 : decode cX12_join 41 = .ok (.istore 4, 2) := by decide +kernel
theorem dX12_join_43 : decode cX12_join 43 = .ok (.iload 4, 2) := by decide +kernel
theorem dX12_join_45 : decode cX12_join 45 = .ok (.aload_n 0, 1) := by decide +kernel
theorem dX12_join_46 : decode cX12_join 46 = .ok (.getfield 7, 3) := by decide +kernel
theorem dX12_join_49 : decode cX12_join 49 = .ok (.iload_n 2, 1) := by decide +kernel
theorem dX12_join_50 : decode cX12_join 50 = .ok (.iaload, 1) := by decide +kernel
theorem dX12_join_51 : decode cX12_join 51 = .ok (.if_icmp .ge 34, 3) := by decide +kernel
theorem dX12_join_54 : decode cX12_join 54 = .ok (.iload_n 3, 1) := by decide +kernel
theorem dX12_join_55 : decode cX12_join 55 = .ok (.aload_n 0, 1) := by decide +kernel
theorem dX12_join_56 : decode cX12_join 56 = .ok (.iload_n 1, 1) := by decide +kernel
theorem dX12_join_57 : decode cX12_join 57 = .ok (.iload_n 2, 1) := by decide +kernel
theorem dX12_join_58 : decode cX12_join 58 = .ok (.iload 4, 2) := by decide +kernel
theorem dX12_join_60 : decode cX12_join 60 = .ok (.invokestatic 195, 3) := by decide +kernel
theorem dX12_join_63 : decode cX12_join 63 = .ok (.invokevirtual 500, 3) := by decide +kernel
theorem dX12_join_66 : decode cX12_join 66 = .ok (.ifCond .ge 7, 3) := by decide +kernel
theorem dX12_join_69 : decode cX12_join 69 = .ok (.iconst 1, 1) := by decide +kernel
theorem dX12_join_70 : decode cX12_join 70 = .ok (.goto 4, 3) := by decide +kernel
theorem dX12_join_73 : decode cX12_join 73 = .ok (.iconst 0, 1) := by decide +kernel
theorem dX12_join_74 : decode cX12_join 74 = .ok (.invokestatic 271, 3) := by decide +kernel
theorem dX12_join_77 : decode cX12_join 77 = .ok (.iadd, 1) := by decide +kernel
theorem dX12_join_78 : decode cX12_join 78 = .ok (.istore_n 3, 1) := by decide +kernel
theorem dX12_join_79 : decode cX12_join 79 = .ok (.iinc 4 1, 3) := by decide +kernel
theorem dX12_join_82 : decode cX12_join 82 = .ok (.goto (-39), 3) := by decide +kernel
theorem dX12_join_85 : decode cX12_join 85 = .ok (.aload_n 0, 1) := by decide +kernel
theorem dX12_join_86 : decode cX12_join 86 = .ok (.getfield 7, 3) := by decide +kernel
theorem dX12_join_89 : decode cX12_join 89 = .ok (.iload_n 1, 1) := by decide +kernel
theorem dX12_join_90 : decode cX12_join 90 = .ok (.iaload, 1) := by decide +kernel
theorem dX12_join_91 : decode cX12_join 91 = .ok (.iload_n 3, 1) := by decide +kernel
theorem dX12_join_92 : decode cX12_join 92 = .ok (.iadd, 1) := by decide +kernel
theorem dX12_join_93 : decode cX12_join 93 = .ok (.bipush 6, 2) := by decide +kernel
theorem dX12_join_95 : decode cX12_join 95 = .ok (.if_icmp .le 7, 3) := by decide +kernel
theorem dX12_join_98 : decode cX12_join 98 = .ok (.sipush (-1004), 3) := by decide +kernel
theorem dX12_join_101 : decode cX12_join 101 = .ok (.ireturn, 1) := by decide +kernel
theorem dX12_join_102 : decode cX12_join 102 = .ok (.iconst 0, 1) := by decide +kernel
theorem dX12_join_103 : decode cX12_join 103 = .ok (.istore 4, 2) := by decide +kernel
theorem dX12_join_105 : decode cX12_join 105 = .ok (.iload 4, 2) := by decide +kernel
theorem dX12_join_107 : decode cX12_join 107 = .ok (.aload_n 0, 1) := by decide +kernel
theorem dX12_join_108 : decode cX12_join 108 = .ok (.getfield 7, 3) := by decide +kernel
theorem dX12_join_111 : decode cX12_join 111 = .ok (.iload_n 2, 1) := by decide +kernel
theorem dX12_join_112 : decode cX12_join 112 = .ok (.iaload, 1) := by decide +kernel
theorem dX12_join_113 : decode cX12_join 113 = .ok (.if_icmp .ge 80, 3) := by decide +kernel
theorem dX12_join_116 : decode cX12_join 116 = .ok (.aload_n 0, 1) := by decide +kernel
theorem dX12_join_117 : decode cX12_join 117 = .ok (.getfield 96, 3) := by decide +kernel
theorem dX12_join_120 : decode cX12_join 120 = .ok (.iload 4, 2) := by decide +kernel
theorem dX12_join_122 : decode cX12_join 122 = .ok (.aload_n 0, 1) := by decide +kernel
theorem dX12_join_123 : decode cX12_join 123 = .ok (.iload_n 1, 1) := by decide +kernel
theorem dX12_join_124 : decode cX12_join 124 = .ok (.iload_n 2, 1) := by decide +kernel
theorem dX12_join_125 : decode cX12_join 125 = .ok (.iload 4, 2) := by decide +kernel
theorem dX12_join_127 : decode cX12_join 127 = .ok (.invokestatic 195, 3) := by decide +kernel
theorem dX12_join_130 : decode cX12_join 130 = .ok (.invokevirtual 500, 3) := by decide +kernel
theorem dX12_join_133 : decode cX12_join 133 = .ok (.iastore, 1) := by decide +kernel
theorem dX12_join_134 : decode cX12_join 134 = .ok (.aload_n 0, 1) := by decide +kernel
theorem dX12_join_135 : decode cX12_join 135 = .ok (.getfield 96, 3) := by decide +kernel
theorem dX12_join_138 : decode cX12_join 138 = .ok (.iload 4, 2) := by decide +kernel
theorem dX12_join_140 : decode cX12_join 140 = .ok (.iaload, 1) := by decide +kernel
theorem dX12_join_141 : decode cX12_join 141 = .ok (.ifCond .ge 46, 3) := by decide +kernel
theorem dX12_join_144 : decode cX12_join 144 = .ok (.aload_n 0, 1) := by decide +kernel
theorem dX12_join_145 : decode cX12_join 145 = .ok (.getfield 96, 3) := by decide +kernel
theorem dX12_join_148 : decode cX12_join 148 = .ok (.iload 4, 2) := by decide +kernel
theorem dX12_join_150 : decode cX12_join 150 = .ok (.aload_n 0, 1) := by decide +kernel
theorem dX12_join_151 : decode cX12_join 151 = .ok (.getfield 7, 3) := by decide +kernel
theorem dX12_join_154 : decode cX12_join 154 = .ok (.iload_n 1, 1) := by decide +kernel
theorem dX12_join_155 : decode cX12_join 155 = .ok (.iaload, 1) := by decide +kernel
theorem dX12_join_156 : decode cX12_join 156 = .ok (.iastore, 1) := by decide +kernel
theorem dX12_join_157 : decode cX12_join 157 = .ok (.aload_n 0, 1) := by decide +kernel
theorem dX12_join_158 : decode cX12_join 158 = .ok (.iload_n 2, 1) := by decide +kernel
theorem dX12_join_159 : decode cX12_join 159 = .ok (.iload 4, 2) := by decide +kernel
theorem dX12_join_161 : decode cX12_join 161 = .ok (.invokestatic 195, 3) := by decide +kernel
theorem dX12_join_164 : decode cX12_join 164 = .ok (.iload_n 1, 1) := by decide +kernel
theorem dX12_join_165 : decode cX12_join 165 = .ok (.aload_n 0, 1) := by decide +kernel
theorem dX12_join_166 : decode cX12_join 166 = .ok (.getfield 7, 3) := by decide +kernel
theorem dX12_join_169 : decode cX12_join 169 = .ok (.iload_n 1, 1) := by decide +kernel
theorem dX12_join_170 : decode cX12_join 170 = .ok (.iaload, 1) := by decide +kernel
theorem dX12_join_171 : decode cX12_join 171 = .ok (.invokestatic 195, 3) := by decide +kernel
theorem dX12_join_174 : decode cX12_join 174 = .ok (.invokevirtual 503, 3) := by decide +kernel
theorem dX12_join_177 : decode cX12_join 177 = .ok (.aload_n 0, 1) := by decide +kernel
theorem dX12_join_178 : decode cX12_join 178 = .ok (.getfield 7, 3) := by decide +kernel
theorem dX12_join_181 : decode cX12_join 181 = .ok (.iload_n 1, 1) := by decide +kernel
theorem dX12_join_182 : decode cX12_join 182 = .ok (.dup2, 1) := by decide +kernel
theorem dX12_join_183 : decode cX12_join 183 = .ok (.iaload, 1) := by decide +kernel
theorem dX12_join_184 : decode cX12_join 184 = .ok (.iconst 1, 1) := by decide +kernel
theorem dX12_join_185 : decode cX12_join 185 = .ok (.iadd, 1) := by decide +kernel
theorem dX12_join_186 : decode cX12_join 186 = .ok (.iastore, 1) := by decide +kernel
theorem dX12_join_187 : decode cX12_join 187 = .ok (.iinc 4 1, 3) := by decide +kernel
theorem dX12_join_190 : decode cX12_join 190 = .ok (.goto (-85), 3) := by decide +kernel
theorem dX12_join_193 : decode cX12_join 193 = .ok (.iconst 0, 1) := by decide +kernel
theorem dX12_join_194 : decode cX12_join 194 = .ok (.istore 4, 2) := by decide +kernel
theorem dX12_join_196 : decode cX12_join 196 = .ok (.iload 4, 2) := by decide +kernel
theorem dX12_join_198 : decode cX12_join 198 = .ok (.aload_n 0, 1) := by decide +kernel
theorem dX12_join_199 : decode cX12_join 199 = .ok (.getfield 210, 3) := by decide +kernel
theorem dX12_join_202 : decode cX12_join 202 = .ok (.if_icmp .ge 61, 3) := by decide +kernel
theorem dX12_join_205 : decode cX12_join 205 = .ok (.aload_n 0, 1) := by decide +kernel
theorem dX12_join_206 : decode cX12_join 206 = .ok (.getfield 28, 3) := by decide +kernel
theorem dX12_join_209 : decode cX12_join 209 = .ok (.iload 4, 2) := by decide +kernel
theorem dX12_join_211 : decode cX12_join 211 = .ok (.iaload, 1) := by decide +kernel
theorem dX12_join_212 : decode cX12_join 212 = .ok (.iload_n 2, 1) := by decide +kernel
theorem dX12_join_213 : decode cX12_join 213 = .ok (.if_icmp .ne 44, 3) := by decide +kernel
theorem dX12_join_216 : decode cX12_join 216 = .ok (.aload_n 0, 1) := by decide +kernel
theorem dX12_join_217 : decode cX12_join 217 = .ok (.getfield 28, 3) := by decide +kernel
theorem dX12_join_220 : decode cX12_join 220 = .ok (.iload 4, 2) := by decide +kernel
theorem dX12_join_222 : decode cX12_join 222 = .ok (.iload_n 1, 1) := by decide +kernel
theorem dX12_join_223 : decode cX12_join 223 = .ok (.iastore, 1) := by decide +kernel
theorem dX12_join_224 : decode cX12_join 224 = .ok (.aload_n 0, 1) := by decide +kernel
theorem dX12_join_225 : decode cX12_join 225 = .ok (.getfield 31, 3) := by decide +kernel
theorem dX12_join_228 : decode cX12_join 228 = .ok (.iload 4, 2) := by decide +kernel
theorem dX12_join_230 : decode cX12_join 230 = .ok (.aload_n 0, 1) := by decide +kernel
theorem dX12_join_231 : decode cX12_join 231 = .ok (.getfield 31, 3) := by decide +kernel
theorem dX12_join_234 : decode cX12_join 234 = .ok (.iload 4, 2) := by decide +kernel
theorem dX12_join_236 : decode cX12_join 236 = .ok (.iaload, 1) := by decide +kernel
theorem dX12_join_237 : decode cX12_join 237 = .ok (.ifCond .ge 7, 3) := by decide +kernel
theorem dX12_join_240 : decode cX12_join 240 = .ok (.iconst (-1), 1) := by decide +kernel
theorem dX12_join_241 : decode cX12_join 241 = .ok (.goto 15, 3) := by decide +kernel
theorem dX12_join_244 : decode cX12_join 244 = .ok (.aload_n 0, 1) := by decide +kernel
theorem dX12_join_245 : decode cX12_join 245 = .ok (.getfield 96, 3) := by decide +kernel
theorem dX12_join_248 : decode cX12_join 248 = .ok (.aload_n 0, 1) := by decide +kernel
theorem dX12_join_249 : decode cX12_join 249 = .ok (.getfield 31, 3) := by decide +kernel
theorem dX12_join_252 : decode cX12_join 252 = .ok (.iload 4, 2) := by decide +kernel
theorem dX12_join_254 : decode cX12_join 254 = .ok (.iaload, 1) := by decide +kernel
theorem dX12_join_255 : decode cX12_join 255 = .ok (.iaload, 1) := by decide +kernel
theorem dX12_join_256 : decode cX12_join 256 = .ok (.iastore, 1) := by decide +kernel
theorem dX12_join_257 : decode cX12_join 257 = .ok (.iinc 4 1, 3) := by decide +kernel
theorem dX12_join_260 : decode cX12_join 260 = .ok (.goto (-64), 3) := by decide +kernel
theorem dX12_join_263 : decode cX12_join 263 = .ok (.aload_n 0, 1) := by decide +kernel
theorem dX12_join_264 : decode cX12_join 264 = .ok (.getfield 22, 3) := by decide +kernel
theorem dX12_join_267 : decode cX12_join 267 = .ok (.iload_n 1, 1) := by decide +kernel
theorem dX12_join_268 : decode cX12_join 268 = .ok (.dup2, 1) := by decide +kernel
theorem dX12_join_269 : decode cX12_join 269 = .ok (.iaload, 1) := by decide +kernel
theorem dX12_join_270 : decode cX12_join 270 = .ok (.aload_n 0, 1) := by decide +kernel
theorem dX12_join_271 : decode cX12_join 271 = .ok (.getfield 22, 3) := by decide +kernel
theorem dX12_join_274 : decode cX12_join 274 = .ok (.iload_n 2, 1) := by decide +kernel
theorem dX12_join_275 : decode cX12_join 275 = .ok (.iaload, 1) := by decide +kernel
theorem dX12_join_276 : decode cX12_join 276 = .ok (.iconst 1, 1) := by decide +kernel
theorem dX12_join_277 : decode cX12_join 277 = .ok (.iload_n 1, 1) := by decide +kernel
theorem dX12_join_278 : decode cX12_join 278 = .ok (.ishl, 1) := by decide +kernel
theorem dX12_join_279 : decode cX12_join 279 = .ok (.iconst (-1), 1) := by decide +kernel
theorem dX12_join_280 : decode cX12_join 280 = .ok (.ixor, 1) := by decide +kernel
theorem dX12_join_281 : decode cX12_join 281 = .ok (.iand, 1) := by decide +kernel
theorem dX12_join_282 : decode cX12_join 282 = .ok (.ior, 1) := by decide +kernel
theorem dX12_join_283 : decode cX12_join 283 = .ok (.iastore, 1) := by decide +kernel
theorem dX12_join_284 : decode cX12_join 284 = .ok (.aload_n 0, 1) := by decide +kernel
theorem dX12_join_285 : decode cX12_join 285 = .ok (.getfield 25, 3) := by decide +kernel
theorem dX12_join_288 : decode cX12_join 288 = .ok (.iload_n 1, 1) := by decide +kernel
theorem dX12_join_289 : decode cX12_join 289 = .ok (.aload_n 0, 1) := by decide +kernel
theorem dX12_join_290 : decode cX12_join 290 = .ok (.getfield 25, 3) := by decide +kernel
theorem dX12_join_293 : decode cX12_join 293 = .ok (.iload_n 1, 1) := by decide +kernel
theorem dX12_join_294 : decode cX12_join 294 = .ok (.iaload, 1) := by decide +kernel
theorem dX12_join_295 : decode cX12_join 295 = .ok (.aload_n 0, 1) := by decide +kernel
theorem dX12_join_296 : decode cX12_join 296 = .ok (.getfield 25, 3) := by decide +kernel
theorem dX12_join_299 : decode cX12_join 299 = .ok (.iload_n 2, 1) := by decide +kernel
theorem dX12_join_300 : decode cX12_join 300 = .ok (.iaload, 1) := by decide +kernel
theorem dX12_join_301 : decode cX12_join 301 = .ok (.iadd, 1) := by decide +kernel
theorem dX12_join_302 : decode cX12_join 302 = .ok (.bipush 99, 2) := by decide +kernel
theorem dX12_join_304 : decode cX12_join 304 = .ok (.if_icmp .le 8, 3) := by decide +kernel
theorem dX12_join_307 : decode cX12_join 307 = .ok (.bipush 99, 2) := by decide +kernel
theorem dX12_join_309 : decode cX12_join 309 = .ok (.goto 16, 3) := by decide +kernel
theorem dX12_join_312 : decode cX12_join 312 = .ok (.aload_n 0, 1) := by decide +kernel
theorem dX12_join_313 : decode cX12_join 313 = .ok (.getfield 25, 3) := by decide +kernel
theorem dX12_join_316 : decode cX12_join 316 = .ok (.iload_n 1, 1) := by decide +kernel
theorem dX12_join_317 : decode cX12_join 317 = .ok (.iaload, 1) := by decide +kernel
theorem dX12_join_318 : decode cX12_join 318 = .ok (.aload_n 0, 1) := by decide +kernel
theorem dX12_join_319 : decode cX12_join 319 = .ok (.getfield 25, 3) := by decide +kernel
theorem dX12_join_322 : decode cX12_join 322 = .ok (.iload_n 2, 1) := by decide +kernel
theorem dX12_join_323 : decode cX12_join 323 = .ok (.iaload, 1) := by decide +kernel
theorem dX12_join_324 : decode cX12_join 324 = .ok (.iadd, 1) := by decide +kernel
theorem dX12_join_325 : decode cX12_join 325 = .ok (.iastore, 1) := by decide +kernel
theorem dX12_join_326 : decode cX12_join 326 = .ok (.aload_n 0, 1) := by decide +kernel
theorem dX12_join_327 : decode cX12_join 327 = .ok (.getfield 19, 3) := by decide +kernel
theorem dX12_join_330 : decode cX12_join 330 = .ok (.iload_n 2, 1) := by decide +kernel
theorem dX12_join_331 : decode cX12_join 331 = .ok (.iload_n 1, 1) := by decide +kernel
theorem dX12_join_332 : decode cX12_join 332 = .ok (.iastore, 1) := by decide +kernel
theorem dX12_join_333 : decode cX12_join 333 = .ok (.aload_n 0, 1) := by decide +kernel
theorem dX12_join_334 : decode cX12_join 334 = .ok (.getfield 7, 3) := by decide +kernel
theorem dX12_join_337 : decode cX12_join 337 = .ok (.iload_n 2, 1) := by decide +kernel
theorem dX12_join_338 : decode cX12_join 338 = .ok (.iconst 0, 1) := by decide +kernel
theorem dX12_join_339 : decode cX12_join 339 = .ok (.iastore, 1) := by decide +kernel
theorem dX12_join_340 : decode cX12_join 340 = .ok (.aload_n 0, 1) := by decide +kernel
theorem dX12_join_341 : decode cX12_join 341 = .ok (.getfield 22, 3) := by decide +kernel
theorem dX12_join_344 : decode cX12_join 344 = .ok (.iload_n 2, 1) := by decide +kernel
theorem dX12_join_345 : decode cX12_join 345 = .ok (.iconst 0, 1) := by decide +kernel
theorem dX12_join_346 : decode cX12_join 346 = .ok (.iastore, 1) := by decide +kernel
theorem dX12_join_347 : decode cX12_join 347 = .ok (.aload_n 0, 1) := by decide +kernel
theorem dX12_join_348 : decode cX12_join 348 = .ok (.getfield 25, 3) := by decide +kernel
theorem dX12_join_351 : decode cX12_join 351 = .ok (.iload_n 2, 1) := by decide +kernel
theorem dX12_join_352 : decode cX12_join 352 = .ok (.iconst 0, 1) := by decide +kernel
theorem dX12_join_353 : decode cX12_join 353 = .ok (.iastore, 1) := by decide +kernel
theorem dX12_join_354 : decode cX12_join 354 = .ok (.aload_n 0, 1) := by decide +kernel
theorem dX12_join_355 : decode cX12_join 355 = .ok (.iload_n 1, 1) := by decide +kernel
theorem dX12_join_356 : decode cX12_join 356 = .ok (.bipush (-2), 2) := by decide +kernel
theorem dX12_join_358 : decode cX12_join 358 = .ok (.invokevirtual 275, 3) := by decide +kernel
theorem dX12_join_361 : decode cX12_join 361 = .ok (.ireturn, 1) := by decide +kernel
theorem dX12_keepAt_0 : decode cX12_keepAt 0 = .ok (.aload_n 0, 1) := by decide +kernel
theorem dX12_keepAt_1 : decode cX12_keepAt 1 = .ok (.getfield 99, 3) := by decide +kernel
theorem dX12_keepAt_4 : decode cX12_keepAt 4 = .ok (.iload_n 1, 1) := by decide +kernel
theorem dX12_keepAt_5 : decode cX12_keepAt 5 = .ok (.aload_n 0, 1) := by decide +kernel
theorem dX12_keepAt_6 : decode cX12_keepAt 6 = .ok (.getfield 192, 3) := by decide +kernel
theorem dX12_keepAt_9 : decode cX12_keepAt 9 = .ok (.iastore, 1) := by decide +kernel
theorem dX12_keepAt_10 : decode cX12_keepAt 10 = .ok (.iconst 0, 1) := by decide +kernel
theorem dX12_keepAt_11 : decode cX12_keepAt 11 = .ok (.istore_n 2, 1) := by decide +kernel
theorem dX12_keepAt_12 : decode cX12_keepAt 12 = .ok (.iload_n 2, 1) := by decide +kernel
theorem dX12_keepAt_13 : decode cX12_keepAt 13 = .ok (.bipush 16, 2) := by decide +kernel
theorem dX12_keepAt_15 : decode cX12_keepAt 15 = .ok (.if_icmp .ge 77, 3) := by decide +kernel
theorem dX12_keepAt_18 : decode cX12_keepAt 18 = .ok (.aload_n 0, 1) := by decide +kernel
theorem dX12_keepAt_19 : decode cX12_keepAt 19 = .ok (.getfield 102, 3) := by decide +kernel
theorem dX12_keepAt_22 : decode cX12_keepAt 22 = .ok (.bipush 16, 2) := by decide +kernel
theorem dX12_keepAt_24 : decode cX12_keepAt 24 = .ok (.iload_n 1, 1) := by decide +kernel
theorem dX12_keepAt_25 : decode cX12_keepAt 25 = .ok (.imul, 1) := by decide +kernel
theorem dX12_keepAt_26 : decode cX12_keepAt 26 = .ok (.iload_n 2, 1) := by decide +kernel
theorem dX12_keepAt_27 : decode cX12_keepAt 27 = .ok (.iadd, 1) := by decide +kernel
theorem dX12_keepAt_28 : decode cX12_keepAt 28 = .ok (.aload_n 0, 1) := by decide +kernel
theorem dX12_keepAt_29 : decode cX12_keepAt 29 = .ok (.getfield 7, 3) := by decide +kernel
theorem dX12_keepAt_32 : decode cX12_keepAt 32 = .ok (.iload_n 2, 1) := by decide +kernel
theorem dX12_keepAt_33 : decode cX12_keepAt 33 = .ok (.iaload, 1) := by decide +kernel
theorem dX12_keepAt_34 : decode cX12_keepAt 34 = .ok (.iastore, 1) := by decide +kernel
theorem dX12_keepAt_35 : decode cX12_keepAt 35 = .ok (.aload_n 0, 1) := by decide +kernel
theorem dX12_keepAt_36 : decode cX12_keepAt 36 = .ok (.getfield 111, 3) := by decide +kernel
theorem dX12_keepAt_39 : decode cX12_keepAt 39 = .ok (.bipush 16, 2) := by decide +kernel
theorem dX12_keepAt_41 : decode cX12_keepAt 41 = .ok (.iload_n 1, 1) := by decide +kernel
theorem dX12_keepAt_42 : decode cX12_keepAt 42 = .ok (.imul, 1) := by decide +kernel
theorem dX12_keepAt_43 : decode cX12_keepAt 43 = .ok (.iload_n 2, 1) := by decide +kernel
theorem dX12_keepAt_44 : decode cX12_keepAt 44 = .ok (.iadd, 1) := by decide +kernel
theorem dX12_keepAt_45 : decode cX12_keepAt 45 = .ok (.aload_n 0, 1) := by decide +kernel
theorem dX12_keepAt_46 : decode cX12_keepAt 46 = .ok (.getfield 19, 3) := by decide +kernel
theorem dX12_keepAt_49 : decode cX12_keepAt 49 = .ok (.iload_n 2, 1) := by decide +kernel
theorem dX12_keepAt_50 : decode cX12_keepAt 50 = .ok (.iaload, 1) := by decide +kernel
theorem dX12_keepAt_51 : decode cX12_keepAt 51 = .ok (.iastore, 1) := by decide +kernel
theorem dX12_keepAt_52 : decode cX12_keepAt 52 = .ok (.aload_n 0, 1) := by decide +kernel
theorem dX12_keepAt_53 : decode cX12_keepAt 53 = .ok (.getfield 114, 3) := by decide +kernel
theorem dX12_keepAt_56 : decode cX12_keepAt 56 = .ok (.bipush 16, 2) := by decide +kernel
theorem dX12_keepAt_58 : decode cX12_keepAt 58 = .ok (.iload_n 1, 1) := by decide +kernel
theorem dX12_keepAt_59 : decode cX12_keepAt 59 = .ok (.imul, 1) := by decide +kernel
theorem dX12_keepAt_60 : decode cX12_keepAt 60 = .ok (.iload_n 2, 1) := by decide +kernel
theorem dX12_keepAt_61 : decode cX12_keepAt 61 = .ok (.iadd, 1) := by decide +kernel
theorem dX12_keepAt_62 : decode cX12_keepAt 62 = .ok (.aload_n 0, 1) := by decide +kernel
theorem dX12_keepAt_63 : decode cX12_keepAt 63 = .ok (.getfield 22, 3) := by decide +kernel
theorem dX12_keepAt_66 : decode cX12_keepAt 66 = .ok (.iload_n 2, 1) := by decide +kernel
theorem dX12_keepAt_67 : decode cX12_keepAt 67 = .ok (.iaload, 1) := by decide +kernel
theorem dX12_keepAt_68 : decode cX12_keepAt 68 = .ok (.iastore, 1) := by decide +kernel
theorem dX12_keepAt_69 : decode cX12_keepAt 69 = .ok (.aload_n 0, 1) := by decide +kernel
theorem dX12_keepAt_70 : decode cX12_keepAt 70 = .ok (.getfield 117, 3) := by decide +kernel
theorem dX12_keepAt_73 : decode cX12_keepAt 73 = .ok (.bipush 16, 2) := by decide +kernel
theorem dX12_keepAt_75 : decode cX12_keepAt 75 = .ok (.iload_n 1, 1) := by decide +kernel
theorem dX12_keepAt_76 : decode cX12_keepAt 76 = .ok (.imul, 1) := by decide +kernel
theorem dX12_keepAt_77 : decode cX12_keepAt 77 = .ok (.iload_n 2, 1) := by decide +kernel
theorem dX12_keepAt_78 : decode cX12_keepAt 78 = .ok (.iadd, 1) := by decide +kernel
theorem dX12_keepAt_79 : decode cX12_keepAt 79 = .ok (.aload_n 0, 1) := by decide +kernel
theorem dX12_keepAt_80 : decode cX12_keepAt 80 = .ok (.getfield 25, 3) := by decide +kernel
theorem dX12_keepAt_83 : decode cX12_keepAt 83 = .ok (.iload_n 2, 1) := by decide +kernel
theorem dX12_keepAt_84 : decode cX12_keepAt 84 = .ok (.iaload, 1) := by decide +kernel
theorem dX12_keepAt_85 : decode cX12_keepAt 85 = .ok (.iastore, 1) := by decide +kernel
theorem dX12_keepAt_86 : decode cX12_keepAt 86 = .ok (.iinc 2 1, 3) := by decide +kernel
theorem dX12_keepAt_89 : decode cX12_keepAt 89 = .ok (.goto (-77), 3) := by decide +kernel
theorem dX12_keepAt_92 : decode cX12_keepAt 92 = .ok (.iconst 0, 1) := by decide +kernel
theorem dX12_keepAt_93 : decode cX12_keepAt 93 = .ok (.istore_n 2, 1) := by decide +kernel
theorem dX12_keepAt_94 : decode cX12_keepAt 94 = .ok (.iload_n 2, 1) := by decide +kernel
theorem dX12_keepAt_95 : decode cX12_keepAt 95 = .ok (.bipush 112, 2) := by decide +kernel
theorem dX12_keepAt_97 : decode cX12_keepAt 97 = .ok (.if_icmp .ge 26, 3) := by decide +kernel
theorem dX12_keepAt_100 : decode cX12_keepAt 100 = .ok (.aload_n 0, 1) := by decide +kernel
theorem dX12_keepAt_101 : decode cX12_keepAt 101 = .ok (.getfield 105, 3) := by decide +kernel
theorem dX12_keepAt_104 : decode cX12_keepAt 104 = .ok (.bipush 112, 2) := by decide +kernel
theorem dX12_keepAt_106 : decode cX12_keepAt 106 = .ok (.iload_n 1, 1) := by decide +kernel
theorem dX12_keepAt_107 : decode cX12_keepAt 107 = .ok (.imul, 1) := by decide +kernel
theorem dX12_keepAt_108 : decode cX12_keepAt 108 = .ok (.iload_n 2, 1) := by decide +kernel
theorem dX12_keepAt_109 : decode cX12_keepAt 109 = .ok (.iadd, 1) := by decide +kernel
theorem dX12_keepAt_110 : decode cX12_keepAt 110 = .ok (.aload_n 0, 1) := by decide +kernel
theorem dX12_keepAt_111 : decode cX12_keepAt 111 = .ok (.getfield 13, 3) := by decide +kernel
theorem dX12_keepAt_114 : decode cX12_keepAt 114 = .ok (.iload_n 2, 1) := by decide +kernel
theorem dX12_keepAt_115 : decode cX12_keepAt 115 = .ok (.iaload, 1) := by decide +kernel
theorem dX12_keepAt_116 : decode cX12_keepAt 116 = .ok (.iastore, 1) := by decide +kernel
theorem dX12_keepAt_117 : decode cX12_keepAt 117 = .ok (.iinc 2 1, 3) := by decide +kernel
theorem dX12_keepAt_120 : decode cX12_keepAt 120 = .ok (.goto (-26), 3) := by decide +kernel
theorem dX12_keepAt_123 : decode cX12_keepAt 123 = .ok (.iconst 0, 1) := by decide +kernel
theorem dX12_keepAt_124 : decode cX12_keepAt 124 = .ok (.istore_n 2, 1) := by decide +kernel
theorem dX12_keepAt_125 : decode cX12_keepAt 125 = .ok (.iload_n 2, 1) := by decide +kernel
theorem dX12_keepAt_126 : decode cX12_keepAt 126 = .ok (.sipush 1344, 3) := by decide +kernel
theorem dX12_keepAt_129 : decode cX12_keepAt 129 = .ok (.if_icmp .ge 27, 3) := by decide +kernel
theorem dX12_keepAt_132 : decode cX12_keepAt 132 = .ok (.aload_n 0, 1) := by decide +kernel
theorem dX12_keepAt_133 : decode cX12_keepAt 133 = .ok (.getfield 108, 3) := by decide +kernel
theorem dX12_keepAt_136 : decode cX12_keepAt 136 = .ok (.sipush 1344, 3) := by decide +kernel
theorem dX12_keepAt_139 : decode cX12_keepAt 139 = .ok (.iload_n 1, 1) := by decide +kernel
theorem dX12_keepAt_140 : decode cX12_keepAt 140 = .ok (.imul, 1) := by decide +kernel
theorem dX12_keepAt_141 : decode cX12_keepAt 141 = .ok (.iload_n 2, 1) := by decide +kernel
theorem dX12_keepAt_142 : decode cX12_keepAt 142 = .ok (.iadd, 1) := by decide +kernel
theorem dX12_keepAt_143 : decode cX12_keepAt 143 = .ok (.aload_n 0, 1) := by decide +kernel
theorem dX12_keepAt_144 : decode cX12_keepAt 144 = .ok (.getfield 16, 3) := by decide +kernel
theorem dX12_keepAt_147 : decode cX12_keepAt 147 = .ok (.iload_n 2, 1) := by decide +kernel
theorem dX12_keepAt_148 : decode cX12_keepAt 148 = .ok (.iaload, 1) := by decide +kernel
theorem dX12_keepAt_149 : decode cX12_keepAt 149 = .ok (.iastore, 1) := by decide +kernel
theorem dX12_keepAt_150 : decode cX12_keepAt 150 = .ok (.iinc 2 1, 3) := by decide +kernel
theorem dX12_keepAt_153 : decode cX12_keepAt 153 = .ok (.goto (-28), 3) := by decide +kernel
theorem dX12_keepAt_156 : decode cX12_keepAt 156 = .ok (.aload_n 0, 1) := by decide +kernel
theorem dX12_keepAt_157 : decode cX12_keepAt 157 = .ok (.getfield 120, 3) := by decide +kernel
theorem dX12_keepAt_160 : decode cX12_keepAt 160 = .ok (.iload_n 1, 1) := by decide +kernel
theorem dX12_keepAt_161 : decode cX12_keepAt 161 = .ok (.aload_n 0, 1) := by decide +kernel
theorem dX12_keepAt_162 : decode cX12_keepAt 162 = .ok (.getfield 210, 3) := by decide +kernel
theorem dX12_keepAt_165 : decode cX12_keepAt 165 = .ok (.iastore, 1) := by decide +kernel
theorem dX12_keepAt_166 : decode cX12_keepAt 166 = .ok (.iconst 0, 1) := by decide +kernel
theorem dX12_keepAt_167 : decode cX12_keepAt 167 = .ok (.istore_n 2, 1) := by decide +kernel
theorem dX12_keepAt_168 : decode cX12_keepAt 168 = .ok (.iload_n 2, 1) := by decide +kernel
theorem dX12_keepAt_169 : decode cX12_keepAt 169 = .ok (.aload_n 0, 1) := by decide +kernel
theorem dX12_keepAt_170 : decode cX12_keepAt 170 = .ok (.getfield 210, 3) := by decide +kernel
theorem dX12_keepAt_173 : decode cX12_keepAt 173 = .ok (.if_icmp .ge 94, 3) := by decide +kernel
theorem dX12_keepAt_176 : decode cX12_keepAt 176 = .ok (.aload_n 0, 1) := by decide +kernel
theorem dX12_keepAt_177 : decode cX12_keepAt 177 = .ok (.getfield 123, 3) := by decide +kernel
theorem dX12_keepAt_180 : decode cX12_keepAt 180 = .ok (.bipush 60, 2) := by decide +kernel
theorem dX12_keepAt_182 : decode cX12_keepAt 182 = .ok (.iload_n 1, 1) := by decide +kernel
theorem dX12_keepAt_183 : decode cX12_keepAt 183 = .ok (.imul, 1) := by decide +kernel
theorem dX12_keepAt_184 : decode cX12_keepAt 184 = .ok (.iload_n 2, 1) := by decide +kernel
theorem dX12_keepAt_185 : decode cX12_keepAt 185 = .ok (.iadd, 1) := by decide +kernel
theorem dX12_keepAt_186 : decode cX12_keepAt 186 = .ok (.aload_n 0, 1) := by decide +kernel
theorem dX12_keepAt_187 : decode cX12_keepAt 187 = .ok (.getfield 28, 3) := by decide +kernel
theorem dX12_keepAt_190 : decode cX12_keepAt 190 = .ok (.iload_n 2, 1) := by decide +kernel
theorem dX12_keepAt_191 : decode cX12_keepAt 191 = .ok (.iaload, 1) := by decide +kernel
theorem dX12_keepAt_192 : decode cX12_keepAt 192 = .ok (.iastore, 1) := by decide +kernel
theorem dX12_keepAt_193 : decode cX12_keepAt 193 = .ok (.aload_n 0, 1) := by decide +kernel
theorem dX12_keepAt_194 : decode cX12_keepAt 194 = .ok (.getfield 126, 3) := by decide +kernel
theorem dX12_keepAt_197 : decode cX12_keepAt 197 = .ok (.bipush 60, 2) := by decide +kernel
theorem dX12_keepAt_199 : decode cX12_keepAt 199 = .ok (.iload_n 1, 1) := by decide +kernel
theorem dX12_keepAt_200 : decode cX12_keepAt 200 = .ok (.imul, 1) := by decide +kernel
theorem dX12_keepAt_201 : decode cX12_keepAt 201 = .ok (.iload_n 2, 1) := by decide +kernel
theorem dX12_keepAt_202 : decode cX12_keepAt 202 = .ok (.iadd, 1) := by decide +kernel
theorem dX12_keepAt_203 : decode cX12_keepAt 203 = .ok (.aload_n 0, 1) := by decide +kernel
theorem dX12_keepAt_204 : decode cX12_keepAt 204 = .ok (.getfield 31, 3) := by decide +kernel
theorem dX12_keepAt_207 : decode cX12_keepAt 207 = .ok (.iload_n 2, 1) := by decide +kernel
theorem dX12_keepAt_208 : decode cX12_keepAt 208 = .ok (.iaload, 1) := by decide +kernel
theorem dX12_keepAt_209 : decode cX12_keepAt 209 = .ok (.iastore, 1) := by decide +kernel
theorem dX12_keepAt_210 : decode cX12_keepAt 210 = .ok (.aload_n 0, 1) := by decide +kernel
theorem dX12_keepAt_211 : decode cX12_keepAt 211 = .ok (.getfield 129, 3) := by decide +kernel
theorem dX12_keepAt_214 : decode cX12_keepAt 214 = .ok (.bipush 60, 2) := by decide +kernel
theorem dX12_keepAt_216 : decode cX12_keepAt 216 = .ok (.iload_n 1, 1) := by decide +kernel
theorem dX12_keepAt_217 : decode cX12_keepAt 217 = .ok (.imul, 1) := by decide +kernel
theorem dX12_keepAt_218 : decode cX12_keepAt 218 = .ok (.iload_n 2, 1) := by decide +kernel
theorem dX12_keepAt_219 : decode cX12_keepAt 219 = .ok (.iadd, 1) := by decide +kernel
theorem dX12_keepAt_220 : decode cX12_keepAt 220 = .ok (.aload_n 0, 1) := by decide +kernel
theorem dX12_keepAt_221 : decode cX12_keepAt 221 = .ok (.getfield 34, 3) := by decide +kernel
theorem dX12_keepAt_224 : decode cX12_keepAt 224 = .ok (.iload_n 2, 1) := by decide +kernel
theorem dX12_keepAt_225 : decode cX12_keepAt 225 = .ok (.iaload, 1) := by decide +kernel
theorem dX12_keepAt_226 : decode cX12_keepAt 226 = .ok (.iastore, 1) := by decide +kernel
theorem dX12_keepAt_227 : decode cX12_keepAt 227 = .ok (.aload_n 0, 1) := by decide +kernel
theorem dX12_keepAt_228 : decode cX12_keepAt 228 = .ok (.getfield 132, 3) := by decide +kernel
theorem dX12_keepAt_231 : decode cX12_keepAt 231 = .ok (.bipush 60, 2) := by decide +kernel
theorem dX12_keepAt_233 : decode cX12_keepAt 233 = .ok (.iload_n 1, 1) := by decide +kernel
theorem dX12_keepAt_234 : decode cX12_keepAt 234 = .ok (.imul, 1) := by decide +kernel
theorem dX12_keepAt_235 : decode cX12_keepAt 235 = .ok (.iload_n 2, 1) := by decide +kernel
theorem dX12_keepAt_236 : decode cX12_keepAt 236 = .ok (.iadd, 1) := by decide +kernel
theorem dX12_keepAt_237 : decode cX12_keepAt 237 = .ok (.aload_n 0, 1) := by decide +kernel
theorem dX12_keepAt_238 : decode cX12_keepAt 238 = .ok (.getfield 37, 3) := by decide +kernel
theorem dX12_keepAt_241 : decode cX12_keepAt 241 = .ok (.iload_n 2, 1) := by decide +kernel
theorem dX12_keepAt_242 : decode cX12_keepAt 242 = .ok (.iaload, 1) := by decide +kernel
theorem dX12_keepAt_243 : decode cX12_keepAt 243 = .ok (.iastore, 1) := by decide +kernel
theorem dX12_keepAt_244 : decode cX12_keepAt 244 = .ok (.aload_n 0, 1) := by decide +kernel
theorem dX12_keepAt_245 : decode cX12_keepAt 245 = .ok (.getfield 135, 3) := by decide +kernel
theorem dX12_keepAt_248 : decode cX12_keepAt 248 = .ok (.bipush 60, 2) := by decide +kernel
theorem dX12_keepAt_250 : decode cX12_keepAt 250 = .ok (.iload_n 1, 1) := by decide +kernel
theorem dX12_keepAt_251 : decode cX12_keepAt 251 = .ok (.imul, 1) := by decide +kernel
theorem dX12_keepAt_252 : decode cX12_keepAt 252 = .ok (.iload_n 2, 1) := by decide +kernel
theorem dX12_keepAt_253 : decode cX12_keepAt 253 = .ok (.iadd, 1) := by decide +kernel
theorem dX12_keepAt_254 : decode cX12_keepAt 254 = .ok (.aload_n 0, 1) := by decide +kernel
theorem dX12_keepAt_255 : decode cX12_keepAt 255 = .ok (.getfield 40, 3) := by decide +kernel
theorem dX12_keepAt_258 : decode cX12_keepAt 258 = .ok (.iload_n 2, 1) := by decide +kernel
theorem dX12_keepAt_259 : decode cX12_keepAt 259 = .ok (.baload, 1) := by decide +kernel
theorem dX12_keepAt_260 : decode cX12_keepAt 260 = .ok (.bastore, 1) := by decide +kernel
theorem dX12_keepAt_261 : decode cX12_keepAt 261 = .ok (.iinc 2 1, 3) := by decide +kernel
theorem dX12_keepAt_264 : decode cX12_keepAt 264 = .ok (.goto (-96), 3) := by decide +kernel
theorem dX12_keepAt_267 : decode cX12_keepAt 267 = .ok (.aload_n 0, 1) := by decide +kernel
theorem dX12_keepAt_268 : decode cX12_keepAt 268 = .ok (.getfield 138, 3) := by decide +kernel
theorem dX12_keepAt_271 : decode cX12_keepAt 271 = .ok (.iload_n 1, 1) := by decide +kernel
theorem dX12_keepAt_272 : decode cX12_keepAt 272 = .ok (.iconst 1, 1) := by decide +kernel
theorem dX12_keepAt_273 : decode cX12_keepAt 273 = .ok (.bastore, 1) := by decide +kernel
theorem dX12_keepAt_274 : decode cX12_keepAt 274 = .ok (.return_, 1) := by decide +kernel
theorem dX12_backTo_0 : decode cX12_backTo 0 = .ok (.aload_n 0, 1) := by decide +kernel
theorem dX12_backTo_1 : decode cX12_backTo 1 = .ok (.aload_n 0, 1) := by decide +kernel
theorem dX12_backTo_2 : decode cX12_backTo 2 = .ok (.getfield 99, 3) := by decide +kernel
theorem dX12_backTo_5 : decode cX12_backTo 5 = .ok (.iload_n 1, 1) := by decide +kernel
theorem dX12_backTo_6 : decode cX12_backTo 6 = .ok (.iaload, 1) := by decide +kernel
theorem dX12_backTo_7 : decode cX12_backTo 7 = .ok (.putfield 192, 3) := by decide +kernel
theorem dX12_backTo_10 : decode cX12_backTo 10 = .ok (.iconst 0, 1) := by decide +kernel
theorem dX12_backTo_11 : decode cX12_backTo 11 = .ok (.istore_n 2, 1) := by decide +kernel
theorem dX12_backTo_12 : decode cX12_backTo 12 = .ok (.iload_n 2, 1) := by decide +kernel
theorem dX12_backTo_13 : decode cX12_backTo 13 = .ok (.bipush 16, 2) := by decide +kernel
theorem dX12_backTo_15 : decode cX12_backTo 15 = .ok (.if_icmp .ge 77, 3) := by decide +kernel
theorem dX12_backTo_18 : decode cX12_backTo 18 = .ok (.aload_n 0, 1) := by decide +kernel
theorem dX12_backTo_19 : decode cX12_backTo 19 = .ok (.getfield 7, 3) := by decide +kernel
theorem dX12_backTo_22 : decode cX12_backTo 22 = .ok (.iload_n 2, 1) := by decide +kernel
theorem dX12_backTo_23 : decode cX12_backTo 23 = .ok (.aload_n 0, 1) := by decide +kernel
theorem dX12_backTo_24 : decode cX12_backTo 24 = .ok (.getfield 102, 3) := by decide +kernel
theorem dX12_backTo_27 : decode cX12_backTo 27 = .ok (.bipush 16, 2) := by decide +kernel
theorem dX12_backTo_29 : decode cX12_backTo 29 = .ok (.iload_n 1, 1) := by decide +kernel
theorem dX12_backTo_30 : decode cX12_backTo 30 = .ok (.imul, 1) := by decide +kernel
theorem dX12_backTo_31 : decode cX12_backTo 31 = .ok (.iload_n 2, 1) := by decide +kernel
theorem dX12_backTo_32 : decode cX12_backTo 32 = .ok (.iadd, 1) := by decide +kernel
theorem dX12_backTo_33 : decode cX12_backTo 33 = .ok (.iaload, 1) := by decide +kernel
theorem dX12_backTo_34 : decode cX12_backTo 34 = .ok (.iastore, 1) := by decide +kernel
theorem dX12_backTo_35 : decode cX12_backTo 35 = .ok (.aload_n 0, 1) := by decide +kernel
theorem dX12_backTo_36 : decode cX12_backTo 36 = .ok (.getfield 19, 3) := by decide +kernel
theorem dX12_backTo_39 : decode cX12_backTo 39 = .ok (.iload_n 2, 1) := by decide +kernel
theorem dX12_backTo_40 : decode cX12_backTo 40 = .ok (.aload_n 0, 1) := by decide +kernel
theorem dX12_backTo_41 : decode cX12_backTo 41 = .ok (.getfield 111, 3) := by decide +kernel
theorem dX12_backTo_44 : decode cX12_backTo 44 = .ok (.bipush 16, 2) := by decide +kernel
theorem dX12_backTo_46 : decode cX12_backTo 46 = .ok (.iload_n 1, 1) := by decide +kernel
theorem dX12_backTo_47 : decode cX12_backTo 47 = .ok (.imul, 1) := by decide +kernel
theorem dX12_backTo_48 : decode cX12_backTo 48 = .ok (.iload_n 2, 1) := by decide +kernel
theorem dX12_backTo_49 : decode cX12_backTo 49 = .ok (.iadd, 1) := by decide +kernel
theorem dX12_backTo_50 : decode cX12_backTo 50 = .ok (.iaload, 1) := by decide +kernel
theorem dX12_backTo_51 : decode cX12_backTo 51 = .ok (.iastore, 1) := by decide +kernel
theorem dX12_backTo_52 : decode cX12_backTo 52 = .ok (.aload_n 0, 1) := by decide +kernel
theorem dX12_backTo_53 : decode cX12_backTo 53 = .ok (.getfield 22, 3) := by decide +kernel
theorem dX12_backTo_56 : decode cX12_backTo 56 = .ok (.iload_n 2, 1) := by decide +kernel
theorem dX12_backTo_57 : decode cX12_backTo 57 = .ok (.aload_n 0, 1) := by decide +kernel
theorem dX12_backTo_58 : decode cX12_backTo 58 = .ok (.getfield 114, 3) := by decide +kernel
theorem dX12_backTo_61 : decode cX12_backTo 61 = .ok (.bipush 16, 2) := by decide +kernel
theorem dX12_backTo_63 : decode cX12_backTo 63 = .ok (.iload_n 1, 1) := by decide +kernel
theorem dX12_backTo_64 : decode cX12_backTo 64 = .ok (.imul, 1) := by decide +kernel
theorem dX12_backTo_65 : decode cX12_backTo 65 = .ok (.iload_n 2, 1) := by decide +kernel
theorem dX12_backTo_66 : decode cX12_backTo 66 = .ok (.iadd, 1) := by decide +kernel
theorem dX12_backTo_67 : decode cX12_backTo 67 = .ok (.iaload, 1) := by decide +kernel
theorem dX12_backTo_68 : decode cX12_backTo 68 = .ok (.iastore, 1) := by decide +kernel
theorem dX12_backTo_69 : decode cX12_backTo 69 = .ok (.aload_n 0, 1) := by decide +kernel
theorem dX12_backTo_70 : decode cX12_backTo 70 = .ok (.getfield 25, 3) := by decide +kernel
theorem dX12_backTo_73 : decode cX12_backTo 73 = .ok (.iload_n 2, 1) := by decide +kernel
theorem dX12_backTo_74 : decode cX12_backTo 74 = .ok (.aload_n 0, 1) := by decide +kernel
theorem dX12_backTo_75 : decode cX12_backTo 75 = .ok (.getfield 117, 3) := by decide +kernel
theorem dX12_backTo_78 : decode cX12_backTo 78 = .ok (.bipush 16, 2) := by decide +kernel
theorem dX12_backTo_80 : decode cX12_backTo 80 = .ok (.iload_n 1, 1) := by decide +kernel
theorem dX12_backTo_81 : decode cX12_backTo 81 = .ok (.imul, 1) := by decide +kernel
theorem dX12_backTo_82 : decode cX12_backTo 82 = .ok (.iload_n 2, 1) := by decide +kernel
theorem dX12_backTo_83 : decode cX12_backTo 83 = .ok (.iadd, 1) := by decide +kernel
theorem dX12_backTo_84 : decode cX12_backTo 84 = .ok (.iaload, 1) := by decide +kernel
theorem dX12_backTo_85 : decode cX12_backTo 85 = .ok (.iastore, 1) := by decide +kernel
theorem dX12_backTo_86 : decode cX12_backTo 86 = .ok (.iinc 2 1, 3) := by decide +kernel
theorem dX12_backTo_89 : decode cX12_backTo 89 = .ok (.goto (-77), 3) := by decide +kernel
theorem dX12_backTo_92 : decode cX12_backTo 92 = .ok (.iconst 0, 1) := by decide +kernel
theorem dX12_backTo_93 : decode cX12_backTo 93 = .ok (.istore_n 2, 1) := by decide +kernel
theorem dX12_backTo_94 : decode cX12_backTo 94 = .ok (.iload_n 2, 1) := by decide +kernel
theorem dX12_backTo_95 : decode cX12_backTo 95 = .ok (.bipush 112, 2) := by decide +kernel
theorem dX12_backTo_97 : decode cX12_backTo 97 = .ok (.if_icmp .ge 26, 3) := by decide +kernel
theorem dX12_backTo_100 : decode cX12_backTo 100 = .ok (.aload_n 0, 1) := by decide +kernel
theorem dX12_backTo_101 : decode cX12_backTo 101 = .ok (.getfield 13, 3) := by decide +kernel
theorem dX12_backTo_104 : decode cX12_backTo 104 = .ok (.iload_n 2, 1) := by decide +kernel
theorem dX12_backTo_105 : decode cX12_backTo 105 = .ok (.aload_n 0, 1) := by decide +kernel
theorem dX12_backTo_106 : decode cX12_backTo 106 = .ok (.getfield 105, 3) := by decide +kernel
theorem dX12_backTo_109 : decode cX12_backTo 109 = .ok (.bipush 112, 2) := by decide +kernel
theorem dX12_backTo_111 : decode cX12_backTo 111 = .ok (.iload_n 1, 1) := by decide +kernel
theorem dX12_backTo_112 : decode cX12_backTo 112 = .ok (.imul, 1) := by decide +kernel
theorem dX12_backTo_113 : decode cX12_backTo 113 = .ok (.iload_n 2, 1) := by decide +kernel
theorem dX12_backTo_114 : decode cX12_backTo 114 = .ok (.iadd, 1) := by decide +kernel
theorem dX12_backTo_115 : decode cX12_backTo 115 = .ok (.iaload, 1) := by decide +kernel
theorem dX12_backTo_116 : decode cX12_backTo 116 = .ok (.iastore, 1) := by decide +kernel
theorem dX12_backTo_117 : decode cX12_backTo 117 = .ok (.iinc 2 1, 3) := by decide +kernel
theorem dX12_backTo_120 : decode cX12_backTo 120 = .ok (.goto (-26), 3) := by decide +kernel
theorem dX12_backTo_123 : decode cX12_backTo 123 = .ok (.iconst 0, 1) := by decide +kernel
theorem dX12_backTo_124 : decode cX12_backTo 124 = .ok (.istore_n 2, 1) := by decide +kernel
theorem dX12_backTo_125 : decode cX12_backTo 125 = .ok (.iload_n 2, 1) := by decide +kernel
theorem dX12_backTo_126 : decode cX12_backTo 126 = .ok (.sipush 1344, 3) := by decide +kernel
theorem dX12_backTo_129 : decode cX12_backTo 129 = .ok (.if_icmp .ge 27, 3) := by decide +kernel
theorem dX12_backTo_132 : decode cX12_backTo 132 = .ok (.aload_n 0, 1) := by decide +kernel
theorem dX12_backTo_133 : decode cX12_backTo 133 = .ok (.getfield 16, 3) := by decide +kernel
theorem dX12_backTo_136 : decode cX12_backTo 136 = .ok (.iload_n 2, 1) := by decide +kernel
theorem dX12_backTo_137 : decode cX12_backTo 137 = .ok (.aload_n 0, 1) := by decide +kernel
theorem dX12_backTo_138 : decode cX12_backTo 138 = .ok (.getfield 108, 3) := by decide +kernel
theorem dX12_backTo_141 : decode cX12_backTo 141 = .ok (.sipush 1344, 3) := by decide +kernel
theorem dX12_backTo_144 : decode cX12_backTo 144 = .ok (.iload_n 1, 1) := by decide +kernel
theorem dX12_backTo_145 : decode cX12_backTo 145 = .ok (.imul, 1) := by decide +kernel
theorem dX12_backTo_146 : decode cX12_backTo 146 = .ok (.iload_n 2, 1) := by decide +kernel
theorem dX12_backTo_147 : decode cX12_backTo 147 = .ok (.iadd, 1) := by decide +kernel
theorem dX12_backTo_148 : decode cX12_backTo 148 = .ok (.iaload, 1) := by decide +kernel
theorem dX12_backTo_149 : decode cX12_backTo 149 = .ok (.iastore, 1) := by decide +kernel
theorem dX12_backTo_150 : decode cX12_backTo 150 = .ok (.iinc 2 1, 3) := by decide +kernel
theorem dX12_backTo_153 : decode cX12_backTo 153 = .ok (.goto (-28), 3) := by decide +kernel
theorem dX12_backTo_156 : decode cX12_backTo 156 = .ok (.aload_n 0, 1) := by decide +kernel
theorem dX12_backTo_157 : decode cX12_backTo 157 = .ok (.aload_n 0, 1) := by decide +kernel
theorem dX12_backTo_158 : decode cX12_backTo 158 = .ok (.getfield 120, 3) := by decide +kernel
theorem dX12_backTo_161 : decode cX12_backTo 161 = .ok (.iload_n 1, 1) := by decide +kernel
theorem dX12_backTo_162 : decode cX12_backTo 162 = .ok (.iaload, 1) := by decide +kernel
theorem dX12_backTo_163 : decode cX12_backTo 163 = .ok (.putfield 210, 3) := by decide +kernel
theorem dX12_backTo_166 : decode cX12_backTo 166 = .ok (.iconst 0, 1) := by decide +kernel
theorem dX12_backTo_167 : decode cX12_backTo 167 = .ok (.istore_n 2, 1) := by decide +kernel
theorem dX12_backTo_168 : decode cX12_backTo 168 = .ok (.iload_n 2, 1) := by decide +kernel
theorem dX12_backTo_169 : decode cX12_backTo 169 = .ok (.aload_n 0, 1) := by decide +kernel
theorem dX12_backTo_170 : decode cX12_backTo 170 = .ok (.getfield 210, 3) := by decide +kernel
theorem dX12_backTo_173 : decode cX12_backTo 173 = .ok (.if_icmp .ge 94, 3) := by decide +kernel
theorem dX12_backTo_176 : decode cX12_backTo 176 = .ok (.aload_n 0, 1) := by decide +kernel
theorem dX12_backTo_177 : decode cX12_backTo 177 = .ok (.getfield 28, 3) := by decide +kernel
theorem dX12_backTo_180 : decode cX12_backTo 180 = .ok (.iload_n 2, 1) := by decide +kernel
theorem dX12_backTo_181 : decode cX12_backTo 181 = .ok (.aload_n 0, 1) := by decide +kernel
theorem dX12_backTo_182 : decode cX12_backTo 182 = .ok (.getfield 123, 3) := by decide +kernel
theorem dX12_backTo_185 : decode cX12_backTo 185 = .ok (.bipush 60, 2) := by decide +kernel
theorem dX12_backTo_187 : decode cX12_backTo 187 = .ok (.iload_n 1, 1) := by decide +kernel
theorem dX12_backTo_188 : decode cX12_backTo 188 = .ok (.imul, 1) := by decide +kernel
theorem dX12_backTo_189 : decode cX12_backTo 189 = .ok (.iload_n 2, 1) := by decide +kernel
theorem dX12_backTo_190 : decode cX12_backTo 190 = .ok (.iadd, 1) := by decide +kernel
theorem dX12_backTo_191 : decode cX12_backTo 191 = .ok (.iaload, 1) := by decide +kernel
theorem dX12_backTo_192 : decode cX12_backTo 192 = .ok (.iastore, 1) := by decide +kernel
theorem dX12_backTo_193 : decode cX12_backTo 193 = .ok (.aload_n 0, 1) := by decide +kernel
theorem dX12_backTo_194 : decode cX12_backTo 194 = .ok (.getfield 31, 3) := by decide +kernel
theorem dX12_backTo_197 : decode cX12_backTo 197 = .ok (.iload_n 2, 1) := by decide +kernel
theorem dX12_backTo_198 : decode cX12_backTo 198 = .ok (.aload_n 0, 1) := by decide +kernel
theorem dX12_backTo_199 : decode cX12_backTo 199 = .ok (.getfield 126, 3) := by decide +kernel
theorem dX12_backTo_202 : decode cX12_backTo 202 = .ok (.bipush 60, 2) := by decide +kernel
theorem dX12_backTo_204 : decode cX12_backTo 204 = .ok (.iload_n 1, 1) := by decide +kernel
theorem dX12_backTo_205 : decode cX12_backTo 205 = .ok (.imul, 1) := by decide +kernel
theorem dX12_backTo_206 : decode cX12_backTo 206 = .ok (.iload_n 2, 1) := by decide +kernel
theorem dX12_backTo_207 : decode cX12_backTo 207 = .ok (.iadd, 1) := by decide +kernel
theorem dX12_backTo_208 : decode cX12_backTo 208 = .ok (.iaload, 1) := by decide +kernel
theorem dX12_backTo_209 : decode cX12_backTo 209 = .ok (.iastore, 1) := by decide +kernel
theorem dX12_backTo_210 : decode cX12_backTo 210 = .ok (.aload_n 0, 1) := by decide +kernel
theorem dX12_backTo_211 : decode cX12_backTo 211 = .ok (.getfield 34, 3) := by decide +kernel
theorem dX12_backTo_214 : decode cX12_backTo 214 = .ok (.iload_n 2, 1) := by decide +kernel
theorem dX12_backTo_215 : decode cX12_backTo 215 = .ok (.aload_n 0, 1) := by decide +kernel
theorem dX12_backTo_216 : decode cX12_backTo 216 = .ok (.getfield 129, 3) := by decide +kernel
theorem dX12_backTo_219 : decode cX12_backTo 219 = .ok (.bipush 60, 2) := by decide +kernel
theorem dX12_backTo_221 : decode cX12_backTo 221 = .ok (.iload_n 1, 1) := by decide +kernel
theorem dX12_backTo_222 : decode cX12_backTo 222 = .ok (.imul, 1) := by decide +kernel
theorem dX12_backTo_223 : decode cX12_backTo 223 = .ok (.iload_n 2, 1) := by decide +kernel
theorem dX12_backTo_224 : decode cX12_backTo 224 = .ok (.iadd, 1) := by decide +kernel
theorem dX12_backTo_225 : decode cX12_backTo 225 = .ok (.iaload, 1) := by decide +kernel
theorem dX12_backTo_226 : decode cX12_backTo 226 = .ok (.iastore, 1) := by decide +kernel
theorem dX12_backTo_227 : decode cX12_backTo 227 = .ok (.aload_n 0, 1) := by decide +kernel
theorem dX12_backTo_228 : decode cX12_backTo 228 = .ok (.getfield 37, 3) := by decide +kernel
theorem dX12_backTo_231 : decode cX12_backTo 231 = .ok (.iload_n 2, 1) := by decide +kernel
theorem dX12_backTo_232 : decode cX12_backTo 232 = .ok (.aload_n 0, 1) := by decide +kernel
theorem dX12_backTo_233 : decode cX12_backTo 233 = .ok (.getfield 132, 3) := by decide +kernel
theorem dX12_backTo_236 : decode cX12_backTo 236 = .ok (.bipush 60, 2) := by decide +kernel
theorem dX12_backTo_238 : decode cX12_backTo 238 = .ok (.iload_n 1, 1) := by decide +kernel
theorem dX12_backTo_239 : decode cX12_backTo 239 = .ok (.imul, 1) := by decide +kernel
theorem dX12_backTo_240 : decode cX12_backTo 240 = .ok (.iload_n 2, 1) := by decide +kernel
theorem dX12_backTo_241 : decode cX12_backTo 241 = .ok (.iadd, 1) := by decide +kernel
theorem dX12_backTo_242 : decode cX12_backTo 242 = .ok (.iaload, 1) := by decide +kernel
theorem dX12_backTo_243 : decode cX12_backTo 243 = .ok (.iastore, 1) := by decide +kernel
theorem dX12_backTo_244 : decode cX12_backTo 244 = .ok (.aload_n 0, 1) := by decide +kernel
theorem dX12_backTo_245 : decode cX12_backTo 245 = .ok (.getfield 40, 3) := by decide +kernel
theorem dX12_backTo_248 : decode cX12_backTo 248 = .ok (.iload_n 2, 1) := by decide +kernel
theorem dX12_backTo_249 : decode cX12_backTo 249 = .ok (.aload_n 0, 1) := by decide +kernel
theorem dX12_backTo_250 : decode cX12_backTo 250 = .ok (.getfield 135, 3) := by decide +kernel
theorem dX12_backTo_253 : decode cX12_backTo 253 = .ok (.bipush 60, 2) := by decide +kernel
theorem dX12_backTo_255 : decode cX12_backTo 255 = .ok (.iload_n 1, 1) := by decide +kernel
theorem dX12_backTo_256 : decode cX12_backTo 256 = .ok (.imul, 1) := by decide +kernel
theorem dX12_backTo_257 : decode cX12_backTo 257 = .ok (.iload_n 2, 1) := by decide +kernel
theorem dX12_backTo_258 : decode cX12_backTo 258 = .ok (.iadd, 1) := by decide +kernel
theorem dX12_backTo_259 : decode cX12_backTo 259 = .ok (.baload, 1) := by decide +kernel
theorem dX12_backTo_260 : decode cX12_backTo 260 = .ok (.bastore, 1) := by decide +kernel
theorem dX12_backTo_261 : decode cX12_backTo 261 = .ok (.iinc 2 1, 3) := by decide +kernel
theorem dX12_backTo_264 : decode cX12_backTo 264 = .ok (.goto (-96), 3) := by decide +kernel
theorem dX12_backTo_267 : decode cX12_backTo 267 = .ok (.return_, 1) := by decide +kernel
theorem dX12_keep_0 : decode cX12_keep 0 = .ok (.iload_n 1, 1) := by decide +kernel
theorem dX12_keep_1 : decode cX12_keep 1 = .ok (.i2l, 1) := by decide +kernel
theorem dX12_keep_2 : decode cX12_keep 2 = .ok (.lconst 0, 1) := by decide +kernel
theorem dX12_keep_3 : decode cX12_keep 3 = .ok (.lconst 1, 1) := by decide +kernel
theorem dX12_keep_4 : decode cX12_keep 4 = .ok (.invokestatic 146, 3) := by decide +kernel
theorem dX12_keep_7 : decode cX12_keep 7 = .ok (.ifCond .ne 7, 3) := by decide +kernel
theorem dX12_keep_10 : decode cX12_keep 10 = .ok (.sipush (-1001), 3) := by decide +kernel
theorem dX12_keep_13 : decode cX12_keep 13 = .ok (.ireturn, 1) := by decide +kernel
theorem dX12_keep_14 : decode cX12_keep 14 = .ok (.aload_n 0, 1) := by decide +kernel
theorem dX12_keep_15 : decode cX12_keep 15 = .ok (.iload_n 1, 1) := by decide +kernel
theorem dX12_keep_16 : decode cX12_keep 16 = .ok (.invokevirtual 256, 3) := by decide +kernel
theorem dX12_keep_19 : decode cX12_keep 19 = .ok (.iconst 1, 1) := by decide +kernel
theorem dX12_keep_20 : decode cX12_keep 20 = .ok (.ireturn, 1) := by decide +kernel
theorem dX12_goBack_0 : decode cX12_goBack 0 = .ok (.iload_n 1, 1) := by decide +kernel
theorem dX12_goBack_1 : decode cX12_goBack 1 = .ok (.i2l, 1) := by decide +kernel
theorem dX12_goBack_2 : decode cX12_goBack 2 = .ok (.lconst 0, 1) := by decide +kernel
theorem dX12_goBack_3 : decode cX12_goBack 3 = .ok (.lconst 1, 1) := by decide +kernel
theorem dX12_goBack_4 : decode cX12_goBack 4 = .ok (.invokestatic 146, 3) := by decide +kernel
theorem dX12_goBack_7 : decode cX12_goBack 7 = .ok (.ifCond .ne 7, 3) := by decide +kernel
theorem dX12_goBack_10 : decode cX12_goBack 10 = .ok (.sipush (-1001), 3) := by decide +kernel
theorem dX12_goBack_13 : decode cX12_goBack 13 = .ok (.ireturn, 1) := by decide +kernel
theorem dX12_goBack_14 : decode cX12_goBack 14 = .ok (.aload_n 0, 1) := by decide +kernel
theorem dX12_goBack_15 : decode cX12_goBack 15 = .ok (.getfield 138, 3) := by decide +kernel
theorem dX12_goBack_18 : decode cX12_goBack 18 = .ok (.iload_n 1, 1) := by decide +kernel
theorem dX12_goBack_19 : decode cX12_goBack 19 = .ok (.baload, 1) := by decide +kernel
theorem dX12_goBack_20 : decode cX12_goBack 20 = .ok (.ifCond .ne 7, 3) := by decide +kernel
theorem dX12_goBack_23 : decode cX12_goBack 23 = .ok (.sipush (-1003), 3) := by decide +kernel
theorem dX12_goBack_26 : decode cX12_goBack 26 = .ok (.ireturn, 1) := by decide +kernel
theorem dX12_goBack_27 : decode cX12_goBack 27 = .ok (.aload_n 0, 1) := by decide +kernel
theorem dX12_goBack_28 : decode cX12_goBack 28 = .ok (.iload_n 1, 1) := by decide +kernel
theorem dX12_goBack_29 : decode cX12_goBack 29 = .ok (.invokevirtual 262, 3) := by decide +kernel
theorem dX12_goBack_32 : decode cX12_goBack 32 = .ok (.iconst 1, 1) := by decide +kernel
theorem dX12_goBack_33 : decode cX12_goBack 33 = .ok (.ireturn, 1) := by decide +kernel
theorem dX12_isKeptWord_0 : decode cX12_isKeptWord 0 = .ok (.aload_n 0, 1) := by decide +kernel
theorem dX12_isKeptWord_1 : decode cX12_isKeptWord 1 = .ok (.getfield 105, 3) := by decide +kernel
theorem dX12_isKeptWord_4 : decode cX12_isKeptWord 4 = .ok (.bipush 112, 2) := by decide +kernel
theorem dX12_isKeptWord_6 : decode cX12_isKeptWord 6 = .ok (.iload_n 1, 1) := by decide +kernel
theorem dX12_isKeptWord_7 : decode cX12_isKeptWord 7 = .ok (.imul, 1) := by decide +kernel
theorem dX12_isKeptWord_8 : decode cX12_isKeptWord 8 = .ok (.iload_n 2, 1) := by decide +kernel
theorem dX12_isKeptWord_9 : decode cX12_isKeptWord 9 = .ok (.iadd, 1) := by decide +kernel
theorem dX12_isKeptWord_10 : decode cX12_isKeptWord 10 = .ok (.iaload, 1) := by decide +kernel
theorem dX12_isKeptWord_11 : decode cX12_isKeptWord 11 = .ok (.aload_n 0, 1) := by decide +kernel
theorem dX12_isKeptWord_12 : decode cX12_isKeptWord 12 = .ok (.getfield 13, 3) := by decide +kernel
theorem dX12_isKeptWord_15 : decode cX12_isKeptWord 15 = .ok (.iload_n 3, 1) := by decide +kernel
theorem dX12_isKeptWord_16 : decode cX12_isKeptWord 16 = .ok (.iaload, 1) := by decide +kernel
theorem dX12_isKeptWord_17 : decode cX12_isKeptWord 17 = .ok (.if_icmp .ne 7, 3) := by decide +kernel
theorem dX12_isKeptWord_20 : decode cX12_isKeptWord 20 = .ok (.iconst 1, 1) := by decide +kernel
theorem dX12_isKeptWord_21 : decode cX12_isKeptWord 21 = .ok (.goto 4, 3) := by decide +kernel
theorem dX12_isKeptWord_24 : decode cX12_isKeptWord 24 = .ok (.iconst 0, 1) := by decide +kernel
theorem dX12_isKeptWord_25 : decode cX12_isKeptWord 25 = .ok (.istore 4, 2) := by decide +kernel
theorem dX12_isKeptWord_27 : decode cX12_isKeptWord 27 = .ok (.iconst 0, 1) := by decide +kernel
theorem dX12_isKeptWord_28 : decode cX12_isKeptWord 28 = .ok (.istore 5, 2) := by decide +kernel
theorem dX12_isKeptWord_30 : decode cX12_isKeptWord 30 = .ok (.iload 5, 2) := by decide +kernel
theorem dX12_isKeptWord_32 : decode cX12_isKeptWord 32 = .ok (.aload_n 0, 1) := by decide +kernel
theorem dX12_isKeptWord_33 : decode cX12_isKeptWord 33 = .ok (.getfield 13, 3) := by decide +kernel
theorem dX12_isKeptWord_36 : decode cX12_isKeptWord 36 = .ok (.iload_n 3, 1) := by decide +kernel
theorem dX12_isKeptWord_37 : decode cX12_isKeptWord 37 = .ok (.iaload, 1) := by decide +kernel
theorem dX12_isKeptWord_38 : decode cX12_isKeptWord 38 = .ok (.if_icmp .ge 54, 3) := by decide +kernel
theorem dX12_isKeptWord_41 : decode cX12_isKeptWord 41 = .ok (.iload 4, 2) := by decide +kernel
theorem dX12_isKeptWord_43 : decode cX12_isKeptWord 43 = .ok (.ifCond .eq 49, 3) := by decide +kernel
theorem dX12_isKeptWord_46 : decode cX12_isKeptWord 46 = .ok (.aload_n 0, 1) := by decide +kernel
theorem dX12_isKeptWord_47 : decode cX12_isKeptWord 47 = .ok (.getfield 108, 3) := by decide +kernel
theorem dX12_isKeptWord_50 : decode cX12_isKeptWord 50 = .ok (.sipush 1344, 3) := by decide +kernel
theorem dX12_isKeptWord_53 : decode cX12_isKeptWord 53 = .ok (.iload_n 1, 1) := by decide +kernel
theorem dX12_isKeptWord_54 : decode cX12_isKeptWord 54 = .ok (.imul, 1) := by decide +kernel
theorem dX12_isKeptWord_55 : decode cX12_isKeptWord 55 = .ok (.bipush 12, 2) := by decide +kernel
theorem dX12_isKeptWord_57 : decode cX12_isKeptWord 57 = .ok (.iload_n 2, 1) := by decide +kernel
theorem dX12_isKeptWord_58 : decode cX12_isKeptWord 58 = .ok (.imul, 1) := by decide +kernel
theorem dX12_isKeptWord_59 : decode cX12_isKeptWord 59 = .ok (.iadd, 1) := by decide +kernel
theorem dX12_isKeptWord_60 : decode cX12_isKeptWord 60 = .ok (.iload 5, 2) := by decide +kernel
theorem dX12_isKeptWord_62 : decode cX12_isKeptWord 62 = .ok (.iadd, 1) := by decide +kernel
theorem dX12_isKeptWord_63 : decode cX12_isKeptWord 63 = .ok (.iaload, 1) := by decide +kernel
theorem dX12_isKeptWord_64 : decode cX12_isKeptWord 64 = .ok (.aload_n 0, 1) := by decide +kernel
theorem dX12_isKeptWord_65 : decode cX12_isKeptWord 65 = .ok (.getfield 16, 3) := by decide +kernel
theorem dX12_isKeptWord_68 : decode cX12_isKeptWord 68 = .ok (.bipush 12, 2) := by decide +kernel
theorem dX12_isKeptWord_70 : decode cX12_isKeptWord 70 = .ok (.iload_n 3, 1) := by decide +kernel
theorem dX12_isKeptWord_71 : decode cX12_isKeptWord 71 = .ok (.imul, 1) := by decide +kernel
theorem dX12_isKeptWord_72 : decode cX12_isKeptWord 72 = .ok (.iload 5, 2) := by decide +kernel
theorem dX12_isKeptWord_74 : decode cX12_isKeptWord 74 = .ok (.iadd, 1) := by decide +kernel
theorem dX12_isKeptWord_75 : decode cX12_isKeptWord 75 = .ok (.iaload, 1) := by decide +kernel
theorem dX12_isKeptWord_76 : decode cX12_isKeptWord 76 = .ok (.if_icmp .ne 7, 3) := by decide +kernel
theorem dX12_isKeptWord_79 : decode cX12_isKeptWord 79 = .ok (.iconst 1, 1) := by decide +kernel
theorem dX12_isKeptWord_80 : decode cX12_isKeptWord 80 = .ok (.goto 4, 3) := by decide +kernel
theorem dX12_isKeptWord_83 : decode cX12_isKeptWord 83 = .ok (.iconst 0, 1) := by decide +kernel
theorem dX12_isKeptWord_84 : decode cX12_isKeptWord 84 = .ok (.istore 4, 2) := by decide +kernel
theorem dX12_isKeptWord_86 : decode cX12_isKeptWord 86 = .ok (.iinc 5 1, 3) := by decide +kernel
theorem dX12_isKeptWord_89 : decode cX12_isKeptWord 89 = .ok (.goto (-59), 3) := by decide +kernel
theorem dX12_isKeptWord_92 : decode cX12_isKeptWord 92 = .ok (.iload 4, 2) := by decide +kernel
theorem dX12_isKeptWord_94 : decode cX12_isKeptWord 94 = .ok (.ireturn, 1) := by decide +kernel
theorem dX12_headLike_0 : decode cX12_headLike 0 = .ok (.iconst 0, 1) := by decide +kernel
theorem dX12_headLike_1 : decode cX12_headLike 1 = .ok (.istore_n 3, 1) := by decide +kernel
theorem dX12_headLike_2 : decode cX12_headLike 2 = .ok (.iload_n 3, 1) := by decide +kernel
theorem dX12_headLike_3 : decode cX12_headLike 3 = .ok (.aload_n 0, 1) := by decide +kernel
theorem dX12_headLike_4 : decode cX12_headLike 4 = .ok (.getfield 192, 3) := by decide +kernel
theorem dX12_headLike_7 : decode cX12_headLike 7 = .ok (.if_icmp .ge 29, 3) := by decide +kernel
theorem dX12_headLike_10 : decode cX12_headLike 10 = .ok (.aload_n 0, 1) := by decide +kernel
theorem dX12_headLike_11 : decode cX12_headLike 11 = .ok (.iload_n 1, 1) := by decide +kernel
theorem dX12_headLike_12 : decode cX12_headLike 12 = .ok (.iload_n 2, 1) := by decide +kernel
theorem dX12_headLike_13 : decode cX12_headLike 13 = .ok (.iconst (-1), 1) := by decide +kernel
theorem dX12_headLike_14 : decode cX12_headLike 14 = .ok (.invokestatic 195, 3) := by decide +kernel
theorem dX12_headLike_17 : decode cX12_headLike 17 = .ok (.iload_n 3, 1) := by decide +kernel
theorem dX12_headLike_18 : decode cX12_headLike 18 = .ok (.iconst (-1), 1) := by decide +kernel
theorem dX12_headLike_19 : decode cX12_headLike 19 = .ok (.invokestatic 195, 3) := by decide +kernel
theorem dX12_headLike_22 : decode cX12_headLike 22 = .ok (.invokevirtual 506, 3) := by decide +kernel
theorem dX12_headLike_25 : decode cX12_headLike 25 = .ok (.ifCond .eq 5, 3) := by decide +kernel
theorem dX12_headLike_28 : decode cX12_headLike 28 = .ok (.iload_n 3, 1) := by decide +kernel
theorem dX12_headLike_29 : decode cX12_headLike 29 = .ok (.ireturn, 1) := by decide +kernel
theorem dX12_headLike_30 : decode cX12_headLike 30 = .ok (.iinc 3 1, 3) := by decide +kernel
theorem dX12_headLike_33 : decode cX12_headLike 33 = .ok (.goto (-31), 3) := by decide +kernel
theorem dX12_headLike_36 : decode cX12_headLike 36 = .ok (.iconst (-1), 1) := by decide +kernel
theorem dX12_headLike_37 : decode cX12_headLike 37 = .ok (.ireturn, 1) := by decide +kernel
theorem dX12_subLike_0 : decode cX12_subLike 0 = .ok (.iconst 0, 1) := by decide +kernel
theorem dX12_subLike_1 : decode cX12_subLike 1 = .ok (.istore 5, 2) := by decide +kernel
theorem dX12_subLike_3 : decode cX12_subLike 3 = .ok (.iload 5, 2) := by decide +kernel
theorem dX12_subLike_5 : decode cX12_subLike 5 = .ok (.aload_n 0, 1) := by decide +kernel
theorem dX12_subLike_6 : decode cX12_subLike 6 = .ok (.getfield 7, 3) := by decide +kernel
theorem dX12_subLike_9 : decode cX12_subLike 9 = .ok (.iload 4, 2) := by decide +kernel
theorem dX12_subLike_11 : decode cX12_subLike 11 = .ok (.iaload, 1) := by decide +kernel
theorem dX12_subLike_12 : decode cX12_subLike 12 = .ok (.if_icmp .ge 32, 3) := by decide +kernel
theorem dX12_subLike_15 : decode cX12_subLike 15 = .ok (.aload_n 0, 1) := by decide +kernel
theorem dX12_subLike_16 : decode cX12_subLike 16 = .ok (.iload_n 1, 1) := by decide +kernel
theorem dX12_subLike_17 : decode cX12_subLike 17 = .ok (.iload_n 2, 1) := by decide +kernel
theorem dX12_subLike_18 : decode cX12_subLike 18 = .ok (.iload_n 3, 1) := by decide +kernel
theorem dX12_subLike_19 : decode cX12_subLike 19 = .ok (.invokestatic 195, 3) := by decide +kernel
theorem dX12_subLike_22 : decode cX12_subLike 22 = .ok (.iload 4, 2) := by decide +kernel
theorem dX12_subLike_24 : decode cX12_subLike 24 = .ok (.iload 5, 2) := by decide +kernel
theorem dX12_subLike_26 : decode cX12_subLike 26 = .ok (.invokestatic 195, 3) := by decide +kernel
theorem dX12_subLike_29 : decode cX12_subLike 29 = .ok (.invokevirtual 506, 3) := by decide +kernel
theorem dX12_subLike_32 : decode cX12_subLike 32 = .ok (.ifCond .eq 6, 3) := by decide +kernel
theorem dX12_subLike_35 : decode cX12_subLike 35 = .ok (.iload 5, 2) := by decide +kernel
theorem dX12_subLike_37 : decode cX12_subLike 37 = .ok (.ireturn, 1) := by decide +kernel
theorem dX12_subLike_38 : decode cX12_subLike 38 = .ok (.iinc 5 1, 3) := by decide +kernel
theorem dX12_subLike_41 : decode cX12_subLike 41 = .ok (.goto (-38), 3) := by decide +kernel
theorem dX12_subLike_44 : decode cX12_subLike 44 = .ok (.bipush (-2), 2) := by decide +kernel
theorem dX12_subLike_46 : decode cX12_subLike 46 = .ok (.ireturn, 1) := by decide +kernel
theorem dX12_tickOld_0 : decode cX12_tickOld 0 = .ok (.iconst 0, 1) := by decide +kernel
theorem dX12_tickOld_1 : decode cX12_tickOld 1 = .ok (.istore 4, 2) := by decide +kernel
theorem dX12_tickOld_3 : decode cX12_tickOld 3 = .ok (.iload 4, 2) := by decide +kernel
theorem dX12_tickOld_5 : decode cX12_tickOld 5 = .ok (.bipush 102, 2) := by decide +kernel
theorem dX12_tickOld_7 : decode cX12_tickOld 7 = .ok (.if_icmp .ge 17, 3) := by decide +kernel
theorem dX12_tickOld_10 : decode cX12_tickOld 10 = .ok (.aload_n 0, 1) := by decide +kernel
theorem dX12_tickOld_11 : decode cX12_tickOld 11 = .ok (.getfield 141, 3) := by decide +kernel
theorem dX12_tickOld_14 : decode cX12_tickOld 14 = .ok (.iload 4, 2) := by decide +kernel
theorem dX12_tickOld_16 : decode cX12_tickOld 16 = .ok (.iconst 0, 1) := by decide +kernel
theorem dX12_tickOld_17 : decode cX12_tickOld 17 = .ok (.iastore, 1) := by decide +kernel
theorem dX12_tickOld_18 : decode cX12_tickOld 18 = .ok (.iinc 4 1, 3) := by decide +kernel
theorem dX12_tickOld_21 : decode cX12_tickOld 21 = .ok (.goto (-18), 3) := by decide +kernel
theorem dX12_tickOld_24 : decode cX12_tickOld 24 = .ok (.bipush 60, 2) := by decide +kernel
theorem dX12_tickOld_26 : decode cX12_tickOld 26 = .ok (.iload_n 1, 1) := by decide +kernel
theorem dX12_tickOld_27 : decode cX12_tickOld 27 = .ok (.imul, 1) := by decide +kernel
theorem dX12_tickOld_28 : decode cX12_tickOld 28 = .ok (.istore 4, 2) := by decide +kernel
theorem dX12_tickOld_30 : decode cX12_tickOld 30 = .ok (.iload 4, 2) := by decide +kernel
theorem dX12_tickOld_32 : decode cX12_tickOld 32 = .ok (.bipush 60, 2) := by decide +kernel
theorem dX12_tickOld_34 : decode cX12_tickOld 34 = .ok (.iload_n 1, 1) := by decide +kernel
theorem dX12_tickOld_35 : decode cX12_tickOld 35 = .ok (.imul, 1) := by decide +kernel
theorem dX12_tickOld_36 : decode cX12_tickOld 36 = .ok (.aload_n 0, 1) := by decide +kernel
theorem dX12_tickOld_37 : decode cX12_tickOld 37 = .ok (.getfield 120, 3) := by decide +kernel
theorem dX12_tickOld_40 : decode cX12_tickOld 40 = .ok (.iload_n 1, 1) := by decide +kernel
theorem dX12_tickOld_41 : decode cX12_tickOld 41 = .ok (.iaload, 1) := by decide +kernel
theorem dX12_tickOld_42 : decode cX12_tickOld 42 = .ok (.iadd, 1) := by decide +kernel
theorem dX12_tickOld_43 : decode cX12_tickOld 43 = .ok (.if_icmp .ge 78, 3) := by decide +kernel
theorem dX12_tickOld_46 : decode cX12_tickOld 46 = .ok (.aload_n 0, 1) := by decide +kernel
theorem dX12_tickOld_47 : decode cX12_tickOld 47 = .ok (.getfield 123, 3) := by decide +kernel
theorem dX12_tickOld_50 : decode cX12_tickOld 50 = .ok (.iload 4, 2) := by decide +kernel
theorem dX12_tickOld_52 : decode cX12_tickOld 52 = .ok (.iaload, 1) := by decide +kernel
theorem dX12_tickOld_53 : decode cX12_tickOld 53 = .ok (.iload_n 2, 1) := by decide +kernel
theorem dX12_tickOld_54 : decode cX12_tickOld 54 = .ok (.if_icmp .ne 18, 3) := by decide +kernel
theorem dX12_tickOld_57 : decode cX12_tickOld 57 = .ok (.aload_n 0, 1) := by decide +kernel
theorem dX12_tickOld_58 : decode cX12_tickOld 58 = .ok (.getfield 126, 3) := by decide +kernel
theorem dX12_tickOld_61 : decode cX12_tickOld 61 = .ok (.iload 4, 2) := by decide +kernel
theorem dX12_tickOld_63 : decode cX12_tickOld 63 = .ok (.iaload, 1) := by decide +kernel
theorem dX12_tickOld_64 : decode cX12_tickOld 64 = .ok (.iload_n 3, 1) := by decide +kernel
theorem dX12_tickOld_65 : decode cX12_tickOld 65 = .ok (.if_icmp .ne 7, 3) := by decide +kernel
theorem dX12_tickOld_68 : decode cX12_tickOld 68 = .ok (.iconst 1, 1) := by decide +kernel
theorem dX12_tickOld_69 : decode cX12_tickOld 69 = .ok (.goto 4, 3) := by decide +kernel
theorem dX12_tickOld_72 : decode cX12_tickOld 72 = .ok (.iconst 0, 1) := by decide +kernel
theorem dX12_tickOld_73 : decode cX12_tickOld 73 = .ok (.istore 5, 2) := by decide +kernel
theorem dX12_tickOld_75 : decode cX12_tickOld 75 = .ok (.aload_n 0, 1) := by decide +kernel
theorem dX12_tickOld_76 : decode cX12_tickOld 76 = .ok (.getfield 129, 3) := by decide +kernel
theorem dX12_tickOld_79 : decode cX12_tickOld 79 = .ok (.iload 4, 2) := by decide +kernel
theorem dX12_tickOld_81 : decode cX12_tickOld 81 = .ok (.iaload, 1) := by decide +kernel
theorem dX12_tickOld_82 : decode cX12_tickOld 82 = .ok (.istore 6, 2) := by decide +kernel
theorem dX12_tickOld_84 : decode cX12_tickOld 84 = .ok (.iload 6, 2) := by decide +kernel
theorem dX12_tickOld_86 : decode cX12_tickOld 86 = .ok (.aload_n 0, 1) := by decide +kernel
theorem dX12_tickOld_87 : decode cX12_tickOld 87 = .ok (.getfield 132, 3) := by decide +kernel
theorem dX12_tickOld_90 : decode cX12_tickOld 90 = .ok (.iload 4, 2) := by decide +kernel
theorem dX12_tickOld_92 : decode cX12_tickOld 92 = .ok (.iaload, 1) := by decide +kernel
theorem dX12_tickOld_93 : decode cX12_tickOld 93 = .ok (.if_icmp .gt 22, 3) := by decide +kernel
theorem dX12_tickOld_96 : decode cX12_tickOld 96 = .ok (.iload 5, 2) := by decide +kernel
theorem dX12_tickOld_98 : decode cX12_tickOld 98 = .ok (.ifCond .eq 17, 3) := by decide +kernel
theorem dX12_tickOld_101 : decode cX12_tickOld 101 = .ok (.aload_n 0, 1) := by decide +kernel
theorem dX12_tickOld_102 : decode cX12_tickOld 102 = .ok (.getfield 141, 3) := by decide +kernel
theorem dX12_tickOld_105 : decode cX12_tickOld 105 = .ok (.iload 6, 2) := by decide +kernel
theorem dX12_tickOld_107 : decode cX12_tickOld 107 = .ok (.iconst 1, 1) := by decide +kernel
theorem dX12_tickOld_108 : decode cX12_tickOld 108 = .ok (.iastore, 1) := by decide +kernel
theorem dX12_tickOld_109 : decode cX12_tickOld 109 = .ok (.iinc 6 1, 3) := by decide +kernel
theorem dX12_tickOld_112 : decode cX12_tickOld 112 = .ok (.goto (-28), 3) := by decide +kernel
theorem dX12_tickOld_115 : decode cX12_tickOld 115 = .ok (.iinc 4 1, 3) := by decide +kernel
theorem dX12_tickOld_118 : decode cX12_tickOld 118 = .ok (.goto (-88), 3) := by decide +kernel
theorem dX12_tickOld_121 : decode cX12_tickOld 121 = .ok (.return_, 1) := by decide +kernel
theorem dX12_staleRuns_0 : decode cX12_staleRuns 0 = .ok (.iconst 0, 1) := by decide +kernel
theorem dX12_staleRuns_1 : decode cX12_staleRuns 1 = .ok (.istore_n 1, 1) := by decide +kernel
theorem dX12_staleRuns_2 : decode cX12_staleRuns 2 = .ok (.iconst 1, 1) := by decide +kernel
theorem dX12_staleRuns_3 : decode cX12_staleRuns 3 = .ok (.istore_n 2, 1) := by decide +kernel
theorem dX12_staleRuns_4 : decode cX12_staleRuns 4 = .ok (.iload_n 2, 1) := by decide +kernel
theorem dX12_staleRuns_5 : decode cX12_staleRuns 5 = .ok (.bipush 99, 2) := by decide +kernel
theorem dX12_staleRuns_7 : decode cX12_staleRuns 7 = .ok (.if_icmp .gt 112, 3) := by decide +kernel
theorem dX12_staleRuns_10 : decode cX12_staleRuns 10 = .ok (.iload_n 2, 1) := by decide +kernel
theorem dX12_staleRuns_11 : decode cX12_staleRuns 11 = .ok (.istore_n 3, 1) := by decide +kernel
theorem dX12_staleRuns_12 : decode cX12_staleRuns 12 = .ok (.aload_n 0, 1) := by decide +kernel
theorem dX12_staleRuns_13 : decode cX12_staleRuns 13 = .ok (.getfield 141, 3) := by decide +kernel
theorem dX12_staleRuns_16 : decode cX12_staleRuns 16 = .ok (.iload_n 3, 1) := by decide +kernel
theorem dX12_staleRuns_17 : decode cX12_staleRuns 17 = .ok (.iaload, 1) := by decide +kernel
theorem dX12_staleRuns_18 : decode cX12_staleRuns 18 = .ok (.ifCond .le 9, 3) := by decide +kernel
theorem dX12_staleRuns_21 : decode cX12_staleRuns 21 = .ok (.iinc 3 1, 3) := by decide +kernel
theorem dX12_staleRuns_24 : decode cX12_staleRuns 24 = .ok (.goto (-12), 3) := by decide +kernel
theorem dX12_staleRuns_27 : decode cX12_staleRuns 27 = .ok (.aload_n 0, 1) := by decide +kernel
theorem dX12_staleRuns_28 : decode cX12_staleRuns 28 = .ok (.getfield 51, 3) := by decide +kernel
theorem dX12_staleRuns_31 : decode cX12_staleRuns 31 = .ok (.iload_n 2, 1) := by decide +kernel
theorem dX12_staleRuns_32 : decode cX12_staleRuns 32 = .ok (.iconst 1, 1) := by decide +kernel
theorem dX12_staleRuns_33 : decode cX12_staleRuns 33 = .ok (.isub, 1) := by decide +kernel
theorem dX12_staleRuns_34 : decode cX12_staleRuns 34 = .ok (.iaload, 1) := by decide +kernel
theorem dX12_staleRuns_35 : decode cX12_staleRuns 35 = .ok (.ifCond .ne 16, 3) := by decide +kernel
theorem dX12_staleRuns_38 : decode cX12_staleRuns 38 = .ok (.aload_n 0, 1) := by decide +kernel
theorem dX12_staleRuns_39 : decode cX12_staleRuns 39 = .ok (.getfield 51, 3) := by decide +kernel
theorem dX12_staleRuns_42 : decode cX12_staleRuns 42 = .ok (.iload_n 3, 1) := by decide +kernel
theorem dX12_staleRuns_43 : decode cX12_staleRuns 43 = .ok (.iaload, 1) := by decide +kernel
theorem dX12_staleRuns_44 : decode cX12_staleRuns 44 = .ok (.ifCond .ne 7, 3) := by decide +kernel
theorem dX12_staleRuns_47 : decode cX12_staleRuns 47 = .ok (.iconst 1, 1) := by decide +kernel
theorem dX12_staleRuns_48 : decode cX12_staleRuns 48 = .ok (.goto 4, 3) := by decide +kernel
theorem dX12_staleRuns_51 : decode cX12_staleRuns 51 = .ok (.iconst 0, 1) := by decide +kernel
theorem dX12_staleRuns_52 : decode cX12_staleRuns 52 = .ok (.istore 4, 2) := by decide +kernel
theorem dX12_staleRuns_54 : decode cX12_staleRuns 54 = .ok (.iload_n 2, 1) := by decide +kernel
theorem dX12_staleRuns_55 : decode cX12_staleRuns 55 = .ok (.istore 5, 2) := by decide +kernel
theorem dX12_staleRuns_57 : decode cX12_staleRuns 57 = .ok (.iload 5, 2) := by decide +kernel
theorem dX12_staleRuns_59 : decode cX12_staleRuns 59 = .ok (.iload_n 3, 1) := by decide +kernel
theorem dX12_staleRuns_60 : decode cX12_staleRuns 60 = .ok (.if_icmp .ge 31, 3) := by decide +kernel
theorem dX12_staleRuns_63 : decode cX12_staleRuns 63 = .ok (.iload 4, 2) := by decide +kernel
theorem dX12_staleRuns_65 : decode cX12_staleRuns 65 = .ok (.ifCond .eq 17, 3) := by decide +kernel
theorem dX12_staleRuns_68 : decode cX12_staleRuns 68 = .ok (.aload_n 0, 1) := by decide +kernel
theorem dX12_staleRuns_69 : decode cX12_staleRuns 69 = .ok (.getfield 51, 3) := by decide +kernel
theorem dX12_staleRuns_72 : decode cX12_staleRuns 72 = .ok (.iload 5, 2) := by decide +kernel
theorem dX12_staleRuns_74 : decode cX12_staleRuns 74 = .ok (.iaload, 1) := by decide +kernel
theorem dX12_staleRuns_75 : decode cX12_staleRuns 75 = .ok (.ifCond .le 7, 3) := by decide +kernel
theorem dX12_staleRuns_78 : decode cX12_staleRuns 78 = .ok (.iconst 1, 1) := by decide +kernel
theorem dX12_staleRuns_79 : decode cX12_staleRuns 79 = .ok (.goto 4, 3) := by decide +kernel
theorem dX12_staleRuns_82 : decode cX12_staleRuns 82 = .ok (.iconst 0, 1) := by decide +kernel
theorem dX12_staleRuns_83 : decode cX12_staleRuns 83 = .ok (.istore 4, 2) := by decide +kernel
theorem dX12_staleRuns_85 : decode cX12_staleRuns 85 = .ok (.iinc 5 1, 3) := by decide +kernel
theorem dX12_staleRuns_88 : decode cX12_staleRuns 88 = .ok (.goto (-31), 3) := by decide +kernel
theorem dX12_staleRuns_91 : decode cX12_staleRuns 91 = .ok (.iload_n 1, 1) := by decide +kernel
theorem dX12_staleRuns_92 : decode cX12_staleRuns 92 = .ok (.iload_n 3, 1) := by decide +kernel
theorem dX12_staleRuns_93 : decode cX12_staleRuns 93 = .ok (.iload_n 2, 1) := by decide +kernel
theorem dX12_staleRuns_94 : decode cX12_staleRuns 94 = .ok (.if_icmp .le 12, 3) := by decide +kernel
theorem dX12_staleRuns_97 : decode cX12_staleRuns 97 = .ok (.iload 4, 2) := by decide +kernel
theorem dX12_staleRuns_99 : decode cX12_staleRuns 99 = .ok (.ifCond .ne 7, 3) := by decide +kernel
theorem dX12_staleRuns_102 : decode cX12_staleRuns 102 = .ok (.iconst 1, 1) := by decide +kernel
theorem dX12_staleRuns_103 : decode cX12_staleRuns 103 = .ok (.goto 4, 3) := by decide +kernel
theorem dX12_staleRuns_106 : decode cX12_staleRuns 106 = .ok (.iconst 0, 1) := by decide +kernel
theorem dX12_staleRuns_107 : decode cX12_staleRuns 107 = .ok (.invokestatic 271, 3) := by decide +kernel
theorem dX12_staleRuns_110 : decode cX12_staleRuns 110 = .ok (.iadd, 1) := by decide +kernel
theorem dX12_staleRuns_111 : decode cX12_staleRuns 111 = .ok (.istore_n 1, 1) := by decide +kernel
theorem dX12_staleRuns_112 : decode cX12_staleRuns 112 = .ok (.iload_n 3, 1) := by decide +kernel
theorem dX12_staleRuns_113 : decode cX12_staleRuns 113 = .ok (.iconst 1, 1) := by decide +kernel
theorem dX12_staleRuns_114 : decode cX12_staleRuns 114 = .ok (.iadd, 1) := by decide +kernel
theorem dX12_staleRuns_115 : decode cX12_staleRuns 115 = .ok (.istore_n 2, 1) := by decide +kernel
theorem dX12_staleRuns_116 : decode cX12_staleRuns 116 = .ok (.goto (-112), 3) := by decide +kernel
theorem dX12_staleRuns_119 : decode cX12_staleRuns 119 = .ok (.iload_n 1, 1) := by decide +kernel
theorem dX12_staleRuns_120 : decode cX12_staleRuns 120 = .ok (.ireturn, 1) := by decide +kernel
theorem dX12_stale_0 : decode cX12_stale 0 = .ok (.iload_n 1, 1) := by decide +kernel
theorem dX12_stale_1 : decode cX12_stale 1 = .ok (.i2l, 1) := by decide +kernel
theorem dX12_stale_2 : decode cX12_stale 2 = .ok (.lconst 0, 1) := by decide +kernel
theorem dX12_stale_3 : decode cX12_stale 3 = .ok (.lconst 1, 1) := by decide +kernel
theorem dX12_stale_4 : decode cX12_stale 4 = .ok (.invokestatic 146, 3) := by decide +kernel
theorem dX12_stale_7 : decode cX12_stale 7 = .ok (.ifCond .ne 7, 3) := by decide +kernel
theorem dX12_stale_10 : decode cX12_stale 10 = .ok (.sipush (-1001), 3) := by decide +kernel
theorem dX12_stale_13 : decode cX12_stale 13 = .ok (.ireturn, 1) := by decide +kernel
theorem dX12_stale_14 : decode cX12_stale 14 = .ok (.aload_n 0, 1) := by decide +kernel
theorem dX12_stale_15 : decode cX12_stale 15 = .ok (.getfield 138, 3) := by decide +kernel
theorem dX12_stale_18 : decode cX12_stale 18 = .ok (.iload_n 1, 1) := by decide +kernel
theorem dX12_stale_19 : decode cX12_stale 19 = .ok (.baload, 1) := by decide +kernel
theorem dX12_stale_20 : decode cX12_stale 20 = .ok (.ifCond .ne 7, 3) := by decide +kernel
theorem dX12_stale_23 : decode cX12_stale 23 = .ok (.sipush (-1003), 3) := by decide +kernel
theorem dX12_stale_26 : decode cX12_stale 26 = .ok (.ireturn, 1) := by decide +kernel
theorem dX12_stale_27 : decode cX12_stale 27 = .ok (.iconst 0, 1) := by decide +kernel
theorem dX12_stale_28 : decode cX12_stale 28 = .ok (.istore_n 2, 1) := by decide +kernel
theorem dX12_stale_29 : decode cX12_stale 29 = .ok (.iconst 0, 1) := by decide +kernel
theorem dX12_stale_30 : decode cX12_stale 30 = .ok (.istore_n 3, 1) := by decide +kernel
theorem dX12_stale_31 : decode cX12_stale 31 = .ok (.iload_n 3, 1) := by decide +kernel
theorem dX12_stale_32 : decode cX12_stale 32 = .ok (.aload_n 0, 1) := by decide +kernel
theorem dX12_stale_33 : decode cX12_stale 33 = .ok (.getfield 99, 3) := by decide +kernel
theorem dX12_stale_36 : decode cX12_stale 36 = .ok (.iload_n 1, 1) := by decide +kernel
theorem dX12_stale_37 : decode cX12_stale 37 = .ok (.iaload, 1) := by decide +kernel
theorem dX12_stale_38 : decode cX12_stale 38 = .ok (.if_icmp .ge 112, 3) := by decide +kernel
theorem dX12_stale_41 : decode cX12_stale 41 = .ok (.aload_n 0, 1) := by decide +kernel
theorem dX12_stale_42 : decode cX12_stale 42 = .ok (.iload_n 1, 1) := by decide +kernel
theorem dX12_stale_43 : decode cX12_stale 43 = .ok (.iload_n 3, 1) := by decide +kernel
theorem dX12_stale_44 : decode cX12_stale 44 = .ok (.invokevirtual 509, 3) := by decide +kernel
theorem dX12_stale_47 : decode cX12_stale 47 = .ok (.istore 4, 2) := by decide +kernel
theorem dX12_stale_49 : decode cX12_stale 49 = .ok (.iconst (-1), 1) := by decide +kernel
theorem dX12_stale_50 : decode cX12_stale 50 = .ok (.istore 5, 2) := by decide +kernel
theorem dX12_stale_52 : decode cX12_stale 52 = .ok (.iload 5, 2) := by decide +kernel
theorem dX12_stale_54 : decode cX12_stale 54 = .ok (.aload_n 0, 1) := by decide +kernel
theorem dX12_stale_55 : decode cX12_stale 55 = .ok (.getfield 102, 3) := by decide +kernel
theorem dX12_stale_58 : decode cX12_stale 58 = .ok (.bipush 16, 2) := by decide +kernel
theorem dX12_stale_60 : decode cX12_stale 60 = .ok (.iload_n 1, 1) := by decide +kernel
theorem dX12_stale_61 : decode cX12_stale 61 = .ok (.imul, 1) := by decide +kernel
theorem dX12_stale_62 : decode cX12_stale 62 = .ok (.iload_n 3, 1) := by decide +kernel
theorem dX12_stale_63 : decode cX12_stale 63 = .ok (.iadd, 1) := by decide +kernel
theorem dX12_stale_64 : decode cX12_stale 64 = .ok (.iaload, 1) := by decide +kernel
theorem dX12_stale_65 : decode cX12_stale 65 = .ok (.if_icmp .ge 79, 3) := by decide +kernel
theorem dX12_stale_68 : decode cX12_stale 68 = .ok (.iload 4, 2) := by decide +kernel
theorem dX12_stale_70 : decode cX12_stale 70 = .ok (.ifCond .ge 8, 3) := by decide +kernel
theorem dX12_stale_73 : decode cX12_stale 73 = .ok (.bipush (-2), 2) := by decide +kernel
theorem dX12_stale_75 : decode cX12_stale 75 = .ok (.goto 22, 3) := by decide +kernel
theorem dX12_stale_78 : decode cX12_stale 78 = .ok (.iload 5, 2) := by decide +kernel
theorem dX12_stale_80 : decode cX12_stale 80 = .ok (.ifCond .ge 7, 3) := by decide +kernel
theorem dX12_stale_83 : decode cX12_stale 83 = .ok (.iconst (-1), 1) := by decide +kernel
theorem dX12_stale_84 : decode cX12_stale 84 = .ok (.goto 13, 3) := by decide +kernel
theorem dX12_stale_87 : decode cX12_stale 87 = .ok (.aload_n 0, 1) := by decide +kernel
theorem dX12_stale_88 : decode cX12_stale 88 = .ok (.iload_n 1, 1) := by decide +kernel
theorem dX12_stale_89 : decode cX12_stale 89 = .ok (.iload_n 3, 1) := by decide +kernel
theorem dX12_stale_90 : decode cX12_stale 90 = .ok (.iload 5, 2) := by decide +kernel
theorem dX12_stale_92 : decode cX12_stale 92 = .ok (.iload 4, 2) := by decide +kernel
theorem dX12_stale_94 : decode cX12_stale 94 = .ok (.invokevirtual 512, 3) := by decide +kernel
theorem dX12_stale_97 : decode cX12_stale 97 = .ok (.istore 6, 2) := by decide +kernel
theorem dX12_stale_99 : decode cX12_stale 99 = .ok (.aload_n 0, 1) := by decide +kernel
theorem dX12_stale_100 : decode cX12_stale 100 = .ok (.iload 4, 2) := by decide +kernel
theorem dX12_stale_102 : decode cX12_stale 102 = .ok (.ifCond .lt 10, 3) := by decide +kernel
theorem dX12_stale_105 : decode cX12_stale 105 = .ok (.iload 6, 2) := by decide +kernel
theorem dX12_stale_107 : decode cX12_stale 107 = .ok (.bipush (-2), 2) := by decide +kernel
theorem dX12_stale_109 : decode cX12_stale 109 = .ok (.if_icmp .ne 7, 3) := by decide +kernel
theorem dX12_stale_112 : decode cX12_stale 112 = .ok (.iconst (-1), 1) := by decide +kernel
theorem dX12_stale_113 : decode cX12_stale 113 = .ok (.goto 5, 3) := by decide +kernel
theorem dX12_stale_116 : decode cX12_stale 116 = .ok (.iload 4, 2) := by decide +kernel
theorem dX12_stale_118 : decode cX12_stale 118 = .ok (.iload 6, 2) := by decide +kernel
theorem dX12_stale_120 : decode cX12_stale 120 = .ok (.invokevirtual 296, 3) := by decide +kernel
theorem dX12_stale_123 : decode cX12_stale 123 = .ok (.aload_n 0, 1) := by decide +kernel
theorem dX12_stale_124 : decode cX12_stale 124 = .ok (.iload_n 1, 1) := by decide +kernel
theorem dX12_stale_125 : decode cX12_stale 125 = .ok (.iload_n 3, 1) := by decide +kernel
theorem dX12_stale_126 : decode cX12_stale 126 = .ok (.iload 5, 2) := by decide +kernel
theorem dX12_stale_128 : decode cX12_stale 128 = .ok (.invokevirtual 515, 3) := by decide +kernel
theorem dX12_stale_131 : decode cX12_stale 131 = .ok (.iload_n 2, 1) := by decide +kernel
theorem dX12_stale_132 : decode cX12_stale 132 = .ok (.aload_n 0, 1) := by decide +kernel
theorem dX12_stale_133 : decode cX12_stale 133 = .ok (.invokevirtual 519, 3) := by decide +kernel
theorem dX12_stale_136 : decode cX12_stale 136 = .ok (.iadd, 1) := by decide +kernel
theorem dX12_stale_137 : decode cX12_stale 137 = .ok (.istore_n 2, 1) := by decide +kernel
theorem dX12_stale_138 : decode cX12_stale 138 = .ok (.iinc 5 1, 3) := by decide +kernel
theorem dX12_stale_141 : decode cX12_stale 141 = .ok (.goto (-89), 3) := by decide +kernel
theorem dX12_stale_144 : decode cX12_stale 144 = .ok (.iinc 3 1, 3) := by decide +kernel
theorem dX12_stale_147 : decode cX12_stale 147 = .ok (.goto (-116), 3) := by decide +kernel
theorem dX12_stale_150 : decode cX12_stale 150 = .ok (.iload_n 2, 1) := by decide +kernel
theorem dX12_stale_151 : decode cX12_stale 151 = .ok (.ireturn, 1) := by decide +kernel
