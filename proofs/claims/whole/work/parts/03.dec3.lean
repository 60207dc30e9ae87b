theorem dX11_init_0 : decode cX11_init 0 = .ok (.aload_n 0, 1) := by decide +kernel
theorem dX11_init_1 : decode cX11_init 1 = .ok (.invokespecial 1, 3) := by decide +kernel
theorem dX11_init_4 : decode cX11_init 4 = .ok (.aload_n 0, 1) := by decide +kernel
theorem dX11_init_5 : decode cX11_init 5 = .ok (.new 7, 3) := by decide +kernel
theorem dX11_init_8 : decode cX11_init 8 = .ok (.dup, 1) := by decide +kernel
theorem dX11_init_9 : decode cX11_init 9 = .ok (.invokespecial 9, 3) := by decide +kernel
theorem dX11_init_12 : decode cX11_init 12 = .ok (.putfield 10, 3) := by decide +kernel
theorem dX11_init_15 : decode cX11_init 15 = .ok (.aload_n 0, 1) := by decide +kernel
theorem dX11_init_16 : decode cX11_init 16 = .ok (.new 16, 3) := by decide +kernel
theorem dX11_init_19 : decode cX11_init 19 = .ok (.dup, 1) := by decide +kernel
theorem dX11_init_20 : decode cX11_init 20 = .ok (.invokespecial 18, 3) := by decide +kernel
theorem dX11_init_23 : decode cX11_init 23 = .ok (.putfield 19, 3) := by decide +kernel
theorem dX11_init_26 : decode cX11_init 26 = .ok (.aload_n 0, 1) := by decide +kernel
theorem dX11_init_27 : decode cX11_init 27 = .ok (.iconst 2, 1) := by decide +kernel
theorem dX11_init_28 : decode cX11_init 28 = .ok (.anewarray 16, 3) := by decide +kernel
theorem dX11_init_31 : decode cX11_init 31 = .ok (.dup, 1) := by decide +kernel
theorem dX11_init_32 : decode cX11_init 32 = .ok (.iconst 0, 1) := by decide +kernel
theorem dX11_init_33 : decode cX11_init 33 = .ok (.new 16, 3) := by decide +kernel
theorem dX11_init_36 : decode cX11_init 36 = .ok (.dup, 1) := by decide +kernel
theorem dX11_init_37 : decode cX11_init 37 = .ok (.invokespecial 18, 3) := by decide +kernel
theorem dX11_init_40 : decode cX11_init 40 = .ok (.aastore, 1) := by decide +kernel
theorem dX11_init_41 : decode cX11_init 41 = .ok (.dup, 1) := by decide +kernel
theorem dX11_init_42 : decode cX11_init 42 = .ok (.iconst 1, 1) := by decide +kernel
theorem dX11_init_43 : decode cX11_init 43 = .ok (.new 16, 3) := by decide +kernel
theorem dX11_init_46 : decode cX11_init 46 = .ok (.dup, 1) := by decide +kernel
theorem dX11_init_47 : decode cX11_init 47 = .ok (.invokespecial 18, 3) := by decide +kernel
theorem dX11_init_50 : decode cX11_init 50 = .ok (.aastore, 1) := by decide +kernel
theorem dX11_init_51 : decode cX11_init 51 = .ok (.putfield 23, 3) := by decide +kernel
theorem dX11_init_54 : decode cX11_init 54 = .ok (.aload_n 0, 1) := by decide +kernel
theorem dX11_init_55 : decode cX11_init 55 = .ok (.iconst 0, 1) := by decide +kernel
theorem dX11_init_56 : decode cX11_init 56 = .ok (.putfield 27, 3) := by decide +kernel
theorem dX11_init_59 : decode cX11_init 59 = .ok (.aload_n 0, 1) := by decide +kernel
theorem dX11_init_60 : decode cX11_init 60 = .ok (.bipush 30, 2) := by decide +kernel
theorem dX11_init_62 : decode cX11_init 62 = .ok (.putfield 31, 3) := by decide +kernel
theorem dX11_init_65 : decode cX11_init 65 = .ok (.aload_n 0, 1) := by decide +kernel
theorem dX11_init_66 : decode cX11_init 66 = .ok (.new 34, 3) := by decide +kernel
theorem dX11_init_69 : decode cX11_init 69 = .ok (.dup, 1) := by decide +kernel
theorem dX11_init_70 : decode cX11_init 70 = .ok (.invokespecial 36, 3) := by decide +kernel
theorem dX11_init_73 : decode cX11_init 73 = .ok (.putfield 37, 3) := by decide +kernel
theorem dX11_init_76 : decode cX11_init 76 = .ok (.aload_n 0, 1) := by decide +kernel
theorem dX11_init_77 : decode cX11_init 77 = .ok (.new 41, 3) := by decide +kernel
theorem dX11_init_80 : decode cX11_init 80 = .ok (.dup, 1) := by decide +kernel
theorem dX11_init_81 : decode cX11_init 81 = .ok (.sipush 3072, 3) := by decide +kernel
theorem dX11_init_84 : decode cX11_init 84 = .ok (.invokespecial 43, 3) := by decide +kernel
theorem dX11_init_87 : decode cX11_init 87 = .ok (.putfield 46, 3) := by decide +kernel
theorem dX11_init_90 : decode cX11_init 90 = .ok (.aload_n 0, 1) := by decide +kernel
theorem dX11_init_91 : decode cX11_init 91 = .ok (.new 41, 3) := by decide +kernel
theorem dX11_init_94 : decode cX11_init 94 = .ok (.dup, 1) := by decide +kernel
theorem dX11_init_95 : decode cX11_init 95 = .ok (.iconst 0, 1) := by decide +kernel
theorem dX11_init_96 : decode cX11_init 96 = .ok (.invokespecial 43, 3) := by decide +kernel
theorem dX11_init_99 : decode cX11_init 99 = .ok (.putfield 50, 3) := by decide +kernel
theorem dX11_init_102 : decode cX11_init 102 = .ok (.aload_n 0, 1) := by decide +kernel
theorem dX11_init_103 : decode cX11_init 103 = .ok (.bipush 16, 2) := by decide +kernel
theorem dX11_init_105 : decode cX11_init 105 = .ok (.newarray .int, 2) := by decide +kernel
theorem dX11_init_107 : decode cX11_init 107 = .ok (.putfield 53, 3) := by decide +kernel
theorem dX11_init_110 : decode cX11_init 110 = .ok (.aload_n 0, 1) := by decide +kernel
theorem dX11_init_111 : decode cX11_init 111 = .ok (.iconst 0, 1) := by decide +kernel
theorem dX11_init_112 : decode cX11_init 112 = .ok (.putfield 57, 3) := by decide +kernel
theorem dX11_init_115 : decode cX11_init 115 = .ok (.aload_n 0, 1) := by decide +kernel
theorem dX11_init_116 : decode cX11_init 116 = .ok (.new 61, 3) := by decide +kernel
theorem dX11_init_119 : decode cX11_init 119 = .ok (.dup, 1) := by decide +kernel
theorem dX11_init_120 : decode cX11_init 120 = .ok (.invokespecial 63, 3) := by decide +kernel
theorem dX11_init_123 : decode cX11_init 123 = .ok (.putfield 64, 3) := by decide +kernel
theorem dX11_init_126 : decode cX11_init 126 = .ok (.aload_n 0, 1) := by decide +kernel
theorem dX11_init_127 : decode cX11_init 127 = .ok (.new 61, 3) := by decide +kernel
theorem dX11_init_130 : decode cX11_init 130 = .ok (.dup, 1) := by decide +kernel
theorem dX11_init_131 : decode cX11_init 131 = .ok (.invokespecial 63, 3) := by decide +kernel
theorem dX11_init_134 : decode cX11_init 134 = .ok (.putfield 68, 3) := by decide +kernel
theorem dX11_init_137 : decode cX11_init 137 = .ok (.aload_n 0, 1) := by decide +kernel
theorem dX11_init_138 : decode cX11_init 138 = .ok (.new 71, 3) := by decide +kernel
theorem dX11_init_141 : decode cX11_init 141 = .ok (.dup, 1) := by decide +kernel
theorem dX11_init_142 : decode cX11_init 142 = .ok (.invokespecial 73, 3) := by decide +kernel
theorem dX11_init_145 : decode cX11_init 145 = .ok (.putfield 74, 3) := by decide +kernel
theorem dX11_init_148 : decode cX11_init 148 = .ok (.aload_n 0, 1) := by decide +kernel
theorem dX11_init_149 : decode cX11_init 149 = .ok (.new 78, 3) := by decide +kernel
theorem dX11_init_152 : decode cX11_init 152 = .ok (.dup, 1) := by decide +kernel
theorem dX11_init_153 : decode cX11_init 153 = .ok (.invokespecial 80, 3) := by decide +kernel
theorem dX11_init_156 : decode cX11_init 156 = .ok (.putfield 81, 3) := by decide +kernel
theorem dX11_init_159 : decode cX11_init 159 = .ok (.aload_n 0, 1) := by decide +kernel
theorem dX11_init_160 : decode cX11_init 160 = .ok (.new 85, 3) := by decide +kernel
theorem dX11_init_163 : decode cX11_init 163 = .ok (.dup, 1) := by decide +kernel
theorem dX11_init_164 : decode cX11_init 164 = .ok (.invokespecial 87, 3) := by decide +kernel
theorem dX11_init_167 : decode cX11_init 167 = .ok (.putfield 88, 3) := by decide +kernel
theorem dX11_init_170 : decode cX11_init 170 = .ok (.aload_n 0, 1) := by decide +kernel
theorem dX11_init_171 : decode cX11_init 171 = .ok (.new 92, 3) := by decide +kernel
theorem dX11_init_174 : decode cX11_init 174 = .ok (.dup, 1) := by decide +kernel
theorem dX11_init_175 : decode cX11_init 175 = .ok (.invokespecial 94, 3) := by decide +kernel
theorem dX11_init_178 : decode cX11_init 178 = .ok (.putfield 95, 3) := by decide +kernel
theorem dX11_init_181 : decode cX11_init 181 = .ok (.return_, 1) := by decide +kernel
theorem dX11_feed_0 : decode cX11_feed 0 = .ok (.iload_n 1, 1) := by decide +kernel
theorem dX11_feed_1 : decode cX11_feed 1 = .ok (.iconst 1, 1) := by decide +kernel
theorem dX11_feed_2 : decode cX11_feed 2 = .ok (.if_icmp .lt 9, 3) := by decide +kernel
theorem dX11_feed_5 : decode cX11_feed 5 = .ok (.iload_n 1, 1) := by decide +kernel
theorem dX11_feed_6 : decode cX11_feed 6 = .ok (.bipush 8, 2) := by decide +kernel
theorem dX11_feed_8 : decode cX11_feed 8 = .ok (.if_icmp .le 7, 3) := by decide +kernel
theorem dX11_feed_11 : decode cX11_feed 11 = .ok (.sipush (-1002), 3) := by decide +kernel
theorem dX11_feed_14 : decode cX11_feed 14 = .ok (.ireturn, 1) := by decide +kernel
theorem dX11_feed_15 : decode cX11_feed 15 = .ok (.aload_n 0, 1) := by decide +kernel
theorem dX11_feed_16 : decode cX11_feed 16 = .ok (.getfield 10, 3) := by decide +kernel
theorem dX11_feed_19 : decode cX11_feed 19 = .ok (.getfield 99, 3) := by decide +kernel
theorem dX11_feed_22 : decode cX11_feed 22 = .ok (.iload_n 1, 1) := by decide +kernel
theorem dX11_feed_23 : decode cX11_feed 23 = .ok (.iadd, 1) := by decide +kernel
theorem dX11_feed_24 : decode cX11_feed 24 = .ok (.sipush 600, 3) := by decide +kernel
theorem dX11_feed_27 : decode cX11_feed 27 = .ok (.if_icmp .le 7, 3) := by decide +kernel
theorem dX11_feed_30 : decode cX11_feed 30 = .ok (.sipush (-1004), 3) := by decide +kernel
theorem dX11_feed_33 : decode cX11_feed 33 = .ok (.ireturn, 1) := by decide +kernel
theorem dX11_feed_34 : decode cX11_feed 34 = .ok (.aload_n 0, 1) := by decide +kernel
theorem dX11_feed_35 : decode cX11_feed 35 = .ok (.getfield 10, 3) := by decide +kernel
theorem dX11_feed_38 : decode cX11_feed 38 = .ok (.iload_n 1, 1) := by decide +kernel
theorem dX11_feed_39 : decode cX11_feed 39 = .ok (.lload_n 2, 1) := by decide +kernel
theorem dX11_feed_40 : decode cX11_feed 40 = .ok (.invokevirtual 102, 3) := by decide +kernel
theorem dX11_feed_43 : decode cX11_feed 43 = .ok (.ireturn, 1) := by decide +kernel
theorem dX11_read_0 : decode cX11_read 0 = .ok (.aload_n 0, 1) := by decide +kernel
theorem dX11_read_1 : decode cX11_read 1 = .ok (.getfield 10, 3) := by decide +kernel
theorem dX11_read_4 : decode cX11_read 4 = .ok (.invokevirtual 106, 3) := by decide +kernel
theorem dX11_read_7 : decode cX11_read 7 = .ok (.iconst 0, 1) := by decide +kernel
theorem dX11_read_8 : decode cX11_read 8 = .ok (.istore_n 1, 1) := by decide +kernel
theorem dX11_read_9 : decode cX11_read 9 = .ok (.iload_n 1, 1) := by decide +kernel
theorem dX11_read_10 : decode cX11_read 10 = .ok (.sipush 600, 3) := by decide +kernel
theorem dX11_read_13 : decode cX11_read 13 = .ok (.if_icmp .ge 26, 3) := by decide +kernel
theorem dX11_read_16 : decode cX11_read 16 = .ok (.aload_n 0, 1) := by decide +kernel
theorem dX11_read_17 : decode cX11_read 17 = .ok (.getfield 10, 3) := by decide +kernel
theorem dX11_read_20 : decode cX11_read 20 = .ok (.invokevirtual 109, 3) := by decide +kernel
theorem dX11_read_23 : decode cX11_read 23 = .ok (.ifCond .eq 16, 3) := by decide +kernel
theorem dX11_read_26 : decode cX11_read 26 = .ok (.aload_n 0, 1) := by decide +kernel
theorem dX11_read_27 : decode cX11_read 27 = .ok (.getfield 10, 3) := by decide +kernel
theorem dX11_read_30 : decode cX11_read 30 = .ok (.invokevirtual 113, 3) := by decide +kernel
theorem dX11_read_33 : decode cX11_read 33 = .ok (.iinc 1 1, 3) := by decide +kernel
theorem dX11_read_36 : decode cX11_read 36 = .ok (.goto (-27), 3) := by decide +kernel
theorem dX11_read_39 : decode cX11_read 39 = .ok (.aload_n 0, 1) := by decide +kernel
theorem dX11_read_40 : decode cX11_read 40 = .ok (.getfield 10, 3) := by decide +kernel
theorem dX11_read_43 : decode cX11_read 43 = .ok (.iconst 0, 1) := by decide +kernel
theorem dX11_read_44 : decode cX11_read 44 = .ok (.putfield 99, 3) := by decide +kernel
theorem dX11_read_47 : decode cX11_read 47 = .ok (.aload_n 0, 1) := by decide +kernel
theorem dX11_read_48 : decode cX11_read 48 = .ok (.getfield 10, 3) := by decide +kernel
theorem dX11_read_51 : decode cX11_read 51 = .ok (.getfield 116, 3) := by decide +kernel
theorem dX11_read_54 : decode cX11_read 54 = .ok (.ifCond .eq 14, 3) := by decide +kernel
theorem dX11_read_57 : decode cX11_read 57 = .ok (.bipush (-10), 2) := by decide +kernel
theorem dX11_read_59 : decode cX11_read 59 = .ok (.aload_n 0, 1) := by decide +kernel
theorem dX11_read_60 : decode cX11_read 60 = .ok (.getfield 10, 3) := by decide +kernel
theorem dX11_read_63 : decode cX11_read 63 = .ok (.getfield 116, 3) := by decide +kernel
theorem dX11_read_66 : decode cX11_read 66 = .ok (.isub, 1) := by decide +kernel
theorem dX11_read_67 : decode cX11_read 67 = .ok (.ireturn, 1) := by decide +kernel
theorem dX11_read_68 : decode cX11_read 68 = .ok (.aload_n 0, 1) := by decide +kernel
theorem dX11_read_69 : decode cX11_read 69 = .ok (.aload_n 0, 1) := by decide +kernel
theorem dX11_read_70 : decode cX11_read 70 = .ok (.getfield 10, 3) := by decide +kernel
theorem dX11_read_73 : decode cX11_read 73 = .ok (.aload_n 0, 1) := by decide +kernel
theorem dX11_read_74 : decode cX11_read 74 = .ok (.getfield 19, 3) := by decide +kernel
theorem dX11_read_77 : decode cX11_read 77 = .ok (.invokevirtual 119, 3) := by decide +kernel
theorem dX11_read_80 : decode cX11_read 80 = .ok (.putfield 19, 3) := by decide +kernel
theorem dX11_read_83 : decode cX11_read 83 = .ok (.aload_n 0, 1) := by decide +kernel
theorem dX11_read_84 : decode cX11_read 84 = .ok (.iconst 0, 1) := by decide +kernel
theorem dX11_read_85 : decode cX11_read 85 = .ok (.putfield 57, 3) := by decide +kernel
theorem dX11_read_88 : decode cX11_read 88 = .ok (.aload_n 0, 1) := by decide +kernel
theorem dX11_read_89 : decode cX11_read 89 = .ok (.getfield 19, 3) := by decide +kernel
theorem dX11_read_92 : decode cX11_read 92 = .ok (.getfield 123, 3) := by decide +kernel
theorem dX11_read_95 : decode cX11_read 95 = .ok (.ireturn, 1) := by decide +kernel
theorem dX11_fault_0 : decode cX11_fault 0 = .ok (.aload_n 0, 1) := by decide +kernel
theorem dX11_fault_1 : decode cX11_fault 1 = .ok (.getfield 10, 3) := by decide +kernel
theorem dX11_fault_4 : decode cX11_fault 4 = .ok (.getfield 126, 3) := by decide +kernel
theorem dX11_fault_7 : decode cX11_fault 7 = .ok (.ireturn, 1) := by decide +kernel
theorem dX11_count_0 : decode cX11_count 0 = .ok (.iload_n 1, 1) := by decide +kernel
theorem dX11_count_1 : decode cX11_count 1 = .ok (.tableswitch 110 0 6 #[43, 51, 59, 67, 75, 87, 99], 43) := by decide +kernel
theorem dX11_count_44 : decode cX11_count 44 = .ok (.aload_n 0, 1) := by decide +kernel
theorem dX11_count_45 : decode cX11_count 45 = .ok (.getfield 19, 3) := by decide +kernel
theorem dX11_count_48 : decode cX11_count 48 = .ok (.getfield 123, 3) := by decide +kernel
theorem dX11_count_51 : decode cX11_count 51 = .ok (.ireturn, 1) := by decide +kernel
theorem dX11_count_52 : decode cX11_count 52 = .ok (.aload_n 0, 1) := by decide +kernel
theorem dX11_count_53 : decode cX11_count 53 = .ok (.getfield 19, 3) := by decide +kernel
theorem dX11_count_56 : decode cX11_count 56 = .ok (.getfield 129, 3) := by decide +kernel
theorem dX11_count_59 : decode cX11_count 59 = .ok (.ireturn, 1) := by decide +kernel
theorem dX11_count_60 : decode cX11_count 60 = .ok (.aload_n 0, 1) := by decide +kernel
theorem dX11_count_61 : decode cX11_count 61 = .ok (.getfield 10, 3) := by decide +kernel
theorem dX11_count_64 : decode cX11_count 64 = .ok (.getfield 99, 3) := by decide +kernel
theorem dX11_count_67 : decode cX11_count 67 = .ok (.ireturn, 1) := by decide +kernel
theorem dX11_count_68 : decode cX11_count 68 = .ok (.aload_n 0, 1) := by decide +kernel
theorem dX11_count_69 : decode cX11_count 69 = .ok (.getfield 95, 3) := by decide +kernel
theorem dX11_count_72 : decode cX11_count 72 = .ok (.getfield 132, 3) := by decide +kernel
theorem dX11_count_75 : decode cX11_count 75 = .ok (.ireturn, 1) := by decide +kernel
theorem dX11_count_76 : decode cX11_count 76 = .ok (.aload_n 0, 1) := by decide +kernel
theorem dX11_count_77 : decode cX11_count 77 = .ok (.invokevirtual 135, 3) := by decide +kernel
theorem dX11_count_80 : decode cX11_count 80 = .ok (.aload_n 0, 1) := by decide +kernel
theorem dX11_count_81 : decode cX11_count 81 = .ok (.getfield 46, 3) := by decide +kernel
theorem dX11_count_84 : decode cX11_count 84 = .ok (.getfield 138, 3) := by decide +kernel
theorem dX11_count_87 : decode cX11_count 87 = .ok (.ireturn, 1) := by decide +kernel
theorem dX11_count_88 : decode cX11_count 88 = .ok (.aload_n 0, 1) := by decide +kernel
theorem dX11_count_89 : decode cX11_count 89 = .ok (.invokevirtual 135, 3) := by decide +kernel
theorem dX11_count_92 : decode cX11_count 92 = .ok (.aload_n 0, 1) := by decide +kernel
theorem dX11_count_93 : decode cX11_count 93 = .ok (.getfield 46, 3) := by decide +kernel
theorem dX11_count_96 : decode cX11_count 96 = .ok (.getfield 141, 3) := by decide +kernel
theorem dX11_count_99 : decode cX11_count 99 = .ok (.ireturn, 1) := by decide +kernel
theorem dX11_count_100 : decode cX11_count 100 = .ok (.aload_n 0, 1) := by decide +kernel
theorem dX11_count_101 : decode cX11_count 101 = .ok (.getfield 19, 3) := by decide +kernel
theorem dX11_count_104 : decode cX11_count 104 = .ok (.invokevirtual 142, 3) := by decide +kernel
theorem dX11_count_107 : decode cX11_count 107 = .ok (.invokestatic 146, 3) := by decide +kernel
theorem dX11_count_110 : decode cX11_count 110 = .ok (.ireturn, 1) := by decide +kernel
theorem dX11_count_111 : decode cX11_count 111 = .ok (.sipush (-1002), 3) := by decide +kernel
theorem dX11_count_114 : decode cX11_count 114 = .ok (.ireturn, 1) := by decide +kernel
theorem dX11_head_0 : decode cX11_head 0 = .ok (.aload_n 0, 1) := by decide +kernel
theorem dX11_head_1 : decode cX11_head 1 = .ok (.getfield 19, 3) := by decide +kernel
theorem dX11_head_4 : decode cX11_head 4 = .ok (.iload_n 1, 1) := by decide +kernel
theorem dX11_head_5 : decode cX11_head 5 = .ok (.invokevirtual 152, 3) := by decide +kernel
theorem dX11_head_8 : decode cX11_head 8 = .ok (.ifCond .ne 7, 3) := by decide +kernel
theorem dX11_head_11 : decode cX11_head 11 = .ok (.sipush (-1001), 3) := by decide +kernel
theorem dX11_head_14 : decode cX11_head 14 = .ok (.ireturn, 1) := by decide +kernel
theorem dX11_head_15 : decode cX11_head 15 = .ok (.iload_n 2, 1) := by decide +kernel
theorem dX11_head_16 : decode cX11_head 16 = .ok (.tableswitch 136 0 6 #[44, 54, 75, 85, 95, 105, 125], 44) := by decide +kernel
theorem dX11_head_60 : decode cX11_head 60 = .ok (.aload_n 0, 1) := by decide +kernel
theorem dX11_head_61 : decode cX11_head 61 = .ok (.getfield 19, 3) := by decide +kernel
theorem dX11_head_64 : decode cX11_head 64 = .ok (.getfield 156, 3) := by decide +kernel
theorem dX11_head_67 : decode cX11_head 67 = .ok (.iload_n 1, 1) := by decide +kernel
theorem dX11_head_68 : decode cX11_head 68 = .ok (.iaload, 1) := by decide +kernel
theorem dX11_head_69 : decode cX11_head 69 = .ok (.ireturn, 1) := by decide +kernel
theorem dX11_head_70 : decode cX11_head 70 = .ok (.aload_n 0, 1) := by decide +kernel
theorem dX11_head_71 : decode cX11_head 71 = .ok (.getfield 19, 3) := by decide +kernel
theorem dX11_head_74 : decode cX11_head 74 = .ok (.iload_n 1, 1) := by decide +kernel
theorem dX11_head_75 : decode cX11_head 75 = .ok (.iconst (-1), 1) := by decide +kernel
theorem dX11_head_76 : decode cX11_head 76 = .ok (.aload_n 0, 1) := by decide +kernel
theorem dX11_head_77 : decode cX11_head 77 = .ok (.getfield 64, 3) := by decide +kernel
theorem dX11_head_80 : decode cX11_head 80 = .ok (.invokevirtual 159, 3) := by decide +kernel
theorem dX11_head_83 : decode cX11_head 83 = .ok (.aload_n 0, 1) := by decide +kernel
theorem dX11_head_84 : decode cX11_head 84 = .ok (.getfield 64, 3) := by decide +kernel
theorem dX11_head_87 : decode cX11_head 87 = .ok (.getfield 163, 3) := by decide +kernel
theorem dX11_head_90 : decode cX11_head 90 = .ok (.ireturn, 1) := by decide +kernel
theorem dX11_head_91 : decode cX11_head 91 = .ok (.aload_n 0, 1) := by decide +kernel
theorem dX11_head_92 : decode cX11_head 92 = .ok (.getfield 19, 3) := by decide +kernel
theorem dX11_head_95 : decode cX11_head 95 = .ok (.getfield 164, 3) := by decide +kernel
theorem dX11_head_98 : decode cX11_head 98 = .ok (.iload_n 1, 1) := by decide +kernel
theorem dX11_head_99 : decode cX11_head 99 = .ok (.iaload, 1) := by decide +kernel
theorem dX11_head_100 : decode cX11_head 100 = .ok (.ireturn, 1) := by decide +kernel
theorem dX11_head_101 : decode cX11_head 101 = .ok (.aload_n 0, 1) := by decide +kernel
theorem dX11_head_102 : decode cX11_head 102 = .ok (.getfield 19, 3) := by decide +kernel
theorem dX11_head_105 : decode cX11_head 105 = .ok (.getfield 167, 3) := by decide +kernel
theorem dX11_head_108 : decode cX11_head 108 = .ok (.iload_n 1, 1) := by decide +kernel
theorem dX11_head_109 : decode cX11_head 109 = .ok (.iaload, 1) := by decide +kernel
theorem dX11_head_110 : decode cX11_head 110 = .ok (.ireturn, 1) := by decide +kernel
theorem dX11_head_111 : decode cX11_head 111 = .ok (.aload_n 0, 1) := by decide +kernel
theorem dX11_head_112 : decode cX11_head 112 = .ok (.getfield 19, 3) := by decide +kernel
theorem dX11_head_115 : decode cX11_head 115 = .ok (.getfield 170, 3) := by decide +kernel
theorem dX11_head_118 : decode cX11_head 118 = .ok (.iload_n 1, 1) := by decide +kernel
theorem dX11_head_119 : decode cX11_head 119 = .ok (.iaload, 1) := by decide +kernel
theorem dX11_head_120 : decode cX11_head 120 = .ok (.ireturn, 1) := by decide +kernel
theorem dX11_head_121 : decode cX11_head 121 = .ok (.aload_n 0, 1) := by decide +kernel
theorem dX11_head_122 : decode cX11_head 122 = .ok (.getfield 19, 3) := by decide +kernel
theorem dX11_head_125 : decode cX11_head 125 = .ok (.invokevirtual 142, 3) := by decide +kernel
theorem dX11_head_128 : decode cX11_head 128 = .ok (.iload_n 1, 1) := by decide +kernel
theorem dX11_head_129 : decode cX11_head 129 = .ok (.invokestatic 173, 3) := by decide +kernel
theorem dX11_head_132 : decode cX11_head 132 = .ok (.ifCond .eq 7, 3) := by decide +kernel
theorem dX11_head_135 : decode cX11_head 135 = .ok (.iconst 1, 1) := by decide +kernel
theorem dX11_head_136 : decode cX11_head 136 = .ok (.goto 4, 3) := by decide +kernel
theorem dX11_head_139 : decode cX11_head 139 = .ok (.iconst 0, 1) := by decide +kernel
theorem dX11_head_140 : decode cX11_head 140 = .ok (.ireturn, 1) := by decide +kernel
theorem dX11_head_141 : decode cX11_head 141 = .ok (.aload_n 0, 1) := by decide +kernel
theorem dX11_head_142 : decode cX11_head 142 = .ok (.invokevirtual 135, 3) := by decide +kernel
theorem dX11_head_145 : decode cX11_head 145 = .ok (.aload_n 0, 1) := by decide +kernel
theorem dX11_head_146 : decode cX11_head 146 = .ok (.getfield 53, 3) := by decide +kernel
theorem dX11_head_149 : decode cX11_head 149 = .ok (.iload_n 1, 1) := by decide +kernel
theorem dX11_head_150 : decode cX11_head 150 = .ok (.iaload, 1) := by decide +kernel
theorem dX11_head_151 : decode cX11_head 151 = .ok (.ireturn, 1) := by decide +kernel
theorem dX11_head_152 : decode cX11_head 152 = .ok (.sipush (-1002), 3) := by decide +kernel
theorem dX11_head_155 : decode cX11_head 155 = .ok (.ireturn, 1) := by decide +kernel
theorem dX11_name_0 : decode cX11_name 0 = .ok (.aload_n 0, 1) := by decide +kernel
theorem dX11_name_1 : decode cX11_name 1 = .ok (.getfield 19, 3) := by decide +kernel
theorem dX11_name_4 : decode cX11_name 4 = .ok (.iload_n 1, 1) := by decide +kernel
theorem dX11_name_5 : decode cX11_name 5 = .ok (.iload_n 2, 1) := by decide +kernel
theorem dX11_name_6 : decode cX11_name 6 = .ok (.invokevirtual 177, 3) := by decide +kernel
theorem dX11_name_9 : decode cX11_name 9 = .ok (.ifCond .ne 7, 3) := by decide +kernel
theorem dX11_name_12 : decode cX11_name 12 = .ok (.sipush (-1001), 3) := by decide +kernel
theorem dX11_name_15 : decode cX11_name 15 = .ok (.ireturn, 1) := by decide +kernel
theorem dX11_name_16 : decode cX11_name 16 = .ok (.aload_n 0, 1) := by decide +kernel
theorem dX11_name_17 : decode cX11_name 17 = .ok (.getfield 19, 3) := by decide +kernel
theorem dX11_name_20 : decode cX11_name 20 = .ok (.iload_n 1, 1) := by decide +kernel
theorem dX11_name_21 : decode cX11_name 21 = .ok (.iload_n 2, 1) := by decide +kernel
theorem dX11_name_22 : decode cX11_name 22 = .ok (.invokevirtual 180, 3) := by decide +kernel
theorem dX11_name_25 : decode cX11_name 25 = .ok (.lstore 4, 2) := by decide +kernel
theorem dX11_name_27 : decode cX11_name 27 = .ok (.iload_n 3, 1) := by decide +kernel
theorem dX11_name_28 : decode cX11_name 28 = .ok (.iconst (-1), 1) := by decide +kernel
theorem dX11_name_29 : decode cX11_name 29 = .ok (.if_icmp .ne 11, 3) := by decide +kernel
theorem dX11_name_32 : decode cX11_name 32 = .ok (.lload 4, 2) := by decide +kernel
theorem dX11_name_34 : decode cX11_name 34 = .ok (.invokestatic 184, 3) := by decide +kernel
theorem dX11_name_37 : decode cX11_name 37 = .ok (.goto 9, 3) := by decide +kernel
theorem dX11_name_40 : decode cX11_name 40 = .ok (.lload 4, 2) := by decide +kernel
theorem dX11_name_42 : decode cX11_name 42 = .ok (.iload_n 3, 1) := by decide +kernel
theorem dX11_name_43 : decode cX11_name 43 = .ok (.invokestatic 190, 3) := by decide +kernel
theorem dX11_name_46 : decode cX11_name 46 = .ok (.ireturn, 1) := by decide +kernel
theorem dX11_mark_0 : decode cX11_mark 0 = .ok (.aload_n 0, 1) := by decide +kernel
theorem dX11_mark_1 : decode cX11_mark 1 = .ok (.getfield 19, 3) := by decide +kernel
theorem dX11_mark_4 : decode cX11_mark 4 = .ok (.iload_n 1, 1) := by decide +kernel
theorem dX11_mark_5 : decode cX11_mark 5 = .ok (.invokevirtual 194, 3) := by decide +kernel
theorem dX11_mark_8 : decode cX11_mark 8 = .ok (.ifCond .ne 7, 3) := by decide +kernel
theorem dX11_mark_11 : decode cX11_mark 11 = .ok (.sipush (-1001), 3) := by decide +kernel
theorem dX11_mark_14 : decode cX11_mark 14 = .ok (.ireturn, 1) := by decide +kernel
theorem dX11_mark_15 : decode cX11_mark 15 = .ok (.iload_n 2, 1) := by decide +kernel
theorem dX11_mark_16 : decode cX11_mark 16 = .ok (.tableswitch 94 0 4 #[36, 46, 56, 66, 76], 36) := by decide +kernel
theorem dX11_mark_52 : decode cX11_mark 52 = .ok (.aload_n 0, 1) := by decide +kernel
theorem dX11_mark_53 : decode cX11_mark 53 = .ok (.getfield 19, 3) := by decide +kernel
theorem dX11_mark_56 : decode cX11_mark 56 = .ok (.getfield 197, 3) := by decide +kernel
theorem dX11_mark_59 : decode cX11_mark 59 = .ok (.iload_n 1, 1) := by decide +kernel
theorem dX11_mark_60 : decode cX11_mark 60 = .ok (.iaload, 1) := by decide +kernel
theorem dX11_mark_61 : decode cX11_mark 61 = .ok (.ireturn, 1) := by decide +kernel
theorem dX11_mark_62 : decode cX11_mark 62 = .ok (.aload_n 0, 1) := by decide +kernel
theorem dX11_mark_63 : decode cX11_mark 63 = .ok (.getfield 19, 3) := by decide +kernel
theorem dX11_mark_66 : decode cX11_mark 66 = .ok (.getfield 200, 3) := by decide +kernel
theorem dX11_mark_69 : decode cX11_mark 69 = .ok (.iload_n 1, 1) := by decide +kernel
theorem dX11_mark_70 : decode cX11_mark 70 = .ok (.iaload, 1) := by decide +kernel
theorem dX11_mark_71 : decode cX11_mark 71 = .ok (.ireturn, 1) := by decide +kernel
theorem dX11_mark_72 : decode cX11_mark 72 = .ok (.aload_n 0, 1) := by decide +kernel
theorem dX11_mark_73 : decode cX11_mark 73 = .ok (.getfield 19, 3) := by decide +kernel
theorem dX11_mark_76 : decode cX11_mark 76 = .ok (.getfield 203, 3) := by decide +kernel
theorem dX11_mark_79 : decode cX11_mark 79 = .ok (.iload_n 1, 1) := by decide +kernel
theorem dX11_mark_80 : decode cX11_mark 80 = .ok (.iaload, 1) := by decide +kernel
theorem dX11_mark_81 : decode cX11_mark 81 = .ok (.ireturn, 1) := by decide +kernel
theorem dX11_mark_82 : decode cX11_mark 82 = .ok (.aload_n 0, 1) := by decide +kernel
theorem dX11_mark_83 : decode cX11_mark 83 = .ok (.getfield 19, 3) := by decide +kernel
theorem dX11_mark_86 : decode cX11_mark 86 = .ok (.getfield 206, 3) := by decide +kernel
theorem dX11_mark_89 : decode cX11_mark 89 = .ok (.iload_n 1, 1) := by decide +kernel
theorem dX11_mark_90 : decode cX11_mark 90 = .ok (.iaload, 1) := by decide +kernel
theorem dX11_mark_91 : decode cX11_mark 91 = .ok (.ireturn, 1) := by decide +kernel
theorem dX11_mark_92 : decode cX11_mark 92 = .ok (.aload_n 0, 1) := by decide +kernel
theorem dX11_mark_93 : decode cX11_mark 93 = .ok (.getfield 19, 3) := by decide +kernel
theorem dX11_mark_96 : decode cX11_mark 96 = .ok (.getfield 209, 3) := by decide +kernel
theorem dX11_mark_99 : decode cX11_mark 99 = .ok (.iload_n 1, 1) := by decide +kernel
theorem dX11_mark_100 : decode cX11_mark 100 = .ok (.baload, 1) := by decide +kernel
theorem dX11_mark_101 : decode cX11_mark 101 = .ok (.ifCond .eq 7, 3) := by decide +kernel
theorem dX11_mark_104 : decode cX11_mark 104 = .ok (.iconst 1, 1) := by decide +kernel
theorem dX11_mark_105 : decode cX11_mark 105 = .ok (.goto 4, 3) := by decide +kernel
theorem dX11_mark_108 : decode cX11_mark 108 = .ok (.iconst 0, 1) := by decide +kernel
theorem dX11_mark_109 : decode cX11_mark 109 = .ok (.ireturn, 1) := by decide +kernel
theorem dX11_mark_110 : decode cX11_mark 110 = .ok (.sipush (-1002), 3) := by decide +kernel
theorem dX11_mark_113 : decode cX11_mark 113 = .ok (.ireturn, 1) := by decide +kernel
theorem dX11_add_0 : decode cX11_add 0 = .ok (.aload_n 0, 1) := by decide +kernel
theorem dX11_add_1 : decode cX11_add 1 = .ok (.getfield 19, 3) := by decide +kernel
theorem dX11_add_4 : decode cX11_add 4 = .ok (.iload_n 1, 1) := by decide +kernel
theorem dX11_add_5 : decode cX11_add 5 = .ok (.iload_n 2, 1) := by decide +kernel
theorem dX11_add_6 : decode cX11_add 6 = .ok (.invokevirtual 177, 3) := by decide +kernel
theorem dX11_add_9 : decode cX11_add 9 = .ok (.ifCond .ne 7, 3) := by decide +kernel
theorem dX11_add_12 : decode cX11_add 12 = .ok (.sipush (-1001), 3) := by decide +kernel
theorem dX11_add_15 : decode cX11_add 15 = .ok (.ireturn, 1) := by decide +kernel
theorem dX11_add_16 : decode cX11_add 16 = .ok (.iload_n 3, 1) := by decide +kernel
theorem dX11_add_17 : decode cX11_add 17 = .ok (.invokestatic 213, 3) := by decide +kernel
theorem dX11_add_20 : decode cX11_add 20 = .ok (.ifCond .eq 17, 3) := by decide +kernel
theorem dX11_add_23 : decode cX11_add 23 = .ok (.iload 4, 2) := by decide +kernel
theorem dX11_add_25 : decode cX11_add 25 = .ok (.invokestatic 213, 3) := by decide +kernel
theorem dX11_add_28 : decode cX11_add 28 = .ok (.ifCond .eq 9, 3) := by decide +kernel
theorem dX11_add_31 : decode cX11_add 31 = .ok (.iload 4, 2) := by decide +kernel
theorem dX11_add_33 : decode cX11_add 33 = .ok (.iload_n 3, 1) := by decide +kernel
theorem dX11_add_34 : decode cX11_add 34 = .ok (.if_icmp .ge 7, 3) := by decide +kernel
theorem dX11_add_37 : decode cX11_add 37 = .ok (.sipush (-1002), 3) := by decide +kernel
theorem dX11_add_40 : decode cX11_add 40 = .ok (.ireturn, 1) := by decide +kernel
theorem dX11_add_41 : decode cX11_add 41 = .ok (.aload_n 0, 1) := by decide +kernel
theorem dX11_add_42 : decode cX11_add 42 = .ok (.getfield 19, 3) := by decide +kernel
theorem dX11_add_45 : decode cX11_add 45 = .ok (.getfield 129, 3) := by decide +kernel
theorem dX11_add_48 : decode cX11_add 48 = .ok (.bipush 60, 2) := by decide +kernel
theorem dX11_add_50 : decode cX11_add 50 = .ok (.if_icmp .lt 7, 3) := by decide +kernel
theorem dX11_add_53 : decode cX11_add 53 = .ok (.sipush (-1004), 3) := by decide +kernel
theorem dX11_add_56 : decode cX11_add 56 = .ok (.ireturn, 1) := by decide +kernel
theorem dX11_add_57 : decode cX11_add 57 = .ok (.aload_n 0, 1) := by decide +kernel
theorem dX11_add_58 : decode cX11_add 58 = .ok (.iconst 0, 1) := by decide +kernel
theorem dX11_add_59 : decode cX11_add 59 = .ok (.putfield 57, 3) := by decide +kernel
theorem dX11_add_62 : decode cX11_add 62 = .ok (.aload_n 0, 1) := by decide +kernel
theorem dX11_add_63 : decode cX11_add 63 = .ok (.getfield 19, 3) := by decide +kernel
theorem dX11_add_66 : decode cX11_add 66 = .ok (.iload_n 1, 1) := by decide +kernel
theorem dX11_add_67 : decode cX11_add 67 = .ok (.iload_n 2, 1) := by decide +kernel
theorem dX11_add_68 : decode cX11_add 68 = .ok (.iload_n 3, 1) := by decide +kernel
theorem dX11_add_69 : decode cX11_add 69 = .ok (.iload 4, 2) := by decide +kernel
theorem dX11_add_71 : decode cX11_add 71 = .ok (.iload 5, 2) := by decide +kernel
theorem dX11_add_73 : decode cX11_add 73 = .ok (.invokevirtual 216, 3) := by decide +kernel
theorem dX11_add_76 : decode cX11_add 76 = .ok (.ireturn, 1) := by decide +kernel
theorem dX11_drop_0 : decode cX11_drop 0 = .ok (.aload_n 0, 1) := by decide +kernel
theorem dX11_drop_1 : decode cX11_drop 1 = .ok (.getfield 19, 3) := by decide +kernel
theorem dX11_drop_4 : decode cX11_drop 4 = .ok (.iload_n 1, 1) := by decide +kernel
theorem dX11_drop_5 : decode cX11_drop 5 = .ok (.invokevirtual 194, 3) := by decide +kernel
theorem dX11_drop_8 : decode cX11_drop 8 = .ok (.ifCond .ne 7, 3) := by decide +kernel
theorem dX11_drop_11 : decode cX11_drop 11 = .ok (.sipush (-1001), 3) := by decide +kernel
theorem dX11_drop_14 : decode cX11_drop 14 = .ok (.ireturn, 1) := by decide +kernel
theorem dX11_drop_15 : decode cX11_drop 15 = .ok (.aload_n 0, 1) := by decide +kernel
theorem dX11_drop_16 : decode cX11_drop 16 = .ok (.getfield 19, 3) := by decide +kernel
theorem dX11_drop_19 : decode cX11_drop 19 = .ok (.iload_n 1, 1) := by decide +kernel
theorem dX11_drop_20 : decode cX11_drop 20 = .ok (.invokevirtual 220, 3) := by decide +kernel
theorem dX11_drop_23 : decode cX11_drop 23 = .ok (.aload_n 0, 1) := by decide +kernel
theorem dX11_drop_24 : decode cX11_drop 24 = .ok (.iconst 0, 1) := by decide +kernel
theorem dX11_drop_25 : decode cX11_drop 25 = .ok (.putfield 57, 3) := by decide +kernel
theorem dX11_drop_28 : decode cX11_drop 28 = .ok (.aload_n 0, 1) := by decide +kernel
theorem dX11_drop_29 : decode cX11_drop 29 = .ok (.getfield 19, 3) := by decide +kernel
theorem dX11_drop_32 : decode cX11_drop 32 = .ok (.getfield 129, 3) := by decide +kernel
theorem dX11_drop_35 : decode cX11_drop 35 = .ok (.ireturn, 1) := by decide +kernel
theorem dX11_asked_0 : decode cX11_asked 0 = .ok (.aload_n 0, 1) := by decide +kernel
theorem dX11_asked_1 : decode cX11_asked 1 = .ok (.getfield 19, 3) := by decide +kernel
theorem dX11_asked_4 : decode cX11_asked 4 = .ok (.iload_n 1, 1) := by decide +kernel
theorem dX11_asked_5 : decode cX11_asked 5 = .ok (.invokevirtual 152, 3) := by decide +kernel
theorem dX11_asked_8 : decode cX11_asked 8 = .ok (.ifCond .ne 7, 3) := by decide +kernel
theorem dX11_asked_11 : decode cX11_asked 11 = .ok (.sipush (-1001), 3) := by decide +kernel
theorem dX11_asked_14 : decode cX11_asked 14 = .ok (.ireturn, 1) := by decide +kernel
theorem dX11_asked_15 : decode cX11_asked 15 = .ok (.iload_n 2, 1) := by decide +kernel
theorem dX11_asked_16 : decode cX11_asked 16 = .ok (.ifCond .lt 9, 3) := by decide +kernel
theorem dX11_asked_19 : decode cX11_asked 19 = .ok (.iload_n 2, 1) := by decide +kernel
theorem dX11_asked_20 : decode cX11_asked 20 = .ok (.bipush 99, 2) := by decide +kernel
theorem dX11_asked_22 : decode cX11_asked 22 = .ok (.if_icmp .le 7, 3) := by decide +kernel
theorem dX11_asked_25 : decode cX11_asked 25 = .ok (.sipush (-1002), 3) := by decide +kernel
theorem dX11_asked_28 : decode cX11_asked 28 = .ok (.ireturn, 1) := by decide +kernel
theorem dX11_asked_29 : decode cX11_asked 29 = .ok (.aload_n 0, 1) := by decide +kernel
theorem dX11_asked_30 : decode cX11_asked 30 = .ok (.getfield 19, 3) := by decide +kernel
theorem dX11_asked_33 : decode cX11_asked 33 = .ok (.getfield 170, 3) := by decide +kernel
theorem dX11_asked_36 : decode cX11_asked 36 = .ok (.iload_n 1, 1) := by decide +kernel
theorem dX11_asked_37 : decode cX11_asked 37 = .ok (.iaload, 1) := by decide +kernel
theorem dX11_asked_38 : decode cX11_asked 38 = .ok (.istore_n 3, 1) := by decide +kernel
theorem dX11_asked_39 : decode cX11_asked 39 = .ok (.aload_n 0, 1) := by decide +kernel
theorem dX11_asked_40 : decode cX11_asked 40 = .ok (.getfield 19, 3) := by decide +kernel
theorem dX11_asked_43 : decode cX11_asked 43 = .ok (.getfield 170, 3) := by decide +kernel
theorem dX11_asked_46 : decode cX11_asked 46 = .ok (.iload_n 1, 1) := by decide +kernel
theorem dX11_asked_47 : decode cX11_asked 47 = .ok (.iload_n 2, 1) := by decide +kernel
theorem dX11_asked_48 : decode cX11_asked 48 = .ok (.iastore, 1) := by decide +kernel
theorem dX11_asked_49 : decode cX11_asked 49 = .ok (.iload_n 3, 1) := by decide +kernel
theorem dX11_asked_50 : decode cX11_asked 50 = .ok (.ireturn, 1) := by decide +kernel
theorem dX11_run_0 : decode cX11_run 0 = .ok (.aload_n 0, 1) := by decide +kernel
theorem dX11_run_1 : decode cX11_run 1 = .ok (.getfield 19, 3) := by decide +kernel
theorem dX11_run_4 : decode cX11_run 4 = .ok (.iload_n 1, 1) := by decide +kernel
theorem dX11_run_5 : decode cX11_run 5 = .ok (.iload_n 2, 1) := by decide +kernel
theorem dX11_run_6 : decode cX11_run 6 = .ok (.invokevirtual 177, 3) := by decide +kernel
theorem dX11_run_9 : decode cX11_run 9 = .ok (.ifCond .ne 7, 3) := by decide +kernel
theorem dX11_run_12 : decode cX11_run 12 = .ok (.sipush (-1001), 3) := by decide +kernel
theorem dX11_run_15 : decode cX11_run 15 = .ok (.ireturn, 1) := by decide +kernel
theorem dX11_run_16 : decode cX11_run 16 = .ok (.iload 4, 2) := by decide +kernel
theorem dX11_run_18 : decode cX11_run 18 = .ok (.ifCond .lt 9, 3) := by decide +kernel
theorem dX11_run_21 : decode cX11_run 21 = .ok (.iload 4, 2) := by decide +kernel
theorem dX11_run_23 : decode cX11_run 23 = .ok (.iconst 2, 1) := by decide +kernel
theorem dX11_run_24 : decode cX11_run 24 = .ok (.if_icmp .le 7, 3) := by decide +kernel
theorem dX11_run_27 : decode cX11_run 27 = .ok (.sipush (-1002), 3) := by decide +kernel
theorem dX11_run_30 : decode cX11_run 30 = .ok (.ireturn, 1) := by decide +kernel
theorem dX11_run_31 : decode cX11_run 31 = .ok (.aload_n 0, 1) := by decide +kernel
theorem dX11_run_32 : decode cX11_run 32 = .ok (.getfield 19, 3) := by decide +kernel
theorem dX11_run_35 : decode cX11_run 35 = .ok (.iload_n 1, 1) := by decide +kernel
theorem dX11_run_36 : decode cX11_run 36 = .ok (.iload_n 2, 1) := by decide +kernel
theorem dX11_run_37 : decode cX11_run 37 = .ok (.aload_n 0, 1) := by decide +kernel
theorem dX11_run_38 : decode cX11_run 38 = .ok (.getfield 64, 3) := by decide +kernel
theorem dX11_run_41 : decode cX11_run 41 = .ok (.invokevirtual 159, 3) := by decide +kernel
theorem dX11_run_44 : decode cX11_run 44 = .ok (.iload_n 3, 1) := by decide +kernel
theorem dX11_run_45 : decode cX11_run 45 = .ok (.iconst (-1), 1) := by decide +kernel
theorem dX11_run_46 : decode cX11_run 46 = .ok (.if_icmp .ne 11, 3) := by decide +kernel
theorem dX11_run_49 : decode cX11_run 49 = .ok (.aload_n 0, 1) := by decide +kernel
theorem dX11_run_50 : decode cX11_run 50 = .ok (.getfield 64, 3) := by decide +kernel
theorem dX11_run_53 : decode cX11_run 53 = .ok (.getfield 163, 3) := by decide +kernel
theorem dX11_run_56 : decode cX11_run 56 = .ok (.ireturn, 1) := by decide +kernel
theorem dX11_run_57 : decode cX11_run 57 = .ok (.iload_n 3, 1) := by decide +kernel
theorem dX11_run_58 : decode cX11_run 58 = .ok (.ifCond .lt 14, 3) := by decide +kernel
theorem dX11_run_61 : decode cX11_run 61 = .ok (.iload_n 3, 1) := by decide +kernel
theorem dX11_run_62 : decode cX11_run 62 = .ok (.aload_n 0, 1) := by decide +kernel
theorem dX11_run_63 : decode cX11_run 63 = .ok (.getfield 64, 3) := by decide +kernel
theorem dX11_run_66 : decode cX11_run 66 = .ok (.getfield 163, 3) := by decide +kernel
theorem dX11_run_69 : decode cX11_run 69 = .ok (.if_icmp .lt 5, 3) := by decide +kernel
theorem dX11_run_72 : decode cX11_run 72 = .ok (.iconst (-1), 1) := by decide +kernel
theorem dX11_run_73 : decode cX11_run 73 = .ok (.ireturn, 1) := by decide +kernel
theorem dX11_run_74 : decode cX11_run 74 = .ok (.iload 4, 2) := by decide +kernel
theorem dX11_run_76 : decode cX11_run 76 = .ok (.ifCond .ne 13, 3) := by decide +kernel
theorem dX11_run_79 : decode cX11_run 79 = .ok (.aload_n 0, 1) := by decide +kernel
theorem dX11_run_80 : decode cX11_run 80 = .ok (.getfield 64, 3) := by decide +kernel
theorem dX11_run_83 : decode cX11_run 83 = .ok (.getfield 223, 3) := by decide +kernel
theorem dX11_run_86 : decode cX11_run 86 = .ok (.iload_n 3, 1) := by decide +kernel
theorem dX11_run_87 : decode cX11_run 87 = .ok (.iaload, 1) := by decide +kernel
theorem dX11_run_88 : decode cX11_run 88 = .ok (.ireturn, 1) := by decide +kernel
theorem dX11_run_89 : decode cX11_run 89 = .ok (.iload 4, 2) := by decide +kernel
theorem dX11_run_91 : decode cX11_run 91 = .ok (.iconst 1, 1) := by decide +kernel
theorem dX11_run_92 : decode cX11_run 92 = .ok (.if_icmp .ne 13, 3) := by decide +kernel
theorem dX11_run_95 : decode cX11_run 95 = .ok (.aload_n 0, 1) := by decide +kernel
theorem dX11_run_96 : decode cX11_run 96 = .ok (.getfield 64, 3) := by decide +kernel
theorem dX11_run_99 : decode cX11_run 99 = .ok (.getfield 226, 3) := by decide +kernel
theorem dX11_run_102 : decode cX11_run 102 = .ok (.iload_n 3, 1) := by decide +kernel
theorem dX11_run_103 : decode cX11_run 103 = .ok (.iaload, 1) := by decide +kernel
theorem dX11_run_104 : decode cX11_run 104 = .ok (.ireturn, 1) := by decide +kernel
theorem dX11_run_105 : decode cX11_run 105 = .ok (.aload_n 0, 1) := by decide +kernel
theorem dX11_run_106 : decode cX11_run 106 = .ok (.getfield 64, 3) := by decide +kernel
theorem dX11_run_109 : decode cX11_run 109 = .ok (.getfield 229, 3) := by decide +kernel
theorem dX11_run_112 : decode cX11_run 112 = .ok (.iload_n 3, 1) := by decide +kernel
theorem dX11_run_113 : decode cX11_run 113 = .ok (.baload, 1) := by decide +kernel
theorem dX11_run_114 : decode cX11_run 114 = .ok (.ifCond .eq 7, 3) := by decide +kernel
theorem dX11_run_117 : decode cX11_run 117 = .ok (.iconst 1, 1) := by decide +kernel
theorem dX11_run_118 : decode cX11_run 118 = .ok (.goto 4, 3) := by decide +kernel
theorem dX11_run_121 : decode cX11_run 121 = .ok (.iconst 0, 1) := by decide +kernel
theorem dX11_run_122 : decode cX11_run 122 = .ok (.ireturn, 1) := by decide +kernel
theorem dX11_order_0 : decode cX11_order 0 = .ok (.iload_n 1, 1) := by decide +kernel
theorem dX11_order_1 : decode cX11_order 1 = .ok (.ifCond .lt 8, 3) := by decide +kernel
theorem dX11_order_4 : decode cX11_order 4 = .ok (.iload_n 1, 1) := by decide +kernel
theorem dX11_order_5 : decode cX11_order 5 = .ok (.iconst 1, 1) := by decide +kernel
theorem dX11_order_6 : decode cX11_order 6 = .ok (.if_icmp .le 7, 3) := by decide +kernel
theorem dX11_order_9 : decode cX11_order 9 = .ok (.sipush (-1002), 3) := by decide +kernel
theorem dX11_order_12 : decode cX11_order 12 = .ok (.ireturn, 1) := by decide +kernel
theorem dX11_order_13 : decode cX11_order 13 = .ok (.aload_n 0, 1) := by decide +kernel
theorem dX11_order_14 : decode cX11_order 14 = .ok (.getfield 27, 3) := by decide +kernel
theorem dX11_order_17 : decode cX11_order 17 = .ok (.istore_n 2, 1) := by decide +kernel
theorem dX11_order_18 : decode cX11_order 18 = .ok (.aload_n 0, 1) := by decide +kernel
theorem dX11_order_19 : decode cX11_order 19 = .ok (.iload_n 1, 1) := by decide +kernel
theorem dX11_order_20 : decode cX11_order 20 = .ok (.putfield 27, 3) := by decide +kernel
theorem dX11_order_23 : decode cX11_order 23 = .ok (.aload_n 0, 1) := by decide +kernel
theorem dX11_order_24 : decode cX11_order 24 = .ok (.iconst 0, 1) := by decide +kernel
theorem dX11_order_25 : decode cX11_order 25 = .ok (.putfield 57, 3) := by decide +kernel
theorem dX11_order_28 : decode cX11_order 28 = .ok (.iload_n 2, 1) := by decide +kernel
theorem dX11_order_29 : decode cX11_order 29 = .ok (.ireturn, 1) := by decide +kernel
theorem dX11_at_0 : decode cX11_at 0 = .ok (.aload_n 0, 1) := by decide +kernel
theorem dX11_at_1 : decode cX11_at 1 = .ok (.getfield 19, 3) := by decide +kernel
theorem dX11_at_4 : decode cX11_at 4 = .ok (.iload_n 1, 1) := by decide +kernel
theorem dX11_at_5 : decode cX11_at 5 = .ok (.invokevirtual 152, 3) := by decide +kernel
theorem dX11_at_8 : decode cX11_at 8 = .ok (.ifCond .ne 5, 3) := by decide +kernel
theorem dX11_at_11 : decode cX11_at 11 = .ok (.iconst (-1), 1) := by decide +kernel
theorem dX11_at_12 : decode cX11_at 12 = .ok (.ireturn, 1) := by decide +kernel
theorem dX11_at_13 : decode cX11_at 13 = .ok (.aload_n 0, 1) := by decide +kernel
theorem dX11_at_14 : decode cX11_at 14 = .ok (.getfield 37, 3) := by decide +kernel
theorem dX11_at_17 : decode cX11_at 17 = .ok (.aload_n 0, 1) := by decide +kernel
theorem dX11_at_18 : decode cX11_at 18 = .ok (.getfield 19, 3) := by decide +kernel
theorem dX11_at_21 : decode cX11_at 21 = .ok (.aload_n 0, 1) := by decide +kernel
theorem dX11_at_22 : decode cX11_at 22 = .ok (.getfield 27, 3) := by decide +kernel
theorem dX11_at_25 : decode cX11_at 25 = .ok (.invokevirtual 232, 3) := by decide +kernel
theorem dX11_at_28 : decode cX11_at 28 = .ok (.aload_n 0, 1) := by decide +kernel
theorem dX11_at_29 : decode cX11_at 29 = .ok (.getfield 37, 3) := by decide +kernel
theorem dX11_at_32 : decode cX11_at 32 = .ok (.getfield 236, 3) := by decide +kernel
theorem dX11_at_35 : decode cX11_at 35 = .ok (.getfield 240, 3) := by decide +kernel
theorem dX11_at_38 : decode cX11_at 38 = .ok (.iload_n 1, 1) := by decide +kernel
theorem dX11_at_39 : decode cX11_at 39 = .ok (.iaload, 1) := by decide +kernel
theorem dX11_at_40 : decode cX11_at 40 = .ok (.ireturn, 1) := by decide +kernel
theorem dX11_subAt_0 : decode cX11_subAt 0 = .ok (.aload_n 0, 1) := by decide +kernel
theorem dX11_subAt_1 : decode cX11_subAt 1 = .ok (.getfield 19, 3) := by decide +kernel
theorem dX11_subAt_4 : decode cX11_subAt 4 = .ok (.iload_n 1, 1) := by decide +kernel
theorem dX11_subAt_5 : decode cX11_subAt 5 = .ok (.invokevirtual 152, 3) := by decide +kernel
theorem dX11_subAt_8 : decode cX11_subAt 8 = .ok (.ifCond .ne 7, 3) := by decide +kernel
theorem dX11_subAt_11 : decode cX11_subAt 11 = .ok (.sipush (-1001), 3) := by decide +kernel
theorem dX11_subAt_14 : decode cX11_subAt 14 = .ok (.ireturn, 1) := by decide +kernel
theorem dX11_subAt_15 : decode cX11_subAt 15 = .ok (.iload_n 2, 1) := by decide +kernel
theorem dX11_subAt_16 : decode cX11_subAt 16 = .ok (.ifCond .lt 16, 3) := by decide +kernel
theorem dX11_subAt_19 : decode cX11_subAt 19 = .ok (.iload_n 2, 1) := by decide +kernel
theorem dX11_subAt_20 : decode cX11_subAt 20 = .ok (.aload_n 0, 1) := by decide +kernel
theorem dX11_subAt_21 : decode cX11_subAt 21 = .ok (.getfield 19, 3) := by decide +kernel
theorem dX11_subAt_24 : decode cX11_subAt 24 = .ok (.getfield 156, 3) := by decide +kernel
theorem dX11_subAt_27 : decode cX11_subAt 27 = .ok (.iload_n 1, 1) := by decide +kernel
theorem dX11_subAt_28 : decode cX11_subAt 28 = .ok (.iaload, 1) := by decide +kernel
theorem dX11_subAt_29 : decode cX11_subAt 29 = .ok (.if_icmp .lt 5, 3) := by decide +kernel
theorem dX11_subAt_32 : decode cX11_subAt 32 = .ok (.iconst (-1), 1) := by decide +kernel
theorem dX11_subAt_33 : decode cX11_subAt 33 = .ok (.ireturn, 1) := by decide +kernel
theorem dX11_subAt_34 : decode cX11_subAt 34 = .ok (.aload_n 0, 1) := by decide +kernel
theorem dX11_subAt_35 : decode cX11_subAt 35 = .ok (.getfield 37, 3) := by decide +kernel
theorem dX11_subAt_38 : decode cX11_subAt 38 = .ok (.aload_n 0, 1) := by decide +kernel
theorem dX11_subAt_39 : decode cX11_subAt 39 = .ok (.getfield 19, 3) := by decide +kernel
theorem dX11_subAt_42 : decode cX11_subAt 42 = .ok (.iload_n 1, 1) := by decide +kernel
theorem dX11_subAt_43 : decode cX11_subAt 43 = .ok (.aload_n 0, 1) := by decide +kernel
theorem dX11_subAt_44 : decode cX11_subAt 44 = .ok (.getfield 27, 3) := by decide +kernel
theorem dX11_subAt_47 : decode cX11_subAt 47 = .ok (.invokevirtual 245, 3) := by decide +kernel
theorem dX11_subAt_50 : decode cX11_subAt 50 = .ok (.aload_n 0, 1) := by decide +kernel
theorem dX11_subAt_51 : decode cX11_subAt 51 = .ok (.getfield 37, 3) := by decide +kernel
theorem dX11_subAt_54 : decode cX11_subAt 54 = .ok (.getfield 249, 3) := by decide +kernel
theorem dX11_subAt_57 : decode cX11_subAt 57 = .ok (.getfield 240, 3) := by decide +kernel
theorem dX11_subAt_60 : decode cX11_subAt 60 = .ok (.iload_n 2, 1) := by decide +kernel
theorem dX11_subAt_61 : decode cX11_subAt 61 = .ok (.iaload, 1) := by decide +kernel
theorem dX11_subAt_62 : decode cX11_subAt 62 = .ok (.ireturn, 1) := by decide +kernel
theorem dX11_width_0 : decode cX11_width 0 = .ok (.iload_n 1, 1) := by decide +kernel
theorem dX11_width_1 : decode cX11_width 1 = .ok (.bipush 20, 2) := by decide +kernel
theorem dX11_width_3 : decode cX11_width 3 = .ok (.if_icmp .lt 9, 3) := by decide +kernel
theorem dX11_width_6 : decode cX11_width 6 = .ok (.iload_n 1, 1) := by decide +kernel
theorem dX11_width_7 : decode cX11_width 7 = .ok (.bipush 80, 2) := by decide +kernel
theorem dX11_width_9 : decode cX11_width 9 = .ok (.if_icmp .le 7, 3) := by decide +kernel
theorem dX11_width_12 : decode cX11_width 12 = .ok (.sipush (-1002), 3) := by decide +kernel
theorem dX11_width_15 : decode cX11_width 15 = .ok (.ireturn, 1) := by decide +kernel
theorem dX11_width_16 : decode cX11_width 16 = .ok (.aload_n 0, 1) := by decide +kernel
theorem dX11_width_17 : decode cX11_width 17 = .ok (.getfield 31, 3) := by decide +kernel
theorem dX11_width_20 : decode cX11_width 20 = .ok (.istore_n 2, 1) := by decide +kernel
theorem dX11_width_21 : decode cX11_width 21 = .ok (.aload_n 0, 1) := by decide +kernel
theorem dX11_width_22 : decode cX11_width 22 = .ok (.iload_n 1, 1) := by decide +kernel
theorem dX11_width_23 : decode cX11_width 23 = .ok (.putfield 31, 3) := by decide +kernel
theorem dX11_width_26 : decode cX11_width 26 = .ok (.aload_n 0, 1) := by decide +kernel
theorem dX11_width_27 : decode cX11_width 27 = .ok (.iconst 0, 1) := by decide +kernel
theorem dX11_width_28 : decode cX11_width 28 = .ok (.putfield 57, 3) := by decide +kernel
theorem dX11_width_31 : decode cX11_width 31 = .ok (.iload_n 2, 1) := by decide +kernel
theorem dX11_width_32 : decode cX11_width 32 = .ok (.ireturn, 1) := by decide +kernel
theorem dX11_print_0 : decode cX11_print 0 = .ok (.aload_n 0, 1) := by decide +kernel
theorem dX11_print_1 : decode cX11_print 1 = .ok (.invokevirtual 135, 3) := by decide +kernel
theorem dX11_print_4 : decode cX11_print 4 = .ok (.iload_n 1, 1) := by decide +kernel
theorem dX11_print_5 : decode cX11_print 5 = .ok (.ifCond .lt 26, 3) := by decide +kernel
theorem dX11_print_8 : decode cX11_print 8 = .ok (.iload_n 1, 1) := by decide +kernel
theorem dX11_print_9 : decode cX11_print 9 = .ok (.aload_n 0, 1) := by decide +kernel
theorem dX11_print_10 : decode cX11_print 10 = .ok (.getfield 46, 3) := by decide +kernel
theorem dX11_print_13 : decode cX11_print 13 = .ok (.getfield 141, 3) := by decide +kernel
theorem dX11_print_16 : decode cX11_print 16 = .ok (.if_icmp .ge 15, 3) := by decide +kernel
theorem dX11_print_19 : decode cX11_print 19 = .ok (.iload_n 1, 1) := by decide +kernel
theorem dX11_print_20 : decode cX11_print 20 = .ok (.aload_n 0, 1) := by decide +kernel
theorem dX11_print_21 : decode cX11_print 21 = .ok (.getfield 46, 3) := by decide +kernel
theorem dX11_print_24 : decode cX11_print 24 = .ok (.getfield 252, 3) := by decide +kernel
theorem dX11_print_27 : decode cX11_print 27 = .ok (.arraylength, 1) := by decide +kernel
theorem dX11_print_28 : decode cX11_print 28 = .ok (.if_icmp .lt 5, 3) := by decide +kernel
theorem dX11_print_31 : decode cX11_print 31 = .ok (.iconst (-1), 1) := by decide +kernel
theorem dX11_print_32 : decode cX11_print 32 = .ok (.ireturn, 1) := by decide +kernel
theorem dX11_print_33 : decode cX11_print 33 = .ok (.aload_n 0, 1) := by decide +kernel
theorem dX11_print_34 : decode cX11_print 34 = .ok (.getfield 46, 3) := by decide +kernel
theorem dX11_print_37 : decode cX11_print 37 = .ok (.getfield 252, 3) := by decide +kernel
theorem dX11_print_40 : decode cX11_print 40 = .ok (.iload_n 1, 1) := by decide +kernel
theorem dX11_print_41 : decode cX11_print 41 = .ok (.baload, 1) := by decide +kernel
theorem dX11_print_42 : decode cX11_print 42 = .ok (.ireturn, 1) := by decide +kernel
theorem dX11_printAll_0 : decode cX11_printAll 0 = .ok (.aload_n 0, 1) := by decide +kernel
theorem dX11_printAll_1 : decode cX11_printAll 1 = .ok (.getfield 57, 3) := by decide +kernel
theorem dX11_printAll_4 : decode cX11_printAll 4 = .ok (.ifCond .eq 4, 3) := by decide +kernel
theorem dX11_printAll_7 : decode cX11_printAll 7 = .ok (.return_, 1) := by decide +kernel
theorem dX11_printAll_8 : decode cX11_printAll 8 = .ok (.aload_n 0, 1) := by decide +kernel
theorem dX11_printAll_9 : decode cX11_printAll 9 = .ok (.getfield 37, 3) := by decide +kernel
theorem dX11_printAll_12 : decode cX11_printAll 12 = .ok (.aload_n 0, 1) := by decide +kernel
theorem dX11_printAll_13 : decode cX11_printAll 13 = .ok (.getfield 19, 3) := by decide +kernel
theorem dX11_printAll_16 : decode cX11_printAll 16 = .ok (.aload_n 0, 1) := by decide +kernel
theorem dX11_printAll_17 : decode cX11_printAll 17 = .ok (.getfield 27, 3) := by decide +kernel
theorem dX11_printAll_20 : decode cX11_printAll 20 = .ok (.invokevirtual 232, 3) := by decide +kernel
theorem dX11_printAll_23 : decode cX11_printAll 23 = .ok (.aload_n 0, 1) := by decide +kernel
theorem dX11_printAll_24 : decode cX11_printAll 24 = .ok (.getfield 46, 3) := by decide +kernel
theorem dX11_printAll_27 : decode cX11_printAll 27 = .ok (.aload_n 0, 1) := by decide +kernel
theorem dX11_printAll_28 : decode cX11_printAll 28 = .ok (.getfield 31, 3) := by decide +kernel
theorem dX11_printAll_31 : decode cX11_printAll 31 = .ok (.invokevirtual 256, 3) := by decide +kernel
theorem dX11_printAll_34 : decode cX11_printAll 34 = .ok (.iconst 0, 1) := by decide +kernel
theorem dX11_printAll_35 : decode cX11_printAll 35 = .ok (.istore_n 1, 1) := by decide +kernel
theorem dX11_printAll_36 : decode cX11_printAll 36 = .ok (.iload_n 1, 1) := by decide +kernel
theorem dX11_printAll_37 : decode cX11_printAll 37 = .ok (.aload_n 0, 1) := by decide +kernel
theorem dX11_printAll_38 : decode cX11_printAll 38 = .ok (.getfield 19, 3) := by decide +kernel
theorem dX11_printAll_41 : decode cX11_printAll 41 = .ok (.getfield 123, 3) := by decide +kernel
theorem dX11_printAll_44 : decode cX11_printAll 44 = .ok (.if_icmp .ge 46, 3) := by decide +kernel
theorem dX11_printAll_47 : decode cX11_printAll 47 = .ok (.aload_n 0, 1) := by decide +kernel
theorem dX11_printAll_48 : decode cX11_printAll 48 = .ok (.getfield 37, 3) := by decide +kernel
theorem dX11_printAll_51 : decode cX11_printAll 51 = .ok (.getfield 236, 3) := by decide +kernel
theorem dX11_printAll_54 : decode cX11_printAll 54 = .ok (.getfield 240, 3) := by decide +kernel
theorem dX11_printAll_57 : decode cX11_printAll 57 = .ok (.iload_n 1, 1) := by decide +kernel
theorem dX11_printAll_58 : decode cX11_printAll 58 = .ok (.iaload, 1) := by decide +kernel
theorem dX11_printAll_59 : decode cX11_printAll 59 = .ok (.istore_n 2, 1) := by decide +kernel
theorem dX11_printAll_60 : decode cX11_printAll 60 = .ok (.aload_n 0, 1) := by decide +kernel
theorem dX11_printAll_61 : decode cX11_printAll 61 = .ok (.getfield 53, 3) := by decide +kernel
theorem dX11_printAll_64 : decode cX11_printAll 64 = .ok (.iload_n 2, 1) := by decide +kernel
theorem dX11_printAll_65 : decode cX11_printAll 65 = .ok (.aload_n 0, 1) := by decide +kernel
theorem dX11_printAll_66 : decode cX11_printAll 66 = .ok (.getfield 37, 3) := by decide +kernel
theorem dX11_printAll_69 : decode cX11_printAll 69 = .ok (.aload_n 0, 1) := by decide +kernel
theorem dX11_printAll_70 : decode cX11_printAll 70 = .ok (.getfield 46, 3) := by decide +kernel
theorem dX11_printAll_73 : decode cX11_printAll 73 = .ok (.aload_n 0, 1) := by decide +kernel
theorem dX11_printAll_74 : decode cX11_printAll 74 = .ok (.getfield 19, 3) := by decide +kernel
theorem dX11_printAll_77 : decode cX11_printAll 77 = .ok (.iload_n 2, 1) := by decide +kernel
theorem dX11_printAll_78 : decode cX11_printAll 78 = .ok (.iload_n 2, 1) := by decide +kernel
theorem dX11_printAll_79 : decode cX11_printAll 79 = .ok (.iconst 0, 1) := by decide +kernel
theorem dX11_printAll_80 : decode cX11_printAll 80 = .ok (.invokevirtual 259, 3) := by decide +kernel
theorem dX11_printAll_83 : decode cX11_printAll 83 = .ok (.iastore, 1) := by decide +kernel
theorem dX11_printAll_84 : decode cX11_printAll 84 = .ok (.iinc 1 1, 3) := by decide +kernel
theorem dX11_printAll_87 : decode cX11_printAll 87 = .ok (.goto (-51), 3) := by decide +kernel
theorem dX11_printAll_90 : decode cX11_printAll 90 = .ok (.aload_n 0, 1) := by decide +kernel
theorem dX11_printAll_91 : decode cX11_printAll 91 = .ok (.iconst 1, 1) := by decide +kernel
theorem dX11_printAll_92 : decode cX11_printAll 92 = .ok (.putfield 57, 3) := by decide +kernel
theorem dX11_printAll_95 : decode cX11_printAll 95 = .ok (.return_, 1) := by decide +kernel
theorem dX11_look_0 : decode cX11_look 0 = .ok (.aload_n 0, 1) := by decide +kernel
theorem dX11_look_1 : decode cX11_look 1 = .ok (.getfield 19, 3) := by decide +kernel
theorem dX11_look_4 : decode cX11_look 4 = .ok (.iload_n 1, 1) := by decide +kernel
theorem dX11_look_5 : decode cX11_look 5 = .ok (.invokevirtual 152, 3) := by decide +kernel
theorem dX11_look_8 : decode cX11_look 8 = .ok (.ifCond .ne 7, 3) := by decide +kernel
theorem dX11_look_11 : decode cX11_look 11 = .ok (.sipush (-1001), 3) := by decide +kernel
theorem dX11_look_14 : decode cX11_look 14 = .ok (.ireturn, 1) := by decide +kernel
theorem dX11_look_15 : decode cX11_look 15 = .ok (.iload_n 2, 1) := by decide +kernel
theorem dX11_look_16 : decode cX11_look 16 = .ok (.ifCond .lt 8, 3) := by decide +kernel
theorem dX11_look_19 : decode cX11_look 19 = .ok (.iload_n 2, 1) := by decide +kernel
theorem dX11_look_20 : decode cX11_look 20 = .ok (.iconst 1, 1) := by decide +kernel
theorem dX11_look_21 : decode cX11_look 21 = .ok (.if_icmp .le 7, 3) := by decide +kernel
theorem dX11_look_24 : decode cX11_look 24 = .ok (.sipush (-1002), 3) := by decide +kernel
theorem dX11_look_27 : decode cX11_look 27 = .ok (.ireturn, 1) := by decide +kernel
theorem dX11_look_28 : decode cX11_look 28 = .ok (.aload_n 0, 1) := by decide +kernel
theorem dX11_look_29 : decode cX11_look 29 = .ok (.getfield 19, 3) := by decide +kernel
theorem dX11_look_32 : decode cX11_look 32 = .ok (.iload_n 1, 1) := by decide +kernel
theorem dX11_look_33 : decode cX11_look 33 = .ok (.aload_n 0, 1) := by decide +kernel
theorem dX11_look_34 : decode cX11_look 34 = .ok (.getfield 19, 3) := by decide +kernel
theorem dX11_look_37 : decode cX11_look 37 = .ok (.invokevirtual 142, 3) := by decide +kernel
theorem dX11_look_40 : decode cX11_look 40 = .ok (.invokevirtual 263, 3) := by decide +kernel
theorem dX11_look_43 : decode cX11_look 43 = .ok (.istore_n 3, 1) := by decide +kernel
theorem dX11_look_44 : decode cX11_look 44 = .ok (.iload_n 2, 1) := by decide +kernel
theorem dX11_look_45 : decode cX11_look 45 = .ok (.iconst 1, 1) := by decide +kernel
theorem dX11_look_46 : decode cX11_look 46 = .ok (.if_icmp .eq 8, 3) := by decide +kernel
theorem dX11_look_49 : decode cX11_look 49 = .ok (.iload_n 3, 1) := by decide +kernel
theorem dX11_look_50 : decode cX11_look 50 = .ok (.iconst (-1), 1) := by decide +kernel
theorem dX11_look_51 : decode cX11_look 51 = .ok (.if_icmp .ne 7, 3) := by decide +kernel
theorem dX11_look_54 : decode cX11_look 54 = .ok (.iload_n 3, 1) := by decide +kernel
theorem dX11_look_55 : decode cX11_look 55 = .ok (.goto 12, 3) := by decide +kernel
theorem dX11_look_58 : decode cX11_look 58 = .ok (.aload_n 0, 1) := by decide +kernel
theorem dX11_look_59 : decode cX11_look 59 = .ok (.getfield 19, 3) := by decide +kernel
theorem dX11_look_62 : decode cX11_look 62 = .ok (.iload_n 1, 1) := by decide +kernel
theorem dX11_look_63 : decode cX11_look 63 = .ok (.iload_n 3, 1) := by decide +kernel
theorem dX11_look_64 : decode cX11_look 64 = .ok (.invokevirtual 267, 3) := by decide +kernel
theorem dX11_look_67 : decode cX11_look 67 = .ok (.ireturn, 1) := by decide +kernel
theorem dX11_steps_0 : decode cX11_steps 0 = .ok (.aload_n 0, 1) := by decide +kernel
theorem dX11_steps_1 : decode cX11_steps 1 = .ok (.getfield 19, 3) := by decide +kernel
theorem dX11_steps_4 : decode cX11_steps 4 = .ok (.iload_n 1, 1) := by decide +kernel
theorem dX11_steps_5 : decode cX11_steps 5 = .ok (.invokevirtual 152, 3) := by decide +kernel
theorem dX11_steps_8 : decode cX11_steps 8 = .ok (.ifCond .ne 7, 3) := by decide +kernel
theorem dX11_steps_11 : decode cX11_steps 11 = .ok (.sipush (-1001), 3) := by decide +kernel
theorem dX11_steps_14 : decode cX11_steps 14 = .ok (.ireturn, 1) := by decide +kernel
theorem dX11_steps_15 : decode cX11_steps 15 = .ok (.iload_n 2, 1) := by decide +kernel
theorem dX11_steps_16 : decode cX11_steps 16 = .ok (.invokestatic 213, 3) := by decide +kernel
theorem dX11_steps_19 : decode cX11_steps 19 = .ok (.ifCond .ne 7, 3) := by decide +kernel
theorem dX11_steps_22 : decode cX11_steps 22 = .ok (.sipush (-1002), 3) := by decide +kernel
theorem dX11_steps_25 : decode cX11_steps 25 = .ok (.ireturn, 1) := by decide +kernel
theorem dX11_steps_26 : decode cX11_steps 26 = .ok (.aload_n 0, 1) := by decide +kernel
theorem dX11_steps_27 : decode cX11_steps 27 = .ok (.getfield 19, 3) := by decide +kernel
theorem dX11_steps_30 : decode cX11_steps 30 = .ok (.iload_n 2, 1) := by decide +kernel
theorem dX11_steps_31 : decode cX11_steps 31 = .ok (.invokevirtual 270, 3) := by decide +kernel
theorem dX11_steps_34 : decode cX11_steps 34 = .ok (.istore_n 3, 1) := by decide +kernel
theorem dX11_steps_35 : decode cX11_steps 35 = .ok (.iconst 1, 1) := by decide +kernel
theorem dX11_steps_36 : decode cX11_steps 36 = .ok (.iload_n 1, 1) := by decide +kernel
theorem dX11_steps_37 : decode cX11_steps 37 = .ok (.ishl, 1) := by decide +kernel
theorem dX11_steps_38 : decode cX11_steps 38 = .ok (.istore 4, 2) := by decide +kernel
theorem dX11_steps_40 : decode cX11_steps 40 = .ok (.iconst 0, 1) := by decide +kernel
theorem dX11_steps_41 : decode cX11_steps 41 = .ok (.istore 5, 2) := by decide +kernel
theorem dX11_steps_43 : decode cX11_steps 43 = .ok (.iload 5, 2) := by decide +kernel
theorem dX11_steps_45 : decode cX11_steps 45 = .ok (.bipush 16, 2) := by decide +kernel
theorem dX11_steps_47 : decode cX11_steps 47 = .ok (.if_icmp .gt 30, 3) := by decide +kernel
theorem dX11_steps_50 : decode cX11_steps 50 = .ok (.iload 4, 2) := by decide +kernel
theorem dX11_steps_52 : decode cX11_steps 52 = .ok (.iload_n 3, 1) := by decide +kernel
theorem dX11_steps_53 : decode cX11_steps 53 = .ok (.iand, 1) := by decide +kernel
theorem dX11_steps_54 : decode cX11_steps 54 = .ok (.ifCond .eq 6, 3) := by decide +kernel
theorem dX11_steps_57 : decode cX11_steps 57 = .ok (.iload 5, 2) := by decide +kernel
theorem dX11_steps_59 : decode cX11_steps 59 = .ok (.ireturn, 1) := by decide +kernel
theorem dX11_steps_60 : decode cX11_steps 60 = .ok (.aload_n 0, 1) := by decide +kernel
theorem dX11_steps_61 : decode cX11_steps 61 = .ok (.getfield 19, 3) := by decide +kernel
theorem dX11_steps_64 : decode cX11_steps 64 = .ok (.iload 4, 2) := by decide +kernel
theorem dX11_steps_66 : decode cX11_steps 66 = .ok (.invokevirtual 273, 3) := by decide +kernel
theorem dX11_steps_69 : decode cX11_steps 69 = .ok (.istore 4, 2) := by decide +kernel
theorem dX11_steps_71 : decode cX11_steps 71 = .ok (.iinc 5 1, 3) := by decide +kernel
theorem dX11_steps_74 : decode cX11_steps 74 = .ok (.goto (-31), 3) := by decide +kernel
theorem dX11_steps_77 : decode cX11_steps 77 = .ok (.iconst (-1), 1) := by decide +kernel
theorem dX11_steps_78 : decode cX11_steps 78 = .ok (.ireturn, 1) := by decide +kernel
theorem dX11_finds_0 : decode cX11_finds 0 = .ok (.aload_n 0, 1) := by decide +kernel
theorem dX11_finds_1 : decode cX11_finds 1 = .ok (.getfield 19, 3) := by decide +kernel
theorem dX11_finds_4 : decode cX11_finds 4 = .ok (.iload_n 1, 1) := by decide +kernel
theorem dX11_finds_5 : decode cX11_finds 5 = .ok (.invokevirtual 152, 3) := by decide +kernel
theorem dX11_finds_8 : decode cX11_finds 8 = .ok (.ifCond .ne 7, 3) := by decide +kernel
theorem dX11_finds_11 : decode cX11_finds 11 = .ok (.sipush (-1001), 3) := by decide +kernel
theorem dX11_finds_14 : decode cX11_finds 14 = .ok (.ireturn, 1) := by decide +kernel
theorem dX11_finds_15 : decode cX11_finds 15 = .ok (.iload_n 2, 1) := by decide +kernel
theorem dX11_finds_16 : decode cX11_finds 16 = .ok (.ifCond .lt 9, 3) := by decide +kernel
theorem dX11_finds_19 : decode cX11_finds 19 = .ok (.iload_n 2, 1) := by decide +kernel
theorem dX11_finds_20 : decode cX11_finds 20 = .ok (.bipush 9, 2) := by decide +kernel
theorem dX11_finds_22 : decode cX11_finds 22 = .ok (.if_icmp .le 7, 3) := by decide +kernel
theorem dX11_finds_25 : decode cX11_finds 25 = .ok (.sipush (-1002), 3) := by decide +kernel
theorem dX11_finds_28 : decode cX11_finds 28 = .ok (.ireturn, 1) := by decide +kernel
theorem dX11_finds_29 : decode cX11_finds 29 = .ok (.iconst 1, 1) := by decide +kernel
theorem dX11_finds_30 : decode cX11_finds 30 = .ok (.iload_n 1, 1) := by decide +kernel
theorem dX11_finds_31 : decode cX11_finds 31 = .ok (.ishl, 1) := by decide +kernel
theorem dX11_finds_32 : decode cX11_finds 32 = .ok (.istore_n 3, 1) := by decide +kernel
theorem dX11_finds_33 : decode cX11_finds 33 = .ok (.iconst 0, 1) := by decide +kernel
theorem dX11_finds_34 : decode cX11_finds 34 = .ok (.istore 4, 2) := by decide +kernel
theorem dX11_finds_36 : decode cX11_finds 36 = .ok (.iload 4, 2) := by decide +kernel
theorem dX11_finds_38 : decode cX11_finds 38 = .ok (.iload_n 2, 1) := by decide +kernel
theorem dX11_finds_39 : decode cX11_finds 39 = .ok (.if_icmp .ge 18, 3) := by decide +kernel
theorem dX11_finds_42 : decode cX11_finds 42 = .ok (.aload_n 0, 1) := by decide +kernel
theorem dX11_finds_43 : decode cX11_finds 43 = .ok (.getfield 19, 3) := by decide +kernel
theorem dX11_finds_46 : decode cX11_finds 46 = .ok (.iload_n 3, 1) := by decide +kernel
theorem dX11_finds_47 : decode cX11_finds 47 = .ok (.invokevirtual 273, 3) := by decide +kernel
theorem dX11_finds_50 : decode cX11_finds 50 = .ok (.istore_n 3, 1) := by decide +kernel
theorem dX11_finds_51 : decode cX11_finds 51 = .ok (.iinc 4 1, 3) := by decide +kernel
theorem dX11_finds_54 : decode cX11_finds 54 = .ok (.goto (-18), 3) := by decide +kernel
theorem dX11_finds_57 : decode cX11_finds 57 = .ok (.aload_n 0, 1) := by decide +kernel
theorem dX11_finds_58 : decode cX11_finds 58 = .ok (.getfield 74, 3) := by decide +kernel
theorem dX11_finds_61 : decode cX11_finds 61 = .ok (.aload_n 0, 1) := by decide +kernel
theorem dX11_finds_62 : decode cX11_finds 62 = .ok (.getfield 19, 3) := by decide +kernel
theorem dX11_finds_65 : decode cX11_finds 65 = .ok (.invokevirtual 276, 3) := by decide +kernel
theorem dX11_finds_68 : decode cX11_finds 68 = .ok (.aload_n 0, 1) := by decide +kernel
theorem dX11_finds_69 : decode cX11_finds 69 = .ok (.getfield 74, 3) := by decide +kernel
theorem dX11_finds_72 : decode cX11_finds 72 = .ok (.iload_n 3, 1) := by decide +kernel
theorem dX11_finds_73 : decode cX11_finds 73 = .ok (.invokevirtual 280, 3) := by decide +kernel
theorem dX11_finds_76 : decode cX11_finds 76 = .ok (.ireturn, 1) := by decide +kernel
theorem dX11_trouble_0 : decode cX11_trouble 0 = .ok (.iload_n 1, 1) := by decide +kernel
theorem dX11_trouble_1 : decode cX11_trouble 1 = .ok (.ifCond .lt 19, 3) := by decide +kernel
theorem dX11_trouble_4 : decode cX11_trouble 4 = .ok (.iload_n 1, 1) := by decide +kernel
theorem dX11_trouble_5 : decode cX11_trouble 5 = .ok (.bipush 6, 2) := by decide +kernel
theorem dX11_trouble_7 : decode cX11_trouble 7 = .ok (.if_icmp .gt 13, 3) := by decide +kernel
theorem dX11_trouble_10 : decode cX11_trouble 10 = .ok (.iload_n 2, 1) := by decide +kernel
theorem dX11_trouble_11 : decode cX11_trouble 11 = .ok (.ifCond .lt 9, 3) := by decide +kernel
theorem dX11_trouble_14 : decode cX11_trouble 14 = .ok (.iload_n 2, 1) := by decide +kernel
theorem dX11_trouble_15 : decode cX11_trouble 15 = .ok (.bipush 20, 2) := by decide +kernel
theorem dX11_trouble_17 : decode cX11_trouble 17 = .ok (.if_icmp .le 7, 3) := by decide +kernel
theorem dX11_trouble_20 : decode cX11_trouble 20 = .ok (.sipush (-1002), 3) := by decide +kernel
theorem dX11_trouble_23 : decode cX11_trouble 23 = .ok (.ireturn, 1) := by decide +kernel
theorem dX11_trouble_24 : decode cX11_trouble 24 = .ok (.aload_n 0, 1) := by decide +kernel
theorem dX11_trouble_25 : decode cX11_trouble 25 = .ok (.getfield 74, 3) := by decide +kernel
theorem dX11_trouble_28 : decode cX11_trouble 28 = .ok (.aload_n 0, 1) := by decide +kernel
theorem dX11_trouble_29 : decode cX11_trouble 29 = .ok (.getfield 19, 3) := by decide +kernel
theorem dX11_trouble_32 : decode cX11_trouble 32 = .ok (.invokevirtual 276, 3) := by decide +kernel
theorem dX11_trouble_35 : decode cX11_trouble 35 = .ok (.aload_n 0, 1) := by decide +kernel
theorem dX11_trouble_36 : decode cX11_trouble 36 = .ok (.getfield 19, 3) := by decide +kernel
theorem dX11_trouble_39 : decode cX11_trouble 39 = .ok (.invokevirtual 142, 3) := by decide +kernel
theorem dX11_trouble_42 : decode cX11_trouble 42 = .ok (.istore_n 3, 1) := by decide +kernel
theorem dX11_trouble_43 : decode cX11_trouble 43 = .ok (.iconst 0, 1) := by decide +kernel
theorem dX11_trouble_44 : decode cX11_trouble 44 = .ok (.istore 4, 2) := by decide +kernel
theorem dX11_trouble_46 : decode cX11_trouble 46 = .ok (.iconst 0, 1) := by decide +kernel
theorem dX11_trouble_47 : decode cX11_trouble 47 = .ok (.istore 5, 2) := by decide +kernel
theorem dX11_trouble_49 : decode cX11_trouble 49 = .ok (.iload 5, 2) := by decide +kernel
theorem dX11_trouble_51 : decode cX11_trouble 51 = .ok (.aload_n 0, 1) := by decide +kernel
theorem dX11_trouble_52 : decode cX11_trouble 52 = .ok (.getfield 19, 3) := by decide +kernel
theorem dX11_trouble_55 : decode cX11_trouble 55 = .ok (.getfield 123, 3) := by decide +kernel
theorem dX11_trouble_58 : decode cX11_trouble 58 = .ok (.if_icmp .ge 30, 3) := by decide +kernel
theorem dX11_trouble_61 : decode cX11_trouble 61 = .ok (.aload_n 0, 1) := by decide +kernel
theorem dX11_trouble_62 : decode cX11_trouble 62 = .ok (.iload_n 1, 1) := by decide +kernel
theorem dX11_trouble_63 : decode cX11_trouble 63 = .ok (.iload_n 2, 1) := by decide +kernel
theorem dX11_trouble_64 : decode cX11_trouble 64 = .ok (.iload 5, 2) := by decide +kernel
theorem dX11_trouble_66 : decode cX11_trouble 66 = .ok (.iload_n 3, 1) := by decide +kernel
theorem dX11_trouble_67 : decode cX11_trouble 67 = .ok (.invokevirtual 283, 3) := by decide +kernel
theorem dX11_trouble_70 : decode cX11_trouble 70 = .ok (.ifCond .eq 12, 3) := by decide +kernel
theorem dX11_trouble_73 : decode cX11_trouble 73 = .ok (.iload 4, 2) := by decide +kernel
theorem dX11_trouble_75 : decode cX11_trouble 75 = .ok (.iconst 1, 1) := by decide +kernel
theorem dX11_trouble_76 : decode cX11_trouble 76 = .ok (.iload 5, 2) := by decide +kernel
theorem dX11_trouble_78 : decode cX11_trouble 78 = .ok (.ishl, 1) := by decide +kernel
theorem dX11_trouble_79 : decode cX11_trouble 79 = .ok (.ior, 1) := by decide +kernel
theorem dX11_trouble_80 : decode cX11_trouble 80 = .ok (.istore 4, 2) := by decide +kernel
theorem dX11_trouble_82 : decode cX11_trouble 82 = .ok (.iinc 5 1, 3) := by decide +kernel
theorem dX11_trouble_85 : decode cX11_trouble 85 = .ok (.goto (-36), 3) := by decide +kernel
theorem dX11_trouble_88 : decode cX11_trouble 88 = .ok (.iload 4, 2) := by decide +kernel
theorem dX11_trouble_90 : decode cX11_trouble 90 = .ok (.ireturn, 1) := by decide +kernel
theorem dX11_hasTrouble_0 : decode cX11_hasTrouble 0 = .ok (.iload 4, 2) := by decide +kernel
theorem dX11_hasTrouble_2 : decode cX11_hasTrouble 2 = .ok (.iload_n 3, 1) := by decide +kernel
theorem dX11_hasTrouble_3 : decode cX11_hasTrouble 3 = .ok (.invokestatic 173, 3) := by decide +kernel
theorem dX11_hasTrouble_6 : decode cX11_hasTrouble 6 = .ok (.istore 5, 2) := by decide +kernel
theorem dX11_hasTrouble_8 : decode cX11_hasTrouble 8 = .ok (.iload_n 1, 1) := by decide +kernel
theorem dX11_hasTrouble_9 : decode cX11_hasTrouble 9 = .ok (.tableswitch 182 0 5 #[39, 64, 73, 97, 138, 159], 39) := by decide +kernel
theorem dX11_hasTrouble_48 : decode cX11_hasTrouble 48 = .ok (.iload 5, 2) := by decide +kernel
theorem dX11_hasTrouble_50 : decode cX11_hasTrouble 50 = .ok (.ifCond .ne 21, 3) := by decide +kernel
theorem dX11_hasTrouble_53 : decode cX11_hasTrouble 53 = .ok (.aload_n 0, 1) := by decide +kernel
theorem dX11_hasTrouble_54 : decode cX11_hasTrouble 54 = .ok (.getfield 19, 3) := by decide +kernel
theorem dX11_hasTrouble_57 : decode cX11_hasTrouble 57 = .ok (.iload_n 3, 1) := by decide +kernel
theorem dX11_hasTrouble_58 : decode cX11_hasTrouble 58 = .ok (.iload 4, 2) := by decide +kernel
theorem dX11_hasTrouble_60 : decode cX11_hasTrouble 60 = .ok (.invokevirtual 263, 3) := by decide +kernel
theorem dX11_hasTrouble_63 : decode cX11_hasTrouble 63 = .ok (.iconst (-1), 1) := by decide +kernel
theorem dX11_hasTrouble_64 : decode cX11_hasTrouble 64 = .ok (.if_icmp .ne 7, 3) := by decide +kernel
theorem dX11_hasTrouble_67 : decode cX11_hasTrouble 67 = .ok (.iconst 1, 1) := by decide +kernel
theorem dX11_hasTrouble_68 : decode cX11_hasTrouble 68 = .ok (.goto 4, 3) := by decide +kernel
theorem dX11_hasTrouble_71 : decode cX11_hasTrouble 71 = .ok (.iconst 0, 1) := by decide +kernel
theorem dX11_hasTrouble_72 : decode cX11_hasTrouble 72 = .ok (.ireturn, 1) := by decide +kernel
theorem dX11_hasTrouble_73 : decode cX11_hasTrouble 73 = .ok (.aload_n 0, 1) := by decide +kernel
theorem dX11_hasTrouble_74 : decode cX11_hasTrouble 74 = .ok (.getfield 19, 3) := by decide +kernel
theorem dX11_hasTrouble_77 : decode cX11_hasTrouble 77 = .ok (.iload_n 3, 1) := by decide +kernel
theorem dX11_hasTrouble_78 : decode cX11_hasTrouble 78 = .ok (.invokevirtual 287, 3) := by decide +kernel
theorem dX11_hasTrouble_81 : decode cX11_hasTrouble 81 = .ok (.ireturn, 1) := by decide +kernel
theorem dX11_hasTrouble_82 : decode cX11_hasTrouble 82 = .ok (.iload 5, 2) := by decide +kernel
theorem dX11_hasTrouble_84 : decode cX11_hasTrouble 84 = .ok (.ifCond .eq 20, 3) := by decide +kernel
theorem dX11_hasTrouble_87 : decode cX11_hasTrouble 87 = .ok (.aload_n 0, 1) := by decide +kernel
theorem dX11_hasTrouble_88 : decode cX11_hasTrouble 88 = .ok (.getfield 19, 3) := by decide +kernel
theorem dX11_hasTrouble_91 : decode cX11_hasTrouble 91 = .ok (.getfield 164, 3) := by decide +kernel
theorem dX11_hasTrouble_94 : decode cX11_hasTrouble 94 = .ok (.iload_n 3, 1) := by decide +kernel
theorem dX11_hasTrouble_95 : decode cX11_hasTrouble 95 = .ok (.iaload, 1) := by decide +kernel
theorem dX11_hasTrouble_96 : decode cX11_hasTrouble 96 = .ok (.iconst (-1), 1) := by decide +kernel
theorem dX11_hasTrouble_97 : decode cX11_hasTrouble 97 = .ok (.if_icmp .eq 7, 3) := by decide +kernel
theorem dX11_hasTrouble_100 : decode cX11_hasTrouble 100 = .ok (.iconst 1, 1) := by decide +kernel
theorem dX11_hasTrouble_101 : decode cX11_hasTrouble 101 = .ok (.goto 4, 3) := by decide +kernel
theorem dX11_hasTrouble_104 : decode cX11_hasTrouble 104 = .ok (.iconst 0, 1) := by decide +kernel
theorem dX11_hasTrouble_105 : decode cX11_hasTrouble 105 = .ok (.ireturn, 1) := by decide +kernel
theorem dX11_hasTrouble_106 : decode cX11_hasTrouble 106 = .ok (.aload_n 0, 1) := by decide +kernel
theorem dX11_hasTrouble_107 : decode cX11_hasTrouble 107 = .ok (.getfield 19, 3) := by decide +kernel
theorem dX11_hasTrouble_110 : decode cX11_hasTrouble 110 = .ok (.iload_n 3, 1) := by decide +kernel
theorem dX11_hasTrouble_111 : decode cX11_hasTrouble 111 = .ok (.iconst (-1), 1) := by decide +kernel
theorem dX11_hasTrouble_112 : decode cX11_hasTrouble 112 = .ok (.aload_n 0, 1) := by decide +kernel
theorem dX11_hasTrouble_113 : decode cX11_hasTrouble 113 = .ok (.getfield 64, 3) := by decide +kernel
theorem dX11_hasTrouble_116 : decode cX11_hasTrouble 116 = .ok (.invokevirtual 159, 3) := by decide +kernel
theorem dX11_hasTrouble_119 : decode cX11_hasTrouble 119 = .ok (.aload_n 0, 1) := by decide +kernel
theorem dX11_hasTrouble_120 : decode cX11_hasTrouble 120 = .ok (.getfield 64, 3) := by decide +kernel
theorem dX11_hasTrouble_123 : decode cX11_hasTrouble 123 = .ok (.getfield 163, 3) := by decide +kernel
theorem dX11_hasTrouble_126 : decode cX11_hasTrouble 126 = .ok (.iload_n 2, 1) := by decide +kernel
theorem dX11_hasTrouble_127 : decode cX11_hasTrouble 127 = .ok (.if_icmp .le 18, 3) := by decide +kernel
theorem dX11_hasTrouble_130 : decode cX11_hasTrouble 130 = .ok (.aload_n 0, 1) := by decide +kernel
theorem dX11_hasTrouble_131 : decode cX11_hasTrouble 131 = .ok (.getfield 19, 3) := by decide +kernel
theorem dX11_hasTrouble_134 : decode cX11_hasTrouble 134 = .ok (.iload_n 3, 1) := by decide +kernel
theorem dX11_hasTrouble_135 : decode cX11_hasTrouble 135 = .ok (.invokevirtual 290, 3) := by decide +kernel
theorem dX11_hasTrouble_138 : decode cX11_hasTrouble 138 = .ok (.ifCond .ne 7, 3) := by decide +kernel
theorem dX11_hasTrouble_141 : decode cX11_hasTrouble 141 = .ok (.iconst 1, 1) := by decide +kernel
theorem dX11_hasTrouble_142 : decode cX11_hasTrouble 142 = .ok (.goto 4, 3) := by decide +kernel
theorem dX11_hasTrouble_145 : decode cX11_hasTrouble 145 = .ok (.iconst 0, 1) := by decide +kernel
theorem dX11_hasTrouble_146 : decode cX11_hasTrouble 146 = .ok (.ireturn, 1) := by decide +kernel
theorem dX11_hasTrouble_147 : decode cX11_hasTrouble 147 = .ok (.aload_n 0, 1) := by decide +kernel
theorem dX11_hasTrouble_148 : decode cX11_hasTrouble 148 = .ok (.getfield 19, 3) := by decide +kernel
theorem dX11_hasTrouble_151 : decode cX11_hasTrouble 151 = .ok (.iload_n 3, 1) := by decide +kernel
theorem dX11_hasTrouble_152 : decode cX11_hasTrouble 152 = .ok (.invokevirtual 290, 3) := by decide +kernel
theorem dX11_hasTrouble_155 : decode cX11_hasTrouble 155 = .ok (.invokestatic 146, 3) := by decide +kernel
theorem dX11_hasTrouble_158 : decode cX11_hasTrouble 158 = .ok (.iconst 1, 1) := by decide +kernel
theorem dX11_hasTrouble_159 : decode cX11_hasTrouble 159 = .ok (.if_icmp .ne 7, 3) := by decide +kernel
theorem dX11_hasTrouble_162 : decode cX11_hasTrouble 162 = .ok (.iconst 1, 1) := by decide +kernel
theorem dX11_hasTrouble_163 : decode cX11_hasTrouble 163 = .ok (.goto 4, 3) := by decide +kernel
theorem dX11_hasTrouble_166 : decode cX11_hasTrouble 166 = .ok (.iconst 0, 1) := by decide +kernel
theorem dX11_hasTrouble_167 : decode cX11_hasTrouble 167 = .ok (.ireturn, 1) := by decide +kernel
theorem dX11_hasTrouble_168 : decode cX11_hasTrouble 168 = .ok (.aload_n 0, 1) := by decide +kernel
theorem dX11_hasTrouble_169 : decode cX11_hasTrouble 169 = .ok (.getfield 19, 3) := by decide +kernel
theorem dX11_hasTrouble_172 : decode cX11_hasTrouble 172 = .ok (.getfield 167, 3) := by decide +kernel
theorem dX11_hasTrouble_175 : decode cX11_hasTrouble 175 = .ok (.iload_n 3, 1) := by decide +kernel
theorem dX11_hasTrouble_176 : decode cX11_hasTrouble 176 = .ok (.iaload, 1) := by decide +kernel
theorem dX11_hasTrouble_177 : decode cX11_hasTrouble 177 = .ok (.iload 4, 2) := by decide +kernel
theorem dX11_hasTrouble_179 : decode cX11_hasTrouble 179 = .ok (.iconst (-1), 1) := by decide +kernel
theorem dX11_hasTrouble_180 : decode cX11_hasTrouble 180 = .ok (.ixor, 1) := by decide +kernel
theorem dX11_hasTrouble_181 : decode cX11_hasTrouble 181 = .ok (.iand, 1) := by decide +kernel
theorem dX11_hasTrouble_182 : decode cX11_hasTrouble 182 = .ok (.ifCond .eq 7, 3) := by decide +kernel
theorem dX11_hasTrouble_185 : decode cX11_hasTrouble 185 = .ok (.iconst 1, 1) := by decide +kernel
theorem dX11_hasTrouble_186 : decode cX11_hasTrouble 186 = .ok (.goto 4, 3) := by decide +kernel
theorem dX11_hasTrouble_189 : decode cX11_hasTrouble 189 = .ok (.iconst 0, 1) := by decide +kernel
theorem dX11_hasTrouble_190 : decode cX11_hasTrouble 190 = .ok (.ireturn, 1) := by decide +kernel
theorem dX11_hasTrouble_191 : decode cX11_hasTrouble 191 = .ok (.iload 5, 2) := by decide +kernel
theorem dX11_hasTrouble_193 : decode cX11_hasTrouble 193 = .ok (.ifCond .eq 25, 3) := by decide +kernel
theorem dX11_hasTrouble_196 : decode cX11_hasTrouble 196 = .ok (.aload_n 0, 1) := by decide +kernel
theorem dX11_hasTrouble_197 : decode cX11_hasTrouble 197 = .ok (.getfield 74, 3) := by decide +kernel
theorem dX11_hasTrouble_200 : decode cX11_hasTrouble 200 = .ok (.iload_n 3, 1) := by decide +kernel
theorem dX11_hasTrouble_201 : decode cX11_hasTrouble 201 = .ok (.aload_n 0, 1) := by decide +kernel
theorem dX11_hasTrouble_202 : decode cX11_hasTrouble 202 = .ok (.getfield 19, 3) := by decide +kernel
theorem dX11_hasTrouble_205 : decode cX11_hasTrouble 205 = .ok (.getfield 123, 3) := by decide +kernel
theorem dX11_hasTrouble_208 : decode cX11_hasTrouble 208 = .ok (.invokevirtual 293, 3) := by decide +kernel
theorem dX11_hasTrouble_211 : decode cX11_hasTrouble 211 = .ok (.ifCond .eq 7, 3) := by decide +kernel
theorem dX11_hasTrouble_214 : decode cX11_hasTrouble 214 = .ok (.iconst 1, 1) := by decide +kernel
theorem dX11_hasTrouble_215 : decode cX11_hasTrouble 215 = .ok (.goto 4, 3) := by decide +kernel
theorem dX11_hasTrouble_218 : decode cX11_hasTrouble 218 = .ok (.iconst 0, 1) := by decide +kernel
theorem dX11_hasTrouble_219 : decode cX11_hasTrouble 219 = .ok (.ireturn, 1) := by decide +kernel
theorem dX11_posted_0 : decode cX11_posted 0 = .ok (.iconst 1, 1) := by decide +kernel
theorem dX11_posted_1 : decode cX11_posted 1 = .ok (.aload_n 0, 1) := by decide +kernel
theorem dX11_posted_2 : decode cX11_posted 2 = .ok (.getfield 19, 3) := by decide +kernel
theorem dX11_posted_5 : decode cX11_posted 5 = .ok (.getfield 123, 3) := by decide +kernel
theorem dX11_posted_8 : decode cX11_posted 8 = .ok (.ishl, 1) := by decide +kernel
theorem dX11_posted_9 : decode cX11_posted 9 = .ok (.iconst 1, 1) := by decide +kernel
theorem dX11_posted_10 : decode cX11_posted 10 = .ok (.isub, 1) := by decide +kernel
theorem dX11_posted_11 : decode cX11_posted 11 = .ok (.istore_n 2, 1) := by decide +kernel
theorem dX11_posted_12 : decode cX11_posted 12 = .ok (.iload_n 1, 1) := by decide +kernel
theorem dX11_posted_13 : decode cX11_posted 13 = .ok (.iload_n 2, 1) := by decide +kernel
theorem dX11_posted_14 : decode cX11_posted 14 = .ok (.iconst (-1), 1) := by decide +kernel
theorem dX11_posted_15 : decode cX11_posted 15 = .ok (.ixor, 1) := by decide +kernel
theorem dX11_posted_16 : decode cX11_posted 16 = .ok (.iand, 1) := by decide +kernel
theorem dX11_posted_17 : decode cX11_posted 17 = .ok (.ifCond .eq 7, 3) := by decide +kernel
theorem dX11_posted_20 : decode cX11_posted 20 = .ok (.sipush (-1001), 3) := by decide +kernel
theorem dX11_posted_23 : decode cX11_posted 23 = .ok (.ireturn, 1) := by decide +kernel
theorem dX11_posted_24 : decode cX11_posted 24 = .ok (.iload_n 1, 1) := by decide +kernel
theorem dX11_posted_25 : decode cX11_posted 25 = .ok (.aload_n 0, 1) := by decide +kernel
theorem dX11_posted_26 : decode cX11_posted 26 = .ok (.getfield 81, 3) := by decide +kernel
theorem dX11_posted_29 : decode cX11_posted 29 = .ok (.aload_n 0, 1) := by decide +kernel
theorem dX11_posted_30 : decode cX11_posted 30 = .ok (.getfield 19, 3) := by decide +kernel
theorem dX11_posted_33 : decode cX11_posted 33 = .ok (.invokevirtual 296, 3) := by decide +kernel
theorem dX11_posted_36 : decode cX11_posted 36 = .ok (.iconst (-1), 1) := by decide +kernel
theorem dX11_posted_37 : decode cX11_posted 37 = .ok (.ixor, 1) := by decide +kernel
theorem dX11_posted_38 : decode cX11_posted 38 = .ok (.iand, 1) := by decide +kernel
theorem dX11_posted_39 : decode cX11_posted 39 = .ok (.ifCond .eq 7, 3) := by decide +kernel
theorem dX11_posted_42 : decode cX11_posted 42 = .ok (.sipush (-1003), 3) := by decide +kernel
theorem dX11_posted_45 : decode cX11_posted 45 = .ok (.ireturn, 1) := by decide +kernel
theorem dX11_posted_46 : decode cX11_posted 46 = .ok (.aload_n 0, 1) := by decide +kernel
theorem dX11_posted_47 : decode cX11_posted 47 = .ok (.invokevirtual 135, 3) := by decide +kernel
theorem dX11_posted_50 : decode cX11_posted 50 = .ok (.aload_n 0, 1) := by decide +kernel
theorem dX11_posted_51 : decode cX11_posted 51 = .ok (.getfield 50, 3) := by decide +kernel
theorem dX11_posted_54 : decode cX11_posted 54 = .ok (.aload_n 0, 1) := by decide +kernel
theorem dX11_posted_55 : decode cX11_posted 55 = .ok (.getfield 31, 3) := by decide +kernel
theorem dX11_posted_58 : decode cX11_posted 58 = .ok (.invokevirtual 256, 3) := by decide +kernel
theorem dX11_posted_61 : decode cX11_posted 61 = .ok (.aload_n 0, 1) := by decide +kernel
theorem dX11_posted_62 : decode cX11_posted 62 = .ok (.getfield 19, 3) := by decide +kernel
theorem dX11_posted_65 : decode cX11_posted 65 = .ok (.invokevirtual 142, 3) := by decide +kernel
theorem dX11_posted_68 : decode cX11_posted 68 = .ok (.istore_n 3, 1) := by decide +kernel
theorem dX11_posted_69 : decode cX11_posted 69 = .ok (.iconst 0, 1) := by decide +kernel
theorem dX11_posted_70 : decode cX11_posted 70 = .ok (.istore 4, 2) := by decide +kernel
theorem dX11_posted_72 : decode cX11_posted 72 = .ok (.iconst 0, 1) := by decide +kernel
theorem dX11_posted_73 : decode cX11_posted 73 = .ok (.istore 5, 2) := by decide +kernel
theorem dX11_posted_75 : decode cX11_posted 75 = .ok (.iload 5, 2) := by decide +kernel
theorem dX11_posted_77 : decode cX11_posted 77 = .ok (.aload_n 0, 1) := by decide +kernel
theorem dX11_posted_78 : decode cX11_posted 78 = .ok (.getfield 19, 3) := by decide +kernel
theorem dX11_posted_81 : decode cX11_posted 81 = .ok (.getfield 123, 3) := by decide +kernel
theorem dX11_posted_84 : decode cX11_posted 84 = .ok (.if_icmp .ge 58, 3) := by decide +kernel
theorem dX11_posted_87 : decode cX11_posted 87 = .ok (.iload 4, 2) := by decide +kernel
theorem dX11_posted_89 : decode cX11_posted 89 = .ok (.iload_n 1, 1) := by decide +kernel
theorem dX11_posted_90 : decode cX11_posted 90 = .ok (.iload 5, 2) := by decide +kernel
theorem dX11_posted_92 : decode cX11_posted 92 = .ok (.invokestatic 173, 3) := by decide +kernel
theorem dX11_posted_95 : decode cX11_posted 95 = .ok (.ifCond .eq 31, 3) := by decide +kernel
theorem dX11_posted_98 : decode cX11_posted 98 = .ok (.aload_n 0, 1) := by decide +kernel
theorem dX11_posted_99 : decode cX11_posted 99 = .ok (.getfield 37, 3) := by decide +kernel
theorem dX11_posted_102 : decode cX11_posted 102 = .ok (.aload_n 0, 1) := by decide +kernel
theorem dX11_posted_103 : decode cX11_posted 103 = .ok (.getfield 50, 3) := by decide +kernel
theorem dX11_posted_106 : decode cX11_posted 106 = .ok (.aload_n 0, 1) := by decide +kernel
theorem dX11_posted_107 : decode cX11_posted 107 = .ok (.getfield 19, 3) := by decide +kernel
theorem dX11_posted_110 : decode cX11_posted 110 = .ok (.iload 5, 2) := by decide +kernel
theorem dX11_posted_112 : decode cX11_posted 112 = .ok (.aload_n 0, 1) := by decide +kernel
theorem dX11_posted_113 : decode cX11_posted 113 = .ok (.iload 5, 2) := by decide +kernel
theorem dX11_posted_115 : decode cX11_posted 115 = .ok (.iload_n 3, 1) := by decide +kernel
theorem dX11_posted_116 : decode cX11_posted 116 = .ok (.invokevirtual 300, 3) := by decide +kernel
theorem dX11_posted_119 : decode cX11_posted 119 = .ok (.iconst 0, 1) := by decide +kernel
theorem dX11_posted_120 : decode cX11_posted 120 = .ok (.invokevirtual 259, 3) := by decide +kernel
theorem dX11_posted_123 : decode cX11_posted 123 = .ok (.goto 10, 3) := by decide +kernel
theorem dX11_posted_126 : decode cX11_posted 126 = .ok (.aload_n 0, 1) := by decide +kernel
theorem dX11_posted_127 : decode cX11_posted 127 = .ok (.getfield 53, 3) := by decide +kernel
theorem dX11_posted_130 : decode cX11_posted 130 = .ok (.iload 5, 2) := by decide +kernel
theorem dX11_posted_132 : decode cX11_posted 132 = .ok (.iaload, 1) := by decide +kernel
theorem dX11_posted_133 : decode cX11_posted 133 = .ok (.iadd, 1) := by decide +kernel
theorem dX11_posted_134 : decode cX11_posted 134 = .ok (.istore 4, 2) := by decide +kernel
theorem dX11_posted_136 : decode cX11_posted 136 = .ok (.iinc 5 1, 3) := by decide +kernel
theorem dX11_posted_139 : decode cX11_posted 139 = .ok (.goto (-64), 3) := by decide +kernel
theorem dX11_posted_142 : decode cX11_posted 142 = .ok (.iload 4, 2) := by decide +kernel
theorem dX11_posted_144 : decode cX11_posted 144 = .ok (.ireturn, 1) := by decide +kernel
theorem dX11_sourceOf_0 : decode cX11_sourceOf 0 = .ok (.aload_n 0, 1) := by decide +kernel
theorem dX11_sourceOf_1 : decode cX11_sourceOf 1 = .ok (.getfield 19, 3) := by decide +kernel
theorem dX11_sourceOf_4 : decode cX11_sourceOf 4 = .ok (.iload_n 1, 1) := by decide +kernel
theorem dX11_sourceOf_5 : decode cX11_sourceOf 5 = .ok (.aload_n 0, 1) := by decide +kernel
theorem dX11_sourceOf_6 : decode cX11_sourceOf 6 = .ok (.getfield 19, 3) := by decide +kernel
theorem dX11_sourceOf_9 : decode cX11_sourceOf 9 = .ok (.iload_n 1, 1) := by decide +kernel
theorem dX11_sourceOf_10 : decode cX11_sourceOf 10 = .ok (.iload_n 2, 1) := by decide +kernel
theorem dX11_sourceOf_11 : decode cX11_sourceOf 11 = .ok (.invokevirtual 263, 3) := by decide +kernel
theorem dX11_sourceOf_14 : decode cX11_sourceOf 14 = .ok (.invokevirtual 267, 3) := by decide +kernel
theorem dX11_sourceOf_17 : decode cX11_sourceOf 17 = .ok (.ireturn, 1) := by decide +kernel
theorem dX11_posting_0 : decode cX11_posting 0 = .ok (.iload_n 1, 1) := by decide +kernel
theorem dX11_posting_1 : decode cX11_posting 1 = .ok (.ifCond .lt 19, 3) := by decide +kernel
theorem dX11_posting_4 : decode cX11_posting 4 = .ok (.iload_n 1, 1) := by decide +kernel
theorem dX11_posting_5 : decode cX11_posting 5 = .ok (.sipush 999, 3) := by decide +kernel
theorem dX11_posting_8 : decode cX11_posting 8 = .ok (.if_icmp .gt 12, 3) := by decide +kernel
theorem dX11_posting_11 : decode cX11_posting 11 = .ok (.iload_n 2, 1) := by decide +kernel
theorem dX11_posting_12 : decode cX11_posting 12 = .ok (.ifCond .lt 8, 3) := by decide +kernel
theorem dX11_posting_15 : decode cX11_posting 15 = .ok (.iload_n 2, 1) := by decide +kernel
theorem dX11_posting_16 : decode cX11_posting 16 = .ok (.iconst 2, 1) := by decide +kernel
theorem dX11_posting_17 : decode cX11_posting 17 = .ok (.if_icmp .le 7, 3) := by decide +kernel
theorem dX11_posting_20 : decode cX11_posting 20 = .ok (.sipush (-1002), 3) := by decide +kernel
theorem dX11_posting_23 : decode cX11_posting 23 = .ok (.ireturn, 1) := by decide +kernel
theorem dX11_posting_24 : decode cX11_posting 24 = .ok (.aload_n 0, 1) := by decide +kernel
theorem dX11_posting_25 : decode cX11_posting 25 = .ok (.invokevirtual 135, 3) := by decide +kernel
theorem dX11_posting_28 : decode cX11_posting 28 = .ok (.aload_n 0, 1) := by decide +kernel
theorem dX11_posting_29 : decode cX11_posting 29 = .ok (.getfield 46, 3) := by decide +kernel
theorem dX11_posting_32 : decode cX11_posting 32 = .ok (.getfield 138, 3) := by decide +kernel
theorem dX11_posting_35 : decode cX11_posting 35 = .ok (.iload_n 1, 1) := by decide +kernel
theorem dX11_posting_36 : decode cX11_posting 36 = .ok (.if_icmp .le 5, 3) := by decide +kernel
theorem dX11_posting_39 : decode cX11_posting 39 = .ok (.iconst (-1), 1) := by decide +kernel
theorem dX11_posting_40 : decode cX11_posting 40 = .ok (.ireturn, 1) := by decide +kernel
theorem dX11_posting_41 : decode cX11_posting 41 = .ok (.aload_n 0, 1) := by decide +kernel
theorem dX11_posting_42 : decode cX11_posting 42 = .ok (.invokevirtual 303, 3) := by decide +kernel
theorem dX11_posting_45 : decode cX11_posting 45 = .ok (.aload_n 0, 1) := by decide +kernel
theorem dX11_posting_46 : decode cX11_posting 46 = .ok (.getfield 81, 3) := by decide +kernel
theorem dX11_posting_49 : decode cX11_posting 49 = .ok (.aload_n 0, 1) := by decide +kernel
theorem dX11_posting_50 : decode cX11_posting 50 = .ok (.getfield 46, 3) := by decide +kernel
theorem dX11_posting_53 : decode cX11_posting 53 = .ok (.getfield 138, 3) := by decide +kernel
theorem dX11_posting_56 : decode cX11_posting 56 = .ok (.iload_n 1, 1) := by decide +kernel
theorem dX11_posting_57 : decode cX11_posting 57 = .ok (.invokevirtual 306, 3) := by decide +kernel
theorem dX11_posting_60 : decode cX11_posting 60 = .ok (.iload_n 2, 1) := by decide +kernel
theorem dX11_posting_61 : decode cX11_posting 61 = .ok (.ifCond .ne 11, 3) := by decide +kernel
theorem dX11_posting_64 : decode cX11_posting 64 = .ok (.aload_n 0, 1) := by decide +kernel
theorem dX11_posting_65 : decode cX11_posting 65 = .ok (.getfield 81, 3) := by decide +kernel
theorem dX11_posting_68 : decode cX11_posting 68 = .ok (.getfield 310, 3) := by decide +kernel
theorem dX11_posting_71 : decode cX11_posting 71 = .ok (.ireturn, 1) := by decide +kernel
theorem dX11_posting_72 : decode cX11_posting 72 = .ok (.iload_n 2, 1) := by decide +kernel
theorem dX11_posting_73 : decode cX11_posting 73 = .ok (.iconst 1, 1) := by decide +kernel
theorem dX11_posting_74 : decode cX11_posting 74 = .ok (.if_icmp .ne 13, 3) := by decide +kernel
theorem dX11_posting_77 : decode cX11_posting 77 = .ok (.aload_n 0, 1) := by decide +kernel
theorem dX11_posting_78 : decode cX11_posting 78 = .ok (.getfield 81, 3) := by decide +kernel
theorem dX11_posting_81 : decode cX11_posting 81 = .ok (.getfield 313, 3) := by decide +kernel
theorem dX11_posting_84 : decode cX11_posting 84 = .ok (.goto 10, 3) := by decide +kernel
theorem dX11_posting_87 : decode cX11_posting 87 = .ok (.aload_n 0, 1) := by decide +kernel
theorem dX11_posting_88 : decode cX11_posting 88 = .ok (.getfield 81, 3) := by decide +kernel
theorem dX11_posting_91 : decode cX11_posting 91 = .ok (.getfield 316, 3) := by decide +kernel
theorem dX11_posting_94 : decode cX11_posting 94 = .ok (.ireturn, 1) := by decide +kernel
theorem dX11_offerPosts_0 : decode cX11_offerPosts 0 = .ok (.aload_n 0, 1) := by decide +kernel
theorem dX11_offerPosts_1 : decode cX11_offerPosts 1 = .ok (.getfield 19, 3) := by decide +kernel
theorem dX11_offerPosts_4 : decode cX11_offerPosts 4 = .ok (.invokevirtual 142, 3) := by decide +kernel
theorem dX11_offerPosts_7 : decode cX11_offerPosts 7 = .ok (.istore_n 1, 1) := by decide +kernel
theorem dX11_offerPosts_8 : decode cX11_offerPosts 8 = .ok (.aload_n 0, 1) := by decide +kernel
theorem dX11_offerPosts_9 : decode cX11_offerPosts 9 = .ok (.getfield 81, 3) := by decide +kernel
theorem dX11_offerPosts_12 : decode cX11_offerPosts 12 = .ok (.aload_n 0, 1) := by decide +kernel
theorem dX11_offerPosts_13 : decode cX11_offerPosts 13 = .ok (.getfield 19, 3) := by decide +kernel
theorem dX11_offerPosts_16 : decode cX11_offerPosts 16 = .ok (.invokevirtual 296, 3) := by decide +kernel
theorem dX11_offerPosts_19 : decode cX11_offerPosts 19 = .ok (.istore_n 2, 1) := by decide +kernel
theorem dX11_offerPosts_20 : decode cX11_offerPosts 20 = .ok (.aload_n 0, 1) := by decide +kernel
theorem dX11_offerPosts_21 : decode cX11_offerPosts 21 = .ok (.getfield 50, 3) := by decide +kernel
theorem dX11_offerPosts_24 : decode cX11_offerPosts 24 = .ok (.aload_n 0, 1) := by decide +kernel
theorem dX11_offerPosts_25 : decode cX11_offerPosts 25 = .ok (.getfield 31, 3) := by decide +kernel
theorem dX11_offerPosts_28 : decode cX11_offerPosts 28 = .ok (.invokevirtual 256, 3) := by decide +kernel
theorem dX11_offerPosts_31 : decode cX11_offerPosts 31 = .ok (.aload_n 0, 1) := by decide +kernel
theorem dX11_offerPosts_32 : decode cX11_offerPosts 32 = .ok (.getfield 81, 3) := by decide +kernel
theorem dX11_offerPosts_35 : decode cX11_offerPosts 35 = .ok (.invokevirtual 319, 3) := by decide +kernel
theorem dX11_offerPosts_38 : decode cX11_offerPosts 38 = .ok (.iconst 0, 1) := by decide +kernel
theorem dX11_offerPosts_39 : decode cX11_offerPosts 39 = .ok (.istore_n 3, 1) := by decide +kernel
theorem dX11_offerPosts_40 : decode cX11_offerPosts 40 = .ok (.iload_n 3, 1) := by decide +kernel
theorem dX11_offerPosts_41 : decode cX11_offerPosts 41 = .ok (.aload_n 0, 1) := by decide +kernel
theorem dX11_offerPosts_42 : decode cX11_offerPosts 42 = .ok (.getfield 19, 3) := by decide +kernel
theorem dX11_offerPosts_45 : decode cX11_offerPosts 45 = .ok (.getfield 123, 3) := by decide +kernel
theorem dX11_offerPosts_48 : decode cX11_offerPosts 48 = .ok (.if_icmp .ge 84, 3) := by decide +kernel
theorem dX11_offerPosts_51 : decode cX11_offerPosts 51 = .ok (.iload_n 2, 1) := by decide +kernel
theorem dX11_offerPosts_52 : decode cX11_offerPosts 52 = .ok (.iload_n 3, 1) := by decide +kernel
theorem dX11_offerPosts_53 : decode cX11_offerPosts 53 = .ok (.invokestatic 173, 3) := by decide +kernel
theorem dX11_offerPosts_56 : decode cX11_offerPosts 56 = .ok (.ifCond .eq 70, 3) := by decide +kernel
theorem dX11_offerPosts_59 : decode cX11_offerPosts 59 = .ok (.aload_n 0, 1) := by decide +kernel
theorem dX11_offerPosts_60 : decode cX11_offerPosts 60 = .ok (.getfield 19, 3) := by decide +kernel
theorem dX11_offerPosts_63 : decode cX11_offerPosts 63 = .ok (.getfield 170, 3) := by decide +kernel
theorem dX11_offerPosts_66 : decode cX11_offerPosts 66 = .ok (.iload_n 3, 1) := by decide +kernel
theorem dX11_offerPosts_67 : decode cX11_offerPosts 67 = .ok (.iaload, 1) := by decide +kernel
theorem dX11_offerPosts_68 : decode cX11_offerPosts 68 = .ok (.aload_n 0, 1) := by decide +kernel
theorem dX11_offerPosts_69 : decode cX11_offerPosts 69 = .ok (.getfield 19, 3) := by decide +kernel
theorem dX11_offerPosts_72 : decode cX11_offerPosts 72 = .ok (.iload_n 3, 1) := by decide +kernel
theorem dX11_offerPosts_73 : decode cX11_offerPosts 73 = .ok (.iload_n 1, 1) := by decide +kernel
theorem dX11_offerPosts_74 : decode cX11_offerPosts 74 = .ok (.invokevirtual 263, 3) := by decide +kernel
theorem dX11_offerPosts_77 : decode cX11_offerPosts 77 = .ok (.imul, 1) := by decide +kernel
theorem dX11_offerPosts_78 : decode cX11_offerPosts 78 = .ok (.istore 4, 2) := by decide +kernel
theorem dX11_offerPosts_80 : decode cX11_offerPosts 80 = .ok (.aload_n 0, 1) := by decide +kernel
theorem dX11_offerPosts_81 : decode cX11_offerPosts 81 = .ok (.getfield 37, 3) := by decide +kernel
theorem dX11_offerPosts_84 : decode cX11_offerPosts 84 = .ok (.aload_n 0, 1) := by decide +kernel
theorem dX11_offerPosts_85 : decode cX11_offerPosts 85 = .ok (.getfield 50, 3) := by decide +kernel
theorem dX11_offerPosts_88 : decode cX11_offerPosts 88 = .ok (.aload_n 0, 1) := by decide +kernel
theorem dX11_offerPosts_89 : decode cX11_offerPosts 89 = .ok (.getfield 19, 3) := by decide +kernel
theorem dX11_offerPosts_92 : decode cX11_offerPosts 92 = .ok (.iload_n 3, 1) := by decide +kernel
theorem dX11_offerPosts_93 : decode cX11_offerPosts 93 = .ok (.aload_n 0, 1) := by decide +kernel
theorem dX11_offerPosts_94 : decode cX11_offerPosts 94 = .ok (.iload_n 3, 1) := by decide +kernel
theorem dX11_offerPosts_95 : decode cX11_offerPosts 95 = .ok (.iload_n 1, 1) := by decide +kernel
theorem dX11_offerPosts_96 : decode cX11_offerPosts 96 = .ok (.invokevirtual 300, 3) := by decide +kernel
theorem dX11_offerPosts_99 : decode cX11_offerPosts 99 = .ok (.iconst 0, 1) := by decide +kernel
theorem dX11_offerPosts_100 : decode cX11_offerPosts 100 = .ok (.invokevirtual 259, 3) := by decide +kernel
theorem dX11_offerPosts_103 : decode cX11_offerPosts 103 = .ok (.istore 5, 2) := by decide +kernel
theorem dX11_offerPosts_105 : decode cX11_offerPosts 105 = .ok (.aload_n 0, 1) := by decide +kernel
theorem dX11_offerPosts_106 : decode cX11_offerPosts 106 = .ok (.getfield 81, 3) := by decide +kernel
theorem dX11_offerPosts_109 : decode cX11_offerPosts 109 = .ok (.iconst 1, 1) := by decide +kernel
theorem dX11_offerPosts_110 : decode cX11_offerPosts 110 = .ok (.iload_n 3, 1) := by decide +kernel
theorem dX11_offerPosts_111 : decode cX11_offerPosts 111 = .ok (.ishl, 1) := by decide +kernel
theorem dX11_offerPosts_112 : decode cX11_offerPosts 112 = .ok (.iload 4, 2) := by decide +kernel
theorem dX11_offerPosts_114 : decode cX11_offerPosts 114 = .ok (.iload 5, 2) := by decide +kernel
theorem dX11_offerPosts_116 : decode cX11_offerPosts 116 = .ok (.aload_n 0, 1) := by decide +kernel
theorem dX11_offerPosts_117 : decode cX11_offerPosts 117 = .ok (.getfield 53, 3) := by decide +kernel
theorem dX11_offerPosts_120 : decode cX11_offerPosts 120 = .ok (.iload_n 3, 1) := by decide +kernel
theorem dX11_offerPosts_121 : decode cX11_offerPosts 121 = .ok (.iaload, 1) := by decide +kernel
theorem dX11_offerPosts_122 : decode cX11_offerPosts 122 = .ok (.isub, 1) := by decide +kernel
theorem dX11_offerPosts_123 : decode cX11_offerPosts 123 = .ok (.invokevirtual 321, 3) := by decide +kernel
theorem dX11_offerPosts_126 : decode cX11_offerPosts 126 = .ok (.iinc 3 1, 3) := by decide +kernel
theorem dX11_offerPosts_129 : decode cX11_offerPosts 129 = .ok (.goto (-89), 3) := by decide +kernel
theorem dX11_offerPosts_132 : decode cX11_offerPosts 132 = .ok (.return_, 1) := by decide +kernel
theorem dX11_fit_0 : decode cX11_fit 0 = .ok (.iload_n 2, 1) := by decide +kernel
theorem dX11_fit_1 : decode cX11_fit 1 = .ok (.iconst (-1), 1) := by decide +kernel
theorem dX11_fit_2 : decode cX11_fit 2 = .ok (.if_icmp .eq 18, 3) := by decide +kernel
theorem dX11_fit_5 : decode cX11_fit 5 = .ok (.aload_n 0, 1) := by decide +kernel
theorem dX11_fit_6 : decode cX11_fit 6 = .ok (.getfield 19, 3) := by decide +kernel
theorem dX11_fit_9 : decode cX11_fit 9 = .ok (.iload_n 2, 1) := by decide +kernel
theorem dX11_fit_10 : decode cX11_fit 10 = .ok (.invokevirtual 152, 3) := by decide +kernel
theorem dX11_fit_13 : decode cX11_fit 13 = .ok (.ifCond .ne 7, 3) := by decide +kernel
theorem dX11_fit_16 : decode cX11_fit 16 = .ok (.sipush (-1001), 3) := by decide +kernel
theorem dX11_fit_19 : decode cX11_fit 19 = .ok (.ireturn, 1) := by decide +kernel
theorem dX11_fit_20 : decode cX11_fit 20 = .ok (.iload_n 1, 1) := by decide +kernel
theorem dX11_fit_21 : decode cX11_fit 21 = .ok (.ifCond .lt 10, 3) := by decide +kernel
theorem dX11_fit_24 : decode cX11_fit 24 = .ok (.iload_n 1, 1) := by decide +kernel
theorem dX11_fit_25 : decode cX11_fit 25 = .ok (.sipush 200, 3) := by decide +kernel
theorem dX11_fit_28 : decode cX11_fit 28 = .ok (.if_icmp .le 7, 3) := by decide +kernel
theorem dX11_fit_31 : decode cX11_fit 31 = .ok (.sipush (-1002), 3) := by decide +kernel
theorem dX11_fit_34 : decode cX11_fit 34 = .ok (.ireturn, 1) := by decide +kernel
theorem dX11_fit_35 : decode cX11_fit 35 = .ok (.aload_n 0, 1) := by decide +kernel
theorem dX11_fit_36 : decode cX11_fit 36 = .ok (.invokevirtual 135, 3) := by decide +kernel
theorem dX11_fit_39 : decode cX11_fit 39 = .ok (.aload_n 0, 1) := by decide +kernel
theorem dX11_fit_40 : decode cX11_fit 40 = .ok (.invokevirtual 325, 3) := by decide +kernel
theorem dX11_fit_43 : decode cX11_fit 43 = .ok (.aload_n 0, 1) := by decide +kernel
theorem dX11_fit_44 : decode cX11_fit 44 = .ok (.getfield 88, 3) := by decide +kernel
theorem dX11_fit_47 : decode cX11_fit 47 = .ok (.aload_n 0, 1) := by decide +kernel
theorem dX11_fit_48 : decode cX11_fit 48 = .ok (.getfield 19, 3) := by decide +kernel
theorem dX11_fit_51 : decode cX11_fit 51 = .ok (.getfield 123, 3) := by decide +kernel
theorem dX11_fit_54 : decode cX11_fit 54 = .ok (.iload_n 1, 1) := by decide +kernel
theorem dX11_fit_55 : decode cX11_fit 55 = .ok (.invokevirtual 328, 3) := by decide +kernel
theorem dX11_fit_58 : decode cX11_fit 58 = .ok (.iload_n 2, 1) := by decide +kernel
theorem dX11_fit_59 : decode cX11_fit 59 = .ok (.iconst (-1), 1) := by decide +kernel
theorem dX11_fit_60 : decode cX11_fit 60 = .ok (.if_icmp .ne 13, 3) := by decide +kernel
theorem dX11_fit_63 : decode cX11_fit 63 = .ok (.aload_n 0, 1) := by decide +kernel
theorem dX11_fit_64 : decode cX11_fit 64 = .ok (.getfield 88, 3) := by decide +kernel
theorem dX11_fit_67 : decode cX11_fit 67 = .ok (.getfield 329, 3) := by decide +kernel
theorem dX11_fit_70 : decode cX11_fit 70 = .ok (.goto 12, 3) := by decide +kernel
theorem dX11_fit_73 : decode cX11_fit 73 = .ok (.aload_n 0, 1) := by decide +kernel
theorem dX11_fit_74 : decode cX11_fit 74 = .ok (.getfield 88, 3) := by decide +kernel
theorem dX11_fit_77 : decode cX11_fit 77 = .ok (.getfield 332, 3) := by decide +kernel
theorem dX11_fit_80 : decode cX11_fit 80 = .ok (.iload_n 2, 1) := by decide +kernel
theorem dX11_fit_81 : decode cX11_fit 81 = .ok (.iaload, 1) := by decide +kernel
theorem dX11_fit_82 : decode cX11_fit 82 = .ok (.ireturn, 1) := by decide +kernel
theorem dX11_offerFits_0 : decode cX11_offerFits 0 = .ok (.aload_n 0, 1) := by decide +kernel
theorem dX11_offerFits_1 : decode cX11_offerFits 1 = .ok (.getfield 50, 3) := by decide +kernel
theorem dX11_offerFits_4 : decode cX11_offerFits 4 = .ok (.aload_n 0, 1) := by decide +kernel
theorem dX11_offerFits_5 : decode cX11_offerFits 5 = .ok (.getfield 31, 3) := by decide +kernel
theorem dX11_offerFits_8 : decode cX11_offerFits 8 = .ok (.invokevirtual 256, 3) := by decide +kernel
theorem dX11_offerFits_11 : decode cX11_offerFits 11 = .ok (.iconst 0, 1) := by decide +kernel
theorem dX11_offerFits_12 : decode cX11_offerFits 12 = .ok (.istore_n 1, 1) := by decide +kernel
theorem dX11_offerFits_13 : decode cX11_offerFits 13 = .ok (.iload_n 1, 1) := by decide +kernel
theorem dX11_offerFits_14 : decode cX11_offerFits 14 = .ok (.aload_n 0, 1) := by decide +kernel
theorem dX11_offerFits_15 : decode cX11_offerFits 15 = .ok (.getfield 19, 3) := by decide +kernel
theorem dX11_offerFits_18 : decode cX11_offerFits 18 = .ok (.getfield 123, 3) := by decide +kernel
theorem dX11_offerFits_21 : decode cX11_offerFits 21 = .ok (.if_icmp .ge 114, 3) := by decide +kernel
theorem dX11_offerFits_24 : decode cX11_offerFits 24 = .ok (.aload_n 0, 1) := by decide +kernel
theorem dX11_offerFits_25 : decode cX11_offerFits 25 = .ok (.getfield 88, 3) := by decide +kernel
theorem dX11_offerFits_28 : decode cX11_offerFits 28 = .ok (.iload_n 1, 1) := by decide +kernel
theorem dX11_offerFits_29 : decode cX11_offerFits 29 = .ok (.invokevirtual 335, 3) := by decide +kernel
theorem dX11_offerFits_32 : decode cX11_offerFits 32 = .ok (.aload_n 0, 1) := by decide +kernel
theorem dX11_offerFits_33 : decode cX11_offerFits 33 = .ok (.getfield 88, 3) := by decide +kernel
theorem dX11_offerFits_36 : decode cX11_offerFits 36 = .ok (.iload_n 1, 1) := by decide +kernel
theorem dX11_offerFits_37 : decode cX11_offerFits 37 = .ok (.iconst 0, 1) := by decide +kernel
theorem dX11_offerFits_38 : decode cX11_offerFits 38 = .ok (.aload_n 0, 1) := by decide +kernel
theorem dX11_offerFits_39 : decode cX11_offerFits 39 = .ok (.getfield 53, 3) := by decide +kernel
theorem dX11_offerFits_42 : decode cX11_offerFits 42 = .ok (.iload_n 1, 1) := by decide +kernel
theorem dX11_offerFits_43 : decode cX11_offerFits 43 = .ok (.iaload, 1) := by decide +kernel
theorem dX11_offerFits_44 : decode cX11_offerFits 44 = .ok (.iconst 0, 1) := by decide +kernel
theorem dX11_offerFits_45 : decode cX11_offerFits 45 = .ok (.invokevirtual 336, 3) := by decide +kernel
theorem dX11_offerFits_48 : decode cX11_offerFits 48 = .ok (.aload_n 0, 1) := by decide +kernel
theorem dX11_offerFits_49 : decode cX11_offerFits 49 = .ok (.getfield 53, 3) := by decide +kernel
theorem dX11_offerFits_52 : decode cX11_offerFits 52 = .ok (.iload_n 1, 1) := by decide +kernel
theorem dX11_offerFits_53 : decode cX11_offerFits 53 = .ok (.iaload, 1) := by decide +kernel
theorem dX11_offerFits_54 : decode cX11_offerFits 54 = .ok (.ifCond .le 75, 3) := by decide +kernel
theorem dX11_offerFits_57 : decode cX11_offerFits 57 = .ok (.aload_n 0, 1) := by decide +kernel
theorem dX11_offerFits_58 : decode cX11_offerFits 58 = .ok (.getfield 19, 3) := by decide +kernel
theorem dX11_offerFits_61 : decode cX11_offerFits 61 = .ok (.getfield 170, 3) := by decide +kernel
theorem dX11_offerFits_64 : decode cX11_offerFits 64 = .ok (.iload_n 1, 1) := by decide +kernel
theorem dX11_offerFits_65 : decode cX11_offerFits 65 = .ok (.iaload, 1) := by decide +kernel
theorem dX11_offerFits_66 : decode cX11_offerFits 66 = .ok (.iconst 1, 1) := by decide +kernel
theorem dX11_offerFits_67 : decode cX11_offerFits 67 = .ok (.iadd, 1) := by decide +kernel
theorem dX11_offerFits_68 : decode cX11_offerFits 68 = .ok (.istore_n 2, 1) := by decide +kernel
theorem dX11_offerFits_69 : decode cX11_offerFits 69 = .ok (.aload_n 0, 1) := by decide +kernel
theorem dX11_offerFits_70 : decode cX11_offerFits 70 = .ok (.getfield 19, 3) := by decide +kernel
theorem dX11_offerFits_73 : decode cX11_offerFits 73 = .ok (.iload_n 1, 1) := by decide +kernel
theorem dX11_offerFits_74 : decode cX11_offerFits 74 = .ok (.invokevirtual 290, 3) := by decide +kernel
theorem dX11_offerFits_77 : decode cX11_offerFits 77 = .ok (.invokestatic 146, 3) := by decide +kernel
theorem dX11_offerFits_80 : decode cX11_offerFits 80 = .ok (.istore_n 3, 1) := by decide +kernel
theorem dX11_offerFits_81 : decode cX11_offerFits 81 = .ok (.iload_n 3, 1) := by decide +kernel
theorem dX11_offerFits_82 : decode cX11_offerFits 82 = .ok (.ifCond .le 33, 3) := by decide +kernel
theorem dX11_offerFits_85 : decode cX11_offerFits 85 = .ok (.aload_n 0, 1) := by decide +kernel
theorem dX11_offerFits_86 : decode cX11_offerFits 86 = .ok (.getfield 88, 3) := by decide +kernel
theorem dX11_offerFits_89 : decode cX11_offerFits 89 = .ok (.iload_n 1, 1) := by decide +kernel
theorem dX11_offerFits_90 : decode cX11_offerFits 90 = .ok (.iconst 1, 1) := by decide +kernel
theorem dX11_offerFits_91 : decode cX11_offerFits 91 = .ok (.aload_n 0, 1) := by decide +kernel
theorem dX11_offerFits_92 : decode cX11_offerFits 92 = .ok (.getfield 37, 3) := by decide +kernel
theorem dX11_offerFits_95 : decode cX11_offerFits 95 = .ok (.aload_n 0, 1) := by decide +kernel
theorem dX11_offerFits_96 : decode cX11_offerFits 96 = .ok (.getfield 50, 3) := by decide +kernel
theorem dX11_offerFits_99 : decode cX11_offerFits 99 = .ok (.aload_n 0, 1) := by decide +kernel
theorem dX11_offerFits_100 : decode cX11_offerFits 100 = .ok (.getfield 19, 3) := by decide +kernel
theorem dX11_offerFits_103 : decode cX11_offerFits 103 = .ok (.iload_n 1, 1) := by decide +kernel
theorem dX11_offerFits_104 : decode cX11_offerFits 104 = .ok (.iload_n 1, 1) := by decide +kernel
theorem dX11_offerFits_105 : decode cX11_offerFits 105 = .ok (.iconst 1, 1) := by decide +kernel
theorem dX11_offerFits_106 : decode cX11_offerFits 106 = .ok (.invokevirtual 259, 3) := by decide +kernel
theorem dX11_offerFits_109 : decode cX11_offerFits 109 = .ok (.iload_n 2, 1) := by decide +kernel
theorem dX11_offerFits_110 : decode cX11_offerFits 110 = .ok (.iload_n 3, 1) := by decide +kernel
theorem dX11_offerFits_111 : decode cX11_offerFits 111 = .ok (.imul, 1) := by decide +kernel
theorem dX11_offerFits_112 : decode cX11_offerFits 112 = .ok (.invokevirtual 336, 3) := by decide +kernel
theorem dX11_offerFits_115 : decode cX11_offerFits 115 = .ok (.aload_n 0, 1) := by decide +kernel
theorem dX11_offerFits_116 : decode cX11_offerFits 116 = .ok (.getfield 88, 3) := by decide +kernel
theorem dX11_offerFits_119 : decode cX11_offerFits 119 = .ok (.iload_n 1, 1) := by decide +kernel
theorem dX11_offerFits_120 : decode cX11_offerFits 120 = .ok (.iconst 2, 1) := by decide +kernel
theorem dX11_offerFits_121 : decode cX11_offerFits 121 = .ok (.iconst 0, 1) := by decide +kernel
theorem dX11_offerFits_122 : decode cX11_offerFits 122 = .ok (.iload_n 2, 1) := by decide +kernel
theorem dX11_offerFits_123 : decode cX11_offerFits 123 = .ok (.bipush 20, 2) := by decide +kernel
theorem dX11_offerFits_125 : decode cX11_offerFits 125 = .ok (.imul, 1) := by decide +kernel
theorem dX11_offerFits_126 : decode cX11_offerFits 126 = .ok (.invokevirtual 336, 3) := by decide +kernel
theorem dX11_offerFits_129 : decode cX11_offerFits 129 = .ok (.iinc 1 1, 3) := by decide +kernel
theorem dX11_offerFits_132 : decode cX11_offerFits 132 = .ok (.goto (-119), 3) := by decide +kernel
theorem dX11_offerFits_135 : decode cX11_offerFits 135 = .ok (.return_, 1) := by decide +kernel
theorem dX11_putIn_0 : decode cX11_putIn 0 = .ok (.iload_n 1, 1) := by decide +kernel
theorem dX11_putIn_1 : decode cX11_putIn 1 = .ok (.ifCond .lt 20, 3) := by decide +kernel
theorem dX11_putIn_4 : decode cX11_putIn 4 = .ok (.iload_n 1, 1) := by decide +kernel
theorem dX11_putIn_5 : decode cX11_putIn 5 = .ok (.bipush 99, 2) := by decide +kernel
theorem dX11_putIn_7 : decode cX11_putIn 7 = .ok (.if_icmp .gt 14, 3) := by decide +kernel
theorem dX11_putIn_10 : decode cX11_putIn 10 = .ok (.iload_n 2, 1) := by decide +kernel
theorem dX11_putIn_11 : decode cX11_putIn 11 = .ok (.iconst 1, 1) := by decide +kernel
theorem dX11_putIn_12 : decode cX11_putIn 12 = .ok (.if_icmp .lt 9, 3) := by decide +kernel
theorem dX11_putIn_15 : decode cX11_putIn 15 = .ok (.iload_n 2, 1) := by decide +kernel
theorem dX11_putIn_16 : decode cX11_putIn 16 = .ok (.bipush 9, 2) := by decide +kernel
theorem dX11_putIn_18 : decode cX11_putIn 18 = .ok (.if_icmp .le 7, 3) := by decide +kernel
theorem dX11_putIn_21 : decode cX11_putIn 21 = .ok (.sipush (-1002), 3) := by decide +kernel
theorem dX11_putIn_24 : decode cX11_putIn 24 = .ok (.ireturn, 1) := by decide +kernel
theorem dX11_putIn_25 : decode cX11_putIn 25 = .ok (.aload_n 0, 1) := by decide +kernel
theorem dX11_putIn_26 : decode cX11_putIn 26 = .ok (.getfield 19, 3) := by decide +kernel
theorem dX11_putIn_29 : decode cX11_putIn 29 = .ok (.iload_n 1, 1) := by decide +kernel
theorem dX11_putIn_30 : decode cX11_putIn 30 = .ok (.invokevirtual 339, 3) := by decide +kernel
theorem dX11_putIn_33 : decode cX11_putIn 33 = .ok (.iload_n 2, 1) := by decide +kernel
theorem dX11_putIn_34 : decode cX11_putIn 34 = .ok (.iadd, 1) := by decide +kernel
theorem dX11_putIn_35 : decode cX11_putIn 35 = .ok (.bipush 99, 2) := by decide +kernel
theorem dX11_putIn_37 : decode cX11_putIn 37 = .ok (.if_icmp .le 7, 3) := by decide +kernel
theorem dX11_putIn_40 : decode cX11_putIn 40 = .ok (.sipush (-1003), 3) := by decide +kernel
theorem dX11_putIn_43 : decode cX11_putIn 43 = .ok (.ireturn, 1) := by decide +kernel
theorem dX11_putIn_44 : decode cX11_putIn 44 = .ok (.aload_n 0, 1) := by decide +kernel
theorem dX11_putIn_45 : decode cX11_putIn 45 = .ok (.iconst 0, 1) := by decide +kernel
theorem dX11_putIn_46 : decode cX11_putIn 46 = .ok (.putfield 57, 3) := by decide +kernel
theorem dX11_putIn_49 : decode cX11_putIn 49 = .ok (.aload_n 0, 1) := by decide +kernel
theorem dX11_putIn_50 : decode cX11_putIn 50 = .ok (.getfield 19, 3) := by decide +kernel
theorem dX11_putIn_53 : decode cX11_putIn 53 = .ok (.iload_n 1, 1) := by decide +kernel
theorem dX11_putIn_54 : decode cX11_putIn 54 = .ok (.iload_n 2, 1) := by decide +kernel
theorem dX11_putIn_55 : decode cX11_putIn 55 = .ok (.invokevirtual 342, 3) := by decide +kernel
theorem dX11_putIn_58 : decode cX11_putIn 58 = .ok (.ireturn, 1) := by decide +kernel
theorem dX11_takeOut_0 : decode cX11_takeOut 0 = .ok (.iload_n 1, 1) := by decide +kernel
theorem dX11_takeOut_1 : decode cX11_takeOut 1 = .ok (.invokestatic 213, 3) := by decide +kernel
theorem dX11_takeOut_4 : decode cX11_takeOut 4 = .ok (.ifCond .eq 15, 3) := by decide +kernel
theorem dX11_takeOut_7 : decode cX11_takeOut 7 = .ok (.iload_n 2, 1) := by decide +kernel
theorem dX11_takeOut_8 : decode cX11_takeOut 8 = .ok (.invokestatic 213, 3) := by decide +kernel
theorem dX11_takeOut_11 : decode cX11_takeOut 11 = .ok (.ifCond .eq 8, 3) := by decide +kernel
theorem dX11_takeOut_14 : decode cX11_takeOut 14 = .ok (.iload_n 2, 1) := by decide +kernel
theorem dX11_takeOut_15 : decode cX11_takeOut 15 = .ok (.iload_n 1, 1) := by decide +kernel
theorem dX11_takeOut_16 : decode cX11_takeOut 16 = .ok (.if_icmp .ge 7, 3) := by decide +kernel
theorem dX11_takeOut_19 : decode cX11_takeOut 19 = .ok (.sipush (-1002), 3) := by decide +kernel
theorem dX11_takeOut_22 : decode cX11_takeOut 22 = .ok (.ireturn, 1) := by decide +kernel
theorem dX11_takeOut_23 : decode cX11_takeOut 23 = .ok (.aload_n 0, 1) := by decide +kernel
theorem dX11_takeOut_24 : decode cX11_takeOut 24 = .ok (.iconst 0, 1) := by decide +kernel
theorem dX11_takeOut_25 : decode cX11_takeOut 25 = .ok (.putfield 57, 3) := by decide +kernel
theorem dX11_takeOut_28 : decode cX11_takeOut 28 = .ok (.aload_n 0, 1) := by decide +kernel
theorem dX11_takeOut_29 : decode cX11_takeOut 29 = .ok (.getfield 19, 3) := by decide +kernel
theorem dX11_takeOut_32 : decode cX11_takeOut 32 = .ok (.iload_n 1, 1) := by decide +kernel
theorem dX11_takeOut_33 : decode cX11_takeOut 33 = .ok (.iload_n 2, 1) := by decide +kernel
theorem dX11_takeOut_34 : decode cX11_takeOut 34 = .ok (.invokevirtual 345, 3) := by decide +kernel
theorem dX11_takeOut_37 : decode cX11_takeOut 37 = .ok (.ireturn, 1) := by decide +kernel
theorem dX11_stale_0 : decode cX11_stale 0 = .ok (.iload_n 1, 1) := by decide +kernel
theorem dX11_stale_1 : decode cX11_stale 1 = .ok (.invokestatic 348, 3) := by decide +kernel
theorem dX11_stale_4 : decode cX11_stale 4 = .ok (.ifCond .ne 7, 3) := by decide +kernel
theorem dX11_stale_7 : decode cX11_stale 7 = .ok (.sipush (-1001), 3) := by decide +kernel
theorem dX11_stale_10 : decode cX11_stale 10 = .ok (.ireturn, 1) := by decide +kernel
theorem dX11_stale_11 : decode cX11_stale 11 = .ok (.aload_n 0, 1) := by decide +kernel
theorem dX11_stale_12 : decode cX11_stale 12 = .ok (.getfield 23, 3) := by decide +kernel
theorem dX11_stale_15 : decode cX11_stale 15 = .ok (.iload_n 1, 1) := by decide +kernel
theorem dX11_stale_16 : decode cX11_stale 16 = .ok (.aaload, 1) := by decide +kernel
theorem dX11_stale_17 : decode cX11_stale 17 = .ok (.getfield 351, 3) := by decide +kernel
theorem dX11_stale_20 : decode cX11_stale 20 = .ok (.ifCond .ne 7, 3) := by decide +kernel
theorem dX11_stale_23 : decode cX11_stale 23 = .ok (.sipush (-1003), 3) := by decide +kernel
theorem dX11_stale_26 : decode cX11_stale 26 = .ok (.ireturn, 1) := by decide +kernel
theorem dX11_stale_27 : decode cX11_stale 27 = .ok (.aload_n 0, 1) := by decide +kernel
theorem dX11_stale_28 : decode cX11_stale 28 = .ok (.getfield 23, 3) := by decide +kernel
theorem dX11_stale_31 : decode cX11_stale 31 = .ok (.iload_n 1, 1) := by decide +kernel
theorem dX11_stale_32 : decode cX11_stale 32 = .ok (.aaload, 1) := by decide +kernel
theorem dX11_stale_33 : decode cX11_stale 33 = .ok (.astore_n 2, 1) := by decide +kernel
theorem dX11_stale_34 : decode cX11_stale 34 = .ok (.iconst 0, 1) := by decide +kernel
theorem dX11_stale_35 : decode cX11_stale 35 = .ok (.istore_n 3, 1) := by decide +kernel
theorem dX11_stale_36 : decode cX11_stale 36 = .ok (.iconst 0, 1) := by decide +kernel
theorem dX11_stale_37 : decode cX11_stale 37 = .ok (.istore 4, 2) := by decide +kernel
theorem dX11_stale_39 : decode cX11_stale 39 = .ok (.iload 4, 2) := by decide +kernel
theorem dX11_stale_41 : decode cX11_stale 41 = .ok (.aload_n 2, 1) := by decide +kernel
theorem dX11_stale_42 : decode cX11_stale 42 = .ok (.getfield 123, 3) := by decide +kernel
theorem dX11_stale_45 : decode cX11_stale 45 = .ok (.if_icmp .ge 105, 3) := by decide +kernel
theorem dX11_stale_48 : decode cX11_stale 48 = .ok (.aload_n 0, 1) := by decide +kernel
theorem dX11_stale_49 : decode cX11_stale 49 = .ok (.getfield 19, 3) := by decide +kernel
theorem dX11_stale_52 : decode cX11_stale 52 = .ok (.aload_n 2, 1) := by decide +kernel
theorem dX11_stale_53 : decode cX11_stale 53 = .ok (.getfield 354, 3) := by decide +kernel
theorem dX11_stale_56 : decode cX11_stale 56 = .ok (.iload 4, 2) := by decide +kernel
theorem dX11_stale_58 : decode cX11_stale 58 = .ok (.laload, 1) := by decide +kernel
theorem dX11_stale_59 : decode cX11_stale 59 = .ok (.invokevirtual 358, 3) := by decide +kernel
theorem dX11_stale_62 : decode cX11_stale 62 = .ok (.istore 5, 2) := by decide +kernel
theorem dX11_stale_64 : decode cX11_stale 64 = .ok (.iload_n 3, 1) := by decide +kernel
theorem dX11_stale_65 : decode cX11_stale 65 = .ok (.aload_n 0, 1) := by decide +kernel
theorem dX11_stale_66 : decode cX11_stale 66 = .ok (.aload_n 2, 1) := by decide +kernel
theorem dX11_stale_67 : decode cX11_stale 67 = .ok (.iload 4, 2) := by decide +kernel
theorem dX11_stale_69 : decode cX11_stale 69 = .ok (.iconst (-1), 1) := by decide +kernel
theorem dX11_stale_70 : decode cX11_stale 70 = .ok (.iload 5, 2) := by decide +kernel
theorem dX11_stale_72 : decode cX11_stale 72 = .ok (.iconst (-1), 1) := by decide +kernel
theorem dX11_stale_73 : decode cX11_stale 73 = .ok (.invokevirtual 361, 3) := by decide +kernel
theorem dX11_stale_76 : decode cX11_stale 76 = .ok (.iadd, 1) := by decide +kernel
theorem dX11_stale_77 : decode cX11_stale 77 = .ok (.istore_n 3, 1) := by decide +kernel
theorem dX11_stale_78 : decode cX11_stale 78 = .ok (.iconst 0, 1) := by decide +kernel
theorem dX11_stale_79 : decode cX11_stale 79 = .ok (.istore 6, 2) := by decide +kernel
theorem dX11_stale_81 : decode cX11_stale 81 = .ok (.iload 6, 2) := by decide +kernel
theorem dX11_stale_83 : decode cX11_stale 83 = .ok (.aload_n 2, 1) := by decide +kernel
theorem dX11_stale_84 : decode cX11_stale 84 = .ok (.getfield 156, 3) := by decide +kernel
theorem dX11_stale_87 : decode cX11_stale 87 = .ok (.iload 4, 2) := by decide +kernel
theorem dX11_stale_89 : decode cX11_stale 89 = .ok (.iaload, 1) := by decide +kernel
theorem dX11_stale_90 : decode cX11_stale 90 = .ok (.if_icmp .ge 54, 3) := by decide +kernel
theorem dX11_stale_93 : decode cX11_stale 93 = .ok (.aload_n 0, 1) := by decide +kernel
theorem dX11_stale_94 : decode cX11_stale 94 = .ok (.getfield 19, 3) := by decide +kernel
theorem dX11_stale_97 : decode cX11_stale 97 = .ok (.iload 5, 2) := by decide +kernel
theorem dX11_stale_99 : decode cX11_stale 99 = .ok (.aload_n 2, 1) := by decide +kernel
theorem dX11_stale_100 : decode cX11_stale 100 = .ok (.iload 4, 2) := by decide +kernel
theorem dX11_stale_102 : decode cX11_stale 102 = .ok (.iload 6, 2) := by decide +kernel
theorem dX11_stale_104 : decode cX11_stale 104 = .ok (.invokevirtual 180, 3) := by decide +kernel
theorem dX11_stale_107 : decode cX11_stale 107 = .ok (.invokevirtual 365, 3) := by decide +kernel
theorem dX11_stale_110 : decode cX11_stale 110 = .ok (.istore 7, 2) := by decide +kernel
theorem dX11_stale_112 : decode cX11_stale 112 = .ok (.iload_n 3, 1) := by decide +kernel
theorem dX11_stale_113 : decode cX11_stale 113 = .ok (.aload_n 0, 1) := by decide +kernel
theorem dX11_stale_114 : decode cX11_stale 114 = .ok (.aload_n 2, 1) := by decide +kernel
theorem dX11_stale_115 : decode cX11_stale 115 = .ok (.iload 4, 2) := by decide +kernel
theorem dX11_stale_117 : decode cX11_stale 117 = .ok (.iload 6, 2) := by decide +kernel
theorem dX11_stale_119 : decode cX11_stale 119 = .ok (.iload 7, 2) := by decide +kernel
theorem dX11_stale_121 : decode cX11_stale 121 = .ok (.iconst (-1), 1) := by decide +kernel
theorem dX11_stale_122 : decode cX11_stale 122 = .ok (.if_icmp .ne 7, 3) := by decide +kernel
theorem dX11_stale_125 : decode cX11_stale 125 = .ok (.iconst (-1), 1) := by decide +kernel
theorem dX11_stale_126 : decode cX11_stale 126 = .ok (.goto 5, 3) := by decide +kernel
theorem dX11_stale_129 : decode cX11_stale 129 = .ok (.iload 5, 2) := by decide +kernel
theorem dX11_stale_131 : decode cX11_stale 131 = .ok (.iload 7, 2) := by decide +kernel
theorem dX11_stale_133 : decode cX11_stale 133 = .ok (.invokevirtual 361, 3) := by decide +kernel
theorem dX11_stale_136 : decode cX11_stale 136 = .ok (.iadd, 1) := by decide +kernel
theorem dX11_stale_137 : decode cX11_stale 137 = .ok (.istore_n 3, 1) := by decide +kernel
theorem dX11_stale_138 : decode cX11_stale 138 = .ok (.iinc 6 1, 3) := by decide +kernel
theorem dX11_stale_141 : decode cX11_stale 141 = .ok (.goto (-60), 3) := by decide +kernel
theorem dX11_stale_144 : decode cX11_stale 144 = .ok (.iinc 4 1, 3) := by decide +kernel
theorem dX11_stale_147 : decode cX11_stale 147 = .ok (.goto (-108), 3) := by decide +kernel
theorem dX11_stale_150 : decode cX11_stale 150 = .ok (.iload_n 3, 1) := by decide +kernel
theorem dX11_stale_151 : decode cX11_stale 151 = .ok (.ireturn, 1) := by decide +kernel
theorem dX11_staleRuns_0 : decode cX11_staleRuns 0 = .ok (.aload_n 1, 1) := by decide +kernel
theorem dX11_staleRuns_1 : decode cX11_staleRuns 1 = .ok (.iload_n 2, 1) := by decide +kernel
theorem dX11_staleRuns_2 : decode cX11_staleRuns 2 = .ok (.iload_n 3, 1) := by decide +kernel
theorem dX11_staleRuns_3 : decode cX11_staleRuns 3 = .ok (.aload_n 0, 1) := by decide +kernel
theorem dX11_staleRuns_4 : decode cX11_staleRuns 4 = .ok (.getfield 64, 3) := by decide +kernel
theorem dX11_staleRuns_7 : decode cX11_staleRuns 7 = .ok (.invokevirtual 159, 3) := by decide +kernel
theorem dX11_staleRuns_10 : decode cX11_staleRuns 10 = .ok (.aload_n 0, 1) := by decide +kernel
theorem dX11_staleRuns_11 : decode cX11_staleRuns 11 = .ok (.getfield 68, 3) := by decide +kernel
theorem dX11_staleRuns_14 : decode cX11_staleRuns 14 = .ok (.invokevirtual 368, 3) := by decide +kernel
theorem dX11_staleRuns_17 : decode cX11_staleRuns 17 = .ok (.iload 4, 2) := by decide +kernel
theorem dX11_staleRuns_19 : decode cX11_staleRuns 19 = .ok (.iconst (-1), 1) := by decide +kernel
theorem dX11_staleRuns_20 : decode cX11_staleRuns 20 = .ok (.if_icmp .eq 18, 3) := by decide +kernel
theorem dX11_staleRuns_23 : decode cX11_staleRuns 23 = .ok (.aload_n 0, 1) := by decide +kernel
theorem dX11_staleRuns_24 : decode cX11_staleRuns 24 = .ok (.getfield 19, 3) := by decide +kernel
theorem dX11_staleRuns_27 : decode cX11_staleRuns 27 = .ok (.iload 4, 2) := by decide +kernel
theorem dX11_staleRuns_29 : decode cX11_staleRuns 29 = .ok (.iload 5, 2) := by decide +kernel
theorem dX11_staleRuns_31 : decode cX11_staleRuns 31 = .ok (.aload_n 0, 1) := by decide +kernel
theorem dX11_staleRuns_32 : decode cX11_staleRuns 32 = .ok (.getfield 68, 3) := by decide +kernel
theorem dX11_staleRuns_35 : decode cX11_staleRuns 35 = .ok (.invokevirtual 159, 3) := by decide +kernel
theorem dX11_staleRuns_38 : decode cX11_staleRuns 38 = .ok (.iconst 0, 1) := by decide +kernel
theorem dX11_staleRuns_39 : decode cX11_staleRuns 39 = .ok (.istore 6, 2) := by decide +kernel
theorem dX11_staleRuns_41 : decode cX11_staleRuns 41 = .ok (.iconst 0, 1) := by decide +kernel
theorem dX11_staleRuns_42 : decode cX11_staleRuns 42 = .ok (.istore 7, 2) := by decide +kernel
theorem dX11_staleRuns_44 : decode cX11_staleRuns 44 = .ok (.iload 7, 2) := by decide +kernel
theorem dX11_staleRuns_46 : decode cX11_staleRuns 46 = .ok (.aload_n 0, 1) := by decide +kernel
theorem dX11_staleRuns_47 : decode cX11_staleRuns 47 = .ok (.getfield 64, 3) := by decide +kernel
theorem dX11_staleRuns_50 : decode cX11_staleRuns 50 = .ok (.getfield 163, 3) := by decide +kernel
theorem dX11_staleRuns_53 : decode cX11_staleRuns 53 = .ok (.if_icmp .ge 42, 3) := by decide +kernel
theorem dX11_staleRuns_56 : decode cX11_staleRuns 56 = .ok (.aload_n 0, 1) := by decide +kernel
theorem dX11_staleRuns_57 : decode cX11_staleRuns 57 = .ok (.getfield 68, 3) := by decide +kernel
theorem dX11_staleRuns_60 : decode cX11_staleRuns 60 = .ok (.aload_n 0, 1) := by decide +kernel
theorem dX11_staleRuns_61 : decode cX11_staleRuns 61 = .ok (.getfield 64, 3) := by decide +kernel
theorem dX11_staleRuns_64 : decode cX11_staleRuns 64 = .ok (.getfield 223, 3) := by decide +kernel
theorem dX11_staleRuns_67 : decode cX11_staleRuns 67 = .ok (.iload 7, 2) := by decide +kernel
theorem dX11_staleRuns_69 : decode cX11_staleRuns 69 = .ok (.iaload, 1) := by decide +kernel
theorem dX11_staleRuns_70 : decode cX11_staleRuns 70 = .ok (.aload_n 0, 1) := by decide +kernel
theorem dX11_staleRuns_71 : decode cX11_staleRuns 71 = .ok (.getfield 64, 3) := by decide +kernel
theorem dX11_staleRuns_74 : decode cX11_staleRuns 74 = .ok (.getfield 226, 3) := by decide +kernel
theorem dX11_staleRuns_77 : decode cX11_staleRuns 77 = .ok (.iload 7, 2) := by decide +kernel
theorem dX11_staleRuns_79 : decode cX11_staleRuns 79 = .ok (.iaload, 1) := by decide +kernel
theorem dX11_staleRuns_80 : decode cX11_staleRuns 80 = .ok (.invokevirtual 369, 3) := by decide +kernel
theorem dX11_staleRuns_83 : decode cX11_staleRuns 83 = .ok (.ifCond .ne 6, 3) := by decide +kernel
theorem dX11_staleRuns_86 : decode cX11_staleRuns 86 = .ok (.iinc 6 1, 3) := by decide +kernel
theorem dX11_staleRuns_89 : decode cX11_staleRuns 89 = .ok (.iinc 7 1, 3) := by decide +kernel
theorem dX11_staleRuns_92 : decode cX11_staleRuns 92 = .ok (.goto (-48), 3) := by decide +kernel
theorem dX11_staleRuns_95 : decode cX11_staleRuns 95 = .ok (.iload 6, 2) := by decide +kernel
theorem dX11_staleRuns_97 : decode cX11_staleRuns 97 = .ok (.ireturn, 1) := by decide +kernel
theorem dX11_saw_0 : decode cX11_saw 0 = .ok (.iload_n 1, 1) := by decide +kernel
theorem dX11_saw_1 : decode cX11_saw 1 = .ok (.invokestatic 213, 3) := by decide +kernel
theorem dX11_saw_4 : decode cX11_saw 4 = .ok (.ifCond .eq 15, 3) := by decide +kernel
theorem dX11_saw_7 : decode cX11_saw 7 = .ok (.iload_n 2, 1) := by decide +kernel
theorem dX11_saw_8 : decode cX11_saw 8 = .ok (.iconst 1, 1) := by decide +kernel
theorem dX11_saw_9 : decode cX11_saw 9 = .ok (.if_icmp .lt 10, 3) := by decide +kernel
theorem dX11_saw_12 : decode cX11_saw 12 = .ok (.iload_n 2, 1) := by decide +kernel
theorem dX11_saw_13 : decode cX11_saw 13 = .ok (.sipush 199, 3) := by decide +kernel
theorem dX11_saw_16 : decode cX11_saw 16 = .ok (.if_icmp .le 7, 3) := by decide +kernel
theorem dX11_saw_19 : decode cX11_saw 19 = .ok (.sipush (-1002), 3) := by decide +kernel
theorem dX11_saw_22 : decode cX11_saw 22 = .ok (.ireturn, 1) := by decide +kernel
theorem dX11_saw_23 : decode cX11_saw 23 = .ok (.iload_n 1, 1) := by decide +kernel
theorem dX11_saw_24 : decode cX11_saw 24 = .ok (.aload_n 0, 1) := by decide +kernel
theorem dX11_saw_25 : decode cX11_saw 25 = .ok (.getfield 95, 3) := by decide +kernel
theorem dX11_saw_28 : decode cX11_saw 28 = .ok (.invokevirtual 372, 3) := by decide +kernel
theorem dX11_saw_31 : decode cX11_saw 31 = .ok (.if_icmp .gt 7, 3) := by decide +kernel
theorem dX11_saw_34 : decode cX11_saw 34 = .ok (.sipush (-1003), 3) := by decide +kernel
theorem dX11_saw_37 : decode cX11_saw 37 = .ok (.ireturn, 1) := by decide +kernel
theorem dX11_saw_38 : decode cX11_saw 38 = .ok (.aload_n 0, 1) := by decide +kernel
theorem dX11_saw_39 : decode cX11_saw 39 = .ok (.getfield 95, 3) := by decide +kernel
theorem dX11_saw_42 : decode cX11_saw 42 = .ok (.getfield 132, 3) := by decide +kernel
theorem dX11_saw_45 : decode cX11_saw 45 = .ok (.bipush 20, 2) := by decide +kernel
theorem dX11_saw_47 : decode cX11_saw 47 = .ok (.if_icmp .lt 7, 3) := by decide +kernel
theorem dX11_saw_50 : decode cX11_saw 50 = .ok (.sipush (-1004), 3) := by decide +kernel
theorem dX11_saw_53 : decode cX11_saw 53 = .ok (.ireturn, 1) := by decide +kernel
theorem dX11_saw_54 : decode cX11_saw 54 = .ok (.aload_n 0, 1) := by decide +kernel
theorem dX11_saw_55 : decode cX11_saw 55 = .ok (.getfield 95, 3) := by decide +kernel
theorem dX11_saw_58 : decode cX11_saw 58 = .ok (.iload_n 1, 1) := by decide +kernel
theorem dX11_saw_59 : decode cX11_saw 59 = .ok (.iload_n 2, 1) := by decide +kernel
theorem dX11_saw_60 : decode cX11_saw 60 = .ok (.invokevirtual 375, 3) := by decide +kernel
theorem dX11_saw_63 : decode cX11_saw 63 = .ok (.ireturn, 1) := by decide +kernel
theorem dX11_forget_0 : decode cX11_forget 0 = .ok (.aload_n 0, 1) := by decide +kernel
theorem dX11_forget_1 : decode cX11_forget 1 = .ok (.getfield 95, 3) := by decide +kernel
theorem dX11_forget_4 : decode cX11_forget 4 = .ok (.getfield 132, 3) := by decide +kernel
theorem dX11_forget_7 : decode cX11_forget 7 = .ok (.istore_n 1, 1) := by decide +kernel
theorem dX11_forget_8 : decode cX11_forget 8 = .ok (.aload_n 0, 1) := by decide +kernel
theorem dX11_forget_9 : decode cX11_forget 9 = .ok (.getfield 95, 3) := by decide +kernel
theorem dX11_forget_12 : decode cX11_forget 12 = .ok (.iconst 0, 1) := by decide +kernel
theorem dX11_forget_13 : decode cX11_forget 13 = .ok (.putfield 132, 3) := by decide +kernel
theorem dX11_forget_16 : decode cX11_forget 16 = .ok (.iload_n 1, 1) := by decide +kernel
theorem dX11_forget_17 : decode cX11_forget 17 = .ok (.ireturn, 1) := by decide +kernel
theorem dX11_story_0 : decode cX11_story 0 = .ok (.iload_n 2, 1) := by decide +kernel
theorem dX11_story_1 : decode cX11_story 1 = .ok (.iconst (-1), 1) := by decide +kernel
theorem dX11_story_2 : decode cX11_story 2 = .ok (.if_icmp .eq 22, 3) := by decide +kernel
theorem dX11_story_5 : decode cX11_story 5 = .ok (.iload_n 2, 1) := by decide +kernel
theorem dX11_story_6 : decode cX11_story 6 = .ok (.ifCond .lt 14, 3) := by decide +kernel
theorem dX11_story_9 : decode cX11_story 9 = .ok (.iload_n 2, 1) := by decide +kernel
theorem dX11_story_10 : decode cX11_story 10 = .ok (.aload_n 0, 1) := by decide +kernel
theorem dX11_story_11 : decode cX11_story 11 = .ok (.getfield 95, 3) := by decide +kernel
theorem dX11_story_14 : decode cX11_story 14 = .ok (.getfield 132, 3) := by decide +kernel
theorem dX11_story_17 : decode cX11_story 17 = .ok (.if_icmp .lt 7, 3) := by decide +kernel
theorem dX11_story_20 : decode cX11_story 20 = .ok (.sipush (-1001), 3) := by decide +kernel
theorem dX11_story_23 : decode cX11_story 23 = .ok (.ireturn, 1) := by decide +kernel
theorem dX11_story_24 : decode cX11_story 24 = .ok (.iload_n 1, 1) := by decide +kernel
theorem dX11_story_25 : decode cX11_story 25 = .ok (.ifCond .lt 9, 3) := by decide +kernel
theorem dX11_story_28 : decode cX11_story 28 = .ok (.iload_n 1, 1) := by decide +kernel
theorem dX11_story_29 : decode cX11_story 29 = .ok (.bipush 20, 2) := by decide +kernel
theorem dX11_story_31 : decode cX11_story 31 = .ok (.if_icmp .le 7, 3) := by decide +kernel
theorem dX11_story_34 : decode cX11_story 34 = .ok (.sipush (-1002), 3) := by decide +kernel
theorem dX11_story_37 : decode cX11_story 37 = .ok (.ireturn, 1) := by decide +kernel
theorem dX11_story_38 : decode cX11_story 38 = .ok (.aload_n 0, 1) := by decide +kernel
theorem dX11_story_39 : decode cX11_story 39 = .ok (.getfield 95, 3) := by decide +kernel
theorem dX11_story_42 : decode cX11_story 42 = .ok (.iload_n 1, 1) := by decide +kernel
theorem dX11_story_43 : decode cX11_story 43 = .ok (.invokevirtual 378, 3) := by decide +kernel
theorem dX11_story_46 : decode cX11_story 46 = .ok (.iload_n 2, 1) := by decide +kernel
theorem dX11_story_47 : decode cX11_story 47 = .ok (.iconst (-1), 1) := by decide +kernel
theorem dX11_story_48 : decode cX11_story 48 = .ok (.if_icmp .ne 11, 3) := by decide +kernel
theorem dX11_story_51 : decode cX11_story 51 = .ok (.aload_n 0, 1) := by decide +kernel
theorem dX11_story_52 : decode cX11_story 52 = .ok (.getfield 95, 3) := by decide +kernel
theorem dX11_story_55 : decode cX11_story 55 = .ok (.invokevirtual 381, 3) := by decide +kernel
theorem dX11_story_58 : decode cX11_story 58 = .ok (.ireturn, 1) := by decide +kernel
theorem dX11_story_59 : decode cX11_story 59 = .ok (.aload_n 0, 1) := by decide +kernel
theorem dX11_story_60 : decode cX11_story 60 = .ok (.getfield 95, 3) := by decide +kernel
theorem dX11_story_63 : decode cX11_story 63 = .ok (.iload_n 2, 1) := by decide +kernel
theorem dX11_story_64 : decode cX11_story 64 = .ok (.iload_n 1, 1) := by decide +kernel
theorem dX11_story_65 : decode cX11_story 65 = .ok (.invokevirtual 384, 3) := by decide +kernel
theorem dX11_story_68 : decode cX11_story 68 = .ok (.ifCond .eq 7, 3) := by decide +kernel
theorem dX11_story_71 : decode cX11_story 71 = .ok (.iconst 1, 1) := by decide +kernel
theorem dX11_story_72 : decode cX11_story 72 = .ok (.goto 4, 3) := by decide +kernel
theorem dX11_story_75 : decode cX11_story 75 = .ok (.iconst 0, 1) := by decide +kernel
theorem dX11_story_76 : decode cX11_story 76 = .ok (.ireturn, 1) := by decide +kernel
theorem dX11_near_0 : decode cX11_near 0 = .ok (.aload_n 0, 1) := by decide +kernel
theorem dX11_near_1 : decode cX11_near 1 = .ok (.iload_n 1, 1) := by decide +kernel
theorem dX11_near_2 : decode cX11_near 2 = .ok (.iload_n 2, 1) := by decide +kernel
theorem dX11_near_3 : decode cX11_near 3 = .ok (.invokevirtual 387, 3) := by decide +kernel
theorem dX11_near_6 : decode cX11_near 6 = .ok (.ifCond .ne 7, 3) := by decide +kernel
theorem dX11_near_9 : decode cX11_near 9 = .ok (.sipush (-1001), 3) := by decide +kernel
theorem dX11_near_12 : decode cX11_near 12 = .ok (.ireturn, 1) := by decide +kernel
theorem dX11_near_13 : decode cX11_near 13 = .ok (.aload_n 0, 1) := by decide +kernel
theorem dX11_near_14 : decode cX11_near 14 = .ok (.getfield 19, 3) := by decide +kernel
theorem dX11_near_17 : decode cX11_near 17 = .ok (.getfield 354, 3) := by decide +kernel
theorem dX11_near_20 : decode cX11_near 20 = .ok (.iload_n 1, 1) := by decide +kernel
theorem dX11_near_21 : decode cX11_near 21 = .ok (.laload, 1) := by decide +kernel
theorem dX11_near_22 : decode cX11_near 22 = .ok (.aload_n 0, 1) := by decide +kernel
theorem dX11_near_23 : decode cX11_near 23 = .ok (.getfield 19, 3) := by decide +kernel
theorem dX11_near_26 : decode cX11_near 26 = .ok (.getfield 354, 3) := by decide +kernel
theorem dX11_near_29 : decode cX11_near 29 = .ok (.iload_n 2, 1) := by decide +kernel
theorem dX11_near_30 : decode cX11_near 30 = .ok (.laload, 1) := by decide +kernel
theorem dX11_near_31 : decode cX11_near 31 = .ok (.invokestatic 390, 3) := by decide +kernel
theorem dX11_near_34 : decode cX11_near 34 = .ok (.ireturn, 1) := by decide +kernel
theorem dX11_join_0 : decode cX11_join 0 = .ok (.aload_n 0, 1) := by decide +kernel
theorem dX11_join_1 : decode cX11_join 1 = .ok (.iload_n 1, 1) := by decide +kernel
theorem dX11_join_2 : decode cX11_join 2 = .ok (.iload_n 2, 1) := by decide +kernel
theorem dX11_join_3 : decode cX11_join 3 = .ok (.invokevirtual 387, 3) := by decide +kernel
theorem dX11_join_6 : decode cX11_join 6 = .ok (.ifCond .ne 7, 3) := by decide +kernel
theorem dX11_join_9 : decode cX11_join 9 = .ok (.sipush (-1001), 3) := by decide +kernel
theorem dX11_join_12 : decode cX11_join 12 = .ok (.ireturn, 1) := by decide +kernel
theorem dX11_join_13 : decode cX11_join 13 = .ok (.aload_n 0, 1) := by decide +kernel
theorem dX11_join_14 : decode cX11_join 14 = .ok (.getfield 19, 3) := by decide +kernel
theorem dX11_join_17 : decode cX11_join 17 = .ok (.getfield 164, 3) := by decide +kernel
theorem dX11_join_20 : decode cX11_join 20 = .ok (.iload_n 1, 1) := by decide +kernel
theorem dX11_join_21 : decode cX11_join 21 = .ok (.iaload, 1) := by decide +kernel
theorem dX11_join_22 : decode cX11_join 22 = .ok (.iconst (-1), 1) := by decide +kernel
theorem dX11_join_23 : decode cX11_join 23 = .ok (.if_icmp .eq 7, 3) := by decide +kernel
theorem dX11_join_26 : decode cX11_join 26 = .ok (.sipush (-1003), 3) := by decide +kernel
theorem dX11_join_29 : decode cX11_join 29 = .ok (.ireturn, 1) := by decide +kernel
theorem dX11_join_30 : decode cX11_join 30 = .ok (.aload_n 0, 1) := by decide +kernel
theorem dX11_join_31 : decode cX11_join 31 = .ok (.getfield 19, 3) := by decide +kernel
theorem dX11_join_34 : decode cX11_join 34 = .ok (.getfield 156, 3) := by decide +kernel
theorem dX11_join_37 : decode cX11_join 37 = .ok (.iload_n 1, 1) := by decide +kernel
theorem dX11_join_38 : decode cX11_join 38 = .ok (.iaload, 1) := by decide +kernel
theorem dX11_join_39 : decode cX11_join 39 = .ok (.aload_n 0, 1) := by decide +kernel
theorem dX11_join_40 : decode cX11_join 40 = .ok (.getfield 19, 3) := by decide +kernel
theorem dX11_join_43 : decode cX11_join 43 = .ok (.iload_n 1, 1) := by decide +kernel
theorem dX11_join_44 : decode cX11_join 44 = .ok (.iload_n 2, 1) := by decide +kernel
theorem dX11_join_45 : decode cX11_join 45 = .ok (.invokevirtual 394, 3) := by decide +kernel
theorem dX11_join_48 : decode cX11_join 48 = .ok (.iadd, 1) := by decide +kernel
theorem dX11_join_49 : decode cX11_join 49 = .ok (.bipush 6, 2) := by decide +kernel
theorem dX11_join_51 : decode cX11_join 51 = .ok (.if_icmp .le 7, 3) := by decide +kernel
theorem dX11_join_54 : decode cX11_join 54 = .ok (.sipush (-1004), 3) := by decide +kernel
theorem dX11_join_57 : decode cX11_join 57 = .ok (.ireturn, 1) := by decide +kernel
theorem dX11_join_58 : decode cX11_join 58 = .ok (.aload_n 0, 1) := by decide +kernel
theorem dX11_join_59 : decode cX11_join 59 = .ok (.getfield 19, 3) := by decide +kernel
theorem dX11_join_62 : decode cX11_join 62 = .ok (.iload_n 1, 1) := by decide +kernel
theorem dX11_join_63 : decode cX11_join 63 = .ok (.iload_n 2, 1) := by decide +kernel
theorem dX11_join_64 : decode cX11_join 64 = .ok (.invokevirtual 397, 3) := by decide +kernel
theorem dX11_join_67 : decode cX11_join 67 = .ok (.aload_n 0, 1) := by decide +kernel
theorem dX11_join_68 : decode cX11_join 68 = .ok (.getfield 19, 3) := by decide +kernel
theorem dX11_join_71 : decode cX11_join 71 = .ok (.iload_n 1, 1) := by decide +kernel
theorem dX11_join_72 : decode cX11_join 72 = .ok (.iload_n 2, 1) := by decide +kernel
theorem dX11_join_73 : decode cX11_join 73 = .ok (.invokevirtual 400, 3) := by decide +kernel
theorem dX11_join_76 : decode cX11_join 76 = .ok (.aload_n 0, 1) := by decide +kernel
theorem dX11_join_77 : decode cX11_join 77 = .ok (.iconst 0, 1) := by decide +kernel
theorem dX11_join_78 : decode cX11_join 78 = .ok (.putfield 57, 3) := by decide +kernel
theorem dX11_join_81 : decode cX11_join 81 = .ok (.aload_n 0, 1) := by decide +kernel
theorem dX11_join_82 : decode cX11_join 82 = .ok (.getfield 19, 3) := by decide +kernel
theorem dX11_join_85 : decode cX11_join 85 = .ok (.iload_n 1, 1) := by decide +kernel
theorem dX11_join_86 : decode cX11_join 86 = .ok (.invokevirtual 403, 3) := by decide +kernel
theorem dX11_join_89 : decode cX11_join 89 = .ok (.ireturn, 1) := by decide +kernel
theorem dX11_keep_0 : decode cX11_keep 0 = .ok (.iload_n 1, 1) := by decide +kernel
theorem dX11_keep_1 : decode cX11_keep 1 = .ok (.invokestatic 348, 3) := by decide +kernel
theorem dX11_keep_4 : decode cX11_keep 4 = .ok (.ifCond .ne 7, 3) := by decide +kernel
theorem dX11_keep_7 : decode cX11_keep 7 = .ok (.sipush (-1001), 3) := by decide +kernel
theorem dX11_keep_10 : decode cX11_keep 10 = .ok (.ireturn, 1) := by decide +kernel
theorem dX11_keep_11 : decode cX11_keep 11 = .ok (.aload_n 0, 1) := by decide +kernel
theorem dX11_keep_12 : decode cX11_keep 12 = .ok (.getfield 23, 3) := by decide +kernel
theorem dX11_keep_15 : decode cX11_keep 15 = .ok (.iload_n 1, 1) := by decide +kernel
theorem dX11_keep_16 : decode cX11_keep 16 = .ok (.aaload, 1) := by decide +kernel
theorem dX11_keep_17 : decode cX11_keep 17 = .ok (.aload_n 0, 1) := by decide +kernel
theorem dX11_keep_18 : decode cX11_keep 18 = .ok (.getfield 19, 3) := by decide +kernel
theorem dX11_keep_21 : decode cX11_keep 21 = .ok (.invokevirtual 406, 3) := by decide +kernel
theorem dX11_keep_24 : decode cX11_keep 24 = .ok (.aload_n 0, 1) := by decide +kernel
theorem dX11_keep_25 : decode cX11_keep 25 = .ok (.getfield 23, 3) := by decide +kernel
theorem dX11_keep_28 : decode cX11_keep 28 = .ok (.iload_n 1, 1) := by decide +kernel
theorem dX11_keep_29 : decode cX11_keep 29 = .ok (.aaload, 1) := by decide +kernel
theorem dX11_keep_30 : decode cX11_keep 30 = .ok (.iconst 1, 1) := by decide +kernel
theorem dX11_keep_31 : decode cX11_keep 31 = .ok (.putfield 351, 3) := by decide +kernel
theorem dX11_keep_34 : decode cX11_keep 34 = .ok (.iconst 1, 1) := by decide +kernel
theorem dX11_keep_35 : decode cX11_keep 35 = .ok (.ireturn, 1) := by decide +kernel
theorem dX11_goBack_0 : decode cX11_goBack 0 = .ok (.iload_n 1, 1) := by decide +kernel
theorem dX11_goBack_1 : decode cX11_goBack 1 = .ok (.invokestatic 348, 3) := by decide +kernel
theorem dX11_goBack_4 : decode cX11_goBack 4 = .ok (.ifCond .ne 7, 3) := by decide +kernel
theorem dX11_goBack_7 : decode cX11_goBack 7 = .ok (.sipush (-1001), 3) := by decide +kernel
theorem dX11_goBack_10 : decode cX11_goBack 10 = .ok (.ireturn, 1) := by decide +kernel
theorem dX11_goBack_11 : decode cX11_goBack 11 = .ok (.aload_n 0, 1) := by decide +kernel
theorem dX11_goBack_12 : decode cX11_goBack 12 = .ok (.getfield 23, 3) := by decide +kernel
theorem dX11_goBack_15 : decode cX11_goBack 15 = .ok (.iload_n 1, 1) := by decide +kernel
theorem dX11_goBack_16 : decode cX11_goBack 16 = .ok (.aaload, 1) := by decide +kernel
theorem dX11_goBack_17 : decode cX11_goBack 17 = .ok (.getfield 351, 3) := by decide +kernel
theorem dX11_goBack_20 : decode cX11_goBack 20 = .ok (.ifCond .ne 7, 3) := by decide +kernel
theorem dX11_goBack_23 : decode cX11_goBack 23 = .ok (.sipush (-1003), 3) := by decide +kernel
theorem dX11_goBack_26 : decode cX11_goBack 26 = .ok (.ireturn, 1) := by decide +kernel
theorem dX11_goBack_27 : decode cX11_goBack 27 = .ok (.aload_n 0, 1) := by decide +kernel
theorem dX11_goBack_28 : decode cX11_goBack 28 = .ok (.getfield 19, 3) := by decide +kernel
theorem dX11_goBack_31 : decode cX11_goBack 31 = .ok (.aload_n 0, 1) := by decide +kernel
theorem dX11_goBack_32 : decode cX11_goBack 32 = .ok (.getfield 23, 3) := by decide +kernel
theorem dX11_goBack_35 : decode cX11_goBack 35 = .ok (.iload_n 1, 1) := by decide +kernel
theorem dX11_goBack_36 : decode cX11_goBack 36 = .ok (.aaload, 1) := by decide +kernel
theorem dX11_goBack_37 : decode cX11_goBack 37 = .ok (.invokevirtual 406, 3) := by decide +kernel
theorem dX11_goBack_40 : decode cX11_goBack 40 = .ok (.aload_n 0, 1) := by decide +kernel
theorem dX11_goBack_41 : decode cX11_goBack 41 = .ok (.iconst 0, 1) := by decide +kernel
theorem dX11_goBack_42 : decode cX11_goBack 42 = .ok (.putfield 57, 3) := by decide +kernel
theorem dX11_goBack_45 : decode cX11_goBack 45 = .ok (.iconst 1, 1) := by decide +kernel
theorem dX11_goBack_46 : decode cX11_goBack 46 = .ok (.ireturn, 1) := by decide +kernel
theorem dX11_areTwoHeads_0 : decode cX11_areTwoHeads 0 = .ok (.aload_n 0, 1) := by decide +kernel
theorem dX11_areTwoHeads_1 : decode cX11_areTwoHeads 1 = .ok (.getfield 19, 3) := by decide +kernel
theorem dX11_areTwoHeads_4 : decode cX11_areTwoHeads 4 = .ok (.iload_n 1, 1) := by decide +kernel
theorem dX11_areTwoHeads_5 : decode cX11_areTwoHeads 5 = .ok (.invokevirtual 152, 3) := by decide +kernel
theorem dX11_areTwoHeads_8 : decode cX11_areTwoHeads 8 = .ok (.ifCond .eq 23, 3) := by decide +kernel
theorem dX11_areTwoHeads_11 : decode cX11_areTwoHeads 11 = .ok (.aload_n 0, 1) := by decide +kernel
theorem dX11_areTwoHeads_12 : decode cX11_areTwoHeads 12 = .ok (.getfield 19, 3) := by decide +kernel
theorem dX11_areTwoHeads_15 : decode cX11_areTwoHeads 15 = .ok (.iload_n 2, 1) := by decide +kernel
theorem dX11_areTwoHeads_16 : decode cX11_areTwoHeads 16 = .ok (.invokevirtual 152, 3) := by decide +kernel
theorem dX11_areTwoHeads_19 : decode cX11_areTwoHeads 19 = .ok (.ifCond .eq 12, 3) := by decide +kernel
theorem dX11_areTwoHeads_22 : decode cX11_areTwoHeads 22 = .ok (.iload_n 1, 1) := by decide +kernel
theorem dX11_areTwoHeads_23 : decode cX11_areTwoHeads 23 = .ok (.iload_n 2, 1) := by decide +kernel
theorem dX11_areTwoHeads_24 : decode cX11_areTwoHeads 24 = .ok (.if_icmp .eq 7, 3) := by decide +kernel
theorem dX11_areTwoHeads_27 : decode cX11_areTwoHeads 27 = .ok (.iconst 1, 1) := by decide +kernel
theorem dX11_areTwoHeads_28 : decode cX11_areTwoHeads 28 = .ok (.goto 4, 3) := by decide +kernel
theorem dX11_areTwoHeads_31 : decode cX11_areTwoHeads 31 = .ok (.iconst 0, 1) := by decide +kernel
theorem dX11_areTwoHeads_32 : decode cX11_areTwoHeads 32 = .ok (.ireturn, 1) := by decide +kernel
theorem dX11_isPage_0 : decode cX11_isPage 0 = .ok (.iload_n 0, 1) := by decide +kernel
theorem dX11_isPage_1 : decode cX11_isPage 1 = .ok (.iconst 1, 1) := by decide +kernel
theorem dX11_isPage_2 : decode cX11_isPage 2 = .ok (.if_icmp .lt 13, 3) := by decide +kernel
theorem dX11_isPage_5 : decode cX11_isPage 5 = .ok (.iload_n 0, 1) := by decide +kernel
theorem dX11_isPage_6 : decode cX11_isPage 6 = .ok (.bipush 99, 2) := by decide +kernel
theorem dX11_isPage_8 : decode cX11_isPage 8 = .ok (.if_icmp .gt 7, 3) := by decide +kernel
theorem dX11_isPage_11 : decode cX11_isPage 11 = .ok (.iconst 1, 1) := by decide +kernel
theorem dX11_isPage_12 : decode cX11_isPage 12 = .ok (.goto 4, 3) := by decide +kernel
theorem dX11_isPage_15 : decode cX11_isPage 15 = .ok (.iconst 0, 1) := by decide +kernel
theorem dX11_isPage_16 : decode cX11_isPage 16 = .ok (.ireturn, 1) := by decide +kernel
theorem dX11_isImage_0 : decode cX11_isImage 0 = .ok (.iload_n 0, 1) := by decide +kernel
theorem dX11_isImage_1 : decode cX11_isImage 1 = .ok (.ifCond .lt 12, 3) := by decide +kernel
theorem dX11_isImage_4 : decode cX11_isImage 4 = .ok (.iload_n 0, 1) := by decide +kernel
theorem dX11_isImage_5 : decode cX11_isImage 5 = .ok (.iconst 2, 1) := by decide +kernel
theorem dX11_isImage_6 : decode cX11_isImage 6 = .ok (.if_icmp .ge 7, 3) := by decide +kernel
theorem dX11_isImage_9 : decode cX11_isImage 9 = .ok (.iconst 1, 1) := by decide +kernel
theorem dX11_isImage_10 : decode cX11_isImage 10 = .ok (.goto 4, 3) := by decide +kernel
theorem dX11_isImage_13 : decode cX11_isImage 13 = .ok (.iconst 0, 1) := by decide +kernel
theorem dX11_isImage_14 : decode cX11_isImage 14 = .ok (.ireturn, 1) := by decide +kernel
theorem dX11_isIn_0 : decode cX11_isIn 0 = .ok (.iload_n 0, 1) := by decide +kernel
theorem dX11_isIn_1 : decode cX11_isIn 1 = .ok (.iload_n 1, 1) := by decide +kernel
theorem dX11_isIn_2 : decode cX11_isIn 2 = .ok (.ishr, 1) := by decide +kernel
theorem dX11_isIn_3 : decode cX11_isIn 3 = .ok (.iconst 1, 1) := by decide +kernel
theorem dX11_isIn_4 : decode cX11_isIn 4 = .ok (.iand, 1) := by decide +kernel
theorem dX11_isIn_5 : decode cX11_isIn 5 = .ok (.iconst 1, 1) := by decide +kernel
theorem dX11_isIn_6 : decode cX11_isIn 6 = .ok (.if_icmp .ne 7, 3) := by decide +kernel
theorem dX11_isIn_9 : decode cX11_isIn 9 = .ok (.iconst 1, 1) := by decide +kernel
theorem dX11_isIn_10 : decode cX11_isIn 10 = .ok (.goto 4, 3) := by decide +kernel
theorem dX11_isIn_13 : decode cX11_isIn 13 = .ok (.iconst 0, 1) := by decide +kernel
theorem dX11_isIn_14 : decode cX11_isIn 14 = .ok (.ireturn, 1) := by decide +kernel
