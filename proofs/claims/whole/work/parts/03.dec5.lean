theorem dX12_head_1 : decode cX12_head 1 = .ok (.iload_n 1, 1) := by decide +kernel
theorem dX12_head_2 : decode cX12_head 2 = .ok (.invokevirtual 293, 3) := by decide +kernel
theorem dX12_head_5 : decode cX12_head 5 = .ok (.ifCond .eq 7, 3) := by decide +kernel
theorem dX12_head_8 : decode cX12_head 8 = .ok (.sipush (-1001), 3) := by decide +kernel
theorem dX12_head_11 : decode cX12_head 11 = .ok (.ireturn, 1) := by decide +kernel
theorem dX12_head_12 : decode cX12_head 12 = .ok (.iload_n 2, 1) := by decide +kernel
theorem dX12_head_13 : decode cX12_head 13 = .ok (.tableswitch 98 0 6 #[43, 50, 61, 68, 75, 82, 91], 43) := by decide +kernel
theorem dX12_head_56 : decode cX12_head 56 = .ok (.aload_n 0, 1) := by decide +kernel
theorem dX12_head_57 : decode cX12_head 57 = .ok (.getfield 7, 3) := by decide +kernel
theorem dX12_head_60 : decode cX12_head 60 = .ok (.iload_n 1, 1) := by decide +kernel
theorem dX12_head_61 : decode cX12_head 61 = .ok (.iaload, 1) := by decide +kernel
theorem dX12_head_62 : decode cX12_head 62 = .ok (.ireturn, 1) := by decide +kernel
theorem dX12_head_63 : decode cX12_head 63 = .ok (.aload_n 0, 1) := by decide +kernel
theorem dX12_head_64 : decode cX12_head 64 = .ok (.iload_n 1, 1) := by decide +kernel
theorem dX12_head_65 : decode cX12_head 65 = .ok (.iconst (-1), 1) := by decide +kernel
theorem dX12_head_66 : decode cX12_head 66 = .ok (.invokevirtual 296, 3) := by decide +kernel
theorem dX12_head_69 : decode cX12_head 69 = .ok (.aload_n 0, 1) := by decide +kernel
theorem dX12_head_70 : decode cX12_head 70 = .ok (.invokevirtual 300, 3) := by decide +kernel
theorem dX12_head_73 : decode cX12_head 73 = .ok (.ireturn, 1) := by decide +kernel
theorem dX12_head_74 : decode cX12_head 74 = .ok (.aload_n 0, 1) := by decide +kernel
theorem dX12_head_75 : decode cX12_head 75 = .ok (.getfield 19, 3) := by decide +kernel
theorem dX12_head_78 : decode cX12_head 78 = .ok (.iload_n 1, 1) := by decide +kernel
theorem dX12_head_79 : decode cX12_head 79 = .ok (.iaload, 1) := by decide +kernel
theorem dX12_head_80 : decode cX12_head 80 = .ok (.ireturn, 1) := by decide +kernel
theorem dX12_head_81 : decode cX12_head 81 = .ok (.aload_n 0, 1) := by decide +kernel
theorem dX12_head_82 : decode cX12_head 82 = .ok (.getfield 22, 3) := by decide +kernel
theorem dX12_head_85 : decode cX12_head 85 = .ok (.iload_n 1, 1) := by decide +kernel
theorem dX12_head_86 : decode cX12_head 86 = .ok (.iaload, 1) := by decide +kernel
theorem dX12_head_87 : decode cX12_head 87 = .ok (.ireturn, 1) := by decide +kernel
theorem dX12_head_88 : decode cX12_head 88 = .ok (.aload_n 0, 1) := by decide +kernel
theorem dX12_head_89 : decode cX12_head 89 = .ok (.getfield 25, 3) := by decide +kernel
theorem dX12_head_92 : decode cX12_head 92 = .ok (.iload_n 1, 1) := by decide +kernel
theorem dX12_head_93 : decode cX12_head 93 = .ok (.iaload, 1) := by decide +kernel
theorem dX12_head_94 : decode cX12_head 94 = .ok (.ireturn, 1) := by decide +kernel
theorem dX12_head_95 : decode cX12_head 95 = .ok (.aload_n 0, 1) := by decide +kernel
theorem dX12_head_96 : decode cX12_head 96 = .ok (.iload_n 1, 1) := by decide +kernel
theorem dX12_head_97 : decode cX12_head 97 = .ok (.invokevirtual 278, 3) := by decide +kernel
theorem dX12_head_100 : decode cX12_head 100 = .ok (.invokestatic 271, 3) := by decide +kernel
theorem dX12_head_103 : decode cX12_head 103 = .ok (.ireturn, 1) := by decide +kernel
theorem dX12_head_104 : decode cX12_head 104 = .ok (.aload_n 0, 1) := by decide +kernel
theorem dX12_head_105 : decode cX12_head 105 = .ok (.iload_n 1, 1) := by decide +kernel
theorem dX12_head_106 : decode cX12_head 106 = .ok (.iconst 0, 1) := by decide +kernel
theorem dX12_head_107 : decode cX12_head 107 = .ok (.invokevirtual 303, 3) := by decide +kernel
theorem dX12_head_110 : decode cX12_head 110 = .ok (.ireturn, 1) := by decide +kernel
theorem dX12_head_111 : decode cX12_head 111 = .ok (.sipush (-1002), 3) := by decide +kernel
theorem dX12_head_114 : decode cX12_head 114 = .ok (.ireturn, 1) := by decide +kernel
theorem dX12_name_0 : decode cX12_name 0 = .ok (.aload_n 0, 1) := by decide +kernel
theorem dX12_name_1 : decode cX12_name 1 = .ok (.iload_n 1, 1) := by decide +kernel
theorem dX12_name_2 : decode cX12_name 2 = .ok (.invokevirtual 293, 3) := by decide +kernel
theorem dX12_name_5 : decode cX12_name 5 = .ok (.ifCond .ne 12, 3) := by decide +kernel
theorem dX12_name_8 : decode cX12_name 8 = .ok (.aload_n 0, 1) := by decide +kernel
theorem dX12_name_9 : decode cX12_name 9 = .ok (.iload_n 1, 1) := by decide +kernel
theorem dX12_name_10 : decode cX12_name 10 = .ok (.iload_n 2, 1) := by decide +kernel
theorem dX12_name_11 : decode cX12_name 11 = .ok (.invokevirtual 306, 3) := by decide +kernel
theorem dX12_name_14 : decode cX12_name 14 = .ok (.ifCond .eq 7, 3) := by decide +kernel
theorem dX12_name_17 : decode cX12_name 17 = .ok (.sipush (-1001), 3) := by decide +kernel
theorem dX12_name_20 : decode cX12_name 20 = .ok (.ireturn, 1) := by decide +kernel
theorem dX12_name_21 : decode cX12_name 21 = .ok (.iload_n 1, 1) := by decide +kernel
theorem dX12_name_22 : decode cX12_name 22 = .ok (.iload_n 2, 1) := by decide +kernel
theorem dX12_name_23 : decode cX12_name 23 = .ok (.invokestatic 195, 3) := by decide +kernel
theorem dX12_name_26 : decode cX12_name 26 = .ok (.istore 4, 2) := by decide +kernel
theorem dX12_name_28 : decode cX12_name 28 = .ok (.iload_n 3, 1) := by decide +kernel
theorem dX12_name_29 : decode cX12_name 29 = .ok (.iconst (-1), 1) := by decide +kernel
theorem dX12_name_30 : decode cX12_name 30 = .ok (.if_icmp .ne 13, 3) := by decide +kernel
theorem dX12_name_33 : decode cX12_name 33 = .ok (.aload_n 0, 1) := by decide +kernel
theorem dX12_name_34 : decode cX12_name 34 = .ok (.getfield 13, 3) := by decide +kernel
theorem dX12_name_37 : decode cX12_name 37 = .ok (.iload 4, 2) := by decide +kernel
theorem dX12_name_39 : decode cX12_name 39 = .ok (.iaload, 1) := by decide +kernel
theorem dX12_name_40 : decode cX12_name 40 = .ok (.goto 38, 3) := by decide +kernel
theorem dX12_name_43 : decode cX12_name 43 = .ok (.iload_n 3, 1) := by decide +kernel
theorem dX12_name_44 : decode cX12_name 44 = .ok (.i2l, 1) := by decide +kernel
theorem dX12_name_45 : decode cX12_name 45 = .ok (.lconst 0, 1) := by decide +kernel
theorem dX12_name_46 : decode cX12_name 46 = .ok (.aload_n 0, 1) := by decide +kernel
theorem dX12_name_47 : decode cX12_name 47 = .ok (.getfield 13, 3) := by decide +kernel
theorem dX12_name_50 : decode cX12_name 50 = .ok (.iload 4, 2) := by decide +kernel
theorem dX12_name_52 : decode cX12_name 52 = .ok (.iaload, 1) := by decide +kernel
theorem dX12_name_53 : decode cX12_name 53 = .ok (.iconst 1, 1) := by decide +kernel
theorem dX12_name_54 : decode cX12_name 54 = .ok (.isub, 1) := by decide +kernel
theorem dX12_name_55 : decode cX12_name 55 = .ok (.i2l, 1) := by decide +kernel
theorem dX12_name_56 : decode cX12_name 56 = .ok (.invokestatic 146, 3) := by decide +kernel
theorem dX12_name_59 : decode cX12_name 59 = .ok (.ifCond .eq 18, 3) := by decide +kernel
theorem dX12_name_62 : decode cX12_name 62 = .ok (.aload_n 0, 1) := by decide +kernel
theorem dX12_name_63 : decode cX12_name 63 = .ok (.getfield 16, 3) := by decide +kernel
theorem dX12_name_66 : decode cX12_name 66 = .ok (.bipush 12, 2) := by decide +kernel
theorem dX12_name_68 : decode cX12_name 68 = .ok (.iload 4, 2) := by decide +kernel
theorem dX12_name_70 : decode cX12_name 70 = .ok (.imul, 1) := by decide +kernel
theorem dX12_name_71 : decode cX12_name 71 = .ok (.iload_n 3, 1) := by decide +kernel
theorem dX12_name_72 : decode cX12_name 72 = .ok (.iadd, 1) := by decide +kernel
theorem dX12_name_73 : decode cX12_name 73 = .ok (.iaload, 1) := by decide +kernel
theorem dX12_name_74 : decode cX12_name 74 = .ok (.goto 4, 3) := by decide +kernel
theorem dX12_name_77 : decode cX12_name 77 = .ok (.iconst (-1), 1) := by decide +kernel
theorem dX12_name_78 : decode cX12_name 78 = .ok (.ireturn, 1) := by decide +kernel
theorem dX12_mark_0 : decode cX12_mark 0 = .ok (.iload_n 1, 1) := by decide +kernel
theorem dX12_mark_1 : decode cX12_mark 1 = .ok (.i2l, 1) := by decide +kernel
theorem dX12_mark_2 : decode cX12_mark 2 = .ok (.lconst 0, 1) := by decide +kernel
theorem dX12_mark_3 : decode cX12_mark 3 = .ok (.aload_n 0, 1) := by decide +kernel
theorem dX12_mark_4 : decode cX12_mark 4 = .ok (.getfield 210, 3) := by decide +kernel
theorem dX12_mark_7 : decode cX12_mark 7 = .ok (.iconst 1, 1) := by decide +kernel
theorem dX12_mark_8 : decode cX12_mark 8 = .ok (.isub, 1) := by decide +kernel
theorem dX12_mark_9 : decode cX12_mark 9 = .ok (.i2l, 1) := by decide +kernel
theorem dX12_mark_10 : decode cX12_mark 10 = .ok (.invokestatic 146, 3) := by decide +kernel
theorem dX12_mark_13 : decode cX12_mark 13 = .ok (.ifCond .ne 7, 3) := by decide +kernel
theorem dX12_mark_16 : decode cX12_mark 16 = .ok (.sipush (-1001), 3) := by decide +kernel
theorem dX12_mark_19 : decode cX12_mark 19 = .ok (.ireturn, 1) := by decide +kernel
theorem dX12_mark_20 : decode cX12_mark 20 = .ok (.iload_n 2, 1) := by decide +kernel
theorem dX12_mark_21 : decode cX12_mark 21 = .ok (.tableswitch 73 0 4 #[35, 42, 49, 56, 63], 35) := by decide +kernel
theorem dX12_mark_56 : decode cX12_mark 56 = .ok (.aload_n 0, 1) := by decide +kernel
theorem dX12_mark_57 : decode cX12_mark 57 = .ok (.getfield 28, 3) := by decide +kernel
theorem dX12_mark_60 : decode cX12_mark 60 = .ok (.iload_n 1, 1) := by decide +kernel
theorem dX12_mark_61 : decode cX12_mark 61 = .ok (.iaload, 1) := by decide +kernel
theorem dX12_mark_62 : decode cX12_mark 62 = .ok (.ireturn, 1) := by decide +kernel
theorem dX12_mark_63 : decode cX12_mark 63 = .ok (.aload_n 0, 1) := by decide +kernel
theorem dX12_mark_64 : decode cX12_mark 64 = .ok (.getfield 31, 3) := by decide +kernel
theorem dX12_mark_67 : decode cX12_mark 67 = .ok (.iload_n 1, 1) := by decide +kernel
theorem dX12_mark_68 : decode cX12_mark 68 = .ok (.iaload, 1) := by decide +kernel
theorem dX12_mark_69 : decode cX12_mark 69 = .ok (.ireturn, 1) := by decide +kernel
theorem dX12_mark_70 : decode cX12_mark 70 = .ok (.aload_n 0, 1) := by decide +kernel
theorem dX12_mark_71 : decode cX12_mark 71 = .ok (.getfield 34, 3) := by decide +kernel
theorem dX12_mark_74 : decode cX12_mark 74 = .ok (.iload_n 1, 1) := by decide +kernel
theorem dX12_mark_75 : decode cX12_mark 75 = .ok (.iaload, 1) := by decide +kernel
theorem dX12_mark_76 : decode cX12_mark 76 = .ok (.ireturn, 1) := by decide +kernel
theorem dX12_mark_77 : decode cX12_mark 77 = .ok (.aload_n 0, 1) := by decide +kernel
theorem dX12_mark_78 : decode cX12_mark 78 = .ok (.getfield 37, 3) := by decide +kernel
theorem dX12_mark_81 : decode cX12_mark 81 = .ok (.iload_n 1, 1) := by decide +kernel
theorem dX12_mark_82 : decode cX12_mark 82 = .ok (.iaload, 1) := by decide +kernel
theorem dX12_mark_83 : decode cX12_mark 83 = .ok (.ireturn, 1) := by decide +kernel
theorem dX12_mark_84 : decode cX12_mark 84 = .ok (.aload_n 0, 1) := by decide +kernel
theorem dX12_mark_85 : decode cX12_mark 85 = .ok (.getfield 40, 3) := by decide +kernel
theorem dX12_mark_88 : decode cX12_mark 88 = .ok (.iload_n 1, 1) := by decide +kernel
theorem dX12_mark_89 : decode cX12_mark 89 = .ok (.baload, 1) := by decide +kernel
theorem dX12_mark_90 : decode cX12_mark 90 = .ok (.invokestatic 271, 3) := by decide +kernel
theorem dX12_mark_93 : decode cX12_mark 93 = .ok (.ireturn, 1) := by decide +kernel
theorem dX12_mark_94 : decode cX12_mark 94 = .ok (.sipush (-1002), 3) := by decide +kernel
theorem dX12_mark_97 : decode cX12_mark 97 = .ok (.ireturn, 1) := by decide +kernel
theorem dX12_isPage_0 : decode cX12_isPage 0 = .ok (.iload_n 0, 1) := by decide +kernel
theorem dX12_isPage_1 : decode cX12_isPage 1 = .ok (.i2l, 1) := by decide +kernel
theorem dX12_isPage_2 : decode cX12_isPage 2 = .ok (.lconst 1, 1) := by decide +kernel
theorem dX12_isPage_3 : decode cX12_isPage 3 = .ok (.ldc2_w 309, 3) := by decide +kernel
theorem dX12_isPage_6 : decode cX12_isPage 6 = .ok (.invokestatic 146, 3) := by decide +kernel
theorem dX12_isPage_9 : decode cX12_isPage 9 = .ok (.ireturn, 1) := by decide +kernel
theorem dX12_add_0 : decode cX12_add 0 = .ok (.aload_n 0, 1) := by decide +kernel
theorem dX12_add_1 : decode cX12_add 1 = .ok (.iload_n 1, 1) := by decide +kernel
theorem dX12_add_2 : decode cX12_add 2 = .ok (.invokevirtual 293, 3) := by decide +kernel
theorem dX12_add_5 : decode cX12_add 5 = .ok (.ifCond .ne 12, 3) := by decide +kernel
theorem dX12_add_8 : decode cX12_add 8 = .ok (.aload_n 0, 1) := by decide +kernel
theorem dX12_add_9 : decode cX12_add 9 = .ok (.iload_n 1, 1) := by decide +kernel
theorem dX12_add_10 : decode cX12_add 10 = .ok (.iload_n 2, 1) := by decide +kernel
theorem dX12_add_11 : decode cX12_add 11 = .ok (.invokevirtual 306, 3) := by decide +kernel
theorem dX12_add_14 : decode cX12_add 14 = .ok (.ifCond .eq 7, 3) := by decide +kernel
theorem dX12_add_17 : decode cX12_add 17 = .ok (.sipush (-1001), 3) := by decide +kernel
theorem dX12_add_20 : decode cX12_add 20 = .ok (.ireturn, 1) := by decide +kernel
theorem dX12_add_21 : decode cX12_add 21 = .ok (.iload_n 3, 1) := by decide +kernel
theorem dX12_add_22 : decode cX12_add 22 = .ok (.invokestatic 311, 3) := by decide +kernel
theorem dX12_add_25 : decode cX12_add 25 = .ok (.ifCond .eq 17, 3) := by decide +kernel
theorem dX12_add_28 : decode cX12_add 28 = .ok (.iload 4, 2) := by decide +kernel
theorem dX12_add_30 : decode cX12_add 30 = .ok (.invokestatic 311, 3) := by decide +kernel
theorem dX12_add_33 : decode cX12_add 33 = .ok (.ifCond .eq 9, 3) := by decide +kernel
theorem dX12_add_36 : decode cX12_add 36 = .ok (.iload 4, 2) := by decide +kernel
theorem dX12_add_38 : decode cX12_add 38 = .ok (.iload_n 3, 1) := by decide +kernel
theorem dX12_add_39 : decode cX12_add 39 = .ok (.if_icmp .ge 7, 3) := by decide +kernel
theorem dX12_add_42 : decode cX12_add 42 = .ok (.sipush (-1002), 3) := by decide +kernel
theorem dX12_add_45 : decode cX12_add 45 = .ok (.ireturn, 1) := by decide +kernel
theorem dX12_add_46 : decode cX12_add 46 = .ok (.aload_n 0, 1) := by decide +kernel
theorem dX12_add_47 : decode cX12_add 47 = .ok (.getfield 210, 3) := by decide +kernel
theorem dX12_add_50 : decode cX12_add 50 = .ok (.bipush 60, 2) := by decide +kernel
theorem dX12_add_52 : decode cX12_add 52 = .ok (.if_icmp .ne 7, 3) := by decide +kernel
theorem dX12_add_55 : decode cX12_add 55 = .ok (.sipush (-1004), 3) := by decide +kernel
theorem dX12_add_58 : decode cX12_add 58 = .ok (.ireturn, 1) := by decide +kernel
theorem dX12_add_59 : decode cX12_add 59 = .ok (.aload_n 0, 1) := by decide +kernel
theorem dX12_add_60 : decode cX12_add 60 = .ok (.iload_n 1, 1) := by decide +kernel
theorem dX12_add_61 : decode cX12_add 61 = .ok (.iload_n 2, 1) := by decide +kernel
theorem dX12_add_62 : decode cX12_add 62 = .ok (.iload_n 3, 1) := by decide +kernel
theorem dX12_add_63 : decode cX12_add 63 = .ok (.iload 4, 2) := by decide +kernel
theorem dX12_add_65 : decode cX12_add 65 = .ok (.iload 5, 2) := by decide +kernel
theorem dX12_add_67 : decode cX12_add 67 = .ok (.invokevirtual 227, 3) := by decide +kernel
theorem dX12_add_70 : decode cX12_add 70 = .ok (.aload_n 0, 1) := by decide +kernel
theorem dX12_add_71 : decode cX12_add 71 = .ok (.getfield 210, 3) := by decide +kernel
theorem dX12_add_74 : decode cX12_add 74 = .ok (.iconst 1, 1) := by decide +kernel
theorem dX12_add_75 : decode cX12_add 75 = .ok (.isub, 1) := by decide +kernel
theorem dX12_add_76 : decode cX12_add 76 = .ok (.ireturn, 1) := by decide +kernel
theorem dX12_takeAway_0 : decode cX12_takeAway 0 = .ok (.iload_n 1, 1) := by decide +kernel
theorem dX12_takeAway_1 : decode cX12_takeAway 1 = .ok (.istore_n 2, 1) := by decide +kernel
theorem dX12_takeAway_2 : decode cX12_takeAway 2 = .ok (.iload_n 2, 1) := by decide +kernel
theorem dX12_takeAway_3 : decode cX12_takeAway 3 = .ok (.iconst 1, 1) := by decide +kernel
theorem dX12_takeAway_4 : decode cX12_takeAway 4 = .ok (.iadd, 1) := by decide +kernel
theorem dX12_takeAway_5 : decode cX12_takeAway 5 = .ok (.aload_n 0, 1) := by decide +kernel
theorem dX12_takeAway_6 : decode cX12_takeAway 6 = .ok (.getfield 210, 3) := by decide +kernel
theorem dX12_takeAway_9 : decode cX12_takeAway 9 = .ok (.if_icmp .ge 79, 3) := by decide +kernel
theorem dX12_takeAway_12 : decode cX12_takeAway 12 = .ok (.aload_n 0, 1) := by decide +kernel
theorem dX12_takeAway_13 : decode cX12_takeAway 13 = .ok (.getfield 28, 3) := by decide +kernel
theorem dX12_takeAway_16 : decode cX12_takeAway 16 = .ok (.iload_n 2, 1) := by decide +kernel
theorem dX12_takeAway_17 : decode cX12_takeAway 17 = .ok (.aload_n 0, 1) := by decide +kernel
theorem dX12_takeAway_18 : decode cX12_takeAway 18 = .ok (.getfield 28, 3) := by decide +kernel
theorem dX12_takeAway_21 : decode cX12_takeAway 21 = .ok (.iload_n 2, 1) := by decide +kernel
theorem dX12_takeAway_22 : decode cX12_takeAway 22 = .ok (.iconst 1, 1) := by decide +kernel
theorem dX12_takeAway_23 : decode cX12_takeAway 23 = .ok (.iadd, 1) := by decide +kernel
theorem dX12_takeAway_24 : decode cX12_takeAway 24 = .ok (.iaload, 1) := by decide +kernel
theorem dX12_takeAway_25 : decode cX12_takeAway 25 = .ok (.iastore, 1) := by decide +kernel
theorem dX12_takeAway_26 : decode cX12_takeAway 26 = .ok (.aload_n 0, 1) := by decide +kernel
theorem dX12_takeAway_27 : decode cX12_takeAway 27 = .ok (.getfield 31, 3) := by decide +kernel
theorem dX12_takeAway_30 : decode cX12_takeAway 30 = .ok (.iload_n 2, 1) := by decide +kernel
theorem dX12_takeAway_31 : decode cX12_takeAway 31 = .ok (.aload_n 0, 1) := by decide +kernel
theorem dX12_takeAway_32 : decode cX12_takeAway 32 = .ok (.getfield 31, 3) := by decide +kernel
theorem dX12_takeAway_35 : decode cX12_takeAway 35 = .ok (.iload_n 2, 1) := by decide +kernel
theorem dX12_takeAway_36 : decode cX12_takeAway 36 = .ok (.iconst 1, 1) := by decide +kernel
theorem dX12_takeAway_37 : decode cX12_takeAway 37 = .ok (.iadd, 1) := by decide +kernel
theorem dX12_takeAway_38 : decode cX12_takeAway 38 = .ok (.iaload, 1) := by decide +kernel
theorem dX12_takeAway_39 : decode cX12_takeAway 39 = .ok (.iastore, 1) := by decide +kernel
theorem dX12_takeAway_40 : decode cX12_takeAway 40 = .ok (.aload_n 0, 1) := by decide +kernel
theorem dX12_takeAway_41 : decode cX12_takeAway 41 = .ok (.getfield 34, 3) := by decide +kernel
theorem dX12_takeAway_44 : decode cX12_takeAway 44 = .ok (.iload_n 2, 1) := by decide +kernel
theorem dX12_takeAway_45 : decode cX12_takeAway 45 = .ok (.aload_n 0, 1) := by decide +kernel
theorem dX12_takeAway_46 : decode cX12_takeAway 46 = .ok (.getfield 34, 3) := by decide +kernel
theorem dX12_takeAway_49 : decode cX12_takeAway 49 = .ok (.iload_n 2, 1) := by decide +kernel
theorem dX12_takeAway_50 : decode cX12_takeAway 50 = .ok (.iconst 1, 1) := by decide +kernel
theorem dX12_takeAway_51 : decode cX12_takeAway 51 = .ok (.iadd, 1) := by decide +kernel
theorem dX12_takeAway_52 : decode cX12_takeAway 52 = .ok (.iaload, 1) := by decide +kernel
theorem dX12_takeAway_53 : decode cX12_takeAway 53 = .ok (.iastore, 1) := by decide +kernel
theorem dX12_takeAway_54 : decode cX12_takeAway 54 = .ok (.aload_n 0, 1) := by decide +kernel
theorem dX12_takeAway_55 : decode cX12_takeAway 55 = .ok (.getfield 37, 3) := by decide +kernel
theorem dX12_takeAway_58 : decode cX12_takeAway 58 = .ok (.iload_n 2, 1) := by decide +kernel
theorem dX12_takeAway_59 : decode cX12_takeAway 59 = .ok (.aload_n 0, 1) := by decide +kernel
theorem dX12_takeAway_60 : decode cX12_takeAway 60 = .ok (.getfield 37, 3) := by decide +kernel
theorem dX12_takeAway_63 : decode cX12_takeAway 63 = .ok (.iload_n 2, 1) := by decide +kernel
theorem dX12_takeAway_64 : decode cX12_takeAway 64 = .ok (.iconst 1, 1) := by decide +kernel
theorem dX12_takeAway_65 : decode cX12_takeAway 65 = .ok (.iadd, 1) := by decide +kernel
theorem dX12_takeAway_66 : decode cX12_takeAway 66 = .ok (.iaload, 1) := by decide +kernel
theorem dX12_takeAway_67 : decode cX12_takeAway 67 = .ok (.iastore, 1) := by decide +kernel
theorem dX12_takeAway_68 : decode cX12_takeAway 68 = .ok (.aload_n 0, 1) := by decide +kernel
theorem dX12_takeAway_69 : decode cX12_takeAway 69 = .ok (.getfield 40, 3) := by decide +kernel
theorem dX12_takeAway_72 : decode cX12_takeAway 72 = .ok (.iload_n 2, 1) := by decide +kernel
theorem dX12_takeAway_73 : decode cX12_takeAway 73 = .ok (.aload_n 0, 1) := by decide +kernel
theorem dX12_takeAway_74 : decode cX12_takeAway 74 = .ok (.getfield 40, 3) := by decide +kernel
theorem dX12_takeAway_77 : decode cX12_takeAway 77 = .ok (.iload_n 2, 1) := by decide +kernel
theorem dX12_takeAway_78 : decode cX12_takeAway 78 = .ok (.iconst 1, 1) := by decide +kernel
theorem dX12_takeAway_79 : decode cX12_takeAway 79 = .ok (.iadd, 1) := by decide +kernel
theorem dX12_takeAway_80 : decode cX12_takeAway 80 = .ok (.baload, 1) := by decide +kernel
theorem dX12_takeAway_81 : decode cX12_takeAway 81 = .ok (.bastore, 1) := by decide +kernel
theorem dX12_takeAway_82 : decode cX12_takeAway 82 = .ok (.iinc 2 1, 3) := by decide +kernel
theorem dX12_takeAway_85 : decode cX12_takeAway 85 = .ok (.goto (-83), 3) := by decide +kernel
theorem dX12_takeAway_88 : decode cX12_takeAway 88 = .ok (.aload_n 0, 1) := by decide +kernel
theorem dX12_takeAway_89 : decode cX12_takeAway 89 = .ok (.dup, 1) := by decide +kernel
theorem dX12_takeAway_90 : decode cX12_takeAway 90 = .ok (.getfield 210, 3) := by decide +kernel
theorem dX12_takeAway_93 : decode cX12_takeAway 93 = .ok (.iconst 1, 1) := by decide +kernel
theorem dX12_takeAway_94 : decode cX12_takeAway 94 = .ok (.isub, 1) := by decide +kernel
theorem dX12_takeAway_95 : decode cX12_takeAway 95 = .ok (.putfield 210, 3) := by decide +kernel
theorem dX12_takeAway_98 : decode cX12_takeAway 98 = .ok (.return_, 1) := by decide +kernel
theorem dX12_drop_0 : decode cX12_drop 0 = .ok (.iload_n 1, 1) := by decide +kernel
theorem dX12_drop_1 : decode cX12_drop 1 = .ok (.i2l, 1) := by decide +kernel
theorem dX12_drop_2 : decode cX12_drop 2 = .ok (.lconst 0, 1) := by decide +kernel
theorem dX12_drop_3 : decode cX12_drop 3 = .ok (.aload_n 0, 1) := by decide +kernel
theorem dX12_drop_4 : decode cX12_drop 4 = .ok (.getfield 210, 3) := by decide +kernel
theorem dX12_drop_7 : decode cX12_drop 7 = .ok (.iconst 1, 1) := by decide +kernel
theorem dX12_drop_8 : decode cX12_drop 8 = .ok (.isub, 1) := by decide +kernel
theorem dX12_drop_9 : decode cX12_drop 9 = .ok (.i2l, 1) := by decide +kernel
theorem dX12_drop_10 : decode cX12_drop 10 = .ok (.invokestatic 146, 3) := by decide +kernel
theorem dX12_drop_13 : decode cX12_drop 13 = .ok (.ifCond .ne 7, 3) := by decide +kernel
theorem dX12_drop_16 : decode cX12_drop 16 = .ok (.sipush (-1001), 3) := by decide +kernel
theorem dX12_drop_19 : decode cX12_drop 19 = .ok (.ireturn, 1) := by decide +kernel
theorem dX12_drop_20 : decode cX12_drop 20 = .ok (.aload_n 0, 1) := by decide +kernel
theorem dX12_drop_21 : decode cX12_drop 21 = .ok (.iload_n 1, 1) := by decide +kernel
theorem dX12_drop_22 : decode cX12_drop 22 = .ok (.invokevirtual 314, 3) := by decide +kernel
theorem dX12_drop_25 : decode cX12_drop 25 = .ok (.aload_n 0, 1) := by decide +kernel
theorem dX12_drop_26 : decode cX12_drop 26 = .ok (.getfield 210, 3) := by decide +kernel
theorem dX12_drop_29 : decode cX12_drop 29 = .ok (.ireturn, 1) := by decide +kernel
theorem dX12_asked_0 : decode cX12_asked 0 = .ok (.aload_n 0, 1) := by decide +kernel
theorem dX12_asked_1 : decode cX12_asked 1 = .ok (.iload_n 1, 1) := by decide +kernel
theorem dX12_asked_2 : decode cX12_asked 2 = .ok (.invokevirtual 293, 3) := by decide +kernel
theorem dX12_asked_5 : decode cX12_asked 5 = .ok (.ifCond .eq 7, 3) := by decide +kernel
theorem dX12_asked_8 : decode cX12_asked 8 = .ok (.sipush (-1001), 3) := by decide +kernel
theorem dX12_asked_11 : decode cX12_asked 11 = .ok (.ireturn, 1) := by decide +kernel
theorem dX12_asked_12 : decode cX12_asked 12 = .ok (.iload_n 2, 1) := by decide +kernel
theorem dX12_asked_13 : decode cX12_asked 13 = .ok (.i2l, 1) := by decide +kernel
theorem dX12_asked_14 : decode cX12_asked 14 = .ok (.lconst 0, 1) := by decide +kernel
theorem dX12_asked_15 : decode cX12_asked 15 = .ok (.ldc2_w 309, 3) := by decide +kernel
theorem dX12_asked_18 : decode cX12_asked 18 = .ok (.invokestatic 146, 3) := by decide +kernel
theorem dX12_asked_21 : decode cX12_asked 21 = .ok (.ifCond .ne 7, 3) := by decide +kernel
theorem dX12_asked_24 : decode cX12_asked 24 = .ok (.sipush (-1002), 3) := by decide +kernel
theorem dX12_asked_27 : decode cX12_asked 27 = .ok (.ireturn, 1) := by decide +kernel
theorem dX12_asked_28 : decode cX12_asked 28 = .ok (.aload_n 0, 1) := by decide +kernel
theorem dX12_asked_29 : decode cX12_asked 29 = .ok (.getfield 25, 3) := by decide +kernel
theorem dX12_asked_32 : decode cX12_asked 32 = .ok (.iload_n 1, 1) := by decide +kernel
theorem dX12_asked_33 : decode cX12_asked 33 = .ok (.iaload, 1) := by decide +kernel
theorem dX12_asked_34 : decode cX12_asked 34 = .ok (.istore_n 3, 1) := by decide +kernel
theorem dX12_asked_35 : decode cX12_asked 35 = .ok (.aload_n 0, 1) := by decide +kernel
theorem dX12_asked_36 : decode cX12_asked 36 = .ok (.getfield 25, 3) := by decide +kernel
theorem dX12_asked_39 : decode cX12_asked 39 = .ok (.iload_n 1, 1) := by decide +kernel
theorem dX12_asked_40 : decode cX12_asked 40 = .ok (.iload_n 2, 1) := by decide +kernel
theorem dX12_asked_41 : decode cX12_asked 41 = .ok (.iastore, 1) := by decide +kernel
theorem dX12_asked_42 : decode cX12_asked 42 = .ok (.iload_n 3, 1) := by decide +kernel
theorem dX12_asked_43 : decode cX12_asked 43 = .ok (.ireturn, 1) := by decide +kernel
theorem dX12_tick_0 : decode cX12_tick 0 = .ok (.iconst 0, 1) := by decide +kernel
theorem dX12_tick_1 : decode cX12_tick 1 = .ok (.istore_n 3, 1) := by decide +kernel
theorem dX12_tick_2 : decode cX12_tick 2 = .ok (.iload_n 3, 1) := by decide +kernel
theorem dX12_tick_3 : decode cX12_tick 3 = .ok (.bipush 102, 2) := by decide +kernel
theorem dX12_tick_5 : decode cX12_tick 5 = .ok (.if_icmp .ge 16, 3) := by decide +kernel
theorem dX12_tick_8 : decode cX12_tick 8 = .ok (.aload_n 0, 1) := by decide +kernel
theorem dX12_tick_9 : decode cX12_tick 9 = .ok (.getfield 51, 3) := by decide +kernel
theorem dX12_tick_12 : decode cX12_tick 12 = .ok (.iload_n 3, 1) := by decide +kernel
theorem dX12_tick_13 : decode cX12_tick 13 = .ok (.iconst 0, 1) := by decide +kernel
theorem dX12_tick_14 : decode cX12_tick 14 = .ok (.iastore, 1) := by decide +kernel
theorem dX12_tick_15 : decode cX12_tick 15 = .ok (.iinc 3 1, 3) := by decide +kernel
theorem dX12_tick_18 : decode cX12_tick 18 = .ok (.goto (-16), 3) := by decide +kernel
theorem dX12_tick_21 : decode cX12_tick 21 = .ok (.iconst 0, 1) := by decide +kernel
theorem dX12_tick_22 : decode cX12_tick 22 = .ok (.istore_n 3, 1) := by decide +kernel
theorem dX12_tick_23 : decode cX12_tick 23 = .ok (.iload_n 3, 1) := by decide +kernel
theorem dX12_tick_24 : decode cX12_tick 24 = .ok (.aload_n 0, 1) := by decide +kernel
theorem dX12_tick_25 : decode cX12_tick 25 = .ok (.getfield 210, 3) := by decide +kernel
theorem dX12_tick_28 : decode cX12_tick 28 = .ok (.if_icmp .ge 68, 3) := by decide +kernel
theorem dX12_tick_31 : decode cX12_tick 31 = .ok (.aload_n 0, 1) := by decide +kernel
theorem dX12_tick_32 : decode cX12_tick 32 = .ok (.getfield 34, 3) := by decide +kernel
theorem dX12_tick_35 : decode cX12_tick 35 = .ok (.iload_n 3, 1) := by decide +kernel
theorem dX12_tick_36 : decode cX12_tick 36 = .ok (.iaload, 1) := by decide +kernel
theorem dX12_tick_37 : decode cX12_tick 37 = .ok (.istore 4, 2) := by decide +kernel
theorem dX12_tick_39 : decode cX12_tick 39 = .ok (.iload 4, 2) := by decide +kernel
theorem dX12_tick_41 : decode cX12_tick 41 = .ok (.aload_n 0, 1) := by decide +kernel
theorem dX12_tick_42 : decode cX12_tick 42 = .ok (.getfield 37, 3) := by decide +kernel
theorem dX12_tick_45 : decode cX12_tick 45 = .ok (.iload_n 3, 1) := by decide +kernel
theorem dX12_tick_46 : decode cX12_tick 46 = .ok (.iaload, 1) := by decide +kernel
theorem dX12_tick_47 : decode cX12_tick 47 = .ok (.if_icmp .gt 43, 3) := by decide +kernel
theorem dX12_tick_50 : decode cX12_tick 50 = .ok (.aload_n 0, 1) := by decide +kernel
theorem dX12_tick_51 : decode cX12_tick 51 = .ok (.iload_n 3, 1) := by decide +kernel
theorem dX12_tick_52 : decode cX12_tick 52 = .ok (.iload_n 1, 1) := by decide +kernel
theorem dX12_tick_53 : decode cX12_tick 53 = .ok (.iload_n 2, 1) := by decide +kernel
theorem dX12_tick_54 : decode cX12_tick 54 = .ok (.invokevirtual 267, 3) := by decide +kernel
theorem dX12_tick_57 : decode cX12_tick 57 = .ok (.ifCond .eq 33, 3) := by decide +kernel
theorem dX12_tick_60 : decode cX12_tick 60 = .ok (.aload_n 0, 1) := by decide +kernel
theorem dX12_tick_61 : decode cX12_tick 61 = .ok (.getfield 51, 3) := by decide +kernel
theorem dX12_tick_64 : decode cX12_tick 64 = .ok (.iload 4, 2) := by decide +kernel
theorem dX12_tick_66 : decode cX12_tick 66 = .ok (.dup2, 1) := by decide +kernel
theorem dX12_tick_67 : decode cX12_tick 67 = .ok (.iaload, 1) := by decide +kernel
theorem dX12_tick_68 : decode cX12_tick 68 = .ok (.aload_n 0, 1) := by decide +kernel
theorem dX12_tick_69 : decode cX12_tick 69 = .ok (.getfield 40, 3) := by decide +kernel
theorem dX12_tick_72 : decode cX12_tick 72 = .ok (.iload_n 3, 1) := by decide +kernel
theorem dX12_tick_73 : decode cX12_tick 73 = .ok (.baload, 1) := by decide +kernel
theorem dX12_tick_74 : decode cX12_tick 74 = .ok (.ifCond .eq 7, 3) := by decide +kernel
theorem dX12_tick_77 : decode cX12_tick 77 = .ok (.iconst 3, 1) := by decide +kernel
theorem dX12_tick_78 : decode cX12_tick 78 = .ok (.goto 4, 3) := by decide +kernel
theorem dX12_tick_81 : decode cX12_tick 81 = .ok (.iconst 1, 1) := by decide +kernel
theorem dX12_tick_82 : decode cX12_tick 82 = .ok (.ior, 1) := by decide +kernel
theorem dX12_tick_83 : decode cX12_tick 83 = .ok (.iastore, 1) := by decide +kernel
theorem dX12_tick_84 : decode cX12_tick 84 = .ok (.iinc 4 1, 3) := by decide +kernel
theorem dX12_tick_87 : decode cX12_tick 87 = .ok (.goto (-48), 3) := by decide +kernel
theorem dX12_tick_90 : decode cX12_tick 90 = .ok (.iinc 3 1, 3) := by decide +kernel
theorem dX12_tick_93 : decode cX12_tick 93 = .ok (.goto (-70), 3) := by decide +kernel
theorem dX12_tick_96 : decode cX12_tick 96 = .ok (.return_, 1) := by decide +kernel
theorem dX12_nextRun_0 : decode cX12_nextRun 0 = .ok (.aload_n 0, 1) := by decide +kernel
theorem dX12_nextRun_1 : decode cX12_nextRun 1 = .ok (.iload_n 1, 1) := by decide +kernel
theorem dX12_nextRun_2 : decode cX12_nextRun 2 = .ok (.putfield 317, 3) := by decide +kernel
theorem dX12_nextRun_5 : decode cX12_nextRun 5 = .ok (.aload_n 0, 1) := by decide +kernel
theorem dX12_nextRun_6 : decode cX12_nextRun 6 = .ok (.getfield 317, 3) := by decide +kernel
theorem dX12_nextRun_9 : decode cX12_nextRun 9 = .ok (.bipush 99, 2) := by decide +kernel
theorem dX12_nextRun_11 : decode cX12_nextRun 11 = .ok (.if_icmp .gt 28, 3) := by decide +kernel
theorem dX12_nextRun_14 : decode cX12_nextRun 14 = .ok (.aload_n 0, 1) := by decide +kernel
theorem dX12_nextRun_15 : decode cX12_nextRun 15 = .ok (.getfield 51, 3) := by decide +kernel
theorem dX12_nextRun_18 : decode cX12_nextRun 18 = .ok (.aload_n 0, 1) := by decide +kernel
theorem dX12_nextRun_19 : decode cX12_nextRun 19 = .ok (.getfield 317, 3) := by decide +kernel
theorem dX12_nextRun_22 : decode cX12_nextRun 22 = .ok (.iaload, 1) := by decide +kernel
theorem dX12_nextRun_23 : decode cX12_nextRun 23 = .ok (.ifCond .ne 16, 3) := by decide +kernel
theorem dX12_nextRun_26 : decode cX12_nextRun 26 = .ok (.aload_n 0, 1) := by decide +kernel
theorem dX12_nextRun_27 : decode cX12_nextRun 27 = .ok (.dup, 1) := by decide +kernel
theorem dX12_nextRun_28 : decode cX12_nextRun 28 = .ok (.getfield 317, 3) := by decide +kernel
theorem dX12_nextRun_31 : decode cX12_nextRun 31 = .ok (.iconst 1, 1) := by decide +kernel
theorem dX12_nextRun_32 : decode cX12_nextRun 32 = .ok (.iadd, 1) := by decide +kernel
theorem dX12_nextRun_33 : decode cX12_nextRun 33 = .ok (.putfield 317, 3) := by decide +kernel
theorem dX12_nextRun_36 : decode cX12_nextRun 36 = .ok (.goto (-31), 3) := by decide +kernel
theorem dX12_nextRun_39 : decode cX12_nextRun 39 = .ok (.aload_n 0, 1) := by decide +kernel
theorem dX12_nextRun_40 : decode cX12_nextRun 40 = .ok (.aload_n 0, 1) := by decide +kernel
theorem dX12_nextRun_41 : decode cX12_nextRun 41 = .ok (.getfield 317, 3) := by decide +kernel
theorem dX12_nextRun_44 : decode cX12_nextRun 44 = .ok (.putfield 320, 3) := by decide +kernel
theorem dX12_nextRun_47 : decode cX12_nextRun 47 = .ok (.aload_n 0, 1) := by decide +kernel
theorem dX12_nextRun_48 : decode cX12_nextRun 48 = .ok (.iconst 0, 1) := by decide +kernel
theorem dX12_nextRun_49 : decode cX12_nextRun 49 = .ok (.putfield 323, 3) := by decide +kernel
theorem dX12_nextRun_52 : decode cX12_nextRun 52 = .ok (.aload_n 0, 1) := by decide +kernel
theorem dX12_nextRun_53 : decode cX12_nextRun 53 = .ok (.getfield 320, 3) := by decide +kernel
theorem dX12_nextRun_56 : decode cX12_nextRun 56 = .ok (.bipush 99, 2) := by decide +kernel
theorem dX12_nextRun_58 : decode cX12_nextRun 58 = .ok (.if_icmp .gt 57, 3) := by decide +kernel
theorem dX12_nextRun_61 : decode cX12_nextRun 61 = .ok (.aload_n 0, 1) := by decide +kernel
theorem dX12_nextRun_62 : decode cX12_nextRun 62 = .ok (.getfield 51, 3) := by decide +kernel
theorem dX12_nextRun_65 : decode cX12_nextRun 65 = .ok (.aload_n 0, 1) := by decide +kernel
theorem dX12_nextRun_66 : decode cX12_nextRun 66 = .ok (.getfield 320, 3) := by decide +kernel
theorem dX12_nextRun_69 : decode cX12_nextRun 69 = .ok (.iaload, 1) := by decide +kernel
theorem dX12_nextRun_70 : decode cX12_nextRun 70 = .ok (.ifCond .le 45, 3) := by decide +kernel
theorem dX12_nextRun_73 : decode cX12_nextRun 73 = .ok (.aload_n 0, 1) := by decide +kernel
theorem dX12_nextRun_74 : decode cX12_nextRun 74 = .ok (.aload_n 0, 1) := by decide +kernel
theorem dX12_nextRun_75 : decode cX12_nextRun 75 = .ok (.getfield 323, 3) := by decide +kernel
theorem dX12_nextRun_78 : decode cX12_nextRun 78 = .ok (.ifCond .ne 16, 3) := by decide +kernel
theorem dX12_nextRun_81 : decode cX12_nextRun 81 = .ok (.aload_n 0, 1) := by decide +kernel
theorem dX12_nextRun_82 : decode cX12_nextRun 82 = .ok (.getfield 51, 3) := by decide +kernel
theorem dX12_nextRun_85 : decode cX12_nextRun 85 = .ok (.aload_n 0, 1) := by decide +kernel
theorem dX12_nextRun_86 : decode cX12_nextRun 86 = .ok (.getfield 320, 3) := by decide +kernel
theorem dX12_nextRun_89 : decode cX12_nextRun 89 = .ok (.iaload, 1) := by decide +kernel
theorem dX12_nextRun_90 : decode cX12_nextRun 90 = .ok (.iconst 3, 1) := by decide +kernel
theorem dX12_nextRun_91 : decode cX12_nextRun 91 = .ok (.if_icmp .ne 7, 3) := by decide +kernel
theorem dX12_nextRun_94 : decode cX12_nextRun 94 = .ok (.iconst 1, 1) := by decide +kernel
theorem dX12_nextRun_95 : decode cX12_nextRun 95 = .ok (.goto 4, 3) := by decide +kernel
theorem dX12_nextRun_98 : decode cX12_nextRun 98 = .ok (.iconst 0, 1) := by decide +kernel
theorem dX12_nextRun_99 : decode cX12_nextRun 99 = .ok (.putfield 323, 3) := by decide +kernel
theorem dX12_nextRun_102 : decode cX12_nextRun 102 = .ok (.aload_n 0, 1) := by decide +kernel
theorem dX12_nextRun_103 : decode cX12_nextRun 103 = .ok (.dup, 1) := by decide +kernel
theorem dX12_nextRun_104 : decode cX12_nextRun 104 = .ok (.getfield 320, 3) := by decide +kernel
theorem dX12_nextRun_107 : decode cX12_nextRun 107 = .ok (.iconst 1, 1) := by decide +kernel
theorem dX12_nextRun_108 : decode cX12_nextRun 108 = .ok (.iadd, 1) := by decide +kernel
theorem dX12_nextRun_109 : decode cX12_nextRun 109 = .ok (.putfield 320, 3) := by decide +kernel
theorem dX12_nextRun_112 : decode cX12_nextRun 112 = .ok (.goto (-60), 3) := by decide +kernel
theorem dX12_nextRun_115 : decode cX12_nextRun 115 = .ok (.aload_n 0, 1) := by decide +kernel
theorem dX12_nextRun_116 : decode cX12_nextRun 116 = .ok (.dup, 1) := by decide +kernel
theorem dX12_nextRun_117 : decode cX12_nextRun 117 = .ok (.getfield 320, 3) := by decide +kernel
theorem dX12_nextRun_120 : decode cX12_nextRun 120 = .ok (.iconst 1, 1) := by decide +kernel
theorem dX12_nextRun_121 : decode cX12_nextRun 121 = .ok (.isub, 1) := by decide +kernel
theorem dX12_nextRun_122 : decode cX12_nextRun 122 = .ok (.putfield 320, 3) := by decide +kernel
theorem dX12_nextRun_125 : decode cX12_nextRun 125 = .ok (.aload_n 0, 1) := by decide +kernel
theorem dX12_nextRun_126 : decode cX12_nextRun 126 = .ok (.getfield 317, 3) := by decide +kernel
theorem dX12_nextRun_129 : decode cX12_nextRun 129 = .ok (.bipush 99, 2) := by decide +kernel
theorem dX12_nextRun_131 : decode cX12_nextRun 131 = .ok (.if_icmp .gt 7, 3) := by decide +kernel
theorem dX12_nextRun_134 : decode cX12_nextRun 134 = .ok (.iconst 1, 1) := by decide +kernel
theorem dX12_nextRun_135 : decode cX12_nextRun 135 = .ok (.goto 4, 3) := by decide +kernel
theorem dX12_nextRun_138 : decode cX12_nextRun 138 = .ok (.iconst 0, 1) := by decide +kernel
theorem dX12_nextRun_139 : decode cX12_nextRun 139 = .ok (.ireturn, 1) := by decide +kernel
theorem dX12_runsTicked_0 : decode cX12_runsTicked 0 = .ok (.iconst 0, 1) := by decide +kernel
theorem dX12_runsTicked_1 : decode cX12_runsTicked 1 = .ok (.istore_n 1, 1) := by decide +kernel
theorem dX12_runsTicked_2 : decode cX12_runsTicked 2 = .ok (.iconst 1, 1) := by decide +kernel
theorem dX12_runsTicked_3 : decode cX12_runsTicked 3 = .ok (.istore_n 2, 1) := by decide +kernel
theorem dX12_runsTicked_4 : decode cX12_runsTicked 4 = .ok (.aload_n 0, 1) := by decide +kernel
theorem dX12_runsTicked_5 : decode cX12_runsTicked 5 = .ok (.iload_n 2, 1) := by decide +kernel
theorem dX12_runsTicked_6 : decode cX12_runsTicked 6 = .ok (.invokevirtual 327, 3) := by decide +kernel
theorem dX12_runsTicked_9 : decode cX12_runsTicked 9 = .ok (.ifCond .eq 16, 3) := by decide +kernel
theorem dX12_runsTicked_12 : decode cX12_runsTicked 12 = .ok (.iinc 1 1, 3) := by decide +kernel
theorem dX12_runsTicked_15 : decode cX12_runsTicked 15 = .ok (.aload_n 0, 1) := by decide +kernel
theorem dX12_runsTicked_16 : decode cX12_runsTicked 16 = .ok (.getfield 320, 3) := by decide +kernel
theorem dX12_runsTicked_19 : decode cX12_runsTicked 19 = .ok (.iconst 1, 1) := by decide +kernel
theorem dX12_runsTicked_20 : decode cX12_runsTicked 20 = .ok (.iadd, 1) := by decide +kernel
theorem dX12_runsTicked_21 : decode cX12_runsTicked 21 = .ok (.istore_n 2, 1) := by decide +kernel
theorem dX12_runsTicked_22 : decode cX12_runsTicked 22 = .ok (.goto (-18), 3) := by decide +kernel
theorem dX12_runsTicked_25 : decode cX12_runsTicked 25 = .ok (.iload_n 1, 1) := by decide +kernel
theorem dX12_runsTicked_26 : decode cX12_runsTicked 26 = .ok (.ireturn, 1) := by decide +kernel
theorem dX12_run_0 : decode cX12_run 0 = .ok (.aload_n 0, 1) := by decide +kernel
theorem dX12_run_1 : decode cX12_run 1 = .ok (.iload_n 1, 1) := by decide +kernel
theorem dX12_run_2 : decode cX12_run 2 = .ok (.invokevirtual 293, 3) := by decide +kernel
theorem dX12_run_5 : decode cX12_run 5 = .ok (.ifCond .ne 12, 3) := by decide +kernel
theorem dX12_run_8 : decode cX12_run 8 = .ok (.aload_n 0, 1) := by decide +kernel
theorem dX12_run_9 : decode cX12_run 9 = .ok (.iload_n 1, 1) := by decide +kernel
theorem dX12_run_10 : decode cX12_run 10 = .ok (.iload_n 2, 1) := by decide +kernel
theorem dX12_run_11 : decode cX12_run 11 = .ok (.invokevirtual 306, 3) := by decide +kernel
theorem dX12_run_14 : decode cX12_run 14 = .ok (.ifCond .eq 7, 3) := by decide +kernel
theorem dX12_run_17 : decode cX12_run 17 = .ok (.sipush (-1001), 3) := by decide +kernel
theorem dX12_run_20 : decode cX12_run 20 = .ok (.ireturn, 1) := by decide +kernel
theorem dX12_run_21 : decode cX12_run 21 = .ok (.iload 4, 2) := by decide +kernel
theorem dX12_run_23 : decode cX12_run 23 = .ok (.i2l, 1) := by decide +kernel
theorem dX12_run_24 : decode cX12_run 24 = .ok (.lconst 0, 1) := by decide +kernel
theorem dX12_run_25 : decode cX12_run 25 = .ok (.ldc2_w 330, 3) := by decide +kernel
theorem dX12_run_28 : decode cX12_run 28 = .ok (.invokestatic 146, 3) := by decide +kernel
theorem dX12_run_31 : decode cX12_run 31 = .ok (.ifCond .ne 7, 3) := by decide +kernel
theorem dX12_run_34 : decode cX12_run 34 = .ok (.sipush (-1002), 3) := by decide +kernel
theorem dX12_run_37 : decode cX12_run 37 = .ok (.ireturn, 1) := by decide +kernel
theorem dX12_run_38 : decode cX12_run 38 = .ok (.aload_n 0, 1) := by decide +kernel
theorem dX12_run_39 : decode cX12_run 39 = .ok (.iload_n 1, 1) := by decide +kernel
theorem dX12_run_40 : decode cX12_run 40 = .ok (.iload_n 2, 1) := by decide +kernel
theorem dX12_run_41 : decode cX12_run 41 = .ok (.invokevirtual 296, 3) := by decide +kernel
theorem dX12_run_44 : decode cX12_run 44 = .ok (.iload_n 3, 1) := by decide +kernel
theorem dX12_run_45 : decode cX12_run 45 = .ok (.iconst (-1), 1) := by decide +kernel
theorem dX12_run_46 : decode cX12_run 46 = .ok (.if_icmp .ne 8, 3) := by decide +kernel
theorem dX12_run_49 : decode cX12_run 49 = .ok (.aload_n 0, 1) := by decide +kernel
theorem dX12_run_50 : decode cX12_run 50 = .ok (.invokevirtual 300, 3) := by decide +kernel
theorem dX12_run_53 : decode cX12_run 53 = .ok (.ireturn, 1) := by decide +kernel
theorem dX12_run_54 : decode cX12_run 54 = .ok (.iconst 0, 1) := by decide +kernel
theorem dX12_run_55 : decode cX12_run 55 = .ok (.istore 5, 2) := by decide +kernel
theorem dX12_run_57 : decode cX12_run 57 = .ok (.iconst 1, 1) := by decide +kernel
theorem dX12_run_58 : decode cX12_run 58 = .ok (.istore 6, 2) := by decide +kernel
theorem dX12_run_60 : decode cX12_run 60 = .ok (.aload_n 0, 1) := by decide +kernel
theorem dX12_run_61 : decode cX12_run 61 = .ok (.iload 6, 2) := by decide +kernel
theorem dX12_run_63 : decode cX12_run 63 = .ok (.invokevirtual 327, 3) := by decide +kernel
theorem dX12_run_66 : decode cX12_run 66 = .ok (.ifCond .eq 56, 3) := by decide +kernel
theorem dX12_run_69 : decode cX12_run 69 = .ok (.iload 5, 2) := by decide +kernel
theorem dX12_run_71 : decode cX12_run 71 = .ok (.iload_n 3, 1) := by decide +kernel
theorem dX12_run_72 : decode cX12_run 72 = .ok (.if_icmp .ne 36, 3) := by decide +kernel
theorem dX12_run_75 : decode cX12_run 75 = .ok (.iload 4, 2) := by decide +kernel
theorem dX12_run_77 : decode cX12_run 77 = .ok (.ifCond .ne 10, 3) := by decide +kernel
theorem dX12_run_80 : decode cX12_run 80 = .ok (.aload_n 0, 1) := by decide +kernel
theorem dX12_run_81 : decode cX12_run 81 = .ok (.getfield 317, 3) := by decide +kernel
theorem dX12_run_84 : decode cX12_run 84 = .ok (.goto 23, 3) := by decide +kernel
theorem dX12_run_87 : decode cX12_run 87 = .ok (.iload 4, 2) := by decide +kernel
theorem dX12_run_89 : decode cX12_run 89 = .ok (.iconst 1, 1) := by decide +kernel
theorem dX12_run_90 : decode cX12_run 90 = .ok (.if_icmp .ne 10, 3) := by decide +kernel
theorem dX12_run_93 : decode cX12_run 93 = .ok (.aload_n 0, 1) := by decide +kernel
theorem dX12_run_94 : decode cX12_run 94 = .ok (.getfield 320, 3) := by decide +kernel
theorem dX12_run_97 : decode cX12_run 97 = .ok (.goto 10, 3) := by decide +kernel
theorem dX12_run_100 : decode cX12_run 100 = .ok (.aload_n 0, 1) := by decide +kernel
theorem dX12_run_101 : decode cX12_run 101 = .ok (.getfield 323, 3) := by decide +kernel
theorem dX12_run_104 : decode cX12_run 104 = .ok (.invokestatic 271, 3) := by decide +kernel
theorem dX12_run_107 : decode cX12_run 107 = .ok (.ireturn, 1) := by decide +kernel
theorem dX12_run_108 : decode cX12_run 108 = .ok (.iinc 5 1, 3) := by decide +kernel
theorem dX12_run_111 : decode cX12_run 111 = .ok (.aload_n 0, 1) := by decide +kernel
theorem dX12_run_112 : decode cX12_run 112 = .ok (.getfield 320, 3) := by decide +kernel
theorem dX12_run_115 : decode cX12_run 115 = .ok (.iconst 1, 1) := by decide +kernel
theorem dX12_run_116 : decode cX12_run 116 = .ok (.iadd, 1) := by decide +kernel
theorem dX12_run_117 : decode cX12_run 117 = .ok (.istore 6, 2) := by decide +kernel
theorem dX12_run_119 : decode cX12_run 119 = .ok (.goto (-59), 3) := by decide +kernel
theorem dX12_run_122 : decode cX12_run 122 = .ok (.iconst (-1), 1) := by decide +kernel
theorem dX12_run_123 : decode cX12_run 123 = .ok (.ireturn, 1) := by decide +kernel
theorem dX12_signAt_0 : decode cX12_signAt 0 = .ok (.iconst 0, 1) := by decide +kernel
theorem dX12_signAt_1 : decode cX12_signAt 1 = .ok (.istore_n 3, 1) := by decide +kernel
theorem dX12_signAt_2 : decode cX12_signAt 2 = .ok (.iconst 0, 1) := by decide +kernel
theorem dX12_signAt_3 : decode cX12_signAt 3 = .ok (.istore 4, 2) := by decide +kernel
theorem dX12_signAt_5 : decode cX12_signAt 5 = .ok (.iload 4, 2) := by decide +kernel
theorem dX12_signAt_7 : decode cX12_signAt 7 = .ok (.aload_n 0, 1) := by decide +kernel
theorem dX12_signAt_8 : decode cX12_signAt 8 = .ok (.getfield 13, 3) := by decide +kernel
theorem dX12_signAt_11 : decode cX12_signAt 11 = .ok (.iload_n 1, 1) := by decide +kernel
theorem dX12_signAt_12 : decode cX12_signAt 12 = .ok (.iaload, 1) := by decide +kernel
theorem dX12_signAt_13 : decode cX12_signAt 13 = .ok (.if_icmp .ge 66, 3) := by decide +kernel
theorem dX12_signAt_16 : decode cX12_signAt 16 = .ok (.aload_n 0, 1) := by decide +kernel
theorem dX12_signAt_17 : decode cX12_signAt 17 = .ok (.getfield 16, 3) := by decide +kernel
theorem dX12_signAt_20 : decode cX12_signAt 20 = .ok (.bipush 12, 2) := by decide +kernel
theorem dX12_signAt_22 : decode cX12_signAt 22 = .ok (.iload_n 1, 1) := by decide +kernel
theorem dX12_signAt_23 : decode cX12_signAt 23 = .ok (.imul, 1) := by decide +kernel
theorem dX12_signAt_24 : decode cX12_signAt 24 = .ok (.iload 4, 2) := by decide +kernel
theorem dX12_signAt_26 : decode cX12_signAt 26 = .ok (.iadd, 1) := by decide +kernel
theorem dX12_signAt_27 : decode cX12_signAt 27 = .ok (.iaload, 1) := by decide +kernel
theorem dX12_signAt_28 : decode cX12_signAt 28 = .ok (.istore 5, 2) := by decide +kernel
theorem dX12_signAt_30 : decode cX12_signAt 30 = .ok (.aload_n 0, 1) := by decide +kernel
theorem dX12_signAt_31 : decode cX12_signAt 31 = .ok (.getfield 332, 3) := by decide +kernel
theorem dX12_signAt_34 : decode cX12_signAt 34 = .ok (.iconst 1, 1) := by decide +kernel
theorem dX12_signAt_35 : decode cX12_signAt 35 = .ok (.if_icmp .eq 10, 3) := by decide +kernel
theorem dX12_signAt_38 : decode cX12_signAt 38 = .ok (.iload 5, 2) := by decide +kernel
theorem dX12_signAt_40 : decode cX12_signAt 40 = .ok (.bipush 95, 2) := by decide +kernel
theorem dX12_signAt_42 : decode cX12_signAt 42 = .ok (.if_icmp .eq 7, 3) := by decide +kernel
theorem dX12_signAt_45 : decode cX12_signAt 45 = .ok (.iconst 1, 1) := by decide +kernel
theorem dX12_signAt_46 : decode cX12_signAt 46 = .ok (.goto 4, 3) := by decide +kernel
theorem dX12_signAt_49 : decode cX12_signAt 49 = .ok (.iconst 0, 1) := by decide +kernel
theorem dX12_signAt_50 : decode cX12_signAt 50 = .ok (.istore 6, 2) := by decide +kernel
theorem dX12_signAt_52 : decode cX12_signAt 52 = .ok (.iload 6, 2) := by decide +kernel
theorem dX12_signAt_54 : decode cX12_signAt 54 = .ok (.ifCond .eq 11, 3) := by decide +kernel
theorem dX12_signAt_57 : decode cX12_signAt 57 = .ok (.iload_n 3, 1) := by decide +kernel
theorem dX12_signAt_58 : decode cX12_signAt 58 = .ok (.iload_n 2, 1) := by decide +kernel
theorem dX12_signAt_59 : decode cX12_signAt 59 = .ok (.if_icmp .ne 6, 3) := by decide +kernel
theorem dX12_signAt_62 : decode cX12_signAt 62 = .ok (.iload 5, 2) := by decide +kernel
theorem dX12_signAt_64 : decode cX12_signAt 64 = .ok (.ireturn, 1) := by decide +kernel
theorem dX12_signAt_65 : decode cX12_signAt 65 = .ok (.iload_n 3, 1) := by decide +kernel
theorem dX12_signAt_66 : decode cX12_signAt 66 = .ok (.iload 6, 2) := by decide +kernel
theorem dX12_signAt_68 : decode cX12_signAt 68 = .ok (.invokestatic 271, 3) := by decide +kernel
theorem dX12_signAt_71 : decode cX12_signAt 71 = .ok (.iadd, 1) := by decide +kernel
theorem dX12_signAt_72 : decode cX12_signAt 72 = .ok (.istore_n 3, 1) := by decide +kernel
theorem dX12_signAt_73 : decode cX12_signAt 73 = .ok (.iinc 4 1, 3) := by decide +kernel
theorem dX12_signAt_76 : decode cX12_signAt 76 = .ok (.goto (-71), 3) := by decide +kernel
theorem dX12_signAt_79 : decode cX12_signAt 79 = .ok (.iconst 0, 1) := by decide +kernel
theorem dX12_signAt_80 : decode cX12_signAt 80 = .ok (.ireturn, 1) := by decide +kernel
theorem dX12_isLess_0 : decode cX12_isLess 0 = .ok (.iconst 0, 1) := by decide +kernel
theorem dX12_isLess_1 : decode cX12_isLess 1 = .ok (.istore_n 3, 1) := by decide +kernel
theorem dX12_isLess_2 : decode cX12_isLess 2 = .ok (.iload_n 3, 1) := by decide +kernel
theorem dX12_isLess_3 : decode cX12_isLess 3 = .ok (.bipush 12, 2) := by decide +kernel
theorem dX12_isLess_5 : decode cX12_isLess 5 = .ok (.if_icmp .gt 45, 3) := by decide +kernel
theorem dX12_isLess_8 : decode cX12_isLess 8 = .ok (.aload_n 0, 1) := by decide +kernel
theorem dX12_isLess_9 : decode cX12_isLess 9 = .ok (.iload_n 1, 1) := by decide +kernel
theorem dX12_isLess_10 : decode cX12_isLess 10 = .ok (.iload_n 3, 1) := by decide +kernel
theorem dX12_isLess_11 : decode cX12_isLess 11 = .ok (.invokevirtual 335, 3) := by decide +kernel
theorem dX12_isLess_14 : decode cX12_isLess 14 = .ok (.istore 4, 2) := by decide +kernel
theorem dX12_isLess_16 : decode cX12_isLess 16 = .ok (.aload_n 0, 1) := by decide +kernel
theorem dX12_isLess_17 : decode cX12_isLess 17 = .ok (.iload_n 2, 1) := by decide +kernel
theorem dX12_isLess_18 : decode cX12_isLess 18 = .ok (.iload_n 3, 1) := by decide +kernel
theorem dX12_isLess_19 : decode cX12_isLess 19 = .ok (.invokevirtual 335, 3) := by decide +kernel
theorem dX12_isLess_22 : decode cX12_isLess 22 = .ok (.istore 5, 2) := by decide +kernel
theorem dX12_isLess_24 : decode cX12_isLess 24 = .ok (.iload 4, 2) := by decide +kernel
theorem dX12_isLess_26 : decode cX12_isLess 26 = .ok (.iload 5, 2) := by decide +kernel
theorem dX12_isLess_28 : decode cX12_isLess 28 = .ok (.if_icmp .eq 16, 3) := by decide +kernel
theorem dX12_isLess_31 : decode cX12_isLess 31 = .ok (.iload 4, 2) := by decide +kernel
theorem dX12_isLess_33 : decode cX12_isLess 33 = .ok (.iload 5, 2) := by decide +kernel
theorem dX12_isLess_35 : decode cX12_isLess 35 = .ok (.if_icmp .ge 7, 3) := by decide +kernel
theorem dX12_isLess_38 : decode cX12_isLess 38 = .ok (.iconst 1, 1) := by decide +kernel
theorem dX12_isLess_39 : decode cX12_isLess 39 = .ok (.goto 4, 3) := by decide +kernel
theorem dX12_isLess_42 : decode cX12_isLess 42 = .ok (.iconst 0, 1) := by decide +kernel
theorem dX12_isLess_43 : decode cX12_isLess 43 = .ok (.ireturn, 1) := by decide +kernel
theorem dX12_isLess_44 : decode cX12_isLess 44 = .ok (.iinc 3 1, 3) := by decide +kernel
theorem dX12_isLess_47 : decode cX12_isLess 47 = .ok (.goto (-45), 3) := by decide +kernel
theorem dX12_isLess_50 : decode cX12_isLess 50 = .ok (.iconst 0, 1) := by decide +kernel
theorem dX12_isLess_51 : decode cX12_isLess 51 = .ok (.ireturn, 1) := by decide +kernel
theorem dX12_placeOf_0 : decode cX12_placeOf 0 = .ok (.iconst 0, 1) := by decide +kernel
theorem dX12_placeOf_1 : decode cX12_placeOf 1 = .ok (.istore 5, 2) := by decide +kernel
theorem dX12_placeOf_3 : decode cX12_placeOf 3 = .ok (.iconst 0, 1) := by decide +kernel
theorem dX12_placeOf_4 : decode cX12_placeOf 4 = .ok (.istore 6, 2) := by decide +kernel
theorem dX12_placeOf_6 : decode cX12_placeOf 6 = .ok (.iload 6, 2) := by decide +kernel
theorem dX12_placeOf_8 : decode cX12_placeOf 8 = .ok (.iload_n 3, 1) := by decide +kernel
theorem dX12_placeOf_9 : decode cX12_placeOf 9 = .ok (.if_icmp .ge 86, 3) := by decide +kernel
theorem dX12_placeOf_12 : decode cX12_placeOf 12 = .ok (.aload_n 0, 1) := by decide +kernel
theorem dX12_placeOf_13 : decode cX12_placeOf 13 = .ok (.iload_n 1, 1) := by decide +kernel
theorem dX12_placeOf_14 : decode cX12_placeOf 14 = .ok (.iload_n 2, 1) := by decide +kernel
theorem dX12_placeOf_15 : decode cX12_placeOf 15 = .ok (.iload 6, 2) := by decide +kernel
theorem dX12_placeOf_17 : decode cX12_placeOf 17 = .ok (.imul, 1) := by decide +kernel
theorem dX12_placeOf_18 : decode cX12_placeOf 18 = .ok (.iadd, 1) := by decide +kernel
theorem dX12_placeOf_19 : decode cX12_placeOf 19 = .ok (.iload_n 1, 1) := by decide +kernel
theorem dX12_placeOf_20 : decode cX12_placeOf 20 = .ok (.iload_n 2, 1) := by decide +kernel
theorem dX12_placeOf_21 : decode cX12_placeOf 21 = .ok (.iload 4, 2) := by decide +kernel
theorem dX12_placeOf_23 : decode cX12_placeOf 23 = .ok (.imul, 1) := by decide +kernel
theorem dX12_placeOf_24 : decode cX12_placeOf 24 = .ok (.iadd, 1) := by decide +kernel
theorem dX12_placeOf_25 : decode cX12_placeOf 25 = .ok (.invokevirtual 338, 3) := by decide +kernel
theorem dX12_placeOf_28 : decode cX12_placeOf 28 = .ok (.ifCond .ne 29, 3) := by decide +kernel
theorem dX12_placeOf_31 : decode cX12_placeOf 31 = .ok (.iload 6, 2) := by decide +kernel
theorem dX12_placeOf_33 : decode cX12_placeOf 33 = .ok (.iload 4, 2) := by decide +kernel
theorem dX12_placeOf_35 : decode cX12_placeOf 35 = .ok (.if_icmp .ge 26, 3) := by decide +kernel
theorem dX12_placeOf_38 : decode cX12_placeOf 38 = .ok (.aload_n 0, 1) := by decide +kernel
theorem dX12_placeOf_39 : decode cX12_placeOf 39 = .ok (.iload_n 1, 1) := by decide +kernel
theorem dX12_placeOf_40 : decode cX12_placeOf 40 = .ok (.iload_n 2, 1) := by decide +kernel
theorem dX12_placeOf_41 : decode cX12_placeOf 41 = .ok (.iload 4, 2) := by decide +kernel
theorem dX12_placeOf_43 : decode cX12_placeOf 43 = .ok (.imul, 1) := by decide +kernel
theorem dX12_placeOf_44 : decode cX12_placeOf 44 = .ok (.iadd, 1) := by decide +kernel
theorem dX12_placeOf_45 : decode cX12_placeOf 45 = .ok (.iload_n 1, 1) := by decide +kernel
theorem dX12_placeOf_46 : decode cX12_placeOf 46 = .ok (.iload_n 2, 1) := by decide +kernel
theorem dX12_placeOf_47 : decode cX12_placeOf 47 = .ok (.iload 6, 2) := by decide +kernel
theorem dX12_placeOf_49 : decode cX12_placeOf 49 = .ok (.imul, 1) := by decide +kernel
theorem dX12_placeOf_50 : decode cX12_placeOf 50 = .ok (.iadd, 1) := by decide +kernel
theorem dX12_placeOf_51 : decode cX12_placeOf 51 = .ok (.invokevirtual 338, 3) := by decide +kernel
theorem dX12_placeOf_54 : decode cX12_placeOf 54 = .ok (.ifCond .ne 7, 3) := by decide +kernel
theorem dX12_placeOf_57 : decode cX12_placeOf 57 = .ok (.iconst 1, 1) := by decide +kernel
theorem dX12_placeOf_58 : decode cX12_placeOf 58 = .ok (.goto 4, 3) := by decide +kernel
theorem dX12_placeOf_61 : decode cX12_placeOf 61 = .ok (.iconst 0, 1) := by decide +kernel
theorem dX12_placeOf_62 : decode cX12_placeOf 62 = .ok (.istore 7, 2) := by decide +kernel
theorem dX12_placeOf_64 : decode cX12_placeOf 64 = .ok (.iload 5, 2) := by decide +kernel
theorem dX12_placeOf_66 : decode cX12_placeOf 66 = .ok (.iload 6, 2) := by decide +kernel
theorem dX12_placeOf_68 : decode cX12_placeOf 68 = .ok (.iload 4, 2) := by decide +kernel
theorem dX12_placeOf_70 : decode cX12_placeOf 70 = .ok (.if_icmp .eq 12, 3) := by decide +kernel
theorem dX12_placeOf_73 : decode cX12_placeOf 73 = .ok (.iload 7, 2) := by decide +kernel
theorem dX12_placeOf_75 : decode cX12_placeOf 75 = .ok (.ifCond .eq 7, 3) := by decide +kernel
theorem dX12_placeOf_78 : decode cX12_placeOf 78 = .ok (.iconst 1, 1) := by decide +kernel
theorem dX12_placeOf_79 : decode cX12_placeOf 79 = .ok (.goto 4, 3) := by decide +kernel
theorem dX12_placeOf_82 : decode cX12_placeOf 82 = .ok (.iconst 0, 1) := by decide +kernel
theorem dX12_placeOf_83 : decode cX12_placeOf 83 = .ok (.invokestatic 271, 3) := by decide +kernel
theorem dX12_placeOf_86 : decode cX12_placeOf 86 = .ok (.iadd, 1) := by decide +kernel
theorem dX12_placeOf_87 : decode cX12_placeOf 87 = .ok (.istore 5, 2) := by decide +kernel
theorem dX12_placeOf_89 : decode cX12_placeOf 89 = .ok (.iinc 6 1, 3) := by decide +kernel
theorem dX12_placeOf_92 : decode cX12_placeOf 92 = .ok (.goto (-86), 3) := by decide +kernel
theorem dX12_placeOf_95 : decode cX12_placeOf 95 = .ok (.iload 5, 2) := by decide +kernel
theorem dX12_placeOf_97 : decode cX12_placeOf 97 = .ok (.ireturn, 1) := by decide +kernel
theorem dX12_findOrder_0 : decode cX12_findOrder 0 = .ok (.iconst 0, 1) := by decide +kernel
theorem dX12_findOrder_1 : decode cX12_findOrder 1 = .ok (.istore_n 1, 1) := by decide +kernel
theorem dX12_findOrder_2 : decode cX12_findOrder 2 = .ok (.iload_n 1, 1) := by decide +kernel
theorem dX12_findOrder_3 : decode cX12_findOrder 3 = .ok (.aload_n 0, 1) := by decide +kernel
theorem dX12_findOrder_4 : decode cX12_findOrder 4 = .ok (.getfield 192, 3) := by decide +kernel
theorem dX12_findOrder_7 : decode cX12_findOrder 7 = .ok (.if_icmp .ge 27, 3) := by decide +kernel
theorem dX12_findOrder_10 : decode cX12_findOrder 10 = .ok (.aload_n 0, 1) := by decide +kernel
theorem dX12_findOrder_11 : decode cX12_findOrder 11 = .ok (.getfield 57, 3) := by decide +kernel
theorem dX12_findOrder_14 : decode cX12_findOrder 14 = .ok (.aload_n 0, 1) := by decide +kernel
theorem dX12_findOrder_15 : decode cX12_findOrder 15 = .ok (.iconst 0, 1) := by decide +kernel
theorem dX12_findOrder_16 : decode cX12_findOrder 16 = .ok (.bipush 7, 2) := by decide +kernel
theorem dX12_findOrder_18 : decode cX12_findOrder 18 = .ok (.aload_n 0, 1) := by decide +kernel
theorem dX12_findOrder_19 : decode cX12_findOrder 19 = .ok (.getfield 192, 3) := by decide +kernel
theorem dX12_findOrder_22 : decode cX12_findOrder 22 = .ok (.iload_n 1, 1) := by decide +kernel
theorem dX12_findOrder_23 : decode cX12_findOrder 23 = .ok (.invokevirtual 341, 3) := by decide +kernel
theorem dX12_findOrder_26 : decode cX12_findOrder 26 = .ok (.iload_n 1, 1) := by decide +kernel
theorem dX12_findOrder_27 : decode cX12_findOrder 27 = .ok (.iastore, 1) := by decide +kernel
theorem dX12_findOrder_28 : decode cX12_findOrder 28 = .ok (.iinc 1 1, 3) := by decide +kernel
theorem dX12_findOrder_31 : decode cX12_findOrder 31 = .ok (.goto (-29), 3) := by decide +kernel
theorem dX12_findOrder_34 : decode cX12_findOrder 34 = .ok (.return_, 1) := by decide +kernel
theorem dX12_subOf_0 : decode cX12_subOf 0 = .ok (.iconst 0, 1) := by decide +kernel
theorem dX12_subOf_1 : decode cX12_subOf 1 = .ok (.istore_n 3, 1) := by decide +kernel
theorem dX12_subOf_2 : decode cX12_subOf 2 = .ok (.iload_n 3, 1) := by decide +kernel
theorem dX12_subOf_3 : decode cX12_subOf 3 = .ok (.aload_n 0, 1) := by decide +kernel
theorem dX12_subOf_4 : decode cX12_subOf 4 = .ok (.getfield 7, 3) := by decide +kernel
theorem dX12_subOf_7 : decode cX12_subOf 7 = .ok (.iload_n 1, 1) := by decide +kernel
theorem dX12_subOf_8 : decode cX12_subOf 8 = .ok (.iaload, 1) := by decide +kernel
theorem dX12_subOf_9 : decode cX12_subOf 9 = .ok (.if_icmp .ge 32, 3) := by decide +kernel
theorem dX12_subOf_12 : decode cX12_subOf 12 = .ok (.aload_n 0, 1) := by decide +kernel
theorem dX12_subOf_13 : decode cX12_subOf 13 = .ok (.iload_n 1, 1) := by decide +kernel
theorem dX12_subOf_14 : decode cX12_subOf 14 = .ok (.iconst 0, 1) := by decide +kernel
theorem dX12_subOf_15 : decode cX12_subOf 15 = .ok (.invokestatic 195, 3) := by decide +kernel
theorem dX12_subOf_18 : decode cX12_subOf 18 = .ok (.iconst 1, 1) := by decide +kernel
theorem dX12_subOf_19 : decode cX12_subOf 19 = .ok (.aload_n 0, 1) := by decide +kernel
theorem dX12_subOf_20 : decode cX12_subOf 20 = .ok (.getfield 7, 3) := by decide +kernel
theorem dX12_subOf_23 : decode cX12_subOf 23 = .ok (.iload_n 1, 1) := by decide +kernel
theorem dX12_subOf_24 : decode cX12_subOf 24 = .ok (.iaload, 1) := by decide +kernel
theorem dX12_subOf_25 : decode cX12_subOf 25 = .ok (.iload_n 3, 1) := by decide +kernel
theorem dX12_subOf_26 : decode cX12_subOf 26 = .ok (.invokevirtual 341, 3) := by decide +kernel
theorem dX12_subOf_29 : decode cX12_subOf 29 = .ok (.iload_n 2, 1) := by decide +kernel
theorem dX12_subOf_30 : decode cX12_subOf 30 = .ok (.if_icmp .ne 5, 3) := by decide +kernel
theorem dX12_subOf_33 : decode cX12_subOf 33 = .ok (.iload_n 3, 1) := by decide +kernel
theorem dX12_subOf_34 : decode cX12_subOf 34 = .ok (.ireturn, 1) := by decide +kernel
theorem dX12_subOf_35 : decode cX12_subOf 35 = .ok (.iinc 3 1, 3) := by decide +kernel
theorem dX12_subOf_38 : decode cX12_subOf 38 = .ok (.goto (-36), 3) := by decide +kernel
theorem dX12_subOf_41 : decode cX12_subOf 41 = .ok (.iconst (-1), 1) := by decide +kernel
theorem dX12_subOf_42 : decode cX12_subOf 42 = .ok (.ireturn, 1) := by decide +kernel
theorem dX12_order_0 : decode cX12_order 0 = .ok (.iload_n 1, 1) := by decide +kernel
theorem dX12_order_1 : decode cX12_order 1 = .ok (.i2l, 1) := by decide +kernel
theorem dX12_order_2 : decode cX12_order 2 = .ok (.lconst 0, 1) := by decide +kernel
theorem dX12_order_3 : decode cX12_order 3 = .ok (.lconst 1, 1) := by decide +kernel
theorem dX12_order_4 : decode cX12_order 4 = .ok (.invokestatic 146, 3) := by decide +kernel
theorem dX12_order_7 : decode cX12_order 7 = .ok (.ifCond .ne 7, 3) := by decide +kernel
theorem dX12_order_10 : decode cX12_order 10 = .ok (.sipush (-1002), 3) := by decide +kernel
theorem dX12_order_13 : decode cX12_order 13 = .ok (.ireturn, 1) := by decide +kernel
theorem dX12_order_14 : decode cX12_order 14 = .ok (.aload_n 0, 1) := by decide +kernel
theorem dX12_order_15 : decode cX12_order 15 = .ok (.getfield 332, 3) := by decide +kernel
theorem dX12_order_18 : decode cX12_order 18 = .ok (.istore_n 2, 1) := by decide +kernel
theorem dX12_order_19 : decode cX12_order 19 = .ok (.aload_n 0, 1) := by decide +kernel
theorem dX12_order_20 : decode cX12_order 20 = .ok (.iload_n 1, 1) := by decide +kernel
theorem dX12_order_21 : decode cX12_order 21 = .ok (.putfield 332, 3) := by decide +kernel
theorem dX12_order_24 : decode cX12_order 24 = .ok (.iload_n 2, 1) := by decide +kernel
theorem dX12_order_25 : decode cX12_order 25 = .ok (.ireturn, 1) := by decide +kernel
theorem dX12_at_0 : decode cX12_at 0 = .ok (.aload_n 0, 1) := by decide +kernel
theorem dX12_at_1 : decode cX12_at 1 = .ok (.invokevirtual 345, 3) := by decide +kernel
theorem dX12_at_4 : decode cX12_at 4 = .ok (.iload_n 1, 1) := by decide +kernel
theorem dX12_at_5 : decode cX12_at 5 = .ok (.i2l, 1) := by decide +kernel
theorem dX12_at_6 : decode cX12_at 6 = .ok (.lconst 0, 1) := by decide +kernel
theorem dX12_at_7 : decode cX12_at 7 = .ok (.aload_n 0, 1) := by decide +kernel
theorem dX12_at_8 : decode cX12_at 8 = .ok (.getfield 192, 3) := by decide +kernel
theorem dX12_at_11 : decode cX12_at 11 = .ok (.iconst 1, 1) := by decide +kernel
theorem dX12_at_12 : decode cX12_at 12 = .ok (.isub, 1) := by decide +kernel
theorem dX12_at_13 : decode cX12_at 13 = .ok (.i2l, 1) := by decide +kernel
theorem dX12_at_14 : decode cX12_at 14 = .ok (.invokestatic 146, 3) := by decide +kernel
theorem dX12_at_17 : decode cX12_at 17 = .ok (.ifCond .eq 12, 3) := by decide +kernel
theorem dX12_at_20 : decode cX12_at 20 = .ok (.aload_n 0, 1) := by decide +kernel
theorem dX12_at_21 : decode cX12_at 21 = .ok (.getfield 57, 3) := by decide +kernel
theorem dX12_at_24 : decode cX12_at 24 = .ok (.iload_n 1, 1) := by decide +kernel
theorem dX12_at_25 : decode cX12_at 25 = .ok (.iaload, 1) := by decide +kernel
theorem dX12_at_26 : decode cX12_at 26 = .ok (.goto 4, 3) := by decide +kernel
theorem dX12_at_29 : decode cX12_at 29 = .ok (.iconst (-1), 1) := by decide +kernel
theorem dX12_at_30 : decode cX12_at 30 = .ok (.ireturn, 1) := by decide +kernel
theorem dX12_subAt_0 : decode cX12_subAt 0 = .ok (.aload_n 0, 1) := by decide +kernel
theorem dX12_subAt_1 : decode cX12_subAt 1 = .ok (.iload_n 1, 1) := by decide +kernel
theorem dX12_subAt_2 : decode cX12_subAt 2 = .ok (.invokevirtual 293, 3) := by decide +kernel
theorem dX12_subAt_5 : decode cX12_subAt 5 = .ok (.ifCond .eq 9, 3) := by decide +kernel
theorem dX12_subAt_8 : decode cX12_subAt 8 = .ok (.sipush (-1001), 3) := by decide +kernel
theorem dX12_subAt_11 : decode cX12_subAt 11 = .ok (.goto 9, 3) := by decide +kernel
theorem dX12_subAt_14 : decode cX12_subAt 14 = .ok (.aload_n 0, 1) := by decide +kernel
theorem dX12_subAt_15 : decode cX12_subAt 15 = .ok (.iload_n 1, 1) := by decide +kernel
theorem dX12_subAt_16 : decode cX12_subAt 16 = .ok (.iload_n 2, 1) := by decide +kernel
theorem dX12_subAt_17 : decode cX12_subAt 17 = .ok (.invokevirtual 348, 3) := by decide +kernel
theorem dX12_subAt_20 : decode cX12_subAt 20 = .ok (.ireturn, 1) := by decide +kernel
theorem dX12_width_0 : decode cX12_width 0 = .ok (.iload_n 1, 1) := by decide +kernel
theorem dX12_width_1 : decode cX12_width 1 = .ok (.i2l, 1) := by decide +kernel
theorem dX12_width_2 : decode cX12_width 2 = .ok (.ldc2_w 351, 3) := by decide +kernel
theorem dX12_width_5 : decode cX12_width 5 = .ok (.ldc2_w 353, 3) := by decide +kernel
theorem dX12_width_8 : decode cX12_width 8 = .ok (.invokestatic 146, 3) := by decide +kernel
theorem dX12_width_11 : decode cX12_width 11 = .ok (.ifCond .ne 7, 3) := by decide +kernel
theorem dX12_width_14 : decode cX12_width 14 = .ok (.sipush (-1002), 3) := by decide +kernel
theorem dX12_width_17 : decode cX12_width 17 = .ok (.ireturn, 1) := by decide +kernel
theorem dX12_width_18 : decode cX12_width 18 = .ok (.aload_n 0, 1) := by decide +kernel
theorem dX12_width_19 : decode cX12_width 19 = .ok (.getfield 54, 3) := by decide +kernel
theorem dX12_width_22 : decode cX12_width 22 = .ok (.istore_n 2, 1) := by decide +kernel
theorem dX12_width_23 : decode cX12_width 23 = .ok (.aload_n 0, 1) := by decide +kernel
theorem dX12_width_24 : decode cX12_width 24 = .ok (.iload_n 1, 1) := by decide +kernel
theorem dX12_width_25 : decode cX12_width 25 = .ok (.putfield 54, 3) := by decide +kernel
theorem dX12_width_28 : decode cX12_width 28 = .ok (.iload_n 2, 1) := by decide +kernel
theorem dX12_width_29 : decode cX12_width 29 = .ok (.ireturn, 1) := by decide +kernel
theorem dX12_put_0 : decode cX12_put 0 = .ok (.aload_n 0, 1) := by decide +kernel
theorem dX12_put_1 : decode cX12_put 1 = .ok (.getfield 60, 3) := by decide +kernel
theorem dX12_put_4 : decode cX12_put 4 = .ok (.aload_n 0, 1) := by decide +kernel
theorem dX12_put_5 : decode cX12_put 5 = .ok (.getfield 355, 3) := by decide +kernel
theorem dX12_put_8 : decode cX12_put 8 = .ok (.iload_n 1, 1) := by decide +kernel
theorem dX12_put_9 : decode cX12_put 9 = .ok (.iastore, 1) := by decide +kernel
theorem dX12_put_10 : decode cX12_put 10 = .ok (.aload_n 0, 1) := by decide +kernel
theorem dX12_put_11 : decode cX12_put 11 = .ok (.dup, 1) := by decide +kernel
theorem dX12_put_12 : decode cX12_put 12 = .ok (.getfield 355, 3) := by decide +kernel
theorem dX12_put_15 : decode cX12_put 15 = .ok (.iconst 1, 1) := by decide +kernel
theorem dX12_put_16 : decode cX12_put 16 = .ok (.iadd, 1) := by decide +kernel
theorem dX12_put_17 : decode cX12_put 17 = .ok (.putfield 355, 3) := by decide +kernel
theorem dX12_put_20 : decode cX12_put 20 = .ok (.aload_n 0, 1) := by decide +kernel
theorem dX12_put_21 : decode cX12_put 21 = .ok (.dup, 1) := by decide +kernel
theorem dX12_put_22 : decode cX12_put 22 = .ok (.getfield 358, 3) := by decide +kernel
theorem dX12_put_25 : decode cX12_put 25 = .ok (.iconst 1, 1) := by decide +kernel
theorem dX12_put_26 : decode cX12_put 26 = .ok (.iadd, 1) := by decide +kernel
theorem dX12_put_27 : decode cX12_put 27 = .ok (.putfield 358, 3) := by decide +kernel
theorem dX12_put_30 : decode cX12_put 30 = .ok (.return_, 1) := by decide +kernel
theorem dX12_endLine_0 : decode cX12_endLine 0 = .ok (.aload_n 0, 1) := by decide +kernel
theorem dX12_endLine_1 : decode cX12_endLine 1 = .ok (.getfield 60, 3) := by decide +kernel
theorem dX12_endLine_4 : decode cX12_endLine 4 = .ok (.aload_n 0, 1) := by decide +kernel
theorem dX12_endLine_5 : decode cX12_endLine 5 = .ok (.getfield 355, 3) := by decide +kernel
theorem dX12_endLine_8 : decode cX12_endLine 8 = .ok (.bipush 10, 2) := by decide +kernel
theorem dX12_endLine_10 : decode cX12_endLine 10 = .ok (.iastore, 1) := by decide +kernel
theorem dX12_endLine_11 : decode cX12_endLine 11 = .ok (.aload_n 0, 1) := by decide +kernel
theorem dX12_endLine_12 : decode cX12_endLine 12 = .ok (.dup, 1) := by decide +kernel
theorem dX12_endLine_13 : decode cX12_endLine 13 = .ok (.getfield 355, 3) := by decide +kernel
theorem dX12_endLine_16 : decode cX12_endLine 16 = .ok (.iconst 1, 1) := by decide +kernel
theorem dX12_endLine_17 : decode cX12_endLine 17 = .ok (.iadd, 1) := by decide +kernel
theorem dX12_endLine_18 : decode cX12_endLine 18 = .ok (.putfield 355, 3) := by decide +kernel
theorem dX12_endLine_21 : decode cX12_endLine 21 = .ok (.aload_n 0, 1) := by decide +kernel
theorem dX12_endLine_22 : decode cX12_endLine 22 = .ok (.iconst 0, 1) := by decide +kernel
theorem dX12_endLine_23 : decode cX12_endLine 23 = .ok (.putfield 358, 3) := by decide +kernel
theorem dX12_endLine_26 : decode cX12_endLine 26 = .ok (.return_, 1) := by decide +kernel
theorem dX12_beginUnit_0 : decode cX12_beginUnit 0 = .ok (.aload_n 0, 1) := by decide +kernel
theorem dX12_beginUnit_1 : decode cX12_beginUnit 1 = .ok (.iconst 0, 1) := by decide +kernel
theorem dX12_beginUnit_2 : decode cX12_beginUnit 2 = .ok (.putfield 361, 3) := by decide +kernel
theorem dX12_beginUnit_5 : decode cX12_beginUnit 5 = .ok (.iconst 0, 1) := by decide +kernel
theorem dX12_beginUnit_6 : decode cX12_beginUnit 6 = .ok (.istore_n 2, 1) := by decide +kernel
theorem dX12_beginUnit_7 : decode cX12_beginUnit 7 = .ok (.iload_n 2, 1) := by decide +kernel
theorem dX12_beginUnit_8 : decode cX12_beginUnit 8 = .ok (.iload_n 1, 1) := by decide +kernel
theorem dX12_beginUnit_9 : decode cX12_beginUnit 9 = .ok (.if_icmp .ge 15, 3) := by decide +kernel
theorem dX12_beginUnit_12 : decode cX12_beginUnit 12 = .ok (.aload_n 0, 1) := by decide +kernel
theorem dX12_beginUnit_13 : decode cX12_beginUnit 13 = .ok (.bipush 32, 2) := by decide +kernel
theorem dX12_beginUnit_15 : decode cX12_beginUnit 15 = .ok (.invokevirtual 364, 3) := by decide +kernel
theorem dX12_beginUnit_18 : decode cX12_beginUnit 18 = .ok (.iinc 2 1, 3) := by decide +kernel
theorem dX12_beginUnit_21 : decode cX12_beginUnit 21 = .ok (.goto (-14), 3) := by decide +kernel
theorem dX12_beginUnit_24 : decode cX12_beginUnit 24 = .ok (.return_, 1) := by decide +kernel
theorem dX12_sign_0 : decode cX12_sign 0 = .ok (.aload_n 0, 1) := by decide +kernel
theorem dX12_sign_1 : decode cX12_sign 1 = .ok (.getfield 63, 3) := by decide +kernel
theorem dX12_sign_4 : decode cX12_sign 4 = .ok (.aload_n 0, 1) := by decide +kernel
theorem dX12_sign_5 : decode cX12_sign 5 = .ok (.getfield 361, 3) := by decide +kernel
theorem dX12_sign_8 : decode cX12_sign 8 = .ok (.iload_n 1, 1) := by decide +kernel
theorem dX12_sign_9 : decode cX12_sign 9 = .ok (.iastore, 1) := by decide +kernel
theorem dX12_sign_10 : decode cX12_sign 10 = .ok (.aload_n 0, 1) := by decide +kernel
theorem dX12_sign_11 : decode cX12_sign 11 = .ok (.dup, 1) := by decide +kernel
theorem dX12_sign_12 : decode cX12_sign 12 = .ok (.getfield 361, 3) := by decide +kernel
theorem dX12_sign_15 : decode cX12_sign 15 = .ok (.iconst 1, 1) := by decide +kernel
theorem dX12_sign_16 : decode cX12_sign 16 = .ok (.iadd, 1) := by decide +kernel
theorem dX12_sign_17 : decode cX12_sign 17 = .ok (.putfield 361, 3) := by decide +kernel
theorem dX12_sign_20 : decode cX12_sign 20 = .ok (.return_, 1) := by decide +kernel
theorem dX12_signWord_0 : decode cX12_signWord 0 = .ok (.iconst 0, 1) := by decide +kernel
theorem dX12_signWord_1 : decode cX12_signWord 1 = .ok (.istore_n 2, 1) := by decide +kernel
theorem dX12_signWord_2 : decode cX12_signWord 2 = .ok (.iload_n 2, 1) := by decide +kernel
theorem dX12_signWord_3 : decode cX12_signWord 3 = .ok (.aload_n 0, 1) := by decide +kernel
theorem dX12_signWord_4 : decode cX12_signWord 4 = .ok (.getfield 13, 3) := by decide +kernel
theorem dX12_signWord_7 : decode cX12_signWord 7 = .ok (.iload_n 1, 1) := by decide +kernel
theorem dX12_signWord_8 : decode cX12_signWord 8 = .ok (.iaload, 1) := by decide +kernel
theorem dX12_signWord_9 : decode cX12_signWord 9 = .ok (.if_icmp .ge 24, 3) := by decide +kernel
theorem dX12_signWord_12 : decode cX12_signWord 12 = .ok (.aload_n 0, 1) := by decide +kernel
theorem dX12_signWord_13 : decode cX12_signWord 13 = .ok (.aload_n 0, 1) := by decide +kernel
theorem dX12_signWord_14 : decode cX12_signWord 14 = .ok (.getfield 16, 3) := by decide +kernel
theorem dX12_signWord_17 : decode cX12_signWord 17 = .ok (.bipush 12, 2) := by decide +kernel
theorem dX12_signWord_19 : decode cX12_signWord 19 = .ok (.iload_n 1, 1) := by decide +kernel
theorem dX12_signWord_20 : decode cX12_signWord 20 = .ok (.imul, 1) := by decide +kernel
theorem dX12_signWord_21 : decode cX12_signWord 21 = .ok (.iload_n 2, 1) := by decide +kernel
theorem dX12_signWord_22 : decode cX12_signWord 22 = .ok (.iadd, 1) := by decide +kernel
theorem dX12_signWord_23 : decode cX12_signWord 23 = .ok (.iaload, 1) := by decide +kernel
theorem dX12_signWord_24 : decode cX12_signWord 24 = .ok (.invokevirtual 364, 3) := by decide +kernel
theorem dX12_signWord_27 : decode cX12_signWord 27 = .ok (.iinc 2 1, 3) := by decide +kernel
theorem dX12_signWord_30 : decode cX12_signWord 30 = .ok (.goto (-28), 3) := by decide +kernel
theorem dX12_signWord_33 : decode cX12_signWord 33 = .ok (.return_, 1) := by decide +kernel
theorem dX12_signSee_0 : decode cX12_signSee 0 = .ok (.aload_n 0, 1) := by decide +kernel
theorem dX12_signSee_1 : decode cX12_signSee 1 = .ok (.bipush 115, 2) := by decide +kernel
theorem dX12_signSee_3 : decode cX12_signSee 3 = .ok (.invokevirtual 364, 3) := by decide +kernel
theorem dX12_signSee_6 : decode cX12_signSee 6 = .ok (.aload_n 0, 1) := by decide +kernel
theorem dX12_signSee_7 : decode cX12_signSee 7 = .ok (.bipush 101, 2) := by decide +kernel
theorem dX12_signSee_9 : decode cX12_signSee 9 = .ok (.invokevirtual 364, 3) := by decide +kernel
theorem dX12_signSee_12 : decode cX12_signSee 12 = .ok (.aload_n 0, 1) := by decide +kernel
theorem dX12_signSee_13 : decode cX12_signSee 13 = .ok (.bipush 101, 2) := by decide +kernel
theorem dX12_signSee_15 : decode cX12_signSee 15 = .ok (.invokevirtual 364, 3) := by decide +kernel
theorem dX12_signSee_18 : decode cX12_signSee 18 = .ok (.aload_n 0, 1) := by decide +kernel
theorem dX12_signSee_19 : decode cX12_signSee 19 = .ok (.bipush 32, 2) := by decide +kernel
theorem dX12_signSee_21 : decode cX12_signSee 21 = .ok (.invokevirtual 364, 3) := by decide +kernel
theorem dX12_signSee_24 : decode cX12_signSee 24 = .ok (.return_, 1) := by decide +kernel
theorem dX12_signNumber_0 : decode cX12_signNumber 0 = .ok (.iload_n 1, 1) := by decide +kernel
theorem dX12_signNumber_1 : decode cX12_signNumber 1 = .ok (.bipush 9, 2) := by decide +kernel
theorem dX12_signNumber_3 : decode cX12_signNumber 3 = .ok (.if_icmp .le 14, 3) := by decide +kernel
theorem dX12_signNumber_6 : decode cX12_signNumber 6 = .ok (.aload_n 0, 1) := by decide +kernel
theorem dX12_signNumber_7 : decode cX12_signNumber 7 = .ok (.bipush 48, 2) := by decide +kernel
theorem dX12_signNumber_9 : decode cX12_signNumber 9 = .ok (.iload_n 1, 1) := by decide +kernel
theorem dX12_signNumber_10 : decode cX12_signNumber 10 = .ok (.bipush 10, 2) := by decide +kernel
theorem dX12_signNumber_12 : decode cX12_signNumber 12 = .ok (.idiv, 1) := by decide +kernel
theorem dX12_signNumber_13 : decode cX12_signNumber 13 = .ok (.iadd, 1) := by decide +kernel
theorem dX12_signNumber_14 : decode cX12_signNumber 14 = .ok (.invokevirtual 364, 3) := by decide +kernel
theorem dX12_signNumber_17 : decode cX12_signNumber 17 = .ok (.aload_n 0, 1) := by decide +kernel
theorem dX12_signNumber_18 : decode cX12_signNumber 18 = .ok (.bipush 48, 2) := by decide +kernel
theorem dX12_signNumber_20 : decode cX12_signNumber 20 = .ok (.iload_n 1, 1) := by decide +kernel
theorem dX12_signNumber_21 : decode cX12_signNumber 21 = .ok (.bipush 10, 2) := by decide +kernel
theorem dX12_signNumber_23 : decode cX12_signNumber 23 = .ok (.irem, 1) := by decide +kernel
theorem dX12_signNumber_24 : decode cX12_signNumber 24 = .ok (.iadd, 1) := by decide +kernel
theorem dX12_signNumber_25 : decode cX12_signNumber 25 = .ok (.invokevirtual 364, 3) := by decide +kernel
theorem dX12_signNumber_28 : decode cX12_signNumber 28 = .ok (.return_, 1) := by decide +kernel
theorem dX12_beginRow_0 : decode cX12_beginRow 0 = .ok (.aload_n 0, 1) := by decide +kernel
theorem dX12_beginRow_1 : decode cX12_beginRow 1 = .ok (.iconst 1, 1) := by decide +kernel
theorem dX12_beginRow_2 : decode cX12_beginRow 2 = .ok (.putfield 367, 3) := by decide +kernel
theorem dX12_beginRow_5 : decode cX12_beginRow 5 = .ok (.aload_n 0, 1) := by decide +kernel
theorem dX12_beginRow_6 : decode cX12_beginRow 6 = .ok (.iconst 0, 1) := by decide +kernel
theorem dX12_beginRow_7 : decode cX12_beginRow 7 = .ok (.putfield 358, 3) := by decide +kernel
theorem dX12_beginRow_10 : decode cX12_beginRow 10 = .ok (.return_, 1) := by decide +kernel
theorem dX12_putUnit_0 : decode cX12_putUnit 0 = .ok (.aload_n 0, 1) := by decide +kernel
theorem dX12_putUnit_1 : decode cX12_putUnit 1 = .ok (.getfield 367, 3) := by decide +kernel
theorem dX12_putUnit_4 : decode cX12_putUnit 4 = .ok (.ifCond .ne 36, 3) := by decide +kernel
theorem dX12_putUnit_7 : decode cX12_putUnit 7 = .ok (.aload_n 0, 1) := by decide +kernel
theorem dX12_putUnit_8 : decode cX12_putUnit 8 = .ok (.getfield 358, 3) := by decide +kernel
theorem dX12_putUnit_11 : decode cX12_putUnit 11 = .ok (.iconst 2, 1) := by decide +kernel
theorem dX12_putUnit_12 : decode cX12_putUnit 12 = .ok (.iadd, 1) := by decide +kernel
theorem dX12_putUnit_13 : decode cX12_putUnit 13 = .ok (.aload_n 0, 1) := by decide +kernel
theorem dX12_putUnit_14 : decode cX12_putUnit 14 = .ok (.getfield 361, 3) := by decide +kernel
theorem dX12_putUnit_17 : decode cX12_putUnit 17 = .ok (.iadd, 1) := by decide +kernel
theorem dX12_putUnit_18 : decode cX12_putUnit 18 = .ok (.aload_n 0, 1) := by decide +kernel
theorem dX12_putUnit_19 : decode cX12_putUnit 19 = .ok (.getfield 54, 3) := by decide +kernel
theorem dX12_putUnit_22 : decode cX12_putUnit 22 = .ok (.if_icmp .gt 18, 3) := by decide +kernel
theorem dX12_putUnit_25 : decode cX12_putUnit 25 = .ok (.aload_n 0, 1) := by decide +kernel
theorem dX12_putUnit_26 : decode cX12_putUnit 26 = .ok (.bipush 44, 2) := by decide +kernel
theorem dX12_putUnit_28 : decode cX12_putUnit 28 = .ok (.invokevirtual 370, 3) := by decide +kernel
theorem dX12_putUnit_31 : decode cX12_putUnit 31 = .ok (.aload_n 0, 1) := by decide +kernel
theorem dX12_putUnit_32 : decode cX12_putUnit 32 = .ok (.bipush 32, 2) := by decide +kernel
theorem dX12_putUnit_34 : decode cX12_putUnit 34 = .ok (.invokevirtual 370, 3) := by decide +kernel
theorem dX12_putUnit_37 : decode cX12_putUnit 37 = .ok (.goto 39, 3) := by decide +kernel
theorem dX12_putUnit_40 : decode cX12_putUnit 40 = .ok (.aload_n 0, 1) := by decide +kernel
theorem dX12_putUnit_41 : decode cX12_putUnit 41 = .ok (.getfield 367, 3) := by decide +kernel
theorem dX12_putUnit_44 : decode cX12_putUnit 44 = .ok (.ifCond .ne 32, 3) := by decide +kernel
theorem dX12_putUnit_47 : decode cX12_putUnit 47 = .ok (.aload_n 0, 1) := by decide +kernel
theorem dX12_putUnit_48 : decode cX12_putUnit 48 = .ok (.bipush 44, 2) := by decide +kernel
theorem dX12_putUnit_50 : decode cX12_putUnit 50 = .ok (.invokevirtual 370, 3) := by decide +kernel
theorem dX12_putUnit_53 : decode cX12_putUnit 53 = .ok (.aload_n 0, 1) := by decide +kernel
theorem dX12_putUnit_54 : decode cX12_putUnit 54 = .ok (.invokevirtual 373, 3) := by decide +kernel
theorem dX12_putUnit_57 : decode cX12_putUnit 57 = .ok (.iconst 0, 1) := by decide +kernel
theorem dX12_putUnit_58 : decode cX12_putUnit 58 = .ok (.istore_n 1, 1) := by decide +kernel
theorem dX12_putUnit_59 : decode cX12_putUnit 59 = .ok (.iload_n 1, 1) := by decide +kernel
theorem dX12_putUnit_60 : decode cX12_putUnit 60 = .ok (.iconst 4, 1) := by decide +kernel
theorem dX12_putUnit_61 : decode cX12_putUnit 61 = .ok (.if_icmp .ge 15, 3) := by decide +kernel
theorem dX12_putUnit_64 : decode cX12_putUnit 64 = .ok (.aload_n 0, 1) := by decide +kernel
theorem dX12_putUnit_65 : decode cX12_putUnit 65 = .ok (.bipush 32, 2) := by decide +kernel
theorem dX12_putUnit_67 : decode cX12_putUnit 67 = .ok (.invokevirtual 370, 3) := by decide +kernel
theorem dX12_putUnit_70 : decode cX12_putUnit 70 = .ok (.iinc 1 1, 3) := by decide +kernel
theorem dX12_putUnit_73 : decode cX12_putUnit 73 = .ok (.goto (-14), 3) := by decide +kernel
theorem dX12_putUnit_76 : decode cX12_putUnit 76 = .ok (.iconst 0, 1) := by decide +kernel
theorem dX12_putUnit_77 : decode cX12_putUnit 77 = .ok (.istore_n 1, 1) := by decide +kernel
theorem dX12_putUnit_78 : decode cX12_putUnit 78 = .ok (.iload_n 1, 1) := by decide +kernel
theorem dX12_putUnit_79 : decode cX12_putUnit 79 = .ok (.aload_n 0, 1) := by decide +kernel
theorem dX12_putUnit_80 : decode cX12_putUnit 80 = .ok (.getfield 361, 3) := by decide +kernel
theorem dX12_putUnit_83 : decode cX12_putUnit 83 = .ok (.if_icmp .ge 19, 3) := by decide +kernel
theorem dX12_putUnit_86 : decode cX12_putUnit 86 = .ok (.aload_n 0, 1) := by decide +kernel
theorem dX12_putUnit_87 : decode cX12_putUnit 87 = .ok (.aload_n 0, 1) := by decide +kernel
theorem dX12_putUnit_88 : decode cX12_putUnit 88 = .ok (.getfield 63, 3) := by decide +kernel
theorem dX12_putUnit_91 : decode cX12_putUnit 91 = .ok (.iload_n 1, 1) := by decide +kernel
theorem dX12_putUnit_92 : decode cX12_putUnit 92 = .ok (.iaload, 1) := by decide +kernel
theorem dX12_putUnit_93 : decode cX12_putUnit 93 = .ok (.invokevirtual 370, 3) := by decide +kernel
theorem dX12_putUnit_96 : decode cX12_putUnit 96 = .ok (.iinc 1 1, 3) := by decide +kernel
theorem dX12_putUnit_99 : decode cX12_putUnit 99 = .ok (.goto (-21), 3) := by decide +kernel
theorem dX12_putUnit_102 : decode cX12_putUnit 102 = .ok (.aload_n 0, 1) := by decide +kernel
theorem dX12_putUnit_103 : decode cX12_putUnit 103 = .ok (.iconst 0, 1) := by decide +kernel
theorem dX12_putUnit_104 : decode cX12_putUnit 104 = .ok (.putfield 367, 3) := by decide +kernel
theorem dX12_putUnit_107 : decode cX12_putUnit 107 = .ok (.return_, 1) := by decide +kernel
theorem dX12_putRuns_0 : decode cX12_putRuns 0 = .ok (.iconst 1, 1) := by decide +kernel
theorem dX12_putRuns_1 : decode cX12_putRuns 1 = .ok (.istore_n 1, 1) := by decide +kernel
theorem dX12_putRuns_2 : decode cX12_putRuns 2 = .ok (.aload_n 0, 1) := by decide +kernel
theorem dX12_putRuns_3 : decode cX12_putRuns 3 = .ok (.iload_n 1, 1) := by decide +kernel
theorem dX12_putRuns_4 : decode cX12_putRuns 4 = .ok (.invokevirtual 327, 3) := by decide +kernel
theorem dX12_putRuns_7 : decode cX12_putRuns 7 = .ok (.ifCond .eq 68, 3) := by decide +kernel
theorem dX12_putRuns_10 : decode cX12_putRuns 10 = .ok (.aload_n 0, 1) := by decide +kernel
theorem dX12_putRuns_11 : decode cX12_putRuns 11 = .ok (.iconst 0, 1) := by decide +kernel
theorem dX12_putRuns_12 : decode cX12_putRuns 12 = .ok (.invokevirtual 376, 3) := by decide +kernel
theorem dX12_putRuns_15 : decode cX12_putRuns 15 = .ok (.aload_n 0, 1) := by decide +kernel
theorem dX12_putRuns_16 : decode cX12_putRuns 16 = .ok (.getfield 323, 3) := by decide +kernel
theorem dX12_putRuns_19 : decode cX12_putRuns 19 = .ok (.ifCond .eq 9, 3) := by decide +kernel
theorem dX12_putRuns_22 : decode cX12_putRuns 22 = .ok (.aload_n 0, 1) := by decide +kernel
theorem dX12_putRuns_23 : decode cX12_putRuns 23 = .ok (.bipush 42, 2) := by decide +kernel
theorem dX12_putRuns_25 : decode cX12_putRuns 25 = .ok (.invokevirtual 364, 3) := by decide +kernel
theorem dX12_putRuns_28 : decode cX12_putRuns 28 = .ok (.aload_n 0, 1) := by decide +kernel
theorem dX12_putRuns_29 : decode cX12_putRuns 29 = .ok (.aload_n 0, 1) := by decide +kernel
theorem dX12_putRuns_30 : decode cX12_putRuns 30 = .ok (.getfield 317, 3) := by decide +kernel
theorem dX12_putRuns_33 : decode cX12_putRuns 33 = .ok (.invokevirtual 379, 3) := by decide +kernel
theorem dX12_putRuns_36 : decode cX12_putRuns 36 = .ok (.aload_n 0, 1) := by decide +kernel
theorem dX12_putRuns_37 : decode cX12_putRuns 37 = .ok (.getfield 320, 3) := by decide +kernel
theorem dX12_putRuns_40 : decode cX12_putRuns 40 = .ok (.aload_n 0, 1) := by decide +kernel
theorem dX12_putRuns_41 : decode cX12_putRuns 41 = .ok (.getfield 317, 3) := by decide +kernel
theorem dX12_putRuns_44 : decode cX12_putRuns 44 = .ok (.if_icmp .le 17, 3) := by decide +kernel
theorem dX12_putRuns_47 : decode cX12_putRuns 47 = .ok (.aload_n 0, 1) := by decide +kernel
theorem dX12_putRuns_48 : decode cX12_putRuns 48 = .ok (.bipush 45, 2) := by decide +kernel
theorem dX12_putRuns_50 : decode cX12_putRuns 50 = .ok (.invokevirtual 364, 3) := by decide +kernel
theorem dX12_putRuns_53 : decode cX12_putRuns 53 = .ok (.aload_n 0, 1) := by decide +kernel
theorem dX12_putRuns_54 : decode cX12_putRuns 54 = .ok (.aload_n 0, 1) := by decide +kernel
theorem dX12_putRuns_55 : decode cX12_putRuns 55 = .ok (.getfield 320, 3) := by decide +kernel
theorem dX12_putRuns_58 : decode cX12_putRuns 58 = .ok (.invokevirtual 379, 3) := by decide +kernel
theorem dX12_putRuns_61 : decode cX12_putRuns 61 = .ok (.aload_n 0, 1) := by decide +kernel
theorem dX12_putRuns_62 : decode cX12_putRuns 62 = .ok (.invokevirtual 382, 3) := by decide +kernel
theorem dX12_putRuns_65 : decode cX12_putRuns 65 = .ok (.aload_n 0, 1) := by decide +kernel
theorem dX12_putRuns_66 : decode cX12_putRuns 66 = .ok (.getfield 320, 3) := by decide +kernel
theorem dX12_putRuns_69 : decode cX12_putRuns 69 = .ok (.iconst 1, 1) := by decide +kernel
theorem dX12_putRuns_70 : decode cX12_putRuns 70 = .ok (.iadd, 1) := by decide +kernel
theorem dX12_putRuns_71 : decode cX12_putRuns 71 = .ok (.istore_n 1, 1) := by decide +kernel
theorem dX12_putRuns_72 : decode cX12_putRuns 72 = .ok (.goto (-70), 3) := by decide +kernel
theorem dX12_putRuns_75 : decode cX12_putRuns 75 = .ok (.return_, 1) := by decide +kernel
theorem dX12_printSubs_0 : decode cX12_printSubs 0 = .ok (.iconst 0, 1) := by decide +kernel
theorem dX12_printSubs_1 : decode cX12_printSubs 1 = .ok (.istore_n 2, 1) := by decide +kernel
theorem dX12_printSubs_2 : decode cX12_printSubs 2 = .ok (.iload_n 2, 1) := by decide +kernel
theorem dX12_printSubs_3 : decode cX12_printSubs 3 = .ok (.aload_n 0, 1) := by decide +kernel
theorem dX12_printSubs_4 : decode cX12_printSubs 4 = .ok (.getfield 7, 3) := by decide +kernel
theorem dX12_printSubs_7 : decode cX12_printSubs 7 = .ok (.iload_n 1, 1) := by decide +kernel
theorem dX12_printSubs_8 : decode cX12_printSubs 8 = .ok (.iaload, 1) := by decide +kernel
theorem dX12_printSubs_9 : decode cX12_printSubs 9 = .ok (.if_icmp .ge 61, 3) := by decide +kernel
theorem dX12_printSubs_12 : decode cX12_printSubs 12 = .ok (.aload_n 0, 1) := by decide +kernel
theorem dX12_printSubs_13 : decode cX12_printSubs 13 = .ok (.iload_n 1, 1) := by decide +kernel
theorem dX12_printSubs_14 : decode cX12_printSubs 14 = .ok (.iload_n 2, 1) := by decide +kernel
theorem dX12_printSubs_15 : decode cX12_printSubs 15 = .ok (.invokevirtual 348, 3) := by decide +kernel
theorem dX12_printSubs_18 : decode cX12_printSubs 18 = .ok (.istore_n 3, 1) := by decide +kernel
theorem dX12_printSubs_19 : decode cX12_printSubs 19 = .ok (.aload_n 0, 1) := by decide +kernel
theorem dX12_printSubs_20 : decode cX12_printSubs 20 = .ok (.iload_n 1, 1) := by decide +kernel
theorem dX12_printSubs_21 : decode cX12_printSubs 21 = .ok (.iload_n 3, 1) := by decide +kernel
theorem dX12_printSubs_22 : decode cX12_printSubs 22 = .ok (.invokevirtual 275, 3) := by decide +kernel
theorem dX12_printSubs_25 : decode cX12_printSubs 25 = .ok (.ifCond .le 39, 3) := by decide +kernel
theorem dX12_printSubs_28 : decode cX12_printSubs 28 = .ok (.aload_n 0, 1) := by decide +kernel
theorem dX12_printSubs_29 : decode cX12_printSubs 29 = .ok (.invokevirtual 385, 3) := by decide +kernel
theorem dX12_printSubs_32 : decode cX12_printSubs 32 = .ok (.aload_n 0, 1) := by decide +kernel
theorem dX12_printSubs_33 : decode cX12_printSubs 33 = .ok (.iconst 2, 1) := by decide +kernel
theorem dX12_printSubs_34 : decode cX12_printSubs 34 = .ok (.invokevirtual 376, 3) := by decide +kernel
theorem dX12_printSubs_37 : decode cX12_printSubs 37 = .ok (.aload_n 0, 1) := by decide +kernel
theorem dX12_printSubs_38 : decode cX12_printSubs 38 = .ok (.iload_n 1, 1) := by decide +kernel
theorem dX12_printSubs_39 : decode cX12_printSubs 39 = .ok (.iload_n 3, 1) := by decide +kernel
theorem dX12_printSubs_40 : decode cX12_printSubs 40 = .ok (.invokestatic 195, 3) := by decide +kernel
theorem dX12_printSubs_43 : decode cX12_printSubs 43 = .ok (.invokevirtual 388, 3) := by decide +kernel
theorem dX12_printSubs_46 : decode cX12_printSubs 46 = .ok (.aload_n 0, 1) := by decide +kernel
theorem dX12_printSubs_47 : decode cX12_printSubs 47 = .ok (.invokevirtual 382, 3) := by decide +kernel
theorem dX12_printSubs_50 : decode cX12_printSubs 50 = .ok (.aload_n 0, 1) := by decide +kernel
theorem dX12_printSubs_51 : decode cX12_printSubs 51 = .ok (.iload_n 1, 1) := by decide +kernel
theorem dX12_printSubs_52 : decode cX12_printSubs 52 = .ok (.iload_n 3, 1) := by decide +kernel
theorem dX12_printSubs_53 : decode cX12_printSubs 53 = .ok (.invokevirtual 296, 3) := by decide +kernel
theorem dX12_printSubs_56 : decode cX12_printSubs 56 = .ok (.aload_n 0, 1) := by decide +kernel
theorem dX12_printSubs_57 : decode cX12_printSubs 57 = .ok (.invokevirtual 391, 3) := by decide +kernel
theorem dX12_printSubs_60 : decode cX12_printSubs 60 = .ok (.aload_n 0, 1) := by decide +kernel
theorem dX12_printSubs_61 : decode cX12_printSubs 61 = .ok (.invokevirtual 373, 3) := by decide +kernel
theorem dX12_printSubs_64 : decode cX12_printSubs 64 = .ok (.iinc 2 1, 3) := by decide +kernel
theorem dX12_printSubs_67 : decode cX12_printSubs 67 = .ok (.goto (-65), 3) := by decide +kernel
theorem dX12_printSubs_70 : decode cX12_printSubs 70 = .ok (.return_, 1) := by decide +kernel
theorem dX12_printSee_0 : decode cX12_printSee 0 = .ok (.aload_n 0, 1) := by decide +kernel
theorem dX12_printSee_1 : decode cX12_printSee 1 = .ok (.invokevirtual 385, 3) := by decide +kernel
theorem dX12_printSee_4 : decode cX12_printSee 4 = .ok (.aload_n 0, 1) := by decide +kernel
theorem dX12_printSee_5 : decode cX12_printSee 5 = .ok (.iconst 0, 1) := by decide +kernel
theorem dX12_printSee_6 : decode cX12_printSee 6 = .ok (.invokevirtual 376, 3) := by decide +kernel
theorem dX12_printSee_9 : decode cX12_printSee 9 = .ok (.aload_n 0, 1) := by decide +kernel
theorem dX12_printSee_10 : decode cX12_printSee 10 = .ok (.iload_n 1, 1) := by decide +kernel
theorem dX12_printSee_11 : decode cX12_printSee 11 = .ok (.iconst (-1), 1) := by decide +kernel
theorem dX12_printSee_12 : decode cX12_printSee 12 = .ok (.invokestatic 195, 3) := by decide +kernel
theorem dX12_printSee_15 : decode cX12_printSee 15 = .ok (.invokevirtual 388, 3) := by decide +kernel
theorem dX12_printSee_18 : decode cX12_printSee 18 = .ok (.aload_n 0, 1) := by decide +kernel
theorem dX12_printSee_19 : decode cX12_printSee 19 = .ok (.bipush 44, 2) := by decide +kernel
theorem dX12_printSee_21 : decode cX12_printSee 21 = .ok (.invokevirtual 364, 3) := by decide +kernel
theorem dX12_printSee_24 : decode cX12_printSee 24 = .ok (.aload_n 0, 1) := by decide +kernel
theorem dX12_printSee_25 : decode cX12_printSee 25 = .ok (.bipush 32, 2) := by decide +kernel
theorem dX12_printSee_27 : decode cX12_printSee 27 = .ok (.invokevirtual 364, 3) := by decide +kernel
theorem dX12_printSee_30 : decode cX12_printSee 30 = .ok (.aload_n 0, 1) := by decide +kernel
theorem dX12_printSee_31 : decode cX12_printSee 31 = .ok (.invokevirtual 394, 3) := by decide +kernel
theorem dX12_printSee_34 : decode cX12_printSee 34 = .ok (.aload_n 0, 1) := by decide +kernel
theorem dX12_printSee_35 : decode cX12_printSee 35 = .ok (.aload_n 0, 1) := by decide +kernel
theorem dX12_printSee_36 : decode cX12_printSee 36 = .ok (.getfield 19, 3) := by decide +kernel
theorem dX12_printSee_39 : decode cX12_printSee 39 = .ok (.iload_n 1, 1) := by decide +kernel
theorem dX12_printSee_40 : decode cX12_printSee 40 = .ok (.iaload, 1) := by decide +kernel
theorem dX12_printSee_41 : decode cX12_printSee 41 = .ok (.iconst (-1), 1) := by decide +kernel
theorem dX12_printSee_42 : decode cX12_printSee 42 = .ok (.invokestatic 195, 3) := by decide +kernel
theorem dX12_printSee_45 : decode cX12_printSee 45 = .ok (.invokevirtual 388, 3) := by decide +kernel
theorem dX12_printSee_48 : decode cX12_printSee 48 = .ok (.aload_n 0, 1) := by decide +kernel
theorem dX12_printSee_49 : decode cX12_printSee 49 = .ok (.invokevirtual 382, 3) := by decide +kernel
theorem dX12_printSee_52 : decode cX12_printSee 52 = .ok (.aload_n 0, 1) := by decide +kernel
theorem dX12_printSee_53 : decode cX12_printSee 53 = .ok (.invokevirtual 373, 3) := by decide +kernel
theorem dX12_printSee_56 : decode cX12_printSee 56 = .ok (.return_, 1) := by decide +kernel
theorem dX12_printAlso_0 : decode cX12_printAlso 0 = .ok (.aload_n 0, 1) := by decide +kernel
theorem dX12_printAlso_1 : decode cX12_printAlso 1 = .ok (.invokevirtual 385, 3) := by decide +kernel
theorem dX12_printAlso_4 : decode cX12_printAlso 4 = .ok (.iconst 0, 1) := by decide +kernel
theorem dX12_printAlso_5 : decode cX12_printAlso 5 = .ok (.istore_n 2, 1) := by decide +kernel
theorem dX12_printAlso_6 : decode cX12_printAlso 6 = .ok (.iload_n 2, 1) := by decide +kernel
theorem dX12_printAlso_7 : decode cX12_printAlso 7 = .ok (.aload_n 0, 1) := by decide +kernel
theorem dX12_printAlso_8 : decode cX12_printAlso 8 = .ok (.getfield 192, 3) := by decide +kernel
theorem dX12_printAlso_11 : decode cX12_printAlso 11 = .ok (.if_icmp .ge 99, 3) := by decide +kernel
theorem dX12_printAlso_14 : decode cX12_printAlso 14 = .ok (.aload_n 0, 1) := by decide +kernel
theorem dX12_printAlso_15 : decode cX12_printAlso 15 = .ok (.getfield 57, 3) := by decide +kernel
theorem dX12_printAlso_18 : decode cX12_printAlso 18 = .ok (.iload_n 2, 1) := by decide +kernel
theorem dX12_printAlso_19 : decode cX12_printAlso 19 = .ok (.iaload, 1) := by decide +kernel
theorem dX12_printAlso_20 : decode cX12_printAlso 20 = .ok (.istore_n 3, 1) := by decide +kernel
theorem dX12_printAlso_21 : decode cX12_printAlso 21 = .ok (.aload_n 0, 1) := by decide +kernel
theorem dX12_printAlso_22 : decode cX12_printAlso 22 = .ok (.getfield 22, 3) := by decide +kernel
theorem dX12_printAlso_25 : decode cX12_printAlso 25 = .ok (.iload_n 1, 1) := by decide +kernel
theorem dX12_printAlso_26 : decode cX12_printAlso 26 = .ok (.iaload, 1) := by decide +kernel
theorem dX12_printAlso_27 : decode cX12_printAlso 27 = .ok (.iload_n 3, 1) := by decide +kernel
theorem dX12_printAlso_28 : decode cX12_printAlso 28 = .ok (.invokestatic 237, 3) := by decide +kernel
theorem dX12_printAlso_31 : decode cX12_printAlso 31 = .ok (.ifCond .eq 73, 3) := by decide +kernel
theorem dX12_printAlso_34 : decode cX12_printAlso 34 = .ok (.aload_n 0, 1) := by decide +kernel
theorem dX12_printAlso_35 : decode cX12_printAlso 35 = .ok (.aload_n 0, 1) := by decide +kernel
theorem dX12_printAlso_36 : decode cX12_printAlso 36 = .ok (.getfield 367, 3) := by decide +kernel
theorem dX12_printAlso_39 : decode cX12_printAlso 39 = .ok (.ifCond .eq 7, 3) := by decide +kernel
theorem dX12_printAlso_42 : decode cX12_printAlso 42 = .ok (.iconst 2, 1) := by decide +kernel
theorem dX12_printAlso_43 : decode cX12_printAlso 43 = .ok (.goto 4, 3) := by decide +kernel
theorem dX12_printAlso_46 : decode cX12_printAlso 46 = .ok (.iconst 0, 1) := by decide +kernel
theorem dX12_printAlso_47 : decode cX12_printAlso 47 = .ok (.invokevirtual 376, 3) := by decide +kernel
theorem dX12_printAlso_50 : decode cX12_printAlso 50 = .ok (.aload_n 0, 1) := by decide +kernel
theorem dX12_printAlso_51 : decode cX12_printAlso 51 = .ok (.getfield 367, 3) := by decide +kernel
theorem dX12_printAlso_54 : decode cX12_printAlso 54 = .ok (.ifCond .eq 37, 3) := by decide +kernel
theorem dX12_printAlso_57 : decode cX12_printAlso 57 = .ok (.aload_n 0, 1) := by decide +kernel
theorem dX12_printAlso_58 : decode cX12_printAlso 58 = .ok (.invokevirtual 394, 3) := by decide +kernel
theorem dX12_printAlso_61 : decode cX12_printAlso 61 = .ok (.aload_n 0, 1) := by decide +kernel
theorem dX12_printAlso_62 : decode cX12_printAlso 62 = .ok (.bipush 97, 2) := by decide +kernel
theorem dX12_printAlso_64 : decode cX12_printAlso 64 = .ok (.invokevirtual 364, 3) := by decide +kernel
theorem dX12_printAlso_67 : decode cX12_printAlso 67 = .ok (.aload_n 0, 1) := by decide +kernel
theorem dX12_printAlso_68 : decode cX12_printAlso 68 = .ok (.bipush 108, 2) := by decide +kernel
theorem dX12_printAlso_70 : decode cX12_printAlso 70 = .ok (.invokevirtual 364, 3) := by decide +kernel
theorem dX12_printAlso_73 : decode cX12_printAlso 73 = .ok (.aload_n 0, 1) := by decide +kernel
theorem dX12_printAlso_74 : decode cX12_printAlso 74 = .ok (.bipush 115, 2) := by decide +kernel
theorem dX12_printAlso_76 : decode cX12_printAlso 76 = .ok (.invokevirtual 364, 3) := by decide +kernel
theorem dX12_printAlso_79 : decode cX12_printAlso 79 = .ok (.aload_n 0, 1) := by decide +kernel
theorem dX12_printAlso_80 : decode cX12_printAlso 80 = .ok (.bipush 111, 2) := by decide +kernel
theorem dX12_printAlso_82 : decode cX12_printAlso 82 = .ok (.invokevirtual 364, 3) := by decide +kernel
theorem dX12_printAlso_85 : decode cX12_printAlso 85 = .ok (.aload_n 0, 1) := by decide +kernel
theorem dX12_printAlso_86 : decode cX12_printAlso 86 = .ok (.bipush 32, 2) := by decide +kernel
theorem dX12_printAlso_88 : decode cX12_printAlso 88 = .ok (.invokevirtual 364, 3) := by decide +kernel
theorem dX12_printAlso_91 : decode cX12_printAlso 91 = .ok (.aload_n 0, 1) := by decide +kernel
theorem dX12_printAlso_92 : decode cX12_printAlso 92 = .ok (.iload_n 3, 1) := by decide +kernel
theorem dX12_printAlso_93 : decode cX12_printAlso 93 = .ok (.iconst (-1), 1) := by decide +kernel
theorem dX12_printAlso_94 : decode cX12_printAlso 94 = .ok (.invokestatic 195, 3) := by decide +kernel
theorem dX12_printAlso_97 : decode cX12_printAlso 97 = .ok (.invokevirtual 388, 3) := by decide +kernel
theorem dX12_printAlso_100 : decode cX12_printAlso 100 = .ok (.aload_n 0, 1) := by decide +kernel
theorem dX12_printAlso_101 : decode cX12_printAlso 101 = .ok (.invokevirtual 382, 3) := by decide +kernel
theorem dX12_printAlso_104 : decode cX12_printAlso 104 = .ok (.iinc 2 1, 3) := by decide +kernel
theorem dX12_printAlso_107 : decode cX12_printAlso 107 = .ok (.goto (-101), 3) := by decide +kernel
theorem dX12_printAlso_110 : decode cX12_printAlso 110 = .ok (.aload_n 0, 1) := by decide +kernel
theorem dX12_printAlso_111 : decode cX12_printAlso 111 = .ok (.invokevirtual 373, 3) := by decide +kernel
theorem dX12_printAlso_114 : decode cX12_printAlso 114 = .ok (.return_, 1) := by decide +kernel
theorem dX12_isPrinted_0 : decode cX12_isPrinted 0 = .ok (.aload_n 0, 1) := by decide +kernel
theorem dX12_isPrinted_1 : decode cX12_isPrinted 1 = .ok (.iload_n 1, 1) := by decide +kernel
theorem dX12_isPrinted_2 : decode cX12_isPrinted 2 = .ok (.invokevirtual 278, 3) := by decide +kernel
theorem dX12_isPrinted_5 : decode cX12_isPrinted 5 = .ok (.ifCond .ne 21, 3) := by decide +kernel
theorem dX12_isPrinted_8 : decode cX12_isPrinted 8 = .ok (.aload_n 0, 1) := by decide +kernel
theorem dX12_isPrinted_9 : decode cX12_isPrinted 9 = .ok (.getfield 19, 3) := by decide +kernel
theorem dX12_isPrinted_12 : decode cX12_isPrinted 12 = .ok (.iload_n 1, 1) := by decide +kernel
theorem dX12_isPrinted_13 : decode cX12_isPrinted 13 = .ok (.iaload, 1) := by decide +kernel
theorem dX12_isPrinted_14 : decode cX12_isPrinted 14 = .ok (.ifCond .ge 12, 3) := by decide +kernel
theorem dX12_isPrinted_17 : decode cX12_isPrinted 17 = .ok (.aload_n 0, 1) := by decide +kernel
theorem dX12_isPrinted_18 : decode cX12_isPrinted 18 = .ok (.getfield 22, 3) := by decide +kernel
theorem dX12_isPrinted_21 : decode cX12_isPrinted 21 = .ok (.iload_n 1, 1) := by decide +kernel
theorem dX12_isPrinted_22 : decode cX12_isPrinted 22 = .ok (.iaload, 1) := by decide +kernel
theorem dX12_isPrinted_23 : decode cX12_isPrinted 23 = .ok (.ifCond .eq 7, 3) := by decide +kernel
theorem dX12_isPrinted_26 : decode cX12_isPrinted 26 = .ok (.iconst 1, 1) := by decide +kernel
theorem dX12_isPrinted_27 : decode cX12_isPrinted 27 = .ok (.goto 4, 3) := by decide +kernel
theorem dX12_isPrinted_30 : decode cX12_isPrinted 30 = .ok (.iconst 0, 1) := by decide +kernel
theorem dX12_isPrinted_31 : decode cX12_isPrinted 31 = .ok (.ireturn, 1) := by decide +kernel
theorem dX12_printHead_0 : decode cX12_printHead 0 = .ok (.aload_n 0, 1) := by decide +kernel
theorem dX12_printHead_1 : decode cX12_printHead 1 = .ok (.iload_n 1, 1) := by decide +kernel
theorem dX12_printHead_2 : decode cX12_printHead 2 = .ok (.invokevirtual 278, 3) := by decide +kernel
theorem dX12_printHead_5 : decode cX12_printHead 5 = .ok (.istore_n 3, 1) := by decide +kernel
theorem dX12_printHead_6 : decode cX12_printHead 6 = .ok (.iload_n 2, 1) := by decide +kernel
theorem dX12_printHead_7 : decode cX12_printHead 7 = .ok (.ifCond .ne 24, 3) := by decide +kernel
theorem dX12_printHead_10 : decode cX12_printHead 10 = .ok (.iload_n 3, 1) := by decide +kernel
theorem dX12_printHead_11 : decode cX12_printHead 11 = .ok (.ifCond .ne 20, 3) := by decide +kernel
theorem dX12_printHead_14 : decode cX12_printHead 14 = .ok (.aload_n 0, 1) := by decide +kernel
theorem dX12_printHead_15 : decode cX12_printHead 15 = .ok (.getfield 19, 3) := by decide +kernel
theorem dX12_printHead_18 : decode cX12_printHead 18 = .ok (.iload_n 1, 1) := by decide +kernel
theorem dX12_printHead_19 : decode cX12_printHead 19 = .ok (.iaload, 1) := by decide +kernel
theorem dX12_printHead_20 : decode cX12_printHead 20 = .ok (.ifCond .lt 11, 3) := by decide +kernel
theorem dX12_printHead_23 : decode cX12_printHead 23 = .ok (.aload_n 0, 1) := by decide +kernel
theorem dX12_printHead_24 : decode cX12_printHead 24 = .ok (.iload_n 1, 1) := by decide +kernel
theorem dX12_printHead_25 : decode cX12_printHead 25 = .ok (.invokevirtual 397, 3) := by decide +kernel
theorem dX12_printHead_28 : decode cX12_printHead 28 = .ok (.goto 125, 3) := by decide +kernel
theorem dX12_printHead_31 : decode cX12_printHead 31 = .ok (.iload_n 2, 1) := by decide +kernel
theorem dX12_printHead_32 : decode cX12_printHead 32 = .ok (.iconst 2, 1) := by decide +kernel
theorem dX12_printHead_33 : decode cX12_printHead 33 = .ok (.if_icmp .ne 11, 3) := by decide +kernel
theorem dX12_printHead_36 : decode cX12_printHead 36 = .ok (.aload_n 0, 1) := by decide +kernel
theorem dX12_printHead_37 : decode cX12_printHead 37 = .ok (.iload_n 1, 1) := by decide +kernel
theorem dX12_printHead_38 : decode cX12_printHead 38 = .ok (.invokevirtual 400, 3) := by decide +kernel
theorem dX12_printHead_41 : decode cX12_printHead 41 = .ok (.goto 4, 3) := by decide +kernel
theorem dX12_printHead_44 : decode cX12_printHead 44 = .ok (.iload_n 1, 1) := by decide +kernel
theorem dX12_printHead_45 : decode cX12_printHead 45 = .ok (.istore 4, 2) := by decide +kernel
theorem dX12_printHead_47 : decode cX12_printHead 47 = .ok (.aload_n 0, 1) := by decide +kernel
theorem dX12_printHead_48 : decode cX12_printHead 48 = .ok (.invokevirtual 385, 3) := by decide +kernel
theorem dX12_printHead_51 : decode cX12_printHead 51 = .ok (.aload_n 0, 1) := by decide +kernel
theorem dX12_printHead_52 : decode cX12_printHead 52 = .ok (.iconst 0, 1) := by decide +kernel
theorem dX12_printHead_53 : decode cX12_printHead 53 = .ok (.invokevirtual 376, 3) := by decide +kernel
theorem dX12_printHead_56 : decode cX12_printHead 56 = .ok (.aload_n 0, 1) := by decide +kernel
theorem dX12_printHead_57 : decode cX12_printHead 57 = .ok (.iload_n 1, 1) := by decide +kernel
theorem dX12_printHead_58 : decode cX12_printHead 58 = .ok (.iconst (-1), 1) := by decide +kernel
theorem dX12_printHead_59 : decode cX12_printHead 59 = .ok (.invokestatic 195, 3) := by decide +kernel
theorem dX12_printHead_62 : decode cX12_printHead 62 = .ok (.invokevirtual 388, 3) := by decide +kernel
theorem dX12_printHead_65 : decode cX12_printHead 65 = .ok (.aload_n 0, 1) := by decide +kernel
theorem dX12_printHead_66 : decode cX12_printHead 66 = .ok (.invokevirtual 382, 3) := by decide +kernel
theorem dX12_printHead_69 : decode cX12_printHead 69 = .ok (.aload_n 0, 1) := by decide +kernel
theorem dX12_printHead_70 : decode cX12_printHead 70 = .ok (.iload 4, 2) := by decide +kernel
theorem dX12_printHead_72 : decode cX12_printHead 72 = .ok (.iload_n 2, 1) := by decide +kernel
theorem dX12_printHead_73 : decode cX12_printHead 73 = .ok (.iconst 1, 1) := by decide +kernel
theorem dX12_printHead_74 : decode cX12_printHead 74 = .ok (.if_icmp .ne 8, 3) := by decide +kernel
theorem dX12_printHead_77 : decode cX12_printHead 77 = .ok (.bipush (-2), 2) := by decide +kernel
theorem dX12_printHead_79 : decode cX12_printHead 79 = .ok (.goto 4, 3) := by decide +kernel
theorem dX12_printHead_82 : decode cX12_printHead 82 = .ok (.iconst (-1), 1) := by decide +kernel
theorem dX12_printHead_83 : decode cX12_printHead 83 = .ok (.invokevirtual 296, 3) := by decide +kernel
theorem dX12_printHead_86 : decode cX12_printHead 86 = .ok (.aload_n 0, 1) := by decide +kernel
theorem dX12_printHead_87 : decode cX12_printHead 87 = .ok (.invokevirtual 391, 3) := by decide +kernel
theorem dX12_printHead_90 : decode cX12_printHead 90 = .ok (.aload_n 0, 1) := by decide +kernel
theorem dX12_printHead_91 : decode cX12_printHead 91 = .ok (.invokevirtual 373, 3) := by decide +kernel
theorem dX12_printHead_94 : decode cX12_printHead 94 = .ok (.iload_n 2, 1) := by decide +kernel
theorem dX12_printHead_95 : decode cX12_printHead 95 = .ok (.iconst 1, 1) := by decide +kernel
theorem dX12_printHead_96 : decode cX12_printHead 96 = .ok (.if_icmp .eq 9, 3) := by decide +kernel
theorem dX12_printHead_99 : decode cX12_printHead 99 = .ok (.aload_n 0, 1) := by decide +kernel
theorem dX12_printHead_100 : decode cX12_printHead 100 = .ok (.iload 4, 2) := by decide +kernel
theorem dX12_printHead_102 : decode cX12_printHead 102 = .ok (.invokevirtual 403, 3) := by decide +kernel
theorem dX12_printHead_105 : decode cX12_printHead 105 = .ok (.iload_n 3, 1) := by decide +kernel
theorem dX12_printHead_106 : decode cX12_printHead 106 = .ok (.ifCond .eq 47, 3) := by decide +kernel
theorem dX12_printHead_109 : decode cX12_printHead 109 = .ok (.aload_n 0, 1) := by decide +kernel
theorem dX12_printHead_110 : decode cX12_printHead 110 = .ok (.getfield 19, 3) := by decide +kernel
theorem dX12_printHead_113 : decode cX12_printHead 113 = .ok (.iload_n 1, 1) := by decide +kernel
theorem dX12_printHead_114 : decode cX12_printHead 114 = .ok (.iaload, 1) := by decide +kernel
theorem dX12_printHead_115 : decode cX12_printHead 115 = .ok (.ifCond .lt 38, 3) := by decide +kernel
theorem dX12_printHead_118 : decode cX12_printHead 118 = .ok (.aload_n 0, 1) := by decide +kernel
theorem dX12_printHead_119 : decode cX12_printHead 119 = .ok (.invokevirtual 385, 3) := by decide +kernel
theorem dX12_printHead_122 : decode cX12_printHead 122 = .ok (.aload_n 0, 1) := by decide +kernel
theorem dX12_printHead_123 : decode cX12_printHead 123 = .ok (.iconst 2, 1) := by decide +kernel
theorem dX12_printHead_124 : decode cX12_printHead 124 = .ok (.invokevirtual 376, 3) := by decide +kernel
theorem dX12_printHead_127 : decode cX12_printHead 127 = .ok (.aload_n 0, 1) := by decide +kernel
theorem dX12_printHead_128 : decode cX12_printHead 128 = .ok (.invokevirtual 394, 3) := by decide +kernel
theorem dX12_printHead_131 : decode cX12_printHead 131 = .ok (.aload_n 0, 1) := by decide +kernel
theorem dX12_printHead_132 : decode cX12_printHead 132 = .ok (.aload_n 0, 1) := by decide +kernel
theorem dX12_printHead_133 : decode cX12_printHead 133 = .ok (.getfield 19, 3) := by decide +kernel
theorem dX12_printHead_136 : decode cX12_printHead 136 = .ok (.iload_n 1, 1) := by decide +kernel
theorem dX12_printHead_137 : decode cX12_printHead 137 = .ok (.iaload, 1) := by decide +kernel
theorem dX12_printHead_138 : decode cX12_printHead 138 = .ok (.iconst (-1), 1) := by decide +kernel
theorem dX12_printHead_139 : decode cX12_printHead 139 = .ok (.invokestatic 195, 3) := by decide +kernel
theorem dX12_printHead_142 : decode cX12_printHead 142 = .ok (.invokevirtual 388, 3) := by decide +kernel
theorem dX12_printHead_145 : decode cX12_printHead 145 = .ok (.aload_n 0, 1) := by decide +kernel
theorem dX12_printHead_146 : decode cX12_printHead 146 = .ok (.invokevirtual 382, 3) := by decide +kernel
theorem dX12_printHead_149 : decode cX12_printHead 149 = .ok (.aload_n 0, 1) := by decide +kernel
theorem dX12_printHead_150 : decode cX12_printHead 150 = .ok (.invokevirtual 373, 3) := by decide +kernel
theorem dX12_printHead_153 : decode cX12_printHead 153 = .ok (.aload_n 0, 1) := by decide +kernel
theorem dX12_printHead_154 : decode cX12_printHead 154 = .ok (.getfield 22, 3) := by decide +kernel
theorem dX12_printHead_157 : decode cX12_printHead 157 = .ok (.iload_n 1, 1) := by decide +kernel
theorem dX12_printHead_158 : decode cX12_printHead 158 = .ok (.iaload, 1) := by decide +kernel
theorem dX12_printHead_159 : decode cX12_printHead 159 = .ok (.ifCond .eq 8, 3) := by decide +kernel
theorem dX12_printHead_162 : decode cX12_printHead 162 = .ok (.aload_n 0, 1) := by decide +kernel
theorem dX12_printHead_163 : decode cX12_printHead 163 = .ok (.iload_n 1, 1) := by decide +kernel
theorem dX12_printHead_164 : decode cX12_printHead 164 = .ok (.invokevirtual 406, 3) := by decide +kernel
theorem dX12_printHead_167 : decode cX12_printHead 167 = .ok (.return_, 1) := by decide +kernel
theorem dX12_linesOf_0 : decode cX12_linesOf 0 = .ok (.aload_n 0, 1) := by decide +kernel
theorem dX12_linesOf_1 : decode cX12_linesOf 1 = .ok (.iconst 0, 1) := by decide +kernel
theorem dX12_linesOf_2 : decode cX12_linesOf 2 = .ok (.putfield 355, 3) := by decide +kernel
theorem dX12_linesOf_5 : decode cX12_linesOf 5 = .ok (.aload_n 0, 1) := by decide +kernel
theorem dX12_linesOf_6 : decode cX12_linesOf 6 = .ok (.invokevirtual 345, 3) := by decide +kernel
theorem dX12_linesOf_9 : decode cX12_linesOf 9 = .ok (.aload_n 0, 1) := by decide +kernel
theorem dX12_linesOf_10 : decode cX12_linesOf 10 = .ok (.iload_n 1, 1) := by decide +kernel
theorem dX12_linesOf_11 : decode cX12_linesOf 11 = .ok (.invokevirtual 409, 3) := by decide +kernel
theorem dX12_linesOf_14 : decode cX12_linesOf 14 = .ok (.ifCond .eq 9, 3) := by decide +kernel
theorem dX12_linesOf_17 : decode cX12_linesOf 17 = .ok (.aload_n 0, 1) := by decide +kernel
theorem dX12_linesOf_18 : decode cX12_linesOf 18 = .ok (.iload_n 1, 1) := by decide +kernel
theorem dX12_linesOf_19 : decode cX12_linesOf 19 = .ok (.iload_n 2, 1) := by decide +kernel
theorem dX12_linesOf_20 : decode cX12_linesOf 20 = .ok (.invokevirtual 412, 3) := by decide +kernel
theorem dX12_linesOf_23 : decode cX12_linesOf 23 = .ok (.iconst 0, 1) := by decide +kernel
theorem dX12_linesOf_24 : decode cX12_linesOf 24 = .ok (.istore_n 3, 1) := by decide +kernel
theorem dX12_linesOf_25 : decode cX12_linesOf 25 = .ok (.iconst 0, 1) := by decide +kernel
theorem dX12_linesOf_26 : decode cX12_linesOf 26 = .ok (.istore 4, 2) := by decide +kernel
theorem dX12_linesOf_28 : decode cX12_linesOf 28 = .ok (.iload 4, 2) := by decide +kernel
theorem dX12_linesOf_30 : decode cX12_linesOf 30 = .ok (.aload_n 0, 1) := by decide +kernel
theorem dX12_linesOf_31 : decode cX12_linesOf 31 = .ok (.getfield 355, 3) := by decide +kernel
theorem dX12_linesOf_34 : decode cX12_linesOf 34 = .ok (.if_icmp .ge 32, 3) := by decide +kernel
theorem dX12_linesOf_37 : decode cX12_linesOf 37 = .ok (.iload_n 3, 1) := by decide +kernel
theorem dX12_linesOf_38 : decode cX12_linesOf 38 = .ok (.aload_n 0, 1) := by decide +kernel
theorem dX12_linesOf_39 : decode cX12_linesOf 39 = .ok (.getfield 60, 3) := by decide +kernel
theorem dX12_linesOf_42 : decode cX12_linesOf 42 = .ok (.iload 4, 2) := by decide +kernel
theorem dX12_linesOf_44 : decode cX12_linesOf 44 = .ok (.iaload, 1) := by decide +kernel
theorem dX12_linesOf_45 : decode cX12_linesOf 45 = .ok (.bipush 10, 2) := by decide +kernel
theorem dX12_linesOf_47 : decode cX12_linesOf 47 = .ok (.if_icmp .ne 7, 3) := by decide +kernel
theorem dX12_linesOf_50 : decode cX12_linesOf 50 = .ok (.iconst 1, 1) := by decide +kernel
theorem dX12_linesOf_51 : decode cX12_linesOf 51 = .ok (.goto 4, 3) := by decide +kernel
theorem dX12_linesOf_54 : decode cX12_linesOf 54 = .ok (.iconst 0, 1) := by decide +kernel
theorem dX12_linesOf_55 : decode cX12_linesOf 55 = .ok (.invokestatic 271, 3) := by decide +kernel
theorem dX12_linesOf_58 : decode cX12_linesOf 58 = .ok (.iadd, 1) := by decide +kernel
theorem dX12_linesOf_59 : decode cX12_linesOf 59 = .ok (.istore_n 3, 1) := by decide +kernel
theorem dX12_linesOf_60 : decode cX12_linesOf 60 = .ok (.iinc 4 1, 3) := by decide +kernel
theorem dX12_linesOf_63 : decode cX12_linesOf 63 = .ok (.goto (-35), 3) := by decide +kernel
theorem dX12_linesOf_66 : decode cX12_linesOf 66 = .ok (.iload_n 3, 1) := by decide +kernel
theorem dX12_linesOf_67 : decode cX12_linesOf 67 = .ok (.ireturn, 1) := by decide +kernel
theorem dX12_linesOfAll_0 : decode cX12_linesOfAll 0 = .ok (.iconst 0, 1) := by decide +kernel
theorem dX12_linesOfAll_1 : decode cX12_linesOfAll 1 = .ok (.istore_n 2, 1) := by decide +kernel
theorem dX12_linesOfAll_2 : decode cX12_linesOfAll 2 = .ok (.iconst 0, 1) := by decide +kernel
theorem dX12_linesOfAll_3 : decode cX12_linesOfAll 3 = .ok (.istore_n 3, 1) := by decide +kernel
theorem dX12_linesOfAll_4 : decode cX12_linesOfAll 4 = .ok (.iload_n 3, 1) := by decide +kernel
theorem dX12_linesOfAll_5 : decode cX12_linesOfAll 5 = .ok (.aload_n 0, 1) := by decide +kernel
theorem dX12_linesOfAll_6 : decode cX12_linesOfAll 6 = .ok (.getfield 192, 3) := by decide +kernel
theorem dX12_linesOfAll_9 : decode cX12_linesOfAll 9 = .ok (.if_icmp .ge 30, 3) := by decide +kernel
theorem dX12_linesOfAll_12 : decode cX12_linesOfAll 12 = .ok (.iload_n 2, 1) := by decide +kernel
theorem dX12_linesOfAll_13 : decode cX12_linesOfAll 13 = .ok (.aload_n 0, 1) := by decide +kernel
theorem dX12_linesOfAll_14 : decode cX12_linesOfAll 14 = .ok (.iload_n 3, 1) := by decide +kernel
theorem dX12_linesOfAll_15 : decode cX12_linesOfAll 15 = .ok (.iload_n 1, 1) := by decide +kernel
theorem dX12_linesOfAll_16 : decode cX12_linesOfAll 16 = .ok (.iload_n 3, 1) := by decide +kernel
theorem dX12_linesOfAll_17 : decode cX12_linesOfAll 17 = .ok (.invokestatic 237, 3) := by decide +kernel
theorem dX12_linesOfAll_20 : decode cX12_linesOfAll 20 = .ok (.ifCond .eq 7, 3) := by decide +kernel
theorem dX12_linesOfAll_23 : decode cX12_linesOfAll 23 = .ok (.iconst 2, 1) := by decide +kernel
theorem dX12_linesOfAll_24 : decode cX12_linesOfAll 24 = .ok (.goto 4, 3) := by decide +kernel
theorem dX12_linesOfAll_27 : decode cX12_linesOfAll 27 = .ok (.iconst 0, 1) := by decide +kernel
theorem dX12_linesOfAll_28 : decode cX12_linesOfAll 28 = .ok (.invokevirtual 303, 3) := by decide +kernel
theorem dX12_linesOfAll_31 : decode cX12_linesOfAll 31 = .ok (.iadd, 1) := by decide +kernel
theorem dX12_linesOfAll_32 : decode cX12_linesOfAll 32 = .ok (.istore_n 2, 1) := by decide +kernel
theorem dX12_linesOfAll_33 : decode cX12_linesOfAll 33 = .ok (.iinc 3 1, 3) := by decide +kernel
theorem dX12_linesOfAll_36 : decode cX12_linesOfAll 36 = .ok (.goto (-32), 3) := by decide +kernel
theorem dX12_linesOfAll_39 : decode cX12_linesOfAll 39 = .ok (.iload_n 2, 1) := by decide +kernel
theorem dX12_linesOfAll_40 : decode cX12_linesOfAll 40 = .ok (.ireturn, 1) := by decide +kernel
theorem dX12_bytesOfAll_0 : decode cX12_bytesOfAll 0 = .ok (.aload_n 0, 1) := by decide +kernel
theorem dX12_bytesOfAll_1 : decode cX12_bytesOfAll 1 = .ok (.iconst 0, 1) := by decide +kernel
theorem dX12_bytesOfAll_2 : decode cX12_bytesOfAll 2 = .ok (.putfield 355, 3) := by decide +kernel
theorem dX12_bytesOfAll_5 : decode cX12_bytesOfAll 5 = .ok (.aload_n 0, 1) := by decide +kernel
theorem dX12_bytesOfAll_6 : decode cX12_bytesOfAll 6 = .ok (.invokevirtual 345, 3) := by decide +kernel
theorem dX12_bytesOfAll_9 : decode cX12_bytesOfAll 9 = .ok (.iconst 0, 1) := by decide +kernel
theorem dX12_bytesOfAll_10 : decode cX12_bytesOfAll 10 = .ok (.istore_n 1, 1) := by decide +kernel
theorem dX12_bytesOfAll_11 : decode cX12_bytesOfAll 11 = .ok (.iload_n 1, 1) := by decide +kernel
theorem dX12_bytesOfAll_12 : decode cX12_bytesOfAll 12 = .ok (.aload_n 0, 1) := by decide +kernel
theorem dX12_bytesOfAll_13 : decode cX12_bytesOfAll 13 = .ok (.getfield 192, 3) := by decide +kernel
theorem dX12_bytesOfAll_16 : decode cX12_bytesOfAll 16 = .ok (.if_icmp .ge 30, 3) := by decide +kernel
theorem dX12_bytesOfAll_19 : decode cX12_bytesOfAll 19 = .ok (.aload_n 0, 1) := by decide +kernel
theorem dX12_bytesOfAll_20 : decode cX12_bytesOfAll 20 = .ok (.getfield 57, 3) := by decide +kernel
theorem dX12_bytesOfAll_23 : decode cX12_bytesOfAll 23 = .ok (.iload_n 1, 1) := by decide +kernel
theorem dX12_bytesOfAll_24 : decode cX12_bytesOfAll 24 = .ok (.iaload, 1) := by decide +kernel
theorem dX12_bytesOfAll_25 : decode cX12_bytesOfAll 25 = .ok (.istore_n 2, 1) := by decide +kernel
theorem dX12_bytesOfAll_26 : decode cX12_bytesOfAll 26 = .ok (.aload_n 0, 1) := by decide +kernel
theorem dX12_bytesOfAll_27 : decode cX12_bytesOfAll 27 = .ok (.iload_n 2, 1) := by decide +kernel
theorem dX12_bytesOfAll_28 : decode cX12_bytesOfAll 28 = .ok (.invokevirtual 409, 3) := by decide +kernel
theorem dX12_bytesOfAll_31 : decode cX12_bytesOfAll 31 = .ok (.ifCond .eq 9, 3) := by decide +kernel
theorem dX12_bytesOfAll_34 : decode cX12_bytesOfAll 34 = .ok (.aload_n 0, 1) := by decide +kernel
theorem dX12_bytesOfAll_35 : decode cX12_bytesOfAll 35 = .ok (.iload_n 2, 1) := by decide +kernel
theorem dX12_bytesOfAll_36 : decode cX12_bytesOfAll 36 = .ok (.iconst 0, 1) := by decide +kernel
theorem dX12_bytesOfAll_37 : decode cX12_bytesOfAll 37 = .ok (.invokevirtual 412, 3) := by decide +kernel
theorem dX12_bytesOfAll_40 : decode cX12_bytesOfAll 40 = .ok (.iinc 1 1, 3) := by decide +kernel
theorem dX12_bytesOfAll_43 : decode cX12_bytesOfAll 43 = .ok (.goto (-32), 3) := by decide +kernel
theorem dX12_bytesOfAll_46 : decode cX12_bytesOfAll 46 = .ok (.aload_n 0, 1) := by decide +kernel
theorem dX12_bytesOfAll_47 : decode cX12_bytesOfAll 47 = .ok (.getfield 355, 3) := by decide +kernel
theorem dX12_bytesOfAll_50 : decode cX12_bytesOfAll 50 = .ok (.ireturn, 1) := by decide +kernel
theorem dX12_print_0 : decode cX12_print 0 = .ok (.iload_n 1, 1) := by decide +kernel
theorem dX12_print_1 : decode cX12_print 1 = .ok (.i2l, 1) := by decide +kernel
theorem dX12_print_2 : decode cX12_print 2 = .ok (.lconst 0, 1) := by decide +kernel
theorem dX12_print_3 : decode cX12_print 3 = .ok (.aload_n 0, 1) := by decide +kernel
theorem dX12_print_4 : decode cX12_print 4 = .ok (.invokevirtual 287, 3) := by decide +kernel
theorem dX12_print_7 : decode cX12_print 7 = .ok (.iconst 1, 1) := by decide +kernel
theorem dX12_print_8 : decode cX12_print 8 = .ok (.isub, 1) := by decide +kernel
theorem dX12_print_9 : decode cX12_print 9 = .ok (.i2l, 1) := by decide +kernel
theorem dX12_print_10 : decode cX12_print 10 = .ok (.invokestatic 146, 3) := by decide +kernel
theorem dX12_print_13 : decode cX12_print 13 = .ok (.ifCond .eq 12, 3) := by decide +kernel
theorem dX12_print_16 : decode cX12_print 16 = .ok (.aload_n 0, 1) := by decide +kernel
theorem dX12_print_17 : decode cX12_print 17 = .ok (.getfield 60, 3) := by decide +kernel
theorem dX12_print_20 : decode cX12_print 20 = .ok (.iload_n 1, 1) := by decide +kernel
theorem dX12_print_21 : decode cX12_print 21 = .ok (.iaload, 1) := by decide +kernel
theorem dX12_print_22 : decode cX12_print 22 = .ok (.goto 4, 3) := by decide +kernel
theorem dX12_print_25 : decode cX12_print 25 = .ok (.iconst (-1), 1) := by decide +kernel
theorem dX12_print_26 : decode cX12_print 26 = .ok (.ireturn, 1) := by decide +kernel
theorem dX12_foundFrom_0 : decode cX12_foundFrom 0 = .ok (.iload_n 1, 1) := by decide +kernel
theorem dX12_foundFrom_1 : decode cX12_foundFrom 1 = .ok (.istore_n 2, 1) := by decide +kernel
theorem dX12_foundFrom_2 : decode cX12_foundFrom 2 = .ok (.aload_n 0, 1) := by decide +kernel
theorem dX12_foundFrom_3 : decode cX12_foundFrom 3 = .ok (.iconst 0, 1) := by decide +kernel
theorem dX12_foundFrom_4 : decode cX12_foundFrom 4 = .ok (.putfield 415, 3) := by decide +kernel
theorem dX12_foundFrom_7 : decode cX12_foundFrom 7 = .ok (.aload_n 0, 1) := by decide +kernel
theorem dX12_foundFrom_8 : decode cX12_foundFrom 8 = .ok (.iload_n 2, 1) := by decide +kernel
theorem dX12_foundFrom_9 : decode cX12_foundFrom 9 = .ok (.invokevirtual 278, 3) := by decide +kernel
theorem dX12_foundFrom_12 : decode cX12_foundFrom 12 = .ok (.ifCond .ne 41, 3) := by decide +kernel
theorem dX12_foundFrom_15 : decode cX12_foundFrom 15 = .ok (.aload_n 0, 1) := by decide +kernel
theorem dX12_foundFrom_16 : decode cX12_foundFrom 16 = .ok (.getfield 19, 3) := by decide +kernel
theorem dX12_foundFrom_19 : decode cX12_foundFrom 19 = .ok (.iload_n 2, 1) := by decide +kernel
theorem dX12_foundFrom_20 : decode cX12_foundFrom 20 = .ok (.iaload, 1) := by decide +kernel
theorem dX12_foundFrom_21 : decode cX12_foundFrom 21 = .ok (.ifCond .lt 32, 3) := by decide +kernel
theorem dX12_foundFrom_24 : decode cX12_foundFrom 24 = .ok (.aload_n 0, 1) := by decide +kernel
theorem dX12_foundFrom_25 : decode cX12_foundFrom 25 = .ok (.getfield 415, 3) := by decide +kernel
theorem dX12_foundFrom_28 : decode cX12_foundFrom 28 = .ok (.bipush 16, 2) := by decide +kernel
theorem dX12_foundFrom_30 : decode cX12_foundFrom 30 = .ok (.if_icmp .ge 23, 3) := by decide +kernel
theorem dX12_foundFrom_33 : decode cX12_foundFrom 33 = .ok (.aload_n 0, 1) := by decide +kernel
theorem dX12_foundFrom_34 : decode cX12_foundFrom 34 = .ok (.getfield 19, 3) := by decide +kernel
theorem dX12_foundFrom_37 : decode cX12_foundFrom 37 = .ok (.iload_n 2, 1) := by decide +kernel
theorem dX12_foundFrom_38 : decode cX12_foundFrom 38 = .ok (.iaload, 1) := by decide +kernel
theorem dX12_foundFrom_39 : decode cX12_foundFrom 39 = .ok (.istore_n 2, 1) := by decide +kernel
theorem dX12_foundFrom_40 : decode cX12_foundFrom 40 = .ok (.aload_n 0, 1) := by decide +kernel
theorem dX12_foundFrom_41 : decode cX12_foundFrom 41 = .ok (.dup, 1) := by decide +kernel
theorem dX12_foundFrom_42 : decode cX12_foundFrom 42 = .ok (.getfield 415, 3) := by decide +kernel
theorem dX12_foundFrom_45 : decode cX12_foundFrom 45 = .ok (.iconst 1, 1) := by decide +kernel
theorem dX12_foundFrom_46 : decode cX12_foundFrom 46 = .ok (.iadd, 1) := by decide +kernel
theorem dX12_foundFrom_47 : decode cX12_foundFrom 47 = .ok (.putfield 415, 3) := by decide +kernel
theorem dX12_foundFrom_50 : decode cX12_foundFrom 50 = .ok (.goto (-43), 3) := by decide +kernel
theorem dX12_foundFrom_53 : decode cX12_foundFrom 53 = .ok (.aload_n 0, 1) := by decide +kernel
theorem dX12_foundFrom_54 : decode cX12_foundFrom 54 = .ok (.iload_n 2, 1) := by decide +kernel
theorem dX12_foundFrom_55 : decode cX12_foundFrom 55 = .ok (.invokevirtual 278, 3) := by decide +kernel
theorem dX12_foundFrom_58 : decode cX12_foundFrom 58 = .ok (.ifCond .eq 7, 3) := by decide +kernel
theorem dX12_foundFrom_61 : decode cX12_foundFrom 61 = .ok (.iload_n 2, 1) := by decide +kernel
theorem dX12_foundFrom_62 : decode cX12_foundFrom 62 = .ok (.goto 4, 3) := by decide +kernel
theorem dX12_foundFrom_65 : decode cX12_foundFrom 65 = .ok (.iconst (-1), 1) := by decide +kernel
theorem dX12_foundFrom_66 : decode cX12_foundFrom 66 = .ok (.ireturn, 1) := by decide +kernel
theorem dX12_look_0 : decode cX12_look 0 = .ok (.aload_n 0, 1) := by decide +kernel
theorem dX12_look_1 : decode cX12_look 1 = .ok (.iload_n 1, 1) := by decide +kernel
theorem dX12_look_2 : decode cX12_look 2 = .ok (.invokevirtual 293, 3) := by decide +kernel
theorem dX12_look_5 : decode cX12_look 5 = .ok (.ifCond .eq 7, 3) := by decide +kernel
theorem dX12_look_8 : decode cX12_look 8 = .ok (.sipush (-1001), 3) := by decide +kernel
theorem dX12_look_11 : decode cX12_look 11 = .ok (.ireturn, 1) := by decide +kernel
theorem dX12_look_12 : decode cX12_look 12 = .ok (.iload_n 2, 1) := by decide +kernel
theorem dX12_look_13 : decode cX12_look 13 = .ok (.i2l, 1) := by decide +kernel
theorem dX12_look_14 : decode cX12_look 14 = .ok (.lconst 0, 1) := by decide +kernel
theorem dX12_look_15 : decode cX12_look 15 = .ok (.lconst 1, 1) := by decide +kernel
theorem dX12_look_16 : decode cX12_look 16 = .ok (.invokestatic 146, 3) := by decide +kernel
theorem dX12_look_19 : decode cX12_look 19 = .ok (.ifCond .ne 7, 3) := by decide +kernel
theorem dX12_look_22 : decode cX12_look 22 = .ok (.sipush (-1002), 3) := by decide +kernel
theorem dX12_look_25 : decode cX12_look 25 = .ok (.ireturn, 1) := by decide +kernel
theorem dX12_look_26 : decode cX12_look 26 = .ok (.aload_n 0, 1) := by decide +kernel
theorem dX12_look_27 : decode cX12_look 27 = .ok (.iload_n 1, 1) := by decide +kernel
theorem dX12_look_28 : decode cX12_look 28 = .ok (.invokevirtual 400, 3) := by decide +kernel
theorem dX12_look_31 : decode cX12_look 31 = .ok (.istore_n 3, 1) := by decide +kernel
theorem dX12_look_32 : decode cX12_look 32 = .ok (.iload_n 3, 1) := by decide +kernel
theorem dX12_look_33 : decode cX12_look 33 = .ok (.ifCond .lt 7, 3) := by decide +kernel
theorem dX12_look_36 : decode cX12_look 36 = .ok (.iload_n 2, 1) := by decide +kernel
theorem dX12_look_37 : decode cX12_look 37 = .ok (.ifCond .ne 7, 3) := by decide +kernel
theorem dX12_look_40 : decode cX12_look 40 = .ok (.iload_n 3, 1) := by decide +kernel
theorem dX12_look_41 : decode cX12_look 41 = .ok (.goto 7, 3) := by decide +kernel
theorem dX12_look_44 : decode cX12_look 44 = .ok (.aload_n 0, 1) := by decide +kernel
theorem dX12_look_45 : decode cX12_look 45 = .ok (.getfield 415, 3) := by decide +kernel
theorem dX12_look_48 : decode cX12_look 48 = .ok (.ireturn, 1) := by decide +kernel
theorem dX12_stepOn_0 : decode cX12_stepOn 0 = .ok (.iload_n 1, 1) := by decide +kernel
theorem dX12_stepOn_1 : decode cX12_stepOn 1 = .ok (.istore_n 2, 1) := by decide +kernel
theorem dX12_stepOn_2 : decode cX12_stepOn 2 = .ok (.iconst 0, 1) := by decide +kernel
theorem dX12_stepOn_3 : decode cX12_stepOn 3 = .ok (.istore_n 3, 1) := by decide +kernel
theorem dX12_stepOn_4 : decode cX12_stepOn 4 = .ok (.iload_n 3, 1) := by decide +kernel
theorem dX12_stepOn_5 : decode cX12_stepOn 5 = .ok (.aload_n 0, 1) := by decide +kernel
theorem dX12_stepOn_6 : decode cX12_stepOn 6 = .ok (.getfield 192, 3) := by decide +kernel
theorem dX12_stepOn_9 : decode cX12_stepOn 9 = .ok (.if_icmp .ge 52, 3) := by decide +kernel
theorem dX12_stepOn_12 : decode cX12_stepOn 12 = .ok (.iload_n 2, 1) := by decide +kernel
theorem dX12_stepOn_13 : decode cX12_stepOn 13 = .ok (.iload_n 1, 1) := by decide +kernel
theorem dX12_stepOn_14 : decode cX12_stepOn 14 = .ok (.iload_n 3, 1) := by decide +kernel
theorem dX12_stepOn_15 : decode cX12_stepOn 15 = .ok (.invokestatic 237, 3) := by decide +kernel
theorem dX12_stepOn_18 : decode cX12_stepOn 18 = .ok (.ifCond .ne 7, 3) := by decide +kernel
theorem dX12_stepOn_21 : decode cX12_stepOn 21 = .ok (.iconst 0, 1) := by decide +kernel
theorem dX12_stepOn_22 : decode cX12_stepOn 22 = .ok (.goto 31, 3) := by decide +kernel
theorem dX12_stepOn_25 : decode cX12_stepOn 25 = .ok (.aload_n 0, 1) := by decide +kernel
theorem dX12_stepOn_26 : decode cX12_stepOn 26 = .ok (.getfield 22, 3) := by decide +kernel
theorem dX12_stepOn_29 : decode cX12_stepOn 29 = .ok (.iload_n 3, 1) := by decide +kernel
theorem dX12_stepOn_30 : decode cX12_stepOn 30 = .ok (.iaload, 1) := by decide +kernel
theorem dX12_stepOn_31 : decode cX12_stepOn 31 = .ok (.aload_n 0, 1) := by decide +kernel
theorem dX12_stepOn_32 : decode cX12_stepOn 32 = .ok (.getfield 19, 3) := by decide +kernel
theorem dX12_stepOn_35 : decode cX12_stepOn 35 = .ok (.iload_n 3, 1) := by decide +kernel
theorem dX12_stepOn_36 : decode cX12_stepOn 36 = .ok (.iaload, 1) := by decide +kernel
theorem dX12_stepOn_37 : decode cX12_stepOn 37 = .ok (.ifCond .lt 14, 3) := by decide +kernel
theorem dX12_stepOn_40 : decode cX12_stepOn 40 = .ok (.iconst 1, 1) := by decide +kernel
theorem dX12_stepOn_41 : decode cX12_stepOn 41 = .ok (.aload_n 0, 1) := by decide +kernel
theorem dX12_stepOn_42 : decode cX12_stepOn 42 = .ok (.getfield 19, 3) := by decide +kernel
