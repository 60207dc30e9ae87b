theorem dX12_stepOn_45 : decode cX12_stepOn 45 = .ok (.iload_n 3, 1) := by decide +kernel
theorem dX12_stepOn_46 : decode cX12_stepOn 46 = .ok (.iaload, 1) := by decide +kernel
theorem dX12_stepOn_47 : decode cX12_stepOn 47 = .ok (.ishl, 1) := by decide +kernel
theorem dX12_stepOn_48 : decode cX12_stepOn 48 = .ok (.goto 4, 3) := by decide +kernel
theorem dX12_stepOn_51 : decode cX12_stepOn 51 = .ok (.iconst 0, 1) := by decide +kernel
theorem dX12_stepOn_52 : decode cX12_stepOn 52 = .ok (.ior, 1) := by decide +kernel
theorem dX12_stepOn_53 : decode cX12_stepOn 53 = .ok (.ior, 1) := by decide +kernel
theorem dX12_stepOn_54 : decode cX12_stepOn 54 = .ok (.istore_n 2, 1) := by decide +kernel
theorem dX12_stepOn_55 : decode cX12_stepOn 55 = .ok (.iinc 3 1, 3) := by decide +kernel
theorem dX12_stepOn_58 : decode cX12_stepOn 58 = .ok (.goto (-54), 3) := by decide +kernel
theorem dX12_stepOn_61 : decode cX12_stepOn 61 = .ok (.iload_n 2, 1) := by decide +kernel
theorem dX12_stepOn_62 : decode cX12_stepOn 62 = .ok (.ireturn, 1) := by decide +kernel
theorem dX12_tickAll_0 : decode cX12_tickAll 0 = .ok (.iconst 0, 1) := by decide +kernel
theorem dX12_tickAll_1 : decode cX12_tickAll 1 = .ok (.istore_n 2, 1) := by decide +kernel
theorem dX12_tickAll_2 : decode cX12_tickAll 2 = .ok (.iload_n 2, 1) := by decide +kernel
theorem dX12_tickAll_3 : decode cX12_tickAll 3 = .ok (.bipush 102, 2) := by decide +kernel
theorem dX12_tickAll_5 : decode cX12_tickAll 5 = .ok (.if_icmp .ge 16, 3) := by decide +kernel
theorem dX12_tickAll_8 : decode cX12_tickAll 8 = .ok (.aload_n 0, 1) := by decide +kernel
theorem dX12_tickAll_9 : decode cX12_tickAll 9 = .ok (.getfield 51, 3) := by decide +kernel
theorem dX12_tickAll_12 : decode cX12_tickAll 12 = .ok (.iload_n 2, 1) := by decide +kernel
theorem dX12_tickAll_13 : decode cX12_tickAll 13 = .ok (.iconst 0, 1) := by decide +kernel
theorem dX12_tickAll_14 : decode cX12_tickAll 14 = .ok (.iastore, 1) := by decide +kernel
theorem dX12_tickAll_15 : decode cX12_tickAll 15 = .ok (.iinc 2 1, 3) := by decide +kernel
theorem dX12_tickAll_18 : decode cX12_tickAll 18 = .ok (.goto (-16), 3) := by decide +kernel
theorem dX12_tickAll_21 : decode cX12_tickAll 21 = .ok (.iconst 0, 1) := by decide +kernel
theorem dX12_tickAll_22 : decode cX12_tickAll 22 = .ok (.istore_n 2, 1) := by decide +kernel
theorem dX12_tickAll_23 : decode cX12_tickAll 23 = .ok (.iconst 0, 1) := by decide +kernel
theorem dX12_tickAll_24 : decode cX12_tickAll 24 = .ok (.istore_n 3, 1) := by decide +kernel
theorem dX12_tickAll_25 : decode cX12_tickAll 25 = .ok (.iload_n 3, 1) := by decide +kernel
theorem dX12_tickAll_26 : decode cX12_tickAll 26 = .ok (.aload_n 0, 1) := by decide +kernel
theorem dX12_tickAll_27 : decode cX12_tickAll 27 = .ok (.getfield 210, 3) := by decide +kernel
theorem dX12_tickAll_30 : decode cX12_tickAll 30 = .ok (.if_icmp .ge 76, 3) := by decide +kernel
theorem dX12_tickAll_33 : decode cX12_tickAll 33 = .ok (.aload_n 0, 1) := by decide +kernel
theorem dX12_tickAll_34 : decode cX12_tickAll 34 = .ok (.getfield 34, 3) := by decide +kernel
theorem dX12_tickAll_37 : decode cX12_tickAll 37 = .ok (.iload_n 3, 1) := by decide +kernel
theorem dX12_tickAll_38 : decode cX12_tickAll 38 = .ok (.iaload, 1) := by decide +kernel
theorem dX12_tickAll_39 : decode cX12_tickAll 39 = .ok (.istore 4, 2) := by decide +kernel
theorem dX12_tickAll_41 : decode cX12_tickAll 41 = .ok (.iload 4, 2) := by decide +kernel
theorem dX12_tickAll_43 : decode cX12_tickAll 43 = .ok (.aload_n 0, 1) := by decide +kernel
theorem dX12_tickAll_44 : decode cX12_tickAll 44 = .ok (.getfield 37, 3) := by decide +kernel
theorem dX12_tickAll_47 : decode cX12_tickAll 47 = .ok (.iload_n 3, 1) := by decide +kernel
theorem dX12_tickAll_48 : decode cX12_tickAll 48 = .ok (.iaload, 1) := by decide +kernel
theorem dX12_tickAll_49 : decode cX12_tickAll 49 = .ok (.if_icmp .gt 51, 3) := by decide +kernel
theorem dX12_tickAll_52 : decode cX12_tickAll 52 = .ok (.iload_n 1, 1) := by decide +kernel
theorem dX12_tickAll_53 : decode cX12_tickAll 53 = .ok (.aload_n 0, 1) := by decide +kernel
theorem dX12_tickAll_54 : decode cX12_tickAll 54 = .ok (.getfield 28, 3) := by decide +kernel
theorem dX12_tickAll_57 : decode cX12_tickAll 57 = .ok (.iload_n 3, 1) := by decide +kernel
theorem dX12_tickAll_58 : decode cX12_tickAll 58 = .ok (.iaload, 1) := by decide +kernel
theorem dX12_tickAll_59 : decode cX12_tickAll 59 = .ok (.invokestatic 237, 3) := by decide +kernel
theorem dX12_tickAll_62 : decode cX12_tickAll 62 = .ok (.ifCond .eq 38, 3) := by decide +kernel
theorem dX12_tickAll_65 : decode cX12_tickAll 65 = .ok (.iload_n 2, 1) := by decide +kernel
theorem dX12_tickAll_66 : decode cX12_tickAll 66 = .ok (.aload_n 0, 1) := by decide +kernel
theorem dX12_tickAll_67 : decode cX12_tickAll 67 = .ok (.getfield 51, 3) := by decide +kernel
theorem dX12_tickAll_70 : decode cX12_tickAll 70 = .ok (.iload 4, 2) := by decide +kernel
theorem dX12_tickAll_72 : decode cX12_tickAll 72 = .ok (.iaload, 1) := by decide +kernel
theorem dX12_tickAll_73 : decode cX12_tickAll 73 = .ok (.ifCond .ne 7, 3) := by decide +kernel
theorem dX12_tickAll_76 : decode cX12_tickAll 76 = .ok (.iconst 1, 1) := by decide +kernel
theorem dX12_tickAll_77 : decode cX12_tickAll 77 = .ok (.goto 4, 3) := by decide +kernel
theorem dX12_tickAll_80 : decode cX12_tickAll 80 = .ok (.iconst 0, 1) := by decide +kernel
theorem dX12_tickAll_81 : decode cX12_tickAll 81 = .ok (.invokestatic 271, 3) := by decide +kernel
theorem dX12_tickAll_84 : decode cX12_tickAll 84 = .ok (.iadd, 1) := by decide +kernel
theorem dX12_tickAll_85 : decode cX12_tickAll 85 = .ok (.istore_n 2, 1) := by decide +kernel
theorem dX12_tickAll_86 : decode cX12_tickAll 86 = .ok (.aload_n 0, 1) := by decide +kernel
theorem dX12_tickAll_87 : decode cX12_tickAll 87 = .ok (.getfield 51, 3) := by decide +kernel
theorem dX12_tickAll_90 : decode cX12_tickAll 90 = .ok (.iload 4, 2) := by decide +kernel
theorem dX12_tickAll_92 : decode cX12_tickAll 92 = .ok (.iconst 1, 1) := by decide +kernel
theorem dX12_tickAll_93 : decode cX12_tickAll 93 = .ok (.iastore, 1) := by decide +kernel
theorem dX12_tickAll_94 : decode cX12_tickAll 94 = .ok (.iinc 4 1, 3) := by decide +kernel
theorem dX12_tickAll_97 : decode cX12_tickAll 97 = .ok (.goto (-56), 3) := by decide +kernel
theorem dX12_tickAll_100 : decode cX12_tickAll 100 = .ok (.iinc 3 1, 3) := by decide +kernel
theorem dX12_tickAll_103 : decode cX12_tickAll 103 = .ok (.goto (-78), 3) := by decide +kernel
theorem dX12_tickAll_106 : decode cX12_tickAll 106 = .ok (.iload_n 2, 1) := by decide +kernel
theorem dX12_tickAll_107 : decode cX12_tickAll 107 = .ok (.ireturn, 1) := by decide +kernel
theorem dX12_steps_0 : decode cX12_steps 0 = .ok (.aload_n 0, 1) := by decide +kernel
theorem dX12_steps_1 : decode cX12_steps 1 = .ok (.iload_n 1, 1) := by decide +kernel
theorem dX12_steps_2 : decode cX12_steps 2 = .ok (.invokevirtual 293, 3) := by decide +kernel
theorem dX12_steps_5 : decode cX12_steps 5 = .ok (.ifCond .eq 7, 3) := by decide +kernel
theorem dX12_steps_8 : decode cX12_steps 8 = .ok (.sipush (-1001), 3) := by decide +kernel
theorem dX12_steps_11 : decode cX12_steps 11 = .ok (.ireturn, 1) := by decide +kernel
theorem dX12_steps_12 : decode cX12_steps 12 = .ok (.iload_n 2, 1) := by decide +kernel
theorem dX12_steps_13 : decode cX12_steps 13 = .ok (.invokestatic 311, 3) := by decide +kernel
theorem dX12_steps_16 : decode cX12_steps 16 = .ok (.ifCond .ne 7, 3) := by decide +kernel
theorem dX12_steps_19 : decode cX12_steps 19 = .ok (.sipush (-1002), 3) := by decide +kernel
theorem dX12_steps_22 : decode cX12_steps 22 = .ok (.ireturn, 1) := by decide +kernel
theorem dX12_steps_23 : decode cX12_steps 23 = .ok (.iconst 1, 1) := by decide +kernel
theorem dX12_steps_24 : decode cX12_steps 24 = .ok (.iload_n 1, 1) := by decide +kernel
theorem dX12_steps_25 : decode cX12_steps 25 = .ok (.ishl, 1) := by decide +kernel
theorem dX12_steps_26 : decode cX12_steps 26 = .ok (.istore_n 3, 1) := by decide +kernel
theorem dX12_steps_27 : decode cX12_steps 27 = .ok (.iconst 0, 1) := by decide +kernel
theorem dX12_steps_28 : decode cX12_steps 28 = .ok (.istore 4, 2) := by decide +kernel
theorem dX12_steps_30 : decode cX12_steps 30 = .ok (.iload 4, 2) := by decide +kernel
theorem dX12_steps_32 : decode cX12_steps 32 = .ok (.bipush 16, 2) := by decide +kernel
theorem dX12_steps_34 : decode cX12_steps 34 = .ok (.if_icmp .gt 34, 3) := by decide +kernel
theorem dX12_steps_37 : decode cX12_steps 37 = .ok (.aload_n 0, 1) := by decide +kernel
theorem dX12_steps_38 : decode cX12_steps 38 = .ok (.iload_n 3, 1) := by decide +kernel
theorem dX12_steps_39 : decode cX12_steps 39 = .ok (.invokevirtual 418, 3) := by decide +kernel
theorem dX12_steps_42 : decode cX12_steps 42 = .ok (.istore 5, 2) := by decide +kernel
theorem dX12_steps_44 : decode cX12_steps 44 = .ok (.aload_n 0, 1) := by decide +kernel
theorem dX12_steps_45 : decode cX12_steps 45 = .ok (.getfield 51, 3) := by decide +kernel
theorem dX12_steps_48 : decode cX12_steps 48 = .ok (.iload_n 2, 1) := by decide +kernel
theorem dX12_steps_49 : decode cX12_steps 49 = .ok (.iaload, 1) := by decide +kernel
theorem dX12_steps_50 : decode cX12_steps 50 = .ok (.ifCond .le 6, 3) := by decide +kernel
theorem dX12_steps_53 : decode cX12_steps 53 = .ok (.iload 4, 2) := by decide +kernel
theorem dX12_steps_55 : decode cX12_steps 55 = .ok (.ireturn, 1) := by decide +kernel
theorem dX12_steps_56 : decode cX12_steps 56 = .ok (.aload_n 0, 1) := by decide +kernel
theorem dX12_steps_57 : decode cX12_steps 57 = .ok (.iload_n 3, 1) := by decide +kernel
theorem dX12_steps_58 : decode cX12_steps 58 = .ok (.invokevirtual 421, 3) := by decide +kernel
theorem dX12_steps_61 : decode cX12_steps 61 = .ok (.istore_n 3, 1) := by decide +kernel
theorem dX12_steps_62 : decode cX12_steps 62 = .ok (.iinc 4 1, 3) := by decide +kernel
theorem dX12_steps_65 : decode cX12_steps 65 = .ok (.goto (-35), 3) := by decide +kernel
theorem dX12_steps_68 : decode cX12_steps 68 = .ok (.iconst (-1), 1) := by decide +kernel
theorem dX12_steps_69 : decode cX12_steps 69 = .ok (.ireturn, 1) := by decide +kernel
theorem dX12_finds_0 : decode cX12_finds 0 = .ok (.aload_n 0, 1) := by decide +kernel
theorem dX12_finds_1 : decode cX12_finds 1 = .ok (.iload_n 1, 1) := by decide +kernel
theorem dX12_finds_2 : decode cX12_finds 2 = .ok (.invokevirtual 293, 3) := by decide +kernel
theorem dX12_finds_5 : decode cX12_finds 5 = .ok (.ifCond .eq 7, 3) := by decide +kernel
theorem dX12_finds_8 : decode cX12_finds 8 = .ok (.sipush (-1001), 3) := by decide +kernel
theorem dX12_finds_11 : decode cX12_finds 11 = .ok (.ireturn, 1) := by decide +kernel
theorem dX12_finds_12 : decode cX12_finds 12 = .ok (.iload_n 2, 1) := by decide +kernel
theorem dX12_finds_13 : decode cX12_finds 13 = .ok (.i2l, 1) := by decide +kernel
theorem dX12_finds_14 : decode cX12_finds 14 = .ok (.lconst 0, 1) := by decide +kernel
theorem dX12_finds_15 : decode cX12_finds 15 = .ok (.ldc2_w 424, 3) := by decide +kernel
theorem dX12_finds_18 : decode cX12_finds 18 = .ok (.invokestatic 146, 3) := by decide +kernel
theorem dX12_finds_21 : decode cX12_finds 21 = .ok (.ifCond .ne 7, 3) := by decide +kernel
theorem dX12_finds_24 : decode cX12_finds 24 = .ok (.sipush (-1002), 3) := by decide +kernel
theorem dX12_finds_27 : decode cX12_finds 27 = .ok (.ireturn, 1) := by decide +kernel
theorem dX12_finds_28 : decode cX12_finds 28 = .ok (.iconst 1, 1) := by decide +kernel
theorem dX12_finds_29 : decode cX12_finds 29 = .ok (.iload_n 1, 1) := by decide +kernel
theorem dX12_finds_30 : decode cX12_finds 30 = .ok (.ishl, 1) := by decide +kernel
theorem dX12_finds_31 : decode cX12_finds 31 = .ok (.istore_n 3, 1) := by decide +kernel
theorem dX12_finds_32 : decode cX12_finds 32 = .ok (.iconst 0, 1) := by decide +kernel
theorem dX12_finds_33 : decode cX12_finds 33 = .ok (.istore 4, 2) := by decide +kernel
theorem dX12_finds_35 : decode cX12_finds 35 = .ok (.iload 4, 2) := by decide +kernel
theorem dX12_finds_37 : decode cX12_finds 37 = .ok (.iload_n 2, 1) := by decide +kernel
theorem dX12_finds_38 : decode cX12_finds 38 = .ok (.if_icmp .ge 15, 3) := by decide +kernel
theorem dX12_finds_41 : decode cX12_finds 41 = .ok (.aload_n 0, 1) := by decide +kernel
theorem dX12_finds_42 : decode cX12_finds 42 = .ok (.iload_n 3, 1) := by decide +kernel
theorem dX12_finds_43 : decode cX12_finds 43 = .ok (.invokevirtual 421, 3) := by decide +kernel
theorem dX12_finds_46 : decode cX12_finds 46 = .ok (.istore_n 3, 1) := by decide +kernel
theorem dX12_finds_47 : decode cX12_finds 47 = .ok (.iinc 4 1, 3) := by decide +kernel
theorem dX12_finds_50 : decode cX12_finds 50 = .ok (.goto (-15), 3) := by decide +kernel
theorem dX12_finds_53 : decode cX12_finds 53 = .ok (.aload_n 0, 1) := by decide +kernel
theorem dX12_finds_54 : decode cX12_finds 54 = .ok (.iload_n 3, 1) := by decide +kernel
theorem dX12_finds_55 : decode cX12_finds 55 = .ok (.invokevirtual 418, 3) := by decide +kernel
theorem dX12_finds_58 : decode cX12_finds 58 = .ok (.ireturn, 1) := by decide +kernel
theorem dX12_goesRound_0 : decode cX12_goesRound 0 = .ok (.aload_n 0, 1) := by decide +kernel
theorem dX12_goesRound_1 : decode cX12_goesRound 1 = .ok (.getfield 19, 3) := by decide +kernel
theorem dX12_goesRound_4 : decode cX12_goesRound 4 = .ok (.iload_n 1, 1) := by decide +kernel
theorem dX12_goesRound_5 : decode cX12_goesRound 5 = .ok (.iaload, 1) := by decide +kernel
theorem dX12_goesRound_6 : decode cX12_goesRound 6 = .ok (.istore_n 2, 1) := by decide +kernel
theorem dX12_goesRound_7 : decode cX12_goesRound 7 = .ok (.iconst 0, 1) := by decide +kernel
theorem dX12_goesRound_8 : decode cX12_goesRound 8 = .ok (.istore_n 3, 1) := by decide +kernel
theorem dX12_goesRound_9 : decode cX12_goesRound 9 = .ok (.iload_n 3, 1) := by decide +kernel
theorem dX12_goesRound_10 : decode cX12_goesRound 10 = .ok (.bipush 16, 2) := by decide +kernel
theorem dX12_goesRound_12 : decode cX12_goesRound 12 = .ok (.if_icmp .ge 25, 3) := by decide +kernel
theorem dX12_goesRound_15 : decode cX12_goesRound 15 = .ok (.iload_n 2, 1) := by decide +kernel
theorem dX12_goesRound_16 : decode cX12_goesRound 16 = .ok (.ifCond .lt 21, 3) := by decide +kernel
theorem dX12_goesRound_19 : decode cX12_goesRound 19 = .ok (.iload_n 2, 1) := by decide +kernel
theorem dX12_goesRound_20 : decode cX12_goesRound 20 = .ok (.iload_n 1, 1) := by decide +kernel
theorem dX12_goesRound_21 : decode cX12_goesRound 21 = .ok (.if_icmp .eq 16, 3) := by decide +kernel
theorem dX12_goesRound_24 : decode cX12_goesRound 24 = .ok (.aload_n 0, 1) := by decide +kernel
theorem dX12_goesRound_25 : decode cX12_goesRound 25 = .ok (.getfield 19, 3) := by decide +kernel
theorem dX12_goesRound_28 : decode cX12_goesRound 28 = .ok (.iload_n 2, 1) := by decide +kernel
theorem dX12_goesRound_29 : decode cX12_goesRound 29 = .ok (.iaload, 1) := by decide +kernel
theorem dX12_goesRound_30 : decode cX12_goesRound 30 = .ok (.istore_n 2, 1) := by decide +kernel
theorem dX12_goesRound_31 : decode cX12_goesRound 31 = .ok (.iinc 3 1, 3) := by decide +kernel
theorem dX12_goesRound_34 : decode cX12_goesRound 34 = .ok (.goto (-25), 3) := by decide +kernel
theorem dX12_goesRound_37 : decode cX12_goesRound 37 = .ok (.iload_n 2, 1) := by decide +kernel
theorem dX12_goesRound_38 : decode cX12_goesRound 38 = .ok (.iload_n 1, 1) := by decide +kernel
theorem dX12_goesRound_39 : decode cX12_goesRound 39 = .ok (.if_icmp .ne 7, 3) := by decide +kernel
theorem dX12_goesRound_42 : decode cX12_goesRound 42 = .ok (.iconst 1, 1) := by decide +kernel
theorem dX12_goesRound_43 : decode cX12_goesRound 43 = .ok (.goto 4, 3) := by decide +kernel
theorem dX12_goesRound_46 : decode cX12_goesRound 46 = .ok (.iconst 0, 1) := by decide +kernel
theorem dX12_goesRound_47 : decode cX12_goesRound 47 = .ok (.ireturn, 1) := by decide +kernel
theorem dX12_hasTwin_0 : decode cX12_hasTwin 0 = .ok (.aload_n 0, 1) := by decide +kernel
theorem dX12_hasTwin_1 : decode cX12_hasTwin 1 = .ok (.iconst 1, 1) := by decide +kernel
theorem dX12_hasTwin_2 : decode cX12_hasTwin 2 = .ok (.iload_n 1, 1) := by decide +kernel
theorem dX12_hasTwin_3 : decode cX12_hasTwin 3 = .ok (.ishl, 1) := by decide +kernel
theorem dX12_hasTwin_4 : decode cX12_hasTwin 4 = .ok (.invokevirtual 418, 3) := by decide +kernel
theorem dX12_hasTwin_7 : decode cX12_hasTwin 7 = .ok (.istore_n 2, 1) := by decide +kernel
theorem dX12_hasTwin_8 : decode cX12_hasTwin 8 = .ok (.iconst 0, 1) := by decide +kernel
theorem dX12_hasTwin_9 : decode cX12_hasTwin 9 = .ok (.istore_n 3, 1) := by decide +kernel
theorem dX12_hasTwin_10 : decode cX12_hasTwin 10 = .ok (.iload_n 3, 1) := by decide +kernel
theorem dX12_hasTwin_11 : decode cX12_hasTwin 11 = .ok (.bipush 102, 2) := by decide +kernel
theorem dX12_hasTwin_13 : decode cX12_hasTwin 13 = .ok (.if_icmp .ge 21, 3) := by decide +kernel
theorem dX12_hasTwin_16 : decode cX12_hasTwin 16 = .ok (.aload_n 0, 1) := by decide +kernel
theorem dX12_hasTwin_17 : decode cX12_hasTwin 17 = .ok (.getfield 66, 3) := by decide +kernel
theorem dX12_hasTwin_20 : decode cX12_hasTwin 20 = .ok (.iload_n 3, 1) := by decide +kernel
theorem dX12_hasTwin_21 : decode cX12_hasTwin 21 = .ok (.aload_n 0, 1) := by decide +kernel
theorem dX12_hasTwin_22 : decode cX12_hasTwin 22 = .ok (.getfield 51, 3) := by decide +kernel
theorem dX12_hasTwin_25 : decode cX12_hasTwin 25 = .ok (.iload_n 3, 1) := by decide +kernel
theorem dX12_hasTwin_26 : decode cX12_hasTwin 26 = .ok (.iaload, 1) := by decide +kernel
theorem dX12_hasTwin_27 : decode cX12_hasTwin 27 = .ok (.iastore, 1) := by decide +kernel
theorem dX12_hasTwin_28 : decode cX12_hasTwin 28 = .ok (.iinc 3 1, 3) := by decide +kernel
theorem dX12_hasTwin_31 : decode cX12_hasTwin 31 = .ok (.goto (-21), 3) := by decide +kernel
theorem dX12_hasTwin_34 : decode cX12_hasTwin 34 = .ok (.iconst 0, 1) := by decide +kernel
theorem dX12_hasTwin_35 : decode cX12_hasTwin 35 = .ok (.istore_n 3, 1) := by decide +kernel
theorem dX12_hasTwin_36 : decode cX12_hasTwin 36 = .ok (.iconst 0, 1) := by decide +kernel
theorem dX12_hasTwin_37 : decode cX12_hasTwin 37 = .ok (.istore 4, 2) := by decide +kernel
theorem dX12_hasTwin_39 : decode cX12_hasTwin 39 = .ok (.iload 4, 2) := by decide +kernel
theorem dX12_hasTwin_41 : decode cX12_hasTwin 41 = .ok (.aload_n 0, 1) := by decide +kernel
theorem dX12_hasTwin_42 : decode cX12_hasTwin 42 = .ok (.getfield 192, 3) := by decide +kernel
theorem dX12_hasTwin_45 : decode cX12_hasTwin 45 = .ok (.if_icmp .ge 98, 3) := by decide +kernel
theorem dX12_hasTwin_48 : decode cX12_hasTwin 48 = .ok (.iload 4, 2) := by decide +kernel
theorem dX12_hasTwin_50 : decode cX12_hasTwin 50 = .ok (.iload_n 1, 1) := by decide +kernel
theorem dX12_hasTwin_51 : decode cX12_hasTwin 51 = .ok (.if_icmp .eq 23, 3) := by decide +kernel
theorem dX12_hasTwin_54 : decode cX12_hasTwin 54 = .ok (.iload_n 2, 1) := by decide +kernel
theorem dX12_hasTwin_55 : decode cX12_hasTwin 55 = .ok (.ifCond .le 19, 3) := by decide +kernel
theorem dX12_hasTwin_58 : decode cX12_hasTwin 58 = .ok (.aload_n 0, 1) := by decide +kernel
theorem dX12_hasTwin_59 : decode cX12_hasTwin 59 = .ok (.iconst 1, 1) := by decide +kernel
theorem dX12_hasTwin_60 : decode cX12_hasTwin 60 = .ok (.iload 4, 2) := by decide +kernel
theorem dX12_hasTwin_62 : decode cX12_hasTwin 62 = .ok (.ishl, 1) := by decide +kernel
theorem dX12_hasTwin_63 : decode cX12_hasTwin 63 = .ok (.invokevirtual 418, 3) := by decide +kernel
theorem dX12_hasTwin_66 : decode cX12_hasTwin 66 = .ok (.iload_n 2, 1) := by decide +kernel
theorem dX12_hasTwin_67 : decode cX12_hasTwin 67 = .ok (.if_icmp .ne 7, 3) := by decide +kernel
theorem dX12_hasTwin_70 : decode cX12_hasTwin 70 = .ok (.iconst 1, 1) := by decide +kernel
theorem dX12_hasTwin_71 : decode cX12_hasTwin 71 = .ok (.goto 4, 3) := by decide +kernel
theorem dX12_hasTwin_74 : decode cX12_hasTwin 74 = .ok (.iconst 0, 1) := by decide +kernel
theorem dX12_hasTwin_75 : decode cX12_hasTwin 75 = .ok (.istore 5, 2) := by decide +kernel
theorem dX12_hasTwin_77 : decode cX12_hasTwin 77 = .ok (.iconst 0, 1) := by decide +kernel
theorem dX12_hasTwin_78 : decode cX12_hasTwin 78 = .ok (.istore 6, 2) := by decide +kernel
theorem dX12_hasTwin_80 : decode cX12_hasTwin 80 = .ok (.iload 6, 2) := by decide +kernel
theorem dX12_hasTwin_82 : decode cX12_hasTwin 82 = .ok (.bipush 102, 2) := by decide +kernel
theorem dX12_hasTwin_84 : decode cX12_hasTwin 84 = .ok (.if_icmp .ge 38, 3) := by decide +kernel
theorem dX12_hasTwin_87 : decode cX12_hasTwin 87 = .ok (.iload 5, 2) := by decide +kernel
theorem dX12_hasTwin_89 : decode cX12_hasTwin 89 = .ok (.ifCond .eq 33, 3) := by decide +kernel
theorem dX12_hasTwin_92 : decode cX12_hasTwin 92 = .ok (.aload_n 0, 1) := by decide +kernel
theorem dX12_hasTwin_93 : decode cX12_hasTwin 93 = .ok (.getfield 51, 3) := by decide +kernel
theorem dX12_hasTwin_96 : decode cX12_hasTwin 96 = .ok (.iload 6, 2) := by decide +kernel
theorem dX12_hasTwin_98 : decode cX12_hasTwin 98 = .ok (.iaload, 1) := by decide +kernel
theorem dX12_hasTwin_99 : decode cX12_hasTwin 99 = .ok (.aload_n 0, 1) := by decide +kernel
theorem dX12_hasTwin_100 : decode cX12_hasTwin 100 = .ok (.getfield 66, 3) := by decide +kernel
theorem dX12_hasTwin_103 : decode cX12_hasTwin 103 = .ok (.iload 6, 2) := by decide +kernel
theorem dX12_hasTwin_105 : decode cX12_hasTwin 105 = .ok (.iaload, 1) := by decide +kernel
theorem dX12_hasTwin_106 : decode cX12_hasTwin 106 = .ok (.if_icmp .ne 7, 3) := by decide +kernel
theorem dX12_hasTwin_109 : decode cX12_hasTwin 109 = .ok (.iconst 1, 1) := by decide +kernel
theorem dX12_hasTwin_110 : decode cX12_hasTwin 110 = .ok (.goto 4, 3) := by decide +kernel
theorem dX12_hasTwin_113 : decode cX12_hasTwin 113 = .ok (.iconst 0, 1) := by decide +kernel
theorem dX12_hasTwin_114 : decode cX12_hasTwin 114 = .ok (.istore 5, 2) := by decide +kernel
theorem dX12_hasTwin_116 : decode cX12_hasTwin 116 = .ok (.iinc 6 1, 3) := by decide +kernel
theorem dX12_hasTwin_119 : decode cX12_hasTwin 119 = .ok (.goto (-39), 3) := by decide +kernel
theorem dX12_hasTwin_122 : decode cX12_hasTwin 122 = .ok (.iload_n 3, 1) := by decide +kernel
theorem dX12_hasTwin_123 : decode cX12_hasTwin 123 = .ok (.ifCond .ne 8, 3) := by decide +kernel
theorem dX12_hasTwin_126 : decode cX12_hasTwin 126 = .ok (.iload 5, 2) := by decide +kernel
theorem dX12_hasTwin_128 : decode cX12_hasTwin 128 = .ok (.ifCond .eq 7, 3) := by decide +kernel
theorem dX12_hasTwin_131 : decode cX12_hasTwin 131 = .ok (.iconst 1, 1) := by decide +kernel
theorem dX12_hasTwin_132 : decode cX12_hasTwin 132 = .ok (.goto 4, 3) := by decide +kernel
theorem dX12_hasTwin_135 : decode cX12_hasTwin 135 = .ok (.iconst 0, 1) := by decide +kernel
theorem dX12_hasTwin_136 : decode cX12_hasTwin 136 = .ok (.istore_n 3, 1) := by decide +kernel
theorem dX12_hasTwin_137 : decode cX12_hasTwin 137 = .ok (.iinc 4 1, 3) := by decide +kernel
theorem dX12_hasTwin_140 : decode cX12_hasTwin 140 = .ok (.goto (-101), 3) := by decide +kernel
theorem dX12_hasTwin_143 : decode cX12_hasTwin 143 = .ok (.iload_n 3, 1) := by decide +kernel
theorem dX12_hasTwin_144 : decode cX12_hasTwin 144 = .ok (.ireturn, 1) := by decide +kernel
theorem dX12_alsoEmpty_0 : decode cX12_alsoEmpty 0 = .ok (.iconst 0, 1) := by decide +kernel
theorem dX12_alsoEmpty_1 : decode cX12_alsoEmpty 1 = .ok (.istore_n 2, 1) := by decide +kernel
theorem dX12_alsoEmpty_2 : decode cX12_alsoEmpty 2 = .ok (.iconst 0, 1) := by decide +kernel
theorem dX12_alsoEmpty_3 : decode cX12_alsoEmpty 3 = .ok (.istore_n 3, 1) := by decide +kernel
theorem dX12_alsoEmpty_4 : decode cX12_alsoEmpty 4 = .ok (.iload_n 3, 1) := by decide +kernel
theorem dX12_alsoEmpty_5 : decode cX12_alsoEmpty 5 = .ok (.aload_n 0, 1) := by decide +kernel
theorem dX12_alsoEmpty_6 : decode cX12_alsoEmpty 6 = .ok (.getfield 192, 3) := by decide +kernel
theorem dX12_alsoEmpty_9 : decode cX12_alsoEmpty 9 = .ok (.if_icmp .ge 40, 3) := by decide +kernel
theorem dX12_alsoEmpty_12 : decode cX12_alsoEmpty 12 = .ok (.iload_n 2, 1) := by decide +kernel
theorem dX12_alsoEmpty_13 : decode cX12_alsoEmpty 13 = .ok (.ifCond .ne 24, 3) := by decide +kernel
theorem dX12_alsoEmpty_16 : decode cX12_alsoEmpty 16 = .ok (.aload_n 0, 1) := by decide +kernel
theorem dX12_alsoEmpty_17 : decode cX12_alsoEmpty 17 = .ok (.getfield 22, 3) := by decide +kernel
theorem dX12_alsoEmpty_20 : decode cX12_alsoEmpty 20 = .ok (.iload_n 1, 1) := by decide +kernel
theorem dX12_alsoEmpty_21 : decode cX12_alsoEmpty 21 = .ok (.iaload, 1) := by decide +kernel
theorem dX12_alsoEmpty_22 : decode cX12_alsoEmpty 22 = .ok (.iload_n 3, 1) := by decide +kernel
theorem dX12_alsoEmpty_23 : decode cX12_alsoEmpty 23 = .ok (.invokestatic 237, 3) := by decide +kernel
theorem dX12_alsoEmpty_26 : decode cX12_alsoEmpty 26 = .ok (.ifCond .eq 15, 3) := by decide +kernel
theorem dX12_alsoEmpty_29 : decode cX12_alsoEmpty 29 = .ok (.aload_n 0, 1) := by decide +kernel
theorem dX12_alsoEmpty_30 : decode cX12_alsoEmpty 30 = .ok (.iload_n 3, 1) := by decide +kernel
theorem dX12_alsoEmpty_31 : decode cX12_alsoEmpty 31 = .ok (.invokevirtual 278, 3) := by decide +kernel
theorem dX12_alsoEmpty_34 : decode cX12_alsoEmpty 34 = .ok (.ifCond .ne 7, 3) := by decide +kernel
theorem dX12_alsoEmpty_37 : decode cX12_alsoEmpty 37 = .ok (.iconst 1, 1) := by decide +kernel
theorem dX12_alsoEmpty_38 : decode cX12_alsoEmpty 38 = .ok (.goto 4, 3) := by decide +kernel
theorem dX12_alsoEmpty_41 : decode cX12_alsoEmpty 41 = .ok (.iconst 0, 1) := by decide +kernel
theorem dX12_alsoEmpty_42 : decode cX12_alsoEmpty 42 = .ok (.istore_n 2, 1) := by decide +kernel
theorem dX12_alsoEmpty_43 : decode cX12_alsoEmpty 43 = .ok (.iinc 3 1, 3) := by decide +kernel
theorem dX12_alsoEmpty_46 : decode cX12_alsoEmpty 46 = .ok (.goto (-42), 3) := by decide +kernel
theorem dX12_alsoEmpty_49 : decode cX12_alsoEmpty 49 = .ok (.iload_n 2, 1) := by decide +kernel
theorem dX12_alsoEmpty_50 : decode cX12_alsoEmpty 50 = .ok (.ireturn, 1) := by decide +kernel
theorem dX12_isTrouble_0 : decode cX12_isTrouble 0 = .ok (.iload_n 2, 1) := by decide +kernel
theorem dX12_isTrouble_1 : decode cX12_isTrouble 1 = .ok (.tableswitch 131 0 5 #[39, 53, 59, 82, 110, 125], 39) := by decide +kernel
theorem dX12_isTrouble_40 : decode cX12_isTrouble 40 = .ok (.aload_n 0, 1) := by decide +kernel
theorem dX12_isTrouble_41 : decode cX12_isTrouble 41 = .ok (.iload_n 1, 1) := by decide +kernel
theorem dX12_isTrouble_42 : decode cX12_isTrouble 42 = .ok (.invokevirtual 400, 3) := by decide +kernel
theorem dX12_isTrouble_45 : decode cX12_isTrouble 45 = .ok (.ifCond .ge 7, 3) := by decide +kernel
theorem dX12_isTrouble_48 : decode cX12_isTrouble 48 = .ok (.iconst 1, 1) := by decide +kernel
theorem dX12_isTrouble_49 : decode cX12_isTrouble 49 = .ok (.goto 4, 3) := by decide +kernel
theorem dX12_isTrouble_52 : decode cX12_isTrouble 52 = .ok (.iconst 0, 1) := by decide +kernel
theorem dX12_isTrouble_53 : decode cX12_isTrouble 53 = .ok (.ireturn, 1) := by decide +kernel
theorem dX12_isTrouble_54 : decode cX12_isTrouble 54 = .ok (.aload_n 0, 1) := by decide +kernel
theorem dX12_isTrouble_55 : decode cX12_isTrouble 55 = .ok (.iload_n 1, 1) := by decide +kernel
theorem dX12_isTrouble_56 : decode cX12_isTrouble 56 = .ok (.invokevirtual 426, 3) := by decide +kernel
theorem dX12_isTrouble_59 : decode cX12_isTrouble 59 = .ok (.ireturn, 1) := by decide +kernel
theorem dX12_isTrouble_60 : decode cX12_isTrouble 60 = .ok (.aload_n 0, 1) := by decide +kernel
theorem dX12_isTrouble_61 : decode cX12_isTrouble 61 = .ok (.iload_n 1, 1) := by decide +kernel
theorem dX12_isTrouble_62 : decode cX12_isTrouble 62 = .ok (.invokevirtual 278, 3) := by decide +kernel
theorem dX12_isTrouble_65 : decode cX12_isTrouble 65 = .ok (.ifCond .eq 16, 3) := by decide +kernel
theorem dX12_isTrouble_68 : decode cX12_isTrouble 68 = .ok (.aload_n 0, 1) := by decide +kernel
theorem dX12_isTrouble_69 : decode cX12_isTrouble 69 = .ok (.getfield 19, 3) := by decide +kernel
theorem dX12_isTrouble_72 : decode cX12_isTrouble 72 = .ok (.iload_n 1, 1) := by decide +kernel
theorem dX12_isTrouble_73 : decode cX12_isTrouble 73 = .ok (.iaload, 1) := by decide +kernel
theorem dX12_isTrouble_74 : decode cX12_isTrouble 74 = .ok (.ifCond .lt 7, 3) := by decide +kernel
theorem dX12_isTrouble_77 : decode cX12_isTrouble 77 = .ok (.iconst 1, 1) := by decide +kernel
theorem dX12_isTrouble_78 : decode cX12_isTrouble 78 = .ok (.goto 4, 3) := by decide +kernel
theorem dX12_isTrouble_81 : decode cX12_isTrouble 81 = .ok (.iconst 0, 1) := by decide +kernel
theorem dX12_isTrouble_82 : decode cX12_isTrouble 82 = .ok (.ireturn, 1) := by decide +kernel
theorem dX12_isTrouble_83 : decode cX12_isTrouble 83 = .ok (.aload_n 0, 1) := by decide +kernel
theorem dX12_isTrouble_84 : decode cX12_isTrouble 84 = .ok (.iload_n 1, 1) := by decide +kernel
theorem dX12_isTrouble_85 : decode cX12_isTrouble 85 = .ok (.iconst (-1), 1) := by decide +kernel
theorem dX12_isTrouble_86 : decode cX12_isTrouble 86 = .ok (.invokevirtual 296, 3) := by decide +kernel
theorem dX12_isTrouble_89 : decode cX12_isTrouble 89 = .ok (.aload_n 0, 1) := by decide +kernel
theorem dX12_isTrouble_90 : decode cX12_isTrouble 90 = .ok (.invokevirtual 300, 3) := by decide +kernel
theorem dX12_isTrouble_93 : decode cX12_isTrouble 93 = .ok (.iload_n 3, 1) := by decide +kernel
theorem dX12_isTrouble_94 : decode cX12_isTrouble 94 = .ok (.if_icmp .le 15, 3) := by decide +kernel
theorem dX12_isTrouble_97 : decode cX12_isTrouble 97 = .ok (.aload_n 0, 1) := by decide +kernel
theorem dX12_isTrouble_98 : decode cX12_isTrouble 98 = .ok (.iload_n 1, 1) := by decide +kernel
theorem dX12_isTrouble_99 : decode cX12_isTrouble 99 = .ok (.invokevirtual 429, 3) := by decide +kernel
theorem dX12_isTrouble_102 : decode cX12_isTrouble 102 = .ok (.ifCond .ne 7, 3) := by decide +kernel
theorem dX12_isTrouble_105 : decode cX12_isTrouble 105 = .ok (.iconst 1, 1) := by decide +kernel
theorem dX12_isTrouble_106 : decode cX12_isTrouble 106 = .ok (.goto 4, 3) := by decide +kernel
theorem dX12_isTrouble_109 : decode cX12_isTrouble 109 = .ok (.iconst 0, 1) := by decide +kernel
theorem dX12_isTrouble_110 : decode cX12_isTrouble 110 = .ok (.ireturn, 1) := by decide +kernel
theorem dX12_isTrouble_111 : decode cX12_isTrouble 111 = .ok (.aload_n 0, 1) := by decide +kernel
theorem dX12_isTrouble_112 : decode cX12_isTrouble 112 = .ok (.iload_n 1, 1) := by decide +kernel
theorem dX12_isTrouble_113 : decode cX12_isTrouble 113 = .ok (.invokevirtual 429, 3) := by decide +kernel
theorem dX12_isTrouble_116 : decode cX12_isTrouble 116 = .ok (.iconst 1, 1) := by decide +kernel
theorem dX12_isTrouble_117 : decode cX12_isTrouble 117 = .ok (.if_icmp .ne 7, 3) := by decide +kernel
theorem dX12_isTrouble_120 : decode cX12_isTrouble 120 = .ok (.iconst 1, 1) := by decide +kernel
theorem dX12_isTrouble_121 : decode cX12_isTrouble 121 = .ok (.goto 4, 3) := by decide +kernel
theorem dX12_isTrouble_124 : decode cX12_isTrouble 124 = .ok (.iconst 0, 1) := by decide +kernel
theorem dX12_isTrouble_125 : decode cX12_isTrouble 125 = .ok (.ireturn, 1) := by decide +kernel
theorem dX12_isTrouble_126 : decode cX12_isTrouble 126 = .ok (.aload_n 0, 1) := by decide +kernel
theorem dX12_isTrouble_127 : decode cX12_isTrouble 127 = .ok (.iload_n 1, 1) := by decide +kernel
theorem dX12_isTrouble_128 : decode cX12_isTrouble 128 = .ok (.invokevirtual 432, 3) := by decide +kernel
theorem dX12_isTrouble_131 : decode cX12_isTrouble 131 = .ok (.ireturn, 1) := by decide +kernel
theorem dX12_isTrouble_132 : decode cX12_isTrouble 132 = .ok (.aload_n 0, 1) := by decide +kernel
theorem dX12_isTrouble_133 : decode cX12_isTrouble 133 = .ok (.iload_n 1, 1) := by decide +kernel
theorem dX12_isTrouble_134 : decode cX12_isTrouble 134 = .ok (.invokevirtual 435, 3) := by decide +kernel
theorem dX12_isTrouble_137 : decode cX12_isTrouble 137 = .ok (.ireturn, 1) := by decide +kernel
theorem dX12_trouble_0 : decode cX12_trouble 0 = .ok (.iload_n 1, 1) := by decide +kernel
theorem dX12_trouble_1 : decode cX12_trouble 1 = .ok (.i2l, 1) := by decide +kernel
theorem dX12_trouble_2 : decode cX12_trouble 2 = .ok (.lconst 0, 1) := by decide +kernel
theorem dX12_trouble_3 : decode cX12_trouble 3 = .ok (.ldc2_w 438, 3) := by decide +kernel
theorem dX12_trouble_6 : decode cX12_trouble 6 = .ok (.invokestatic 146, 3) := by decide +kernel
theorem dX12_trouble_9 : decode cX12_trouble 9 = .ok (.ifCond .eq 15, 3) := by decide +kernel
theorem dX12_trouble_12 : decode cX12_trouble 12 = .ok (.iload_n 2, 1) := by decide +kernel
theorem dX12_trouble_13 : decode cX12_trouble 13 = .ok (.i2l, 1) := by decide +kernel
theorem dX12_trouble_14 : decode cX12_trouble 14 = .ok (.lconst 0, 1) := by decide +kernel
theorem dX12_trouble_15 : decode cX12_trouble 15 = .ok (.ldc2_w 351, 3) := by decide +kernel
theorem dX12_trouble_18 : decode cX12_trouble 18 = .ok (.invokestatic 146, 3) := by decide +kernel
theorem dX12_trouble_21 : decode cX12_trouble 21 = .ok (.ifCond .ne 7, 3) := by decide +kernel
theorem dX12_trouble_24 : decode cX12_trouble 24 = .ok (.sipush (-1002), 3) := by decide +kernel
theorem dX12_trouble_27 : decode cX12_trouble 27 = .ok (.ireturn, 1) := by decide +kernel
theorem dX12_trouble_28 : decode cX12_trouble 28 = .ok (.iconst 0, 1) := by decide +kernel
theorem dX12_trouble_29 : decode cX12_trouble 29 = .ok (.istore_n 3, 1) := by decide +kernel
theorem dX12_trouble_30 : decode cX12_trouble 30 = .ok (.iconst 0, 1) := by decide +kernel
theorem dX12_trouble_31 : decode cX12_trouble 31 = .ok (.istore 4, 2) := by decide +kernel
theorem dX12_trouble_33 : decode cX12_trouble 33 = .ok (.iload 4, 2) := by decide +kernel
theorem dX12_trouble_35 : decode cX12_trouble 35 = .ok (.aload_n 0, 1) := by decide +kernel
theorem dX12_trouble_36 : decode cX12_trouble 36 = .ok (.getfield 192, 3) := by decide +kernel
theorem dX12_trouble_39 : decode cX12_trouble 39 = .ok (.if_icmp .ge 26, 3) := by decide +kernel
theorem dX12_trouble_42 : decode cX12_trouble 42 = .ok (.iload_n 3, 1) := by decide +kernel
theorem dX12_trouble_43 : decode cX12_trouble 43 = .ok (.aload_n 0, 1) := by decide +kernel
theorem dX12_trouble_44 : decode cX12_trouble 44 = .ok (.iload 4, 2) := by decide +kernel
theorem dX12_trouble_46 : decode cX12_trouble 46 = .ok (.iload_n 1, 1) := by decide +kernel
theorem dX12_trouble_47 : decode cX12_trouble 47 = .ok (.iload_n 2, 1) := by decide +kernel
theorem dX12_trouble_48 : decode cX12_trouble 48 = .ok (.invokevirtual 440, 3) := by decide +kernel
theorem dX12_trouble_51 : decode cX12_trouble 51 = .ok (.invokestatic 271, 3) := by decide +kernel
theorem dX12_trouble_54 : decode cX12_trouble 54 = .ok (.iload 4, 2) := by decide +kernel
theorem dX12_trouble_56 : decode cX12_trouble 56 = .ok (.ishl, 1) := by decide +kernel
theorem dX12_trouble_57 : decode cX12_trouble 57 = .ok (.ior, 1) := by decide +kernel
theorem dX12_trouble_58 : decode cX12_trouble 58 = .ok (.istore_n 3, 1) := by decide +kernel
theorem dX12_trouble_59 : decode cX12_trouble 59 = .ok (.iinc 4 1, 3) := by decide +kernel
theorem dX12_trouble_62 : decode cX12_trouble 62 = .ok (.goto (-29), 3) := by decide +kernel
theorem dX12_trouble_65 : decode cX12_trouble 65 = .ok (.iload_n 3, 1) := by decide +kernel
theorem dX12_trouble_66 : decode cX12_trouble 66 = .ok (.ireturn, 1) := by decide +kernel
theorem dX12_canPost_0 : decode cX12_canPost 0 = .ok (.aload_n 0, 1) := by decide +kernel
theorem dX12_canPost_1 : decode cX12_canPost 1 = .ok (.iload_n 1, 1) := by decide +kernel
theorem dX12_canPost_2 : decode cX12_canPost 2 = .ok (.invokevirtual 278, 3) := by decide +kernel
theorem dX12_canPost_5 : decode cX12_canPost 5 = .ok (.ifCond .ne 15, 3) := by decide +kernel
theorem dX12_canPost_8 : decode cX12_canPost 8 = .ok (.aload_n 0, 1) := by decide +kernel
theorem dX12_canPost_9 : decode cX12_canPost 9 = .ok (.iload_n 1, 1) := by decide +kernel
theorem dX12_canPost_10 : decode cX12_canPost 10 = .ok (.invokevirtual 400, 3) := by decide +kernel
theorem dX12_canPost_13 : decode cX12_canPost 13 = .ok (.ifCond .lt 7, 3) := by decide +kernel
theorem dX12_canPost_16 : decode cX12_canPost 16 = .ok (.iconst 1, 1) := by decide +kernel
theorem dX12_canPost_17 : decode cX12_canPost 17 = .ok (.goto 4, 3) := by decide +kernel
theorem dX12_canPost_20 : decode cX12_canPost 20 = .ok (.iconst 0, 1) := by decide +kernel
theorem dX12_canPost_21 : decode cX12_canPost 21 = .ok (.ireturn, 1) := by decide +kernel
theorem dX12_noSet_0 : decode cX12_noSet 0 = .ok (.iload_n 1, 1) := by decide +kernel
theorem dX12_noSet_1 : decode cX12_noSet 1 = .ok (.i2l, 1) := by decide +kernel
theorem dX12_noSet_2 : decode cX12_noSet 2 = .ok (.lconst 0, 1) := by decide +kernel
theorem dX12_noSet_3 : decode cX12_noSet 3 = .ok (.iconst 1, 1) := by decide +kernel
theorem dX12_noSet_4 : decode cX12_noSet 4 = .ok (.aload_n 0, 1) := by decide +kernel
theorem dX12_noSet_5 : decode cX12_noSet 5 = .ok (.getfield 192, 3) := by decide +kernel
theorem dX12_noSet_8 : decode cX12_noSet 8 = .ok (.ishl, 1) := by decide +kernel
theorem dX12_noSet_9 : decode cX12_noSet 9 = .ok (.iconst 1, 1) := by decide +kernel
theorem dX12_noSet_10 : decode cX12_noSet 10 = .ok (.isub, 1) := by decide +kernel
theorem dX12_noSet_11 : decode cX12_noSet 11 = .ok (.i2l, 1) := by decide +kernel
theorem dX12_noSet_12 : decode cX12_noSet 12 = .ok (.invokestatic 146, 3) := by decide +kernel
theorem dX12_noSet_15 : decode cX12_noSet 15 = .ok (.ifCond .ne 7, 3) := by decide +kernel
theorem dX12_noSet_18 : decode cX12_noSet 18 = .ok (.iconst 1, 1) := by decide +kernel
theorem dX12_noSet_19 : decode cX12_noSet 19 = .ok (.goto 4, 3) := by decide +kernel
theorem dX12_noSet_22 : decode cX12_noSet 22 = .ok (.iconst 0, 1) := by decide +kernel
theorem dX12_noSet_23 : decode cX12_noSet 23 = .ok (.ireturn, 1) := by decide +kernel
theorem dX12_posted_0 : decode cX12_posted 0 = .ok (.aload_n 0, 1) := by decide +kernel
theorem dX12_posted_1 : decode cX12_posted 1 = .ok (.iload_n 1, 1) := by decide +kernel
theorem dX12_posted_2 : decode cX12_posted 2 = .ok (.invokevirtual 443, 3) := by decide +kernel
theorem dX12_posted_5 : decode cX12_posted 5 = .ok (.ifCond .eq 7, 3) := by decide +kernel
theorem dX12_posted_8 : decode cX12_posted 8 = .ok (.sipush (-1001), 3) := by decide +kernel
theorem dX12_posted_11 : decode cX12_posted 11 = .ok (.ireturn, 1) := by decide +kernel
theorem dX12_posted_12 : decode cX12_posted 12 = .ok (.iconst 0, 1) := by decide +kernel
theorem dX12_posted_13 : decode cX12_posted 13 = .ok (.istore_n 2, 1) := by decide +kernel
theorem dX12_posted_14 : decode cX12_posted 14 = .ok (.iload_n 2, 1) := by decide +kernel
theorem dX12_posted_15 : decode cX12_posted 15 = .ok (.aload_n 0, 1) := by decide +kernel
theorem dX12_posted_16 : decode cX12_posted 16 = .ok (.getfield 192, 3) := by decide +kernel
theorem dX12_posted_19 : decode cX12_posted 19 = .ok (.if_icmp .ge 29, 3) := by decide +kernel
theorem dX12_posted_22 : decode cX12_posted 22 = .ok (.iload_n 1, 1) := by decide +kernel
theorem dX12_posted_23 : decode cX12_posted 23 = .ok (.iload_n 2, 1) := by decide +kernel
theorem dX12_posted_24 : decode cX12_posted 24 = .ok (.invokestatic 237, 3) := by decide +kernel
theorem dX12_posted_27 : decode cX12_posted 27 = .ok (.ifCond .eq 15, 3) := by decide +kernel
theorem dX12_posted_30 : decode cX12_posted 30 = .ok (.aload_n 0, 1) := by decide +kernel
theorem dX12_posted_31 : decode cX12_posted 31 = .ok (.iload_n 2, 1) := by decide +kernel
theorem dX12_posted_32 : decode cX12_posted 32 = .ok (.invokevirtual 446, 3) := by decide +kernel
theorem dX12_posted_35 : decode cX12_posted 35 = .ok (.ifCond .ne 7, 3) := by decide +kernel
theorem dX12_posted_38 : decode cX12_posted 38 = .ok (.sipush (-1003), 3) := by decide +kernel
theorem dX12_posted_41 : decode cX12_posted 41 = .ok (.ireturn, 1) := by decide +kernel
theorem dX12_posted_42 : decode cX12_posted 42 = .ok (.iinc 2 1, 3) := by decide +kernel
theorem dX12_posted_45 : decode cX12_posted 45 = .ok (.goto (-31), 3) := by decide +kernel
theorem dX12_posted_48 : decode cX12_posted 48 = .ok (.aload_n 0, 1) := by decide +kernel
theorem dX12_posted_49 : decode cX12_posted 49 = .ok (.iload_n 1, 1) := by decide +kernel
theorem dX12_posted_50 : decode cX12_posted 50 = .ok (.invokevirtual 284, 3) := by decide +kernel
theorem dX12_posted_53 : decode cX12_posted 53 = .ok (.ireturn, 1) := by decide +kernel
theorem dX12_tryPosting_0 : decode cX12_tryPosting 0 = .ok (.aload_n 0, 1) := by decide +kernel
theorem dX12_tryPosting_1 : decode cX12_tryPosting 1 = .ok (.iconst 0, 1) := by decide +kernel
theorem dX12_tryPosting_2 : decode cX12_tryPosting 2 = .ok (.invokevirtual 284, 3) := by decide +kernel
theorem dX12_tryPosting_5 : decode cX12_tryPosting 5 = .ok (.istore_n 2, 1) := by decide +kernel
theorem dX12_tryPosting_6 : decode cX12_tryPosting 6 = .ok (.iconst 0, 1) := by decide +kernel
theorem dX12_tryPosting_7 : decode cX12_tryPosting 7 = .ok (.istore_n 3, 1) := by decide +kernel
theorem dX12_tryPosting_8 : decode cX12_tryPosting 8 = .ok (.iconst 0, 1) := by decide +kernel
theorem dX12_tryPosting_9 : decode cX12_tryPosting 9 = .ok (.istore 4, 2) := by decide +kernel
theorem dX12_tryPosting_11 : decode cX12_tryPosting 11 = .ok (.iload 4, 2) := by decide +kernel
theorem dX12_tryPosting_13 : decode cX12_tryPosting 13 = .ok (.aload_n 0, 1) := by decide +kernel
theorem dX12_tryPosting_14 : decode cX12_tryPosting 14 = .ok (.getfield 192, 3) := by decide +kernel
theorem dX12_tryPosting_17 : decode cX12_tryPosting 17 = .ok (.if_icmp .ge 82, 3) := by decide +kernel
theorem dX12_tryPosting_20 : decode cX12_tryPosting 20 = .ok (.iload_n 3, 1) := by decide +kernel
theorem dX12_tryPosting_21 : decode cX12_tryPosting 21 = .ok (.bipush 10, 2) := by decide +kernel
theorem dX12_tryPosting_23 : decode cX12_tryPosting 23 = .ok (.if_icmp .ge 76, 3) := by decide +kernel
theorem dX12_tryPosting_26 : decode cX12_tryPosting 26 = .ok (.aload_n 0, 1) := by decide +kernel
theorem dX12_tryPosting_27 : decode cX12_tryPosting 27 = .ok (.iload 4, 2) := by decide +kernel
theorem dX12_tryPosting_29 : decode cX12_tryPosting 29 = .ok (.invokevirtual 446, 3) := by decide +kernel
theorem dX12_tryPosting_32 : decode cX12_tryPosting 32 = .ok (.ifCond .eq 61, 3) := by decide +kernel
theorem dX12_tryPosting_35 : decode cX12_tryPosting 35 = .ok (.aload_n 0, 1) := by decide +kernel
theorem dX12_tryPosting_36 : decode cX12_tryPosting 36 = .ok (.getfield 69, 3) := by decide +kernel
theorem dX12_tryPosting_39 : decode cX12_tryPosting 39 = .ok (.iload_n 3, 1) := by decide +kernel
theorem dX12_tryPosting_40 : decode cX12_tryPosting 40 = .ok (.iload 4, 2) := by decide +kernel
theorem dX12_tryPosting_42 : decode cX12_tryPosting 42 = .ok (.iastore, 1) := by decide +kernel
theorem dX12_tryPosting_43 : decode cX12_tryPosting 43 = .ok (.aload_n 0, 1) := by decide +kernel
theorem dX12_tryPosting_44 : decode cX12_tryPosting 44 = .ok (.getfield 72, 3) := by decide +kernel
theorem dX12_tryPosting_47 : decode cX12_tryPosting 47 = .ok (.iload_n 3, 1) := by decide +kernel
theorem dX12_tryPosting_48 : decode cX12_tryPosting 48 = .ok (.aload_n 0, 1) := by decide +kernel
theorem dX12_tryPosting_49 : decode cX12_tryPosting 49 = .ok (.iload 4, 2) := by decide +kernel
theorem dX12_tryPosting_51 : decode cX12_tryPosting 51 = .ok (.iconst 2, 1) := by decide +kernel
theorem dX12_tryPosting_52 : decode cX12_tryPosting 52 = .ok (.invokevirtual 303, 3) := by decide +kernel
theorem dX12_tryPosting_55 : decode cX12_tryPosting 55 = .ok (.aload_n 0, 1) := by decide +kernel
theorem dX12_tryPosting_56 : decode cX12_tryPosting 56 = .ok (.iload 4, 2) := by decide +kernel
theorem dX12_tryPosting_58 : decode cX12_tryPosting 58 = .ok (.iconst 0, 1) := by decide +kernel
theorem dX12_tryPosting_59 : decode cX12_tryPosting 59 = .ok (.invokevirtual 303, 3) := by decide +kernel
theorem dX12_tryPosting_62 : decode cX12_tryPosting 62 = .ok (.isub, 1) := by decide +kernel
theorem dX12_tryPosting_63 : decode cX12_tryPosting 63 = .ok (.iastore, 1) := by decide +kernel
theorem dX12_tryPosting_64 : decode cX12_tryPosting 64 = .ok (.aload_n 0, 1) := by decide +kernel
theorem dX12_tryPosting_65 : decode cX12_tryPosting 65 = .ok (.iload 4, 2) := by decide +kernel
theorem dX12_tryPosting_67 : decode cX12_tryPosting 67 = .ok (.invokevirtual 400, 3) := by decide +kernel
theorem dX12_tryPosting_70 : decode cX12_tryPosting 70 = .ok (.istore 5, 2) := by decide +kernel
theorem dX12_tryPosting_72 : decode cX12_tryPosting 72 = .ok (.aload_n 0, 1) := by decide +kernel
theorem dX12_tryPosting_73 : decode cX12_tryPosting 73 = .ok (.getfield 75, 3) := by decide +kernel
theorem dX12_tryPosting_76 : decode cX12_tryPosting 76 = .ok (.iload_n 3, 1) := by decide +kernel
theorem dX12_tryPosting_77 : decode cX12_tryPosting 77 = .ok (.aload_n 0, 1) := by decide +kernel
theorem dX12_tryPosting_78 : decode cX12_tryPosting 78 = .ok (.getfield 25, 3) := by decide +kernel
theorem dX12_tryPosting_81 : decode cX12_tryPosting 81 = .ok (.iload 4, 2) := by decide +kernel
theorem dX12_tryPosting_83 : decode cX12_tryPosting 83 = .ok (.iaload, 1) := by decide +kernel
theorem dX12_tryPosting_84 : decode cX12_tryPosting 84 = .ok (.aload_n 0, 1) := by decide +kernel
theorem dX12_tryPosting_85 : decode cX12_tryPosting 85 = .ok (.getfield 415, 3) := by decide +kernel
theorem dX12_tryPosting_88 : decode cX12_tryPosting 88 = .ok (.imul, 1) := by decide +kernel
theorem dX12_tryPosting_89 : decode cX12_tryPosting 89 = .ok (.iastore, 1) := by decide +kernel
theorem dX12_tryPosting_90 : decode cX12_tryPosting 90 = .ok (.iinc 3 1, 3) := by decide +kernel
theorem dX12_tryPosting_93 : decode cX12_tryPosting 93 = .ok (.iinc 4 1, 3) := by decide +kernel
theorem dX12_tryPosting_96 : decode cX12_tryPosting 96 = .ok (.goto (-85), 3) := by decide +kernel
theorem dX12_tryPosting_99 : decode cX12_tryPosting 99 = .ok (.aload_n 0, 1) := by decide +kernel
theorem dX12_tryPosting_100 : decode cX12_tryPosting 100 = .ok (.iconst (-1), 1) := by decide +kernel
theorem dX12_tryPosting_101 : decode cX12_tryPosting 101 = .ok (.putfield 449, 3) := by decide +kernel
theorem dX12_tryPosting_104 : decode cX12_tryPosting 104 = .ok (.aload_n 0, 1) := by decide +kernel
theorem dX12_tryPosting_105 : decode cX12_tryPosting 105 = .ok (.iconst (-1), 1) := by decide +kernel
theorem dX12_tryPosting_106 : decode cX12_tryPosting 106 = .ok (.putfield 452, 3) := by decide +kernel
theorem dX12_tryPosting_109 : decode cX12_tryPosting 109 = .ok (.aload_n 0, 1) := by decide +kernel
theorem dX12_tryPosting_110 : decode cX12_tryPosting 110 = .ok (.iconst (-1), 1) := by decide +kernel
theorem dX12_tryPosting_111 : decode cX12_tryPosting 111 = .ok (.putfield 455, 3) := by decide +kernel
theorem dX12_tryPosting_114 : decode cX12_tryPosting 114 = .ok (.iconst 0, 1) := by decide +kernel
theorem dX12_tryPosting_115 : decode cX12_tryPosting 115 = .ok (.istore 4, 2) := by decide +kernel
theorem dX12_tryPosting_117 : decode cX12_tryPosting 117 = .ok (.iload 4, 2) := by decide +kernel
theorem dX12_tryPosting_119 : decode cX12_tryPosting 119 = .ok (.iconst 1, 1) := by decide +kernel
theorem dX12_tryPosting_120 : decode cX12_tryPosting 120 = .ok (.iload_n 3, 1) := by decide +kernel
theorem dX12_tryPosting_121 : decode cX12_tryPosting 121 = .ok (.ishl, 1) := by decide +kernel
theorem dX12_tryPosting_122 : decode cX12_tryPosting 122 = .ok (.if_icmp .ge 169, 3) := by decide +kernel
theorem dX12_tryPosting_125 : decode cX12_tryPosting 125 = .ok (.iload_n 2, 1) := by decide +kernel
theorem dX12_tryPosting_126 : decode cX12_tryPosting 126 = .ok (.iload_n 1, 1) := by decide +kernel
theorem dX12_tryPosting_127 : decode cX12_tryPosting 127 = .ok (.if_icmp .gt 164, 3) := by decide +kernel
theorem dX12_tryPosting_130 : decode cX12_tryPosting 130 = .ok (.iconst 0, 1) := by decide +kernel
theorem dX12_tryPosting_131 : decode cX12_tryPosting 131 = .ok (.istore 5, 2) := by decide +kernel
theorem dX12_tryPosting_133 : decode cX12_tryPosting 133 = .ok (.iload_n 2, 1) := by decide +kernel
theorem dX12_tryPosting_134 : decode cX12_tryPosting 134 = .ok (.istore 6, 2) := by decide +kernel
theorem dX12_tryPosting_136 : decode cX12_tryPosting 136 = .ok (.iconst 0, 1) := by decide +kernel
theorem dX12_tryPosting_137 : decode cX12_tryPosting 137 = .ok (.istore 7, 2) := by decide +kernel
theorem dX12_tryPosting_139 : decode cX12_tryPosting 139 = .ok (.iconst 0, 1) := by decide +kernel
theorem dX12_tryPosting_140 : decode cX12_tryPosting 140 = .ok (.istore 8, 2) := by decide +kernel
theorem dX12_tryPosting_142 : decode cX12_tryPosting 142 = .ok (.iload 8, 2) := by decide +kernel
theorem dX12_tryPosting_144 : decode cX12_tryPosting 144 = .ok (.iload_n 3, 1) := by decide +kernel
theorem dX12_tryPosting_145 : decode cX12_tryPosting 145 = .ok (.if_icmp .ge 89, 3) := by decide +kernel
theorem dX12_tryPosting_148 : decode cX12_tryPosting 148 = .ok (.iload 5, 2) := by decide +kernel
theorem dX12_tryPosting_150 : decode cX12_tryPosting 150 = .ok (.iload 4, 2) := by decide +kernel
theorem dX12_tryPosting_152 : decode cX12_tryPosting 152 = .ok (.iload 8, 2) := by decide +kernel
theorem dX12_tryPosting_154 : decode cX12_tryPosting 154 = .ok (.invokestatic 237, 3) := by decide +kernel
theorem dX12_tryPosting_157 : decode cX12_tryPosting 157 = .ok (.ifCond .eq 15, 3) := by decide +kernel
theorem dX12_tryPosting_160 : decode cX12_tryPosting 160 = .ok (.iconst 1, 1) := by decide +kernel
theorem dX12_tryPosting_161 : decode cX12_tryPosting 161 = .ok (.aload_n 0, 1) := by decide +kernel
theorem dX12_tryPosting_162 : decode cX12_tryPosting 162 = .ok (.getfield 69, 3) := by decide +kernel
theorem dX12_tryPosting_165 : decode cX12_tryPosting 165 = .ok (.iload 8, 2) := by decide +kernel
theorem dX12_tryPosting_167 : decode cX12_tryPosting 167 = .ok (.iaload, 1) := by decide +kernel
theorem dX12_tryPosting_168 : decode cX12_tryPosting 168 = .ok (.ishl, 1) := by decide +kernel
theorem dX12_tryPosting_169 : decode cX12_tryPosting 169 = .ok (.goto 4, 3) := by decide +kernel
theorem dX12_tryPosting_172 : decode cX12_tryPosting 172 = .ok (.iconst 0, 1) := by decide +kernel
theorem dX12_tryPosting_173 : decode cX12_tryPosting 173 = .ok (.ior, 1) := by decide +kernel
theorem dX12_tryPosting_174 : decode cX12_tryPosting 174 = .ok (.istore 5, 2) := by decide +kernel
theorem dX12_tryPosting_176 : decode cX12_tryPosting 176 = .ok (.iload 6, 2) := by decide +kernel
theorem dX12_tryPosting_178 : decode cX12_tryPosting 178 = .ok (.iload 4, 2) := by decide +kernel
theorem dX12_tryPosting_180 : decode cX12_tryPosting 180 = .ok (.iload 8, 2) := by decide +kernel
theorem dX12_tryPosting_182 : decode cX12_tryPosting 182 = .ok (.invokestatic 237, 3) := by decide +kernel
theorem dX12_tryPosting_185 : decode cX12_tryPosting 185 = .ok (.ifCond .eq 13, 3) := by decide +kernel
theorem dX12_tryPosting_188 : decode cX12_tryPosting 188 = .ok (.aload_n 0, 1) := by decide +kernel
theorem dX12_tryPosting_189 : decode cX12_tryPosting 189 = .ok (.getfield 72, 3) := by decide +kernel
theorem dX12_tryPosting_192 : decode cX12_tryPosting 192 = .ok (.iload 8, 2) := by decide +kernel
theorem dX12_tryPosting_194 : decode cX12_tryPosting 194 = .ok (.iaload, 1) := by decide +kernel
theorem dX12_tryPosting_195 : decode cX12_tryPosting 195 = .ok (.goto 4, 3) := by decide +kernel
theorem dX12_tryPosting_198 : decode cX12_tryPosting 198 = .ok (.iconst 0, 1) := by decide +kernel
theorem dX12_tryPosting_199 : decode cX12_tryPosting 199 = .ok (.iadd, 1) := by decide +kernel
theorem dX12_tryPosting_200 : decode cX12_tryPosting 200 = .ok (.istore 6, 2) := by decide +kernel
theorem dX12_tryPosting_202 : decode cX12_tryPosting 202 = .ok (.iload 7, 2) := by decide +kernel
theorem dX12_tryPosting_204 : decode cX12_tryPosting 204 = .ok (.iload 4, 2) := by decide +kernel
theorem dX12_tryPosting_206 : decode cX12_tryPosting 206 = .ok (.iload 8, 2) := by decide +kernel
theorem dX12_tryPosting_208 : decode cX12_tryPosting 208 = .ok (.invokestatic 237, 3) := by decide +kernel
theorem dX12_tryPosting_211 : decode cX12_tryPosting 211 = .ok (.ifCond .eq 13, 3) := by decide +kernel
theorem dX12_tryPosting_214 : decode cX12_tryPosting 214 = .ok (.aload_n 0, 1) := by decide +kernel
theorem dX12_tryPosting_215 : decode cX12_tryPosting 215 = .ok (.getfield 75, 3) := by decide +kernel
theorem dX12_tryPosting_218 : decode cX12_tryPosting 218 = .ok (.iload 8, 2) := by decide +kernel
theorem dX12_tryPosting_220 : decode cX12_tryPosting 220 = .ok (.iaload, 1) := by decide +kernel
theorem dX12_tryPosting_221 : decode cX12_tryPosting 221 = .ok (.goto 4, 3) := by decide +kernel
theorem dX12_tryPosting_224 : decode cX12_tryPosting 224 = .ok (.iconst 0, 1) := by decide +kernel
theorem dX12_tryPosting_225 : decode cX12_tryPosting 225 = .ok (.iadd, 1) := by decide +kernel
theorem dX12_tryPosting_226 : decode cX12_tryPosting 226 = .ok (.istore 7, 2) := by decide +kernel
theorem dX12_tryPosting_228 : decode cX12_tryPosting 228 = .ok (.iinc 8 1, 3) := by decide +kernel
theorem dX12_tryPosting_231 : decode cX12_tryPosting 231 = .ok (.goto (-89), 3) := by decide +kernel
theorem dX12_tryPosting_234 : decode cX12_tryPosting 234 = .ok (.iload 6, 2) := by decide +kernel
theorem dX12_tryPosting_236 : decode cX12_tryPosting 236 = .ok (.iload_n 1, 1) := by decide +kernel
theorem dX12_tryPosting_237 : decode cX12_tryPosting 237 = .ok (.if_icmp .gt 48, 3) := by decide +kernel
theorem dX12_tryPosting_240 : decode cX12_tryPosting 240 = .ok (.iload 7, 2) := by decide +kernel
theorem dX12_tryPosting_242 : decode cX12_tryPosting 242 = .ok (.aload_n 0, 1) := by decide +kernel
theorem dX12_tryPosting_243 : decode cX12_tryPosting 243 = .ok (.getfield 452, 3) := by decide +kernel
theorem dX12_tryPosting_246 : decode cX12_tryPosting 246 = .ok (.if_icmp .gt 21, 3) := by decide +kernel
theorem dX12_tryPosting_249 : decode cX12_tryPosting 249 = .ok (.iload 7, 2) := by decide +kernel
theorem dX12_tryPosting_251 : decode cX12_tryPosting 251 = .ok (.aload_n 0, 1) := by decide +kernel
theorem dX12_tryPosting_252 : decode cX12_tryPosting 252 = .ok (.getfield 452, 3) := by decide +kernel
theorem dX12_tryPosting_255 : decode cX12_tryPosting 255 = .ok (.if_icmp .ne 30, 3) := by decide +kernel
theorem dX12_tryPosting_258 : decode cX12_tryPosting 258 = .ok (.iload 6, 2) := by decide +kernel
theorem dX12_tryPosting_260 : decode cX12_tryPosting 260 = .ok (.aload_n 0, 1) := by decide +kernel
theorem dX12_tryPosting_261 : decode cX12_tryPosting 261 = .ok (.getfield 455, 3) := by decide +kernel
theorem dX12_tryPosting_264 : decode cX12_tryPosting 264 = .ok (.if_icmp .ge 21, 3) := by decide +kernel
theorem dX12_tryPosting_267 : decode cX12_tryPosting 267 = .ok (.aload_n 0, 1) := by decide +kernel
theorem dX12_tryPosting_268 : decode cX12_tryPosting 268 = .ok (.iload 5, 2) := by decide +kernel
theorem dX12_tryPosting_270 : decode cX12_tryPosting 270 = .ok (.putfield 449, 3) := by decide +kernel
theorem dX12_tryPosting_273 : decode cX12_tryPosting 273 = .ok (.aload_n 0, 1) := by decide +kernel
theorem dX12_tryPosting_274 : decode cX12_tryPosting 274 = .ok (.iload 7, 2) := by decide +kernel
theorem dX12_tryPosting_276 : decode cX12_tryPosting 276 = .ok (.putfield 452, 3) := by decide +kernel
theorem dX12_tryPosting_279 : decode cX12_tryPosting 279 = .ok (.aload_n 0, 1) := by decide +kernel
theorem dX12_tryPosting_280 : decode cX12_tryPosting 280 = .ok (.iload 6, 2) := by decide +kernel
theorem dX12_tryPosting_282 : decode cX12_tryPosting 282 = .ok (.putfield 455, 3) := by decide +kernel
theorem dX12_tryPosting_285 : decode cX12_tryPosting 285 = .ok (.iinc 4 1, 3) := by decide +kernel
theorem dX12_tryPosting_288 : decode cX12_tryPosting 288 = .ok (.goto (-171), 3) := by decide +kernel
theorem dX12_tryPosting_291 : decode cX12_tryPosting 291 = .ok (.return_, 1) := by decide +kernel
theorem dX12_posting_0 : decode cX12_posting 0 = .ok (.iload_n 1, 1) := by decide +kernel
theorem dX12_posting_1 : decode cX12_posting 1 = .ok (.i2l, 1) := by decide +kernel
theorem dX12_posting_2 : decode cX12_posting 2 = .ok (.lconst 0, 1) := by decide +kernel
theorem dX12_posting_3 : decode cX12_posting 3 = .ok (.ldc2_w 458, 3) := by decide +kernel
theorem dX12_posting_6 : decode cX12_posting 6 = .ok (.invokestatic 146, 3) := by decide +kernel
theorem dX12_posting_9 : decode cX12_posting 9 = .ok (.ifCond .eq 15, 3) := by decide +kernel
theorem dX12_posting_12 : decode cX12_posting 12 = .ok (.iload_n 2, 1) := by decide +kernel
theorem dX12_posting_13 : decode cX12_posting 13 = .ok (.i2l, 1) := by decide +kernel
theorem dX12_posting_14 : decode cX12_posting 14 = .ok (.lconst 0, 1) := by decide +kernel
theorem dX12_posting_15 : decode cX12_posting 15 = .ok (.ldc2_w 330, 3) := by decide +kernel
theorem dX12_posting_18 : decode cX12_posting 18 = .ok (.invokestatic 146, 3) := by decide +kernel
theorem dX12_posting_21 : decode cX12_posting 21 = .ok (.ifCond .ne 7, 3) := by decide +kernel
theorem dX12_posting_24 : decode cX12_posting 24 = .ok (.sipush (-1002), 3) := by decide +kernel
theorem dX12_posting_27 : decode cX12_posting 27 = .ok (.ireturn, 1) := by decide +kernel
theorem dX12_posting_28 : decode cX12_posting 28 = .ok (.aload_n 0, 1) := by decide +kernel
theorem dX12_posting_29 : decode cX12_posting 29 = .ok (.iload_n 1, 1) := by decide +kernel
theorem dX12_posting_30 : decode cX12_posting 30 = .ok (.invokevirtual 460, 3) := by decide +kernel
theorem dX12_posting_33 : decode cX12_posting 33 = .ok (.iload_n 2, 1) := by decide +kernel
theorem dX12_posting_34 : decode cX12_posting 34 = .ok (.ifCond .ne 10, 3) := by decide +kernel
theorem dX12_posting_37 : decode cX12_posting 37 = .ok (.aload_n 0, 1) := by decide +kernel
theorem dX12_posting_38 : decode cX12_posting 38 = .ok (.getfield 449, 3) := by decide +kernel
theorem dX12_posting_41 : decode cX12_posting 41 = .ok (.goto 19, 3) := by decide +kernel
theorem dX12_posting_44 : decode cX12_posting 44 = .ok (.iload_n 2, 1) := by decide +kernel
theorem dX12_posting_45 : decode cX12_posting 45 = .ok (.iconst 1, 1) := by decide +kernel
theorem dX12_posting_46 : decode cX12_posting 46 = .ok (.if_icmp .ne 10, 3) := by decide +kernel
theorem dX12_posting_49 : decode cX12_posting 49 = .ok (.aload_n 0, 1) := by decide +kernel
theorem dX12_posting_50 : decode cX12_posting 50 = .ok (.getfield 452, 3) := by decide +kernel
theorem dX12_posting_53 : decode cX12_posting 53 = .ok (.goto 7, 3) := by decide +kernel
theorem dX12_posting_56 : decode cX12_posting 56 = .ok (.aload_n 0, 1) := by decide +kernel
theorem dX12_posting_57 : decode cX12_posting 57 = .ok (.getfield 455, 3) := by decide +kernel
theorem dX12_posting_60 : decode cX12_posting 60 = .ok (.ireturn, 1) := by decide +kernel
theorem dX12_lossOf_0 : decode cX12_lossOf 0 = .ok (.iload_n 2, 1) := by decide +kernel
theorem dX12_lossOf_1 : decode cX12_lossOf 1 = .ok (.ifCond .ne 7, 3) := by decide +kernel
theorem dX12_lossOf_4 : decode cX12_lossOf 4 = .ok (.iconst 0, 1) := by decide +kernel
theorem dX12_lossOf_5 : decode cX12_lossOf 5 = .ok (.goto 27, 3) := by decide +kernel
theorem dX12_lossOf_8 : decode cX12_lossOf 8 = .ok (.aload_n 0, 1) := by decide +kernel
theorem dX12_lossOf_9 : decode cX12_lossOf 9 = .ok (.getfield 25, 3) := by decide +kernel
theorem dX12_lossOf_12 : decode cX12_lossOf 12 = .ok (.iload_n 1, 1) := by decide +kernel
theorem dX12_lossOf_13 : decode cX12_lossOf 13 = .ok (.iaload, 1) := by decide +kernel
theorem dX12_lossOf_14 : decode cX12_lossOf 14 = .ok (.iconst 1, 1) := by decide +kernel
theorem dX12_lossOf_15 : decode cX12_lossOf 15 = .ok (.iadd, 1) := by decide +kernel
theorem dX12_lossOf_16 : decode cX12_lossOf 16 = .ok (.iload_n 2, 1) := by decide +kernel
theorem dX12_lossOf_17 : decode cX12_lossOf 17 = .ok (.iconst 1, 1) := by decide +kernel
theorem dX12_lossOf_18 : decode cX12_lossOf 18 = .ok (.if_icmp .ne 11, 3) := by decide +kernel
theorem dX12_lossOf_21 : decode cX12_lossOf 21 = .ok (.aload_n 0, 1) := by decide +kernel
theorem dX12_lossOf_22 : decode cX12_lossOf 22 = .ok (.iload_n 1, 1) := by decide +kernel
theorem dX12_lossOf_23 : decode cX12_lossOf 23 = .ok (.invokevirtual 429, 3) := by decide +kernel
theorem dX12_lossOf_26 : decode cX12_lossOf 26 = .ok (.goto 5, 3) := by decide +kernel
theorem dX12_lossOf_29 : decode cX12_lossOf 29 = .ok (.bipush 20, 2) := by decide +kernel
theorem dX12_lossOf_31 : decode cX12_lossOf 31 = .ok (.imul, 1) := by decide +kernel
theorem dX12_lossOf_32 : decode cX12_lossOf 32 = .ok (.ireturn, 1) := by decide +kernel
theorem dX12_fitHead_0 : decode cX12_fitHead 0 = .ok (.iload 4, 2) := by decide +kernel
theorem dX12_fitHead_2 : decode cX12_fitHead 2 = .ok (.istore 5, 2) := by decide +kernel
theorem dX12_fitHead_4 : decode cX12_fitHead 4 = .ok (.iload 5, 2) := by decide +kernel
theorem dX12_fitHead_6 : decode cX12_fitHead 6 = .ok (.iload_n 2, 1) := by decide +kernel
theorem dX12_fitHead_7 : decode cX12_fitHead 7 = .ok (.if_icmp .gt 124, 3) := by decide +kernel
theorem dX12_fitHead_10 : decode cX12_fitHead 10 = .ok (.sipush 201, 3) := by decide +kernel
theorem dX12_fitHead_13 : decode cX12_fitHead 13 = .ok (.iload_n 1, 1) := by decide +kernel
theorem dX12_fitHead_14 : decode cX12_fitHead 14 = .ok (.imul, 1) := by decide +kernel
theorem dX12_fitHead_15 : decode cX12_fitHead 15 = .ok (.iload 5, 2) := by decide +kernel
theorem dX12_fitHead_17 : decode cX12_fitHead 17 = .ok (.iadd, 1) := by decide +kernel
theorem dX12_fitHead_18 : decode cX12_fitHead 18 = .ok (.istore 6, 2) := by decide +kernel
theorem dX12_fitHead_20 : decode cX12_fitHead 20 = .ok (.sipush 201, 3) := by decide +kernel
theorem dX12_fitHead_23 : decode cX12_fitHead 23 = .ok (.iload_n 1, 1) := by decide +kernel
theorem dX12_fitHead_24 : decode cX12_fitHead 24 = .ok (.iconst 1, 1) := by decide +kernel
theorem dX12_fitHead_25 : decode cX12_fitHead 25 = .ok (.iadd, 1) := by decide +kernel
theorem dX12_fitHead_26 : decode cX12_fitHead 26 = .ok (.imul, 1) := by decide +kernel
theorem dX12_fitHead_27 : decode cX12_fitHead 27 = .ok (.iload 5, 2) := by decide +kernel
theorem dX12_fitHead_29 : decode cX12_fitHead 29 = .ok (.iadd, 1) := by decide +kernel
theorem dX12_fitHead_30 : decode cX12_fitHead 30 = .ok (.iload 4, 2) := by decide +kernel
theorem dX12_fitHead_32 : decode cX12_fitHead 32 = .ok (.isub, 1) := by decide +kernel
theorem dX12_fitHead_33 : decode cX12_fitHead 33 = .ok (.istore 7, 2) := by decide +kernel
theorem dX12_fitHead_35 : decode cX12_fitHead 35 = .ok (.aload_n 0, 1) := by decide +kernel
theorem dX12_fitHead_36 : decode cX12_fitHead 36 = .ok (.getfield 78, 3) := by decide +kernel
theorem dX12_fitHead_39 : decode cX12_fitHead 39 = .ok (.iload 7, 2) := by decide +kernel
theorem dX12_fitHead_41 : decode cX12_fitHead 41 = .ok (.iaload, 1) := by decide +kernel
theorem dX12_fitHead_42 : decode cX12_fitHead 42 = .ok (.aload_n 0, 1) := by decide +kernel
theorem dX12_fitHead_43 : decode cX12_fitHead 43 = .ok (.iload_n 1, 1) := by decide +kernel
theorem dX12_fitHead_44 : decode cX12_fitHead 44 = .ok (.iload_n 3, 1) := by decide +kernel
theorem dX12_fitHead_45 : decode cX12_fitHead 45 = .ok (.invokevirtual 463, 3) := by decide +kernel
theorem dX12_fitHead_48 : decode cX12_fitHead 48 = .ok (.iadd, 1) := by decide +kernel
theorem dX12_fitHead_49 : decode cX12_fitHead 49 = .ok (.istore 8, 2) := by decide +kernel
theorem dX12_fitHead_51 : decode cX12_fitHead 51 = .ok (.aload_n 0, 1) := by decide +kernel
theorem dX12_fitHead_52 : decode cX12_fitHead 52 = .ok (.getfield 81, 3) := by decide +kernel
theorem dX12_fitHead_55 : decode cX12_fitHead 55 = .ok (.iload 7, 2) := by decide +kernel
theorem dX12_fitHead_57 : decode cX12_fitHead 57 = .ok (.iaload, 1) := by decide +kernel
theorem dX12_fitHead_58 : decode cX12_fitHead 58 = .ok (.iload 4, 2) := by decide +kernel
theorem dX12_fitHead_60 : decode cX12_fitHead 60 = .ok (.iadd, 1) := by decide +kernel
theorem dX12_fitHead_61 : decode cX12_fitHead 61 = .ok (.istore 9, 2) := by decide +kernel
theorem dX12_fitHead_63 : decode cX12_fitHead 63 = .ok (.iload 8, 2) := by decide +kernel
theorem dX12_fitHead_65 : decode cX12_fitHead 65 = .ok (.aload_n 0, 1) := by decide +kernel
theorem dX12_fitHead_66 : decode cX12_fitHead 66 = .ok (.getfield 78, 3) := by decide +kernel
theorem dX12_fitHead_69 : decode cX12_fitHead 69 = .ok (.iload 6, 2) := by decide +kernel
theorem dX12_fitHead_71 : decode cX12_fitHead 71 = .ok (.iaload, 1) := by decide +kernel
theorem dX12_fitHead_72 : decode cX12_fitHead 72 = .ok (.if_icmp .lt 27, 3) := by decide +kernel
theorem dX12_fitHead_75 : decode cX12_fitHead 75 = .ok (.iload 8, 2) := by decide +kernel
theorem dX12_fitHead_77 : decode cX12_fitHead 77 = .ok (.aload_n 0, 1) := by decide +kernel
theorem dX12_fitHead_78 : decode cX12_fitHead 78 = .ok (.getfield 78, 3) := by decide +kernel
theorem dX12_fitHead_81 : decode cX12_fitHead 81 = .ok (.iload 6, 2) := by decide +kernel
theorem dX12_fitHead_83 : decode cX12_fitHead 83 = .ok (.iaload, 1) := by decide +kernel
theorem dX12_fitHead_84 : decode cX12_fitHead 84 = .ok (.if_icmp .ne 41, 3) := by decide +kernel
theorem dX12_fitHead_87 : decode cX12_fitHead 87 = .ok (.iload 9, 2) := by decide +kernel
theorem dX12_fitHead_89 : decode cX12_fitHead 89 = .ok (.aload_n 0, 1) := by decide +kernel
theorem dX12_fitHead_90 : decode cX12_fitHead 90 = .ok (.getfield 81, 3) := by decide +kernel
theorem dX12_fitHead_93 : decode cX12_fitHead 93 = .ok (.iload 6, 2) := by decide +kernel
theorem dX12_fitHead_95 : decode cX12_fitHead 95 = .ok (.iaload, 1) := by decide +kernel
theorem dX12_fitHead_96 : decode cX12_fitHead 96 = .ok (.if_icmp .ge 29, 3) := by decide +kernel
theorem dX12_fitHead_99 : decode cX12_fitHead 99 = .ok (.aload_n 0, 1) := by decide +kernel
theorem dX12_fitHead_100 : decode cX12_fitHead 100 = .ok (.getfield 78, 3) := by decide +kernel
theorem dX12_fitHead_103 : decode cX12_fitHead 103 = .ok (.iload 6, 2) := by decide +kernel
theorem dX12_fitHead_105 : decode cX12_fitHead 105 = .ok (.iload 8, 2) := by decide +kernel
theorem dX12_fitHead_107 : decode cX12_fitHead 107 = .ok (.iastore, 1) := by decide +kernel
theorem dX12_fitHead_108 : decode cX12_fitHead 108 = .ok (.aload_n 0, 1) := by decide +kernel
theorem dX12_fitHead_109 : decode cX12_fitHead 109 = .ok (.getfield 81, 3) := by decide +kernel
theorem dX12_fitHead_112 : decode cX12_fitHead 112 = .ok (.iload 6, 2) := by decide +kernel
theorem dX12_fitHead_114 : decode cX12_fitHead 114 = .ok (.iload 9, 2) := by decide +kernel
theorem dX12_fitHead_116 : decode cX12_fitHead 116 = .ok (.iastore, 1) := by decide +kernel
theorem dX12_fitHead_117 : decode cX12_fitHead 117 = .ok (.aload_n 0, 1) := by decide +kernel
theorem dX12_fitHead_118 : decode cX12_fitHead 118 = .ok (.getfield 84, 3) := by decide +kernel
theorem dX12_fitHead_121 : decode cX12_fitHead 121 = .ok (.iload 6, 2) := by decide +kernel
theorem dX12_fitHead_123 : decode cX12_fitHead 123 = .ok (.iload_n 3, 1) := by decide +kernel
theorem dX12_fitHead_124 : decode cX12_fitHead 124 = .ok (.iastore, 1) := by decide +kernel
theorem dX12_fitHead_125 : decode cX12_fitHead 125 = .ok (.iinc 5 1, 3) := by decide +kernel
theorem dX12_fitHead_128 : decode cX12_fitHead 128 = .ok (.goto (-124), 3) := by decide +kernel
theorem dX12_fitHead_131 : decode cX12_fitHead 131 = .ok (.return_, 1) := by decide +kernel
theorem dX12_fitAll_0 : decode cX12_fitAll 0 = .ok (.iconst 0, 1) := by decide +kernel
theorem dX12_fitAll_1 : decode cX12_fitAll 1 = .ok (.istore_n 2, 1) := by decide +kernel
theorem dX12_fitAll_2 : decode cX12_fitAll 2 = .ok (.iload_n 2, 1) := by decide +kernel
theorem dX12_fitAll_3 : decode cX12_fitAll 3 = .ok (.iload_n 1, 1) := by decide +kernel
theorem dX12_fitAll_4 : decode cX12_fitAll 4 = .ok (.if_icmp .gt 41, 3) := by decide +kernel
theorem dX12_fitAll_7 : decode cX12_fitAll 7 = .ok (.aload_n 0, 1) := by decide +kernel
theorem dX12_fitAll_8 : decode cX12_fitAll 8 = .ok (.getfield 78, 3) := by decide +kernel
theorem dX12_fitAll_11 : decode cX12_fitAll 11 = .ok (.sipush 201, 3) := by decide +kernel
theorem dX12_fitAll_14 : decode cX12_fitAll 14 = .ok (.aload_n 0, 1) := by decide +kernel
theorem dX12_fitAll_15 : decode cX12_fitAll 15 = .ok (.getfield 192, 3) := by decide +kernel
theorem dX12_fitAll_18 : decode cX12_fitAll 18 = .ok (.imul, 1) := by decide +kernel
theorem dX12_fitAll_19 : decode cX12_fitAll 19 = .ok (.iload_n 2, 1) := by decide +kernel
theorem dX12_fitAll_20 : decode cX12_fitAll 20 = .ok (.iadd, 1) := by decide +kernel
theorem dX12_fitAll_21 : decode cX12_fitAll 21 = .ok (.iconst 0, 1) := by decide +kernel
theorem dX12_fitAll_22 : decode cX12_fitAll 22 = .ok (.iastore, 1) := by decide +kernel
theorem dX12_fitAll_23 : decode cX12_fitAll 23 = .ok (.aload_n 0, 1) := by decide +kernel
theorem dX12_fitAll_24 : decode cX12_fitAll 24 = .ok (.getfield 81, 3) := by decide +kernel
theorem dX12_fitAll_27 : decode cX12_fitAll 27 = .ok (.sipush 201, 3) := by decide +kernel
theorem dX12_fitAll_30 : decode cX12_fitAll 30 = .ok (.aload_n 0, 1) := by decide +kernel
theorem dX12_fitAll_31 : decode cX12_fitAll 31 = .ok (.getfield 192, 3) := by decide +kernel
theorem dX12_fitAll_34 : decode cX12_fitAll 34 = .ok (.imul, 1) := by decide +kernel
theorem dX12_fitAll_35 : decode cX12_fitAll 35 = .ok (.iload_n 2, 1) := by decide +kernel
theorem dX12_fitAll_36 : decode cX12_fitAll 36 = .ok (.iadd, 1) := by decide +kernel
theorem dX12_fitAll_37 : decode cX12_fitAll 37 = .ok (.iconst 0, 1) := by decide +kernel
theorem dX12_fitAll_38 : decode cX12_fitAll 38 = .ok (.iastore, 1) := by decide +kernel
theorem dX12_fitAll_39 : decode cX12_fitAll 39 = .ok (.iinc 2 1, 3) := by decide +kernel
theorem dX12_fitAll_42 : decode cX12_fitAll 42 = .ok (.goto (-40), 3) := by decide +kernel
theorem dX12_fitAll_45 : decode cX12_fitAll 45 = .ok (.aload_n 0, 1) := by decide +kernel
theorem dX12_fitAll_46 : decode cX12_fitAll 46 = .ok (.getfield 192, 3) := by decide +kernel
theorem dX12_fitAll_49 : decode cX12_fitAll 49 = .ok (.iconst 1, 1) := by decide +kernel
theorem dX12_fitAll_50 : decode cX12_fitAll 50 = .ok (.isub, 1) := by decide +kernel
theorem dX12_fitAll_51 : decode cX12_fitAll 51 = .ok (.istore_n 2, 1) := by decide +kernel
theorem dX12_fitAll_52 : decode cX12_fitAll 52 = .ok (.iload_n 2, 1) := by decide +kernel
theorem dX12_fitAll_53 : decode cX12_fitAll 53 = .ok (.ifCond .lt 100, 3) := by decide +kernel
theorem dX12_fitAll_56 : decode cX12_fitAll 56 = .ok (.iconst 0, 1) := by decide +kernel
theorem dX12_fitAll_57 : decode cX12_fitAll 57 = .ok (.istore_n 3, 1) := by decide +kernel
theorem dX12_fitAll_58 : decode cX12_fitAll 58 = .ok (.iload_n 3, 1) := by decide +kernel
theorem dX12_fitAll_59 : decode cX12_fitAll 59 = .ok (.iload_n 1, 1) := by decide +kernel
theorem dX12_fitAll_60 : decode cX12_fitAll 60 = .ok (.if_icmp .gt 37, 3) := by decide +kernel
theorem dX12_fitAll_63 : decode cX12_fitAll 63 = .ok (.aload_n 0, 1) := by decide +kernel
theorem dX12_fitAll_64 : decode cX12_fitAll 64 = .ok (.getfield 78, 3) := by decide +kernel
theorem dX12_fitAll_67 : decode cX12_fitAll 67 = .ok (.sipush 201, 3) := by decide +kernel
theorem dX12_fitAll_70 : decode cX12_fitAll 70 = .ok (.iload_n 2, 1) := by decide +kernel
theorem dX12_fitAll_71 : decode cX12_fitAll 71 = .ok (.imul, 1) := by decide +kernel
theorem dX12_fitAll_72 : decode cX12_fitAll 72 = .ok (.iload_n 3, 1) := by decide +kernel
theorem dX12_fitAll_73 : decode cX12_fitAll 73 = .ok (.iadd, 1) := by decide +kernel
theorem dX12_fitAll_74 : decode cX12_fitAll 74 = .ok (.ldc_w 466, 3) := by decide +kernel
theorem dX12_fitAll_77 : decode cX12_fitAll 77 = .ok (.iastore, 1) := by decide +kernel
theorem dX12_fitAll_78 : decode cX12_fitAll 78 = .ok (.aload_n 0, 1) := by decide +kernel
theorem dX12_fitAll_79 : decode cX12_fitAll 79 = .ok (.getfield 84, 3) := by decide +kernel
theorem dX12_fitAll_82 : decode cX12_fitAll 82 = .ok (.sipush 201, 3) := by decide +kernel
theorem dX12_fitAll_85 : decode cX12_fitAll 85 = .ok (.iload_n 2, 1) := by decide +kernel
theorem dX12_fitAll_86 : decode cX12_fitAll 86 = .ok (.imul, 1) := by decide +kernel
theorem dX12_fitAll_87 : decode cX12_fitAll 87 = .ok (.iload_n 3, 1) := by decide +kernel
theorem dX12_fitAll_88 : decode cX12_fitAll 88 = .ok (.iadd, 1) := by decide +kernel
theorem dX12_fitAll_89 : decode cX12_fitAll 89 = .ok (.iconst 0, 1) := by decide +kernel
theorem dX12_fitAll_90 : decode cX12_fitAll 90 = .ok (.iastore, 1) := by decide +kernel
theorem dX12_fitAll_91 : decode cX12_fitAll 91 = .ok (.iinc 3 1, 3) := by decide +kernel
theorem dX12_fitAll_94 : decode cX12_fitAll 94 = .ok (.goto (-36), 3) := by decide +kernel
theorem dX12_fitAll_97 : decode cX12_fitAll 97 = .ok (.aload_n 0, 1) := by decide +kernel
theorem dX12_fitAll_98 : decode cX12_fitAll 98 = .ok (.iload_n 2, 1) := by decide +kernel
theorem dX12_fitAll_99 : decode cX12_fitAll 99 = .ok (.iload_n 1, 1) := by decide +kernel
theorem dX12_fitAll_100 : decode cX12_fitAll 100 = .ok (.iconst 0, 1) := by decide +kernel
theorem dX12_fitAll_101 : decode cX12_fitAll 101 = .ok (.aload_n 0, 1) := by decide +kernel
theorem dX12_fitAll_102 : decode cX12_fitAll 102 = .ok (.iload_n 2, 1) := by decide +kernel
theorem dX12_fitAll_103 : decode cX12_fitAll 103 = .ok (.iconst 0, 1) := by decide +kernel
theorem dX12_fitAll_104 : decode cX12_fitAll 104 = .ok (.invokevirtual 303, 3) := by decide +kernel
theorem dX12_fitAll_107 : decode cX12_fitAll 107 = .ok (.invokevirtual 467, 3) := by decide +kernel
theorem dX12_fitAll_110 : decode cX12_fitAll 110 = .ok (.aload_n 0, 1) := by decide +kernel
theorem dX12_fitAll_111 : decode cX12_fitAll 111 = .ok (.iload_n 2, 1) := by decide +kernel
theorem dX12_fitAll_112 : decode cX12_fitAll 112 = .ok (.invokevirtual 429, 3) := by decide +kernel
theorem dX12_fitAll_115 : decode cX12_fitAll 115 = .ok (.ifCond .le 16, 3) := by decide +kernel
theorem dX12_fitAll_118 : decode cX12_fitAll 118 = .ok (.aload_n 0, 1) := by decide +kernel
theorem dX12_fitAll_119 : decode cX12_fitAll 119 = .ok (.iload_n 2, 1) := by decide +kernel
theorem dX12_fitAll_120 : decode cX12_fitAll 120 = .ok (.iload_n 1, 1) := by decide +kernel
theorem dX12_fitAll_121 : decode cX12_fitAll 121 = .ok (.iconst 1, 1) := by decide +kernel
theorem dX12_fitAll_122 : decode cX12_fitAll 122 = .ok (.aload_n 0, 1) := by decide +kernel
theorem dX12_fitAll_123 : decode cX12_fitAll 123 = .ok (.iload_n 2, 1) := by decide +kernel
theorem dX12_fitAll_124 : decode cX12_fitAll 124 = .ok (.iconst 1, 1) := by decide +kernel
theorem dX12_fitAll_125 : decode cX12_fitAll 125 = .ok (.invokevirtual 303, 3) := by decide +kernel
theorem dX12_fitAll_128 : decode cX12_fitAll 128 = .ok (.invokevirtual 467, 3) := by decide +kernel
theorem dX12_fitAll_131 : decode cX12_fitAll 131 = .ok (.aload_n 0, 1) := by decide +kernel
theorem dX12_fitAll_132 : decode cX12_fitAll 132 = .ok (.iload_n 2, 1) := by decide +kernel
theorem dX12_fitAll_133 : decode cX12_fitAll 133 = .ok (.invokevirtual 409, 3) := by decide +kernel
theorem dX12_fitAll_136 : decode cX12_fitAll 136 = .ok (.ifCond .eq 11, 3) := by decide +kernel
theorem dX12_fitAll_139 : decode cX12_fitAll 139 = .ok (.aload_n 0, 1) := by decide +kernel
theorem dX12_fitAll_140 : decode cX12_fitAll 140 = .ok (.iload_n 2, 1) := by decide +kernel
theorem dX12_fitAll_141 : decode cX12_fitAll 141 = .ok (.iload_n 1, 1) := by decide +kernel
theorem dX12_fitAll_142 : decode cX12_fitAll 142 = .ok (.iconst 2, 1) := by decide +kernel
theorem dX12_fitAll_143 : decode cX12_fitAll 143 = .ok (.iconst 0, 1) := by decide +kernel
theorem dX12_fitAll_144 : decode cX12_fitAll 144 = .ok (.invokevirtual 467, 3) := by decide +kernel
theorem dX12_fitAll_147 : decode cX12_fitAll 147 = .ok (.iinc 2 (-1), 3) := by decide +kernel
theorem dX12_fitAll_150 : decode cX12_fitAll 150 = .ok (.goto (-98), 3) := by decide +kernel
theorem dX12_fitAll_153 : decode cX12_fitAll 153 = .ok (.return_, 1) := by decide +kernel
theorem dX12_fit_0 : decode cX12_fit 0 = .ok (.iload_n 2, 1) := by decide +kernel
theorem dX12_fit_1 : decode cX12_fit 1 = .ok (.iconst (-1), 1) := by decide +kernel
theorem dX12_fit_2 : decode cX12_fit 2 = .ok (.if_icmp .eq 15, 3) := by decide +kernel
theorem dX12_fit_5 : decode cX12_fit 5 = .ok (.aload_n 0, 1) := by decide +kernel
theorem dX12_fit_6 : decode cX12_fit 6 = .ok (.iload_n 2, 1) := by decide +kernel
theorem dX12_fit_7 : decode cX12_fit 7 = .ok (.invokevirtual 293, 3) := by decide +kernel
theorem dX12_fit_10 : decode cX12_fit 10 = .ok (.ifCond .eq 7, 3) := by decide +kernel
theorem dX12_fit_13 : decode cX12_fit 13 = .ok (.sipush (-1001), 3) := by decide +kernel
theorem dX12_fit_16 : decode cX12_fit 16 = .ok (.ireturn, 1) := by decide +kernel
theorem dX12_fit_17 : decode cX12_fit 17 = .ok (.iload_n 1, 1) := by decide +kernel
theorem dX12_fit_18 : decode cX12_fit 18 = .ok (.i2l, 1) := by decide +kernel
theorem dX12_fit_19 : decode cX12_fit 19 = .ok (.lconst 0, 1) := by decide +kernel
theorem dX12_fit_20 : decode cX12_fit 20 = .ok (.ldc2_w 471, 3) := by decide +kernel
theorem dX12_fit_23 : decode cX12_fit 23 = .ok (.invokestatic 146, 3) := by decide +kernel
theorem dX12_fit_26 : decode cX12_fit 26 = .ok (.ifCond .ne 7, 3) := by decide +kernel
theorem dX12_fit_29 : decode cX12_fit 29 = .ok (.sipush (-1002), 3) := by decide +kernel
theorem dX12_fit_32 : decode cX12_fit 32 = .ok (.ireturn, 1) := by decide +kernel
theorem dX12_fit_33 : decode cX12_fit 33 = .ok (.aload_n 0, 1) := by decide +kernel
theorem dX12_fit_34 : decode cX12_fit 34 = .ok (.iload_n 1, 1) := by decide +kernel
theorem dX12_fit_35 : decode cX12_fit 35 = .ok (.invokevirtual 473, 3) := by decide +kernel
theorem dX12_fit_38 : decode cX12_fit 38 = .ok (.iload_n 2, 1) := by decide +kernel
theorem dX12_fit_39 : decode cX12_fit 39 = .ok (.iconst (-1), 1) := by decide +kernel
theorem dX12_fit_40 : decode cX12_fit 40 = .ok (.if_icmp .ne 10, 3) := by decide +kernel
theorem dX12_fit_43 : decode cX12_fit 43 = .ok (.aload_n 0, 1) := by decide +kernel
theorem dX12_fit_44 : decode cX12_fit 44 = .ok (.getfield 78, 3) := by decide +kernel
theorem dX12_fit_47 : decode cX12_fit 47 = .ok (.iload_n 1, 1) := by decide +kernel
theorem dX12_fit_48 : decode cX12_fit 48 = .ok (.iaload, 1) := by decide +kernel
theorem dX12_fit_49 : decode cX12_fit 49 = .ok (.ireturn, 1) := by decide +kernel
theorem dX12_fit_50 : decode cX12_fit 50 = .ok (.iload_n 1, 1) := by decide +kernel
theorem dX12_fit_51 : decode cX12_fit 51 = .ok (.istore_n 3, 1) := by decide +kernel
theorem dX12_fit_52 : decode cX12_fit 52 = .ok (.iconst 0, 1) := by decide +kernel
theorem dX12_fit_53 : decode cX12_fit 53 = .ok (.istore 4, 2) := by decide +kernel
theorem dX12_fit_55 : decode cX12_fit 55 = .ok (.iload 4, 2) := by decide +kernel
theorem dX12_fit_57 : decode cX12_fit 57 = .ok (.iload_n 2, 1) := by decide +kernel
theorem dX12_fit_58 : decode cX12_fit 58 = .ok (.if_icmp .ge 54, 3) := by decide +kernel
theorem dX12_fit_61 : decode cX12_fit 61 = .ok (.aload_n 0, 1) := by decide +kernel
theorem dX12_fit_62 : decode cX12_fit 62 = .ok (.getfield 84, 3) := by decide +kernel
theorem dX12_fit_65 : decode cX12_fit 65 = .ok (.sipush 201, 3) := by decide +kernel
theorem dX12_fit_68 : decode cX12_fit 68 = .ok (.iload 4, 2) := by decide +kernel
theorem dX12_fit_70 : decode cX12_fit 70 = .ok (.imul, 1) := by decide +kernel
theorem dX12_fit_71 : decode cX12_fit 71 = .ok (.iload_n 3, 1) := by decide +kernel
theorem dX12_fit_72 : decode cX12_fit 72 = .ok (.iadd, 1) := by decide +kernel
theorem dX12_fit_73 : decode cX12_fit 73 = .ok (.iaload, 1) := by decide +kernel
theorem dX12_fit_74 : decode cX12_fit 74 = .ok (.istore 5, 2) := by decide +kernel
theorem dX12_fit_76 : decode cX12_fit 76 = .ok (.iload_n 3, 1) := by decide +kernel
theorem dX12_fit_77 : decode cX12_fit 77 = .ok (.iload 5, 2) := by decide +kernel
theorem dX12_fit_79 : decode cX12_fit 79 = .ok (.iconst 2, 1) := by decide +kernel
theorem dX12_fit_80 : decode cX12_fit 80 = .ok (.if_icmp .ne 7, 3) := by decide +kernel
theorem dX12_fit_83 : decode cX12_fit 83 = .ok (.iconst 0, 1) := by decide +kernel
theorem dX12_fit_84 : decode cX12_fit 84 = .ok (.goto 20, 3) := by decide +kernel
theorem dX12_fit_87 : decode cX12_fit 87 = .ok (.aload_n 0, 1) := by decide +kernel
theorem dX12_fit_88 : decode cX12_fit 88 = .ok (.iload 4, 2) := by decide +kernel
theorem dX12_fit_90 : decode cX12_fit 90 = .ok (.iload 5, 2) := by decide +kernel
theorem dX12_fit_92 : decode cX12_fit 92 = .ok (.iconst 1, 1) := by decide +kernel
theorem dX12_fit_93 : decode cX12_fit 93 = .ok (.if_icmp .ne 7, 3) := by decide +kernel
theorem dX12_fit_96 : decode cX12_fit 96 = .ok (.iconst 1, 1) := by decide +kernel
theorem dX12_fit_97 : decode cX12_fit 97 = .ok (.goto 4, 3) := by decide +kernel
theorem dX12_fit_100 : decode cX12_fit 100 = .ok (.iconst 0, 1) := by decide +kernel
theorem dX12_fit_101 : decode cX12_fit 101 = .ok (.invokevirtual 303, 3) := by decide +kernel
theorem dX12_fit_104 : decode cX12_fit 104 = .ok (.isub, 1) := by decide +kernel
theorem dX12_fit_105 : decode cX12_fit 105 = .ok (.istore_n 3, 1) := by decide +kernel
theorem dX12_fit_106 : decode cX12_fit 106 = .ok (.iinc 4 1, 3) := by decide +kernel
theorem dX12_fit_109 : decode cX12_fit 109 = .ok (.goto (-54), 3) := by decide +kernel
theorem dX12_fit_112 : decode cX12_fit 112 = .ok (.aload_n 0, 1) := by decide +kernel
theorem dX12_fit_113 : decode cX12_fit 113 = .ok (.getfield 84, 3) := by decide +kernel
theorem dX12_fit_116 : decode cX12_fit 116 = .ok (.sipush 201, 3) := by decide +kernel
theorem dX12_fit_119 : decode cX12_fit 119 = .ok (.iload_n 2, 1) := by decide +kernel
theorem dX12_fit_120 : decode cX12_fit 120 = .ok (.imul, 1) := by decide +kernel
theorem dX12_fit_121 : decode cX12_fit 121 = .ok (.iload_n 3, 1) := by decide +kernel
theorem dX12_fit_122 : decode cX12_fit 122 = .ok (.iadd, 1) := by decide +kernel
theorem dX12_fit_123 : decode cX12_fit 123 = .ok (.iaload, 1) := by decide +kernel
theorem dX12_fit_124 : decode cX12_fit 124 = .ok (.ireturn, 1) := by decide +kernel
theorem dX12_putIn_0 : decode cX12_putIn 0 = .ok (.iload_n 1, 1) := by decide +kernel
theorem dX12_putIn_1 : decode cX12_putIn 1 = .ok (.i2l, 1) := by decide +kernel
theorem dX12_putIn_2 : decode cX12_putIn 2 = .ok (.lconst 0, 1) := by decide +kernel
theorem dX12_putIn_3 : decode cX12_putIn 3 = .ok (.ldc2_w 309, 3) := by decide +kernel
theorem dX12_putIn_6 : decode cX12_putIn 6 = .ok (.invokestatic 146, 3) := by decide +kernel
theorem dX12_putIn_9 : decode cX12_putIn 9 = .ok (.ifCond .eq 15, 3) := by decide +kernel
theorem dX12_putIn_12 : decode cX12_putIn 12 = .ok (.iload_n 2, 1) := by decide +kernel
theorem dX12_putIn_13 : decode cX12_putIn 13 = .ok (.i2l, 1) := by decide +kernel
theorem dX12_putIn_14 : decode cX12_putIn 14 = .ok (.lconst 1, 1) := by decide +kernel
theorem dX12_putIn_15 : decode cX12_putIn 15 = .ok (.ldc2_w 424, 3) := by decide +kernel
theorem dX12_putIn_18 : decode cX12_putIn 18 = .ok (.invokestatic 146, 3) := by decide +kernel
theorem dX12_putIn_21 : decode cX12_putIn 21 = .ok (.ifCond .ne 7, 3) := by decide +kernel
theorem dX12_putIn_24 : decode cX12_putIn 24 = .ok (.sipush (-1002), 3) := by decide +kernel
theorem dX12_putIn_27 : decode cX12_putIn 27 = .ok (.ireturn, 1) := by decide +kernel
theorem dX12_putIn_28 : decode cX12_putIn 28 = .ok (.iconst 0, 1) := by decide +kernel
theorem dX12_putIn_29 : decode cX12_putIn 29 = .ok (.istore_n 3, 1) := by decide +kernel
theorem dX12_putIn_30 : decode cX12_putIn 30 = .ok (.iload_n 3, 1) := by decide +kernel
theorem dX12_putIn_31 : decode cX12_putIn 31 = .ok (.aload_n 0, 1) := by decide +kernel
theorem dX12_putIn_32 : decode cX12_putIn 32 = .ok (.getfield 210, 3) := by decide +kernel
theorem dX12_putIn_35 : decode cX12_putIn 35 = .ok (.if_icmp .ge 36, 3) := by decide +kernel
theorem dX12_putIn_38 : decode cX12_putIn 38 = .ok (.aload_n 0, 1) := by decide +kernel
theorem dX12_putIn_39 : decode cX12_putIn 39 = .ok (.getfield 37, 3) := by decide +kernel
theorem dX12_putIn_42 : decode cX12_putIn 42 = .ok (.iload_n 3, 1) := by decide +kernel
theorem dX12_putIn_43 : decode cX12_putIn 43 = .ok (.iaload, 1) := by decide +kernel
theorem dX12_putIn_44 : decode cX12_putIn 44 = .ok (.iload_n 1, 1) := by decide +kernel
theorem dX12_putIn_45 : decode cX12_putIn 45 = .ok (.if_icmp .le 20, 3) := by decide +kernel
theorem dX12_putIn_48 : decode cX12_putIn 48 = .ok (.aload_n 0, 1) := by decide +kernel
theorem dX12_putIn_49 : decode cX12_putIn 49 = .ok (.getfield 37, 3) := by decide +kernel
theorem dX12_putIn_52 : decode cX12_putIn 52 = .ok (.iload_n 3, 1) := by decide +kernel
theorem dX12_putIn_53 : decode cX12_putIn 53 = .ok (.iaload, 1) := by decide +kernel
theorem dX12_putIn_54 : decode cX12_putIn 54 = .ok (.iload_n 2, 1) := by decide +kernel
theorem dX12_putIn_55 : decode cX12_putIn 55 = .ok (.iadd, 1) := by decide +kernel
theorem dX12_putIn_56 : decode cX12_putIn 56 = .ok (.bipush 99, 2) := by decide +kernel
theorem dX12_putIn_58 : decode cX12_putIn 58 = .ok (.if_icmp .le 7, 3) := by decide +kernel
theorem dX12_putIn_61 : decode cX12_putIn 61 = .ok (.sipush (-1003), 3) := by decide +kernel
theorem dX12_putIn_64 : decode cX12_putIn 64 = .ok (.ireturn, 1) := by decide +kernel
theorem dX12_putIn_65 : decode cX12_putIn 65 = .ok (.iinc 3 1, 3) := by decide +kernel
theorem dX12_putIn_68 : decode cX12_putIn 68 = .ok (.goto (-38), 3) := by decide +kernel
theorem dX12_putIn_71 : decode cX12_putIn 71 = .ok (.iconst 0, 1) := by decide +kernel
theorem dX12_putIn_72 : decode cX12_putIn 72 = .ok (.istore_n 3, 1) := by decide +kernel
theorem dX12_putIn_73 : decode cX12_putIn 73 = .ok (.iconst 0, 1) := by decide +kernel
theorem dX12_putIn_74 : decode cX12_putIn 74 = .ok (.istore 4, 2) := by decide +kernel
theorem dX12_putIn_76 : decode cX12_putIn 76 = .ok (.iload 4, 2) := by decide +kernel
theorem dX12_putIn_78 : decode cX12_putIn 78 = .ok (.aload_n 0, 1) := by decide +kernel
theorem dX12_putIn_79 : decode cX12_putIn 79 = .ok (.getfield 210, 3) := by decide +kernel
theorem dX12_putIn_82 : decode cX12_putIn 82 = .ok (.if_icmp .ge 83, 3) := by decide +kernel
theorem dX12_putIn_85 : decode cX12_putIn 85 = .ok (.iload_n 3, 1) := by decide +kernel
theorem dX12_putIn_86 : decode cX12_putIn 86 = .ok (.aload_n 0, 1) := by decide +kernel
theorem dX12_putIn_87 : decode cX12_putIn 87 = .ok (.getfield 37, 3) := by decide +kernel
theorem dX12_putIn_90 : decode cX12_putIn 90 = .ok (.iload 4, 2) := by decide +kernel
theorem dX12_putIn_92 : decode cX12_putIn 92 = .ok (.iaload, 1) := by decide +kernel
theorem dX12_putIn_93 : decode cX12_putIn 93 = .ok (.iload_n 1, 1) := by decide +kernel
theorem dX12_putIn_94 : decode cX12_putIn 94 = .ok (.if_icmp .le 7, 3) := by decide +kernel
theorem dX12_putIn_97 : decode cX12_putIn 97 = .ok (.iconst 1, 1) := by decide +kernel
theorem dX12_putIn_98 : decode cX12_putIn 98 = .ok (.goto 4, 3) := by decide +kernel
theorem dX12_putIn_101 : decode cX12_putIn 101 = .ok (.iconst 0, 1) := by decide +kernel
theorem dX12_putIn_102 : decode cX12_putIn 102 = .ok (.invokestatic 271, 3) := by decide +kernel
theorem dX12_putIn_105 : decode cX12_putIn 105 = .ok (.iadd, 1) := by decide +kernel
theorem dX12_putIn_106 : decode cX12_putIn 106 = .ok (.istore_n 3, 1) := by decide +kernel
theorem dX12_putIn_107 : decode cX12_putIn 107 = .ok (.aload_n 0, 1) := by decide +kernel
theorem dX12_putIn_108 : decode cX12_putIn 108 = .ok (.getfield 34, 3) := by decide +kernel
theorem dX12_putIn_111 : decode cX12_putIn 111 = .ok (.iload 4, 2) := by decide +kernel
theorem dX12_putIn_113 : decode cX12_putIn 113 = .ok (.dup2, 1) := by decide +kernel
theorem dX12_putIn_114 : decode cX12_putIn 114 = .ok (.iaload, 1) := by decide +kernel
theorem dX12_putIn_115 : decode cX12_putIn 115 = .ok (.aload_n 0, 1) := by decide +kernel
theorem dX12_putIn_116 : decode cX12_putIn 116 = .ok (.getfield 34, 3) := by decide +kernel
theorem dX12_putIn_119 : decode cX12_putIn 119 = .ok (.iload 4, 2) := by decide +kernel
theorem dX12_putIn_121 : decode cX12_putIn 121 = .ok (.iaload, 1) := by decide +kernel
theorem dX12_putIn_122 : decode cX12_putIn 122 = .ok (.iload_n 1, 1) := by decide +kernel
theorem dX12_putIn_123 : decode cX12_putIn 123 = .ok (.if_icmp .le 7, 3) := by decide +kernel
theorem dX12_putIn_126 : decode cX12_putIn 126 = .ok (.iload_n 2, 1) := by decide +kernel
theorem dX12_putIn_127 : decode cX12_putIn 127 = .ok (.goto 4, 3) := by decide +kernel
theorem dX12_putIn_130 : decode cX12_putIn 130 = .ok (.iconst 0, 1) := by decide +kernel
theorem dX12_putIn_131 : decode cX12_putIn 131 = .ok (.iadd, 1) := by decide +kernel
theorem dX12_putIn_132 : decode cX12_putIn 132 = .ok (.iastore, 1) := by decide +kernel
theorem dX12_putIn_133 : decode cX12_putIn 133 = .ok (.aload_n 0, 1) := by decide +kernel
theorem dX12_putIn_134 : decode cX12_putIn 134 = .ok (.getfield 37, 3) := by decide +kernel
theorem dX12_putIn_137 : decode cX12_putIn 137 = .ok (.iload 4, 2) := by decide +kernel
theorem dX12_putIn_139 : decode cX12_putIn 139 = .ok (.dup2, 1) := by decide +kernel
theorem dX12_putIn_140 : decode cX12_putIn 140 = .ok (.iaload, 1) := by decide +kernel
theorem dX12_putIn_141 : decode cX12_putIn 141 = .ok (.aload_n 0, 1) := by decide +kernel
theorem dX12_putIn_142 : decode cX12_putIn 142 = .ok (.getfield 37, 3) := by decide +kernel
theorem dX12_putIn_145 : decode cX12_putIn 145 = .ok (.iload 4, 2) := by decide +kernel
theorem dX12_putIn_147 : decode cX12_putIn 147 = .ok (.iaload, 1) := by decide +kernel
theorem dX12_putIn_148 : decode cX12_putIn 148 = .ok (.iload_n 1, 1) := by decide +kernel
theorem dX12_putIn_149 : decode cX12_putIn 149 = .ok (.if_icmp .le 7, 3) := by decide +kernel
theorem dX12_putIn_152 : decode cX12_putIn 152 = .ok (.iload_n 2, 1) := by decide +kernel
theorem dX12_putIn_153 : decode cX12_putIn 153 = .ok (.goto 4, 3) := by decide +kernel
theorem dX12_putIn_156 : decode cX12_putIn 156 = .ok (.iconst 0, 1) := by decide +kernel
theorem dX12_putIn_157 : decode cX12_putIn 157 = .ok (.iadd, 1) := by decide +kernel
theorem dX12_putIn_158 : decode cX12_putIn 158 = .ok (.iastore, 1) := by decide +kernel
theorem dX12_putIn_159 : decode cX12_putIn 159 = .ok (.iinc 4 1, 3) := by decide +kernel
theorem dX12_putIn_162 : decode cX12_putIn 162 = .ok (.goto (-86), 3) := by decide +kernel
theorem dX12_putIn_165 : decode cX12_putIn 165 = .ok (.iload_n 3, 1) := by decide +kernel
theorem dX12_putIn_166 : decode cX12_putIn 166 = .ok (.ireturn, 1) := by decide +kernel
theorem dX12_takeOut_0 : decode cX12_takeOut 0 = .ok (.iload_n 1, 1) := by decide +kernel
theorem dX12_takeOut_1 : decode cX12_takeOut 1 = .ok (.invokestatic 311, 3) := by decide +kernel
theorem dX12_takeOut_4 : decode cX12_takeOut 4 = .ok (.ifCond .eq 15, 3) := by decide +kernel
theorem dX12_takeOut_7 : decode cX12_takeOut 7 = .ok (.iload_n 2, 1) := by decide +kernel
theorem dX12_takeOut_8 : decode cX12_takeOut 8 = .ok (.invokestatic 311, 3) := by decide +kernel
theorem dX12_takeOut_11 : decode cX12_takeOut 11 = .ok (.ifCond .eq 8, 3) := by decide +kernel
theorem dX12_takeOut_14 : decode cX12_takeOut 14 = .ok (.iload_n 2, 1) := by decide +kernel
theorem dX12_takeOut_15 : decode cX12_takeOut 15 = .ok (.iload_n 1, 1) := by decide +kernel
theorem dX12_takeOut_16 : decode cX12_takeOut 16 = .ok (.if_icmp .ge 7, 3) := by decide +kernel
theorem dX12_takeOut_19 : decode cX12_takeOut 19 = .ok (.sipush (-1002), 3) := by decide +kernel
theorem dX12_takeOut_22 : decode cX12_takeOut 22 = .ok (.ireturn, 1) := by decide +kernel
theorem dX12_takeOut_23 : decode cX12_takeOut 23 = .ok (.iconst 0, 1) := by decide +kernel
theorem dX12_takeOut_24 : decode cX12_takeOut 24 = .ok (.istore_n 3, 1) := by decide +kernel
theorem dX12_takeOut_25 : decode cX12_takeOut 25 = .ok (.aload_n 0, 1) := by decide +kernel
theorem dX12_takeOut_26 : decode cX12_takeOut 26 = .ok (.getfield 210, 3) := by decide +kernel
theorem dX12_takeOut_29 : decode cX12_takeOut 29 = .ok (.iconst 1, 1) := by decide +kernel
theorem dX12_takeOut_30 : decode cX12_takeOut 30 = .ok (.isub, 1) := by decide +kernel
theorem dX12_takeOut_31 : decode cX12_takeOut 31 = .ok (.istore 4, 2) := by decide +kernel
theorem dX12_takeOut_33 : decode cX12_takeOut 33 = .ok (.iload 4, 2) := by decide +kernel
theorem dX12_takeOut_35 : decode cX12_takeOut 35 = .ok (.ifCond .lt 149, 3) := by decide +kernel
theorem dX12_takeOut_38 : decode cX12_takeOut 38 = .ok (.aload_n 0, 1) := by decide +kernel
theorem dX12_takeOut_39 : decode cX12_takeOut 39 = .ok (.getfield 34, 3) := by decide +kernel
theorem dX12_takeOut_42 : decode cX12_takeOut 42 = .ok (.iload 4, 2) := by decide +kernel
theorem dX12_takeOut_44 : decode cX12_takeOut 44 = .ok (.aload_n 0, 1) := by decide +kernel
theorem dX12_takeOut_45 : decode cX12_takeOut 45 = .ok (.getfield 34, 3) := by decide +kernel
theorem dX12_takeOut_48 : decode cX12_takeOut 48 = .ok (.iload 4, 2) := by decide +kernel
theorem dX12_takeOut_50 : decode cX12_takeOut 50 = .ok (.iaload, 1) := by decide +kernel
theorem dX12_takeOut_51 : decode cX12_takeOut 51 = .ok (.iload_n 1, 1) := by decide +kernel
theorem dX12_takeOut_52 : decode cX12_takeOut 52 = .ok (.if_icmp .ge 13, 3) := by decide +kernel
theorem dX12_takeOut_55 : decode cX12_takeOut 55 = .ok (.aload_n 0, 1) := by decide +kernel
theorem dX12_takeOut_56 : decode cX12_takeOut 56 = .ok (.getfield 34, 3) := by decide +kernel
theorem dX12_takeOut_59 : decode cX12_takeOut 59 = .ok (.iload 4, 2) := by decide +kernel
theorem dX12_takeOut_61 : decode cX12_takeOut 61 = .ok (.iaload, 1) := by decide +kernel
theorem dX12_takeOut_62 : decode cX12_takeOut 62 = .ok (.goto 31, 3) := by decide +kernel
theorem dX12_takeOut_65 : decode cX12_takeOut 65 = .ok (.aload_n 0, 1) := by decide +kernel
theorem dX12_takeOut_66 : decode cX12_takeOut 66 = .ok (.getfield 34, 3) := by decide +kernel
theorem dX12_takeOut_69 : decode cX12_takeOut 69 = .ok (.iload 4, 2) := by decide +kernel
theorem dX12_takeOut_71 : decode cX12_takeOut 71 = .ok (.iaload, 1) := by decide +kernel
theorem dX12_takeOut_72 : decode cX12_takeOut 72 = .ok (.iload_n 2, 1) := by decide +kernel
theorem dX12_takeOut_73 : decode cX12_takeOut 73 = .ok (.if_icmp .gt 7, 3) := by decide +kernel
theorem dX12_takeOut_76 : decode cX12_takeOut 76 = .ok (.iload_n 1, 1) := by decide +kernel
theorem dX12_takeOut_77 : decode cX12_takeOut 77 = .ok (.goto 16, 3) := by decide +kernel
theorem dX12_takeOut_80 : decode cX12_takeOut 80 = .ok (.aload_n 0, 1) := by decide +kernel
theorem dX12_takeOut_81 : decode cX12_takeOut 81 = .ok (.getfield 34, 3) := by decide +kernel
theorem dX12_takeOut_84 : decode cX12_takeOut 84 = .ok (.iload 4, 2) := by decide +kernel
theorem dX12_takeOut_86 : decode cX12_takeOut 86 = .ok (.iaload, 1) := by decide +kernel
theorem dX12_takeOut_87 : decode cX12_takeOut 87 = .ok (.iload_n 2, 1) := by decide +kernel
theorem dX12_takeOut_88 : decode cX12_takeOut 88 = .ok (.iload_n 1, 1) := by decide +kernel
theorem dX12_takeOut_89 : decode cX12_takeOut 89 = .ok (.isub, 1) := by decide +kernel
theorem dX12_takeOut_90 : decode cX12_takeOut 90 = .ok (.iconst 1, 1) := by decide +kernel
theorem dX12_takeOut_91 : decode cX12_takeOut 91 = .ok (.iadd, 1) := by decide +kernel
theorem dX12_takeOut_92 : decode cX12_takeOut 92 = .ok (.isub, 1) := by decide +kernel
theorem dX12_takeOut_93 : decode cX12_takeOut 93 = .ok (.iastore, 1) := by decide +kernel
theorem dX12_takeOut_94 : decode cX12_takeOut 94 = .ok (.aload_n 0, 1) := by decide +kernel
theorem dX12_takeOut_95 : decode cX12_takeOut 95 = .ok (.getfield 37, 3) := by decide +kernel
theorem dX12_takeOut_98 : decode cX12_takeOut 98 = .ok (.iload 4, 2) := by decide +kernel
theorem dX12_takeOut_100 : decode cX12_takeOut 100 = .ok (.aload_n 0, 1) := by decide +kernel
theorem dX12_takeOut_101 : decode cX12_takeOut 101 = .ok (.getfield 37, 3) := by decide +kernel
theorem dX12_takeOut_104 : decode cX12_takeOut 104 = .ok (.iload 4, 2) := by decide +kernel
theorem dX12_takeOut_106 : decode cX12_takeOut 106 = .ok (.iaload, 1) := by decide +kernel
theorem dX12_takeOut_107 : decode cX12_takeOut 107 = .ok (.iload_n 1, 1) := by decide +kernel
theorem dX12_takeOut_108 : decode cX12_takeOut 108 = .ok (.if_icmp .ge 13, 3) := by decide +kernel
theorem dX12_takeOut_111 : decode cX12_takeOut 111 = .ok (.aload_n 0, 1) := by decide +kernel
theorem dX12_takeOut_112 : decode cX12_takeOut 112 = .ok (.getfield 37, 3) := by decide +kernel
theorem dX12_takeOut_115 : decode cX12_takeOut 115 = .ok (.iload 4, 2) := by decide +kernel
theorem dX12_takeOut_117 : decode cX12_takeOut 117 = .ok (.iaload, 1) := by decide +kernel
theorem dX12_takeOut_118 : decode cX12_takeOut 118 = .ok (.goto 33, 3) := by decide +kernel
theorem dX12_takeOut_121 : decode cX12_takeOut 121 = .ok (.aload_n 0, 1) := by decide +kernel
theorem dX12_takeOut_122 : decode cX12_takeOut 122 = .ok (.getfield 37, 3) := by decide +kernel
theorem dX12_takeOut_125 : decode cX12_takeOut 125 = .ok (.iload 4, 2) := by decide +kernel
theorem dX12_takeOut_127 : decode cX12_takeOut 127 = .ok (.iaload, 1) := by decide +kernel
theorem dX12_takeOut_128 : decode cX12_takeOut 128 = .ok (.iload_n 2, 1) := by decide +kernel
theorem dX12_takeOut_129 : decode cX12_takeOut 129 = .ok (.if_icmp .gt 9, 3) := by decide +kernel
theorem dX12_takeOut_132 : decode cX12_takeOut 132 = .ok (.iload_n 1, 1) := by decide +kernel
theorem dX12_takeOut_133 : decode cX12_takeOut 133 = .ok (.iconst 1, 1) := by decide +kernel
theorem dX12_takeOut_134 : decode cX12_takeOut 134 = .ok (.isub, 1) := by decide +kernel
theorem dX12_takeOut_135 : decode cX12_takeOut 135 = .ok (.goto 16, 3) := by decide +kernel
theorem dX12_takeOut_138 : decode cX12_takeOut 138 = .ok (.aload_n 0, 1) := by decide +kernel
theorem dX12_takeOut_139 : decode cX12_takeOut 139 = .ok (.getfield 37, 3) := by decide +kernel
theorem dX12_takeOut_142 : decode cX12_takeOut 142 = .ok (.iload 4, 2) := by decide +kernel
theorem dX12_takeOut_144 : decode cX12_takeOut 144 = .ok (.iaload, 1) := by decide +kernel
theorem dX12_takeOut_145 : decode cX12_takeOut 145 = .ok (.iload_n 2, 1) := by decide +kernel
theorem dX12_takeOut_146 : decode cX12_takeOut 146 = .ok (.iload_n 1, 1) := by decide +kernel
theorem dX12_takeOut_147 : decode cX12_takeOut 147 = .ok (.isub, 1) := by decide +kernel
theorem dX12_takeOut_148 : decode cX12_takeOut 148 = .ok (.iconst 1, 1) := by decide +kernel
theorem dX12_takeOut_149 : decode cX12_takeOut 149 = .ok (.iadd, 1) := by decide +kernel
theorem dX12_takeOut_150 : decode cX12_takeOut 150 = .ok (.isub, 1) := by decide +kernel
theorem dX12_takeOut_151 : decode cX12_takeOut 151 = .ok (.iastore, 1) := by decide +kernel
theorem dX12_takeOut_152 : decode cX12_takeOut 152 = .ok (.aload_n 0, 1) := by decide +kernel
theorem dX12_takeOut_153 : decode cX12_takeOut 153 = .ok (.getfield 37, 3) := by decide +kernel
theorem dX12_takeOut_156 : decode cX12_takeOut 156 = .ok (.iload 4, 2) := by decide +kernel
theorem dX12_takeOut_158 : decode cX12_takeOut 158 = .ok (.iaload, 1) := by decide +kernel
theorem dX12_takeOut_159 : decode cX12_takeOut 159 = .ok (.aload_n 0, 1) := by decide +kernel
theorem dX12_takeOut_160 : decode cX12_takeOut 160 = .ok (.getfield 34, 3) := by decide +kernel
theorem dX12_takeOut_163 : decode cX12_takeOut 163 = .ok (.iload 4, 2) := by decide +kernel
theorem dX12_takeOut_165 : decode cX12_takeOut 165 = .ok (.iaload, 1) := by decide +kernel
theorem dX12_takeOut_166 : decode cX12_takeOut 166 = .ok (.if_icmp .ge 12, 3) := by decide +kernel
theorem dX12_takeOut_169 : decode cX12_takeOut 169 = .ok (.aload_n 0, 1) := by decide +kernel
theorem dX12_takeOut_170 : decode cX12_takeOut 170 = .ok (.iload 4, 2) := by decide +kernel
theorem dX12_takeOut_172 : decode cX12_takeOut 172 = .ok (.invokevirtual 314, 3) := by decide +kernel
theorem dX12_takeOut_175 : decode cX12_takeOut 175 = .ok (.iinc 3 1, 3) := by decide +kernel
theorem dX12_takeOut_178 : decode cX12_takeOut 178 = .ok (.iinc 4 (-1), 3) := by decide +kernel
theorem dX12_takeOut_181 : decode cX12_takeOut 181 = .ok (.goto (-148), 3) := by decide +kernel
theorem dX12_takeOut_184 : decode cX12_takeOut 184 = .ok (.iload_n 3, 1) := by decide +kernel
theorem dX12_takeOut_185 : decode cX12_takeOut 185 = .ok (.ireturn, 1) := by decide +kernel
theorem dX12_saw_0 : decode cX12_saw 0 = .ok (.iload_n 1, 1) := by decide +kernel
theorem dX12_saw_1 : decode cX12_saw 1 = .ok (.invokestatic 311, 3) := by decide +kernel
theorem dX12_saw_4 : decode cX12_saw 4 = .ok (.ifCond .eq 15, 3) := by decide +kernel
theorem dX12_saw_7 : decode cX12_saw 7 = .ok (.iload_n 2, 1) := by decide +kernel
theorem dX12_saw_8 : decode cX12_saw 8 = .ok (.i2l, 1) := by decide +kernel
theorem dX12_saw_9 : decode cX12_saw 9 = .ok (.lconst 1, 1) := by decide +kernel
theorem dX12_saw_10 : decode cX12_saw 10 = .ok (.ldc2_w 476, 3) := by decide +kernel
theorem dX12_saw_13 : decode cX12_saw 13 = .ok (.invokestatic 146, 3) := by decide +kernel
theorem dX12_saw_16 : decode cX12_saw 16 = .ok (.ifCond .ne 7, 3) := by decide +kernel
theorem dX12_saw_19 : decode cX12_saw 19 = .ok (.sipush (-1002), 3) := by decide +kernel
theorem dX12_saw_22 : decode cX12_saw 22 = .ok (.ireturn, 1) := by decide +kernel
theorem dX12_saw_23 : decode cX12_saw 23 = .ok (.aload_n 0, 1) := by decide +kernel
theorem dX12_saw_24 : decode cX12_saw 24 = .ok (.getfield 281, 3) := by decide +kernel
theorem dX12_saw_27 : decode cX12_saw 27 = .ok (.ifCond .le 22, 3) := by decide +kernel
theorem dX12_saw_30 : decode cX12_saw 30 = .ok (.iload_n 1, 1) := by decide +kernel
theorem dX12_saw_31 : decode cX12_saw 31 = .ok (.aload_n 0, 1) := by decide +kernel
theorem dX12_saw_32 : decode cX12_saw 32 = .ok (.getfield 87, 3) := by decide +kernel
theorem dX12_saw_35 : decode cX12_saw 35 = .ok (.aload_n 0, 1) := by decide +kernel
theorem dX12_saw_36 : decode cX12_saw 36 = .ok (.getfield 281, 3) := by decide +kernel
theorem dX12_saw_39 : decode cX12_saw 39 = .ok (.iconst 1, 1) := by decide +kernel
theorem dX12_saw_40 : decode cX12_saw 40 = .ok (.isub, 1) := by decide +kernel
theorem dX12_saw_41 : decode cX12_saw 41 = .ok (.iaload, 1) := by decide +kernel
theorem dX12_saw_42 : decode cX12_saw 42 = .ok (.if_icmp .gt 7, 3) := by decide +kernel
theorem dX12_saw_45 : decode cX12_saw 45 = .ok (.sipush (-1003), 3) := by decide +kernel
theorem dX12_saw_48 : decode cX12_saw 48 = .ok (.ireturn, 1) := by decide +kernel
theorem dX12_saw_49 : decode cX12_saw 49 = .ok (.aload_n 0, 1) := by decide +kernel
theorem dX12_saw_50 : decode cX12_saw 50 = .ok (.getfield 281, 3) := by decide +kernel
theorem dX12_saw_53 : decode cX12_saw 53 = .ok (.bipush 20, 2) := by decide +kernel
theorem dX12_saw_55 : decode cX12_saw 55 = .ok (.if_icmp .ne 7, 3) := by decide +kernel
theorem dX12_saw_58 : decode cX12_saw 58 = .ok (.sipush (-1004), 3) := by decide +kernel
theorem dX12_saw_61 : decode cX12_saw 61 = .ok (.ireturn, 1) := by decide +kernel
theorem dX12_saw_62 : decode cX12_saw 62 = .ok (.aload_n 0, 1) := by decide +kernel
theorem dX12_saw_63 : decode cX12_saw 63 = .ok (.getfield 87, 3) := by decide +kernel
theorem dX12_saw_66 : decode cX12_saw 66 = .ok (.aload_n 0, 1) := by decide +kernel
theorem dX12_saw_67 : decode cX12_saw 67 = .ok (.getfield 281, 3) := by decide +kernel
theorem dX12_saw_70 : decode cX12_saw 70 = .ok (.iload_n 1, 1) := by decide +kernel
theorem dX12_saw_71 : decode cX12_saw 71 = .ok (.iastore, 1) := by decide +kernel
theorem dX12_saw_72 : decode cX12_saw 72 = .ok (.aload_n 0, 1) := by decide +kernel
theorem dX12_saw_73 : decode cX12_saw 73 = .ok (.getfield 90, 3) := by decide +kernel
theorem dX12_saw_76 : decode cX12_saw 76 = .ok (.aload_n 0, 1) := by decide +kernel
theorem dX12_saw_77 : decode cX12_saw 77 = .ok (.getfield 281, 3) := by decide +kernel
theorem dX12_saw_80 : decode cX12_saw 80 = .ok (.iload_n 2, 1) := by decide +kernel
theorem dX12_saw_81 : decode cX12_saw 81 = .ok (.iastore, 1) := by decide +kernel
theorem dX12_saw_82 : decode cX12_saw 82 = .ok (.aload_n 0, 1) := by decide +kernel
theorem dX12_saw_83 : decode cX12_saw 83 = .ok (.dup, 1) := by decide +kernel
theorem dX12_saw_84 : decode cX12_saw 84 = .ok (.getfield 281, 3) := by decide +kernel
theorem dX12_saw_87 : decode cX12_saw 87 = .ok (.iconst 1, 1) := by decide +kernel
theorem dX12_saw_88 : decode cX12_saw 88 = .ok (.iadd, 1) := by decide +kernel
theorem dX12_saw_89 : decode cX12_saw 89 = .ok (.putfield 281, 3) := by decide +kernel
theorem dX12_saw_92 : decode cX12_saw 92 = .ok (.aload_n 0, 1) := by decide +kernel
theorem dX12_saw_93 : decode cX12_saw 93 = .ok (.getfield 281, 3) := by decide +kernel
theorem dX12_saw_96 : decode cX12_saw 96 = .ok (.ireturn, 1) := by decide +kernel
theorem dX12_forget_0 : decode cX12_forget 0 = .ok (.aload_n 0, 1) := by decide +kernel
theorem dX12_forget_1 : decode cX12_forget 1 = .ok (.getfield 281, 3) := by decide +kernel
theorem dX12_forget_4 : decode cX12_forget 4 = .ok (.istore_n 1, 1) := by decide +kernel
theorem dX12_forget_5 : decode cX12_forget 5 = .ok (.aload_n 0, 1) := by decide +kernel
theorem dX12_forget_6 : decode cX12_forget 6 = .ok (.iconst 0, 1) := by decide +kernel
theorem dX12_forget_7 : decode cX12_forget 7 = .ok (.putfield 281, 3) := by decide +kernel
theorem dX12_forget_10 : decode cX12_forget 10 = .ok (.iload_n 1, 1) := by decide +kernel
theorem dX12_forget_11 : decode cX12_forget 11 = .ok (.ireturn, 1) := by decide +kernel
theorem dX12_standing_0 : decode cX12_standing 0 = .ok (.iload_n 2, 1) := by decide +kernel
theorem dX12_standing_1 : decode cX12_standing 1 = .ok (.bipush 20, 2) := by decide +kernel
theorem dX12_standing_3 : decode cX12_standing 3 = .ok (.if_icmp .ge 36, 3) := by decide +kernel
theorem dX12_standing_6 : decode cX12_standing 6 = .ok (.aload_n 0, 1) := by decide +kernel
theorem dX12_standing_7 : decode cX12_standing 7 = .ok (.getfield 90, 3) := by decide +kernel
theorem dX12_standing_10 : decode cX12_standing 10 = .ok (.iload_n 1, 1) := by decide +kernel
theorem dX12_standing_11 : decode cX12_standing 11 = .ok (.iaload, 1) := by decide +kernel
theorem dX12_standing_12 : decode cX12_standing 12 = .ok (.aload_n 0, 1) := by decide +kernel
theorem dX12_standing_13 : decode cX12_standing 13 = .ok (.getfield 87, 3) := by decide +kernel
theorem dX12_standing_16 : decode cX12_standing 16 = .ok (.iload_n 1, 1) := by decide +kernel
theorem dX12_standing_17 : decode cX12_standing 17 = .ok (.iaload, 1) := by decide +kernel
theorem dX12_standing_18 : decode cX12_standing 18 = .ok (.isub, 1) := by decide +kernel
theorem dX12_standing_19 : decode cX12_standing 19 = .ok (.aload_n 0, 1) := by decide +kernel
theorem dX12_standing_20 : decode cX12_standing 20 = .ok (.getfield 90, 3) := by decide +kernel
theorem dX12_standing_23 : decode cX12_standing 23 = .ok (.iload_n 2, 1) := by decide +kernel
theorem dX12_standing_24 : decode cX12_standing 24 = .ok (.iaload, 1) := by decide +kernel
theorem dX12_standing_25 : decode cX12_standing 25 = .ok (.aload_n 0, 1) := by decide +kernel
theorem dX12_standing_26 : decode cX12_standing 26 = .ok (.getfield 87, 3) := by decide +kernel
theorem dX12_standing_29 : decode cX12_standing 29 = .ok (.iload_n 2, 1) := by decide +kernel
theorem dX12_standing_30 : decode cX12_standing 30 = .ok (.iaload, 1) := by decide +kernel
theorem dX12_standing_31 : decode cX12_standing 31 = .ok (.isub, 1) := by decide +kernel
theorem dX12_standing_32 : decode cX12_standing 32 = .ok (.if_icmp .eq 7, 3) := by decide +kernel
theorem dX12_standing_35 : decode cX12_standing 35 = .ok (.iconst 1, 1) := by decide +kernel
theorem dX12_standing_36 : decode cX12_standing 36 = .ok (.goto 4, 3) := by decide +kernel
theorem dX12_standing_39 : decode cX12_standing 39 = .ok (.iconst 0, 1) := by decide +kernel
theorem dX12_standing_40 : decode cX12_standing 40 = .ok (.istore 4, 2) := by decide +kernel
theorem dX12_standing_42 : decode cX12_standing 42 = .ok (.aload_n 0, 1) := by decide +kernel
theorem dX12_standing_43 : decode cX12_standing 43 = .ok (.getfield 93, 3) := by decide +kernel
theorem dX12_standing_46 : decode cX12_standing 46 = .ok (.bipush 21, 2) := by decide +kernel
theorem dX12_standing_48 : decode cX12_standing 48 = .ok (.iload_n 1, 1) := by decide +kernel
theorem dX12_standing_49 : decode cX12_standing 49 = .ok (.iconst 1, 1) := by decide +kernel
theorem dX12_standing_50 : decode cX12_standing 50 = .ok (.iadd, 1) := by decide +kernel
theorem dX12_standing_51 : decode cX12_standing 51 = .ok (.imul, 1) := by decide +kernel
theorem dX12_standing_52 : decode cX12_standing 52 = .ok (.iload_n 1, 1) := by decide +kernel
theorem dX12_standing_53 : decode cX12_standing 53 = .ok (.iadd, 1) := by decide +kernel
theorem dX12_standing_54 : decode cX12_standing 54 = .ok (.iaload, 1) := by decide +kernel
theorem dX12_standing_55 : decode cX12_standing 55 = .ok (.iload 4, 2) := by decide +kernel
theorem dX12_standing_57 : decode cX12_standing 57 = .ok (.ifCond .eq 10, 3) := by decide +kernel
theorem dX12_standing_60 : decode cX12_standing 60 = .ok (.bipush 100, 2) := by decide +kernel
theorem dX12_standing_62 : decode cX12_standing 62 = .ok (.iload_n 3, 1) := by decide +kernel
theorem dX12_standing_63 : decode cX12_standing 63 = .ok (.imul, 1) := by decide +kernel
theorem dX12_standing_64 : decode cX12_standing 64 = .ok (.goto 4, 3) := by decide +kernel
theorem dX12_standing_67 : decode cX12_standing 67 = .ok (.iconst 0, 1) := by decide +kernel
theorem dX12_standing_68 : decode cX12_standing 68 = .ok (.iadd, 1) := by decide +kernel
theorem dX12_standing_69 : decode cX12_standing 69 = .ok (.ireturn, 1) := by decide +kernel
theorem dX12_leaving_0 : decode cX12_leaving 0 = .ok (.aload_n 0, 1) := by decide +kernel
theorem dX12_leaving_1 : decode cX12_leaving 1 = .ok (.getfield 93, 3) := by decide +kernel
theorem dX12_leaving_4 : decode cX12_leaving 4 = .ok (.bipush 21, 2) := by decide +kernel
theorem dX12_leaving_6 : decode cX12_leaving 6 = .ok (.iload_n 1, 1) := by decide +kernel
theorem dX12_leaving_7 : decode cX12_leaving 7 = .ok (.iconst 1, 1) := by decide +kernel
theorem dX12_leaving_8 : decode cX12_leaving 8 = .ok (.iadd, 1) := by decide +kernel
theorem dX12_leaving_9 : decode cX12_leaving 9 = .ok (.imul, 1) := by decide +kernel
theorem dX12_leaving_10 : decode cX12_leaving 10 = .ok (.iload_n 2, 1) := by decide +kernel
theorem dX12_leaving_11 : decode cX12_leaving 11 = .ok (.iadd, 1) := by decide +kernel
theorem dX12_leaving_12 : decode cX12_leaving 12 = .ok (.iaload, 1) := by decide +kernel
theorem dX12_leaving_13 : decode cX12_leaving 13 = .ok (.bipush 101, 2) := by decide +kernel
theorem dX12_leaving_15 : decode cX12_leaving 15 = .ok (.iadd, 1) := by decide +kernel
theorem dX12_leaving_16 : decode cX12_leaving 16 = .ok (.ireturn, 1) := by decide +kernel
theorem dX12_story_0 : decode cX12_story 0 = .ok (.iload_n 2, 1) := by decide +kernel
theorem dX12_story_1 : decode cX12_story 1 = .ok (.i2l, 1) := by decide +kernel
theorem dX12_story_2 : decode cX12_story 2 = .ok (.ldc2_w 265, 3) := by decide +kernel
theorem dX12_story_5 : decode cX12_story 5 = .ok (.aload_n 0, 1) := by decide +kernel
theorem dX12_story_6 : decode cX12_story 6 = .ok (.getfield 281, 3) := by decide +kernel
theorem dX12_story_9 : decode cX12_story 9 = .ok (.iconst 1, 1) := by decide +kernel
theorem dX12_story_10 : decode cX12_story 10 = .ok (.isub, 1) := by decide +kernel
theorem dX12_story_11 : decode cX12_story 11 = .ok (.i2l, 1) := by decide +kernel
theorem dX12_story_12 : decode cX12_story 12 = .ok (.invokestatic 146, 3) := by decide +kernel
theorem dX12_story_15 : decode cX12_story 15 = .ok (.ifCond .ne 7, 3) := by decide +kernel
theorem dX12_story_18 : decode cX12_story 18 = .ok (.sipush (-1001), 3) := by decide +kernel
theorem dX12_story_21 : decode cX12_story 21 = .ok (.ireturn, 1) := by decide +kernel
theorem dX12_story_22 : decode cX12_story 22 = .ok (.iload_n 1, 1) := by decide +kernel
theorem dX12_story_23 : decode cX12_story 23 = .ok (.i2l, 1) := by decide +kernel
theorem dX12_story_24 : decode cX12_story 24 = .ok (.lconst 0, 1) := by decide +kernel
theorem dX12_story_25 : decode cX12_story 25 = .ok (.ldc2_w 351, 3) := by decide +kernel
theorem dX12_story_28 : decode cX12_story 28 = .ok (.invokestatic 146, 3) := by decide +kernel
theorem dX12_story_31 : decode cX12_story 31 = .ok (.ifCond .ne 7, 3) := by decide +kernel
theorem dX12_story_34 : decode cX12_story 34 = .ok (.sipush (-1002), 3) := by decide +kernel
theorem dX12_story_37 : decode cX12_story 37 = .ok (.ireturn, 1) := by decide +kernel
theorem dX12_story_38 : decode cX12_story 38 = .ok (.aload_n 0, 1) := by decide +kernel
theorem dX12_story_39 : decode cX12_story 39 = .ok (.getfield 281, 3) := by decide +kernel
theorem dX12_story_42 : decode cX12_story 42 = .ok (.istore_n 3, 1) := by decide +kernel
theorem dX12_story_43 : decode cX12_story 43 = .ok (.iload_n 3, 1) := by decide +kernel
theorem dX12_story_44 : decode cX12_story 44 = .ok (.ifCond .lt 94, 3) := by decide +kernel
theorem dX12_story_47 : decode cX12_story 47 = .ok (.iconst 0, 1) := by decide +kernel
theorem dX12_story_48 : decode cX12_story 48 = .ok (.istore 4, 2) := by decide +kernel
theorem dX12_story_50 : decode cX12_story 50 = .ok (.iload 4, 2) := by decide +kernel
theorem dX12_story_52 : decode cX12_story 52 = .ok (.bipush 20, 2) := by decide +kernel
theorem dX12_story_54 : decode cX12_story 54 = .ok (.if_icmp .gt 78, 3) := by decide +kernel
theorem dX12_story_57 : decode cX12_story 57 = .ok (.iload_n 3, 1) := by decide +kernel
theorem dX12_story_58 : decode cX12_story 58 = .ok (.aload_n 0, 1) := by decide +kernel
theorem dX12_story_59 : decode cX12_story 59 = .ok (.getfield 281, 3) := by decide +kernel
theorem dX12_story_62 : decode cX12_story 62 = .ok (.if_icmp .ne 19, 3) := by decide +kernel
theorem dX12_story_65 : decode cX12_story 65 = .ok (.aload_n 0, 1) := by decide +kernel
theorem dX12_story_66 : decode cX12_story 66 = .ok (.getfield 93, 3) := by decide +kernel
theorem dX12_story_69 : decode cX12_story 69 = .ok (.bipush 21, 2) := by decide +kernel
theorem dX12_story_71 : decode cX12_story 71 = .ok (.iload_n 3, 1) := by decide +kernel
theorem dX12_story_72 : decode cX12_story 72 = .ok (.imul, 1) := by decide +kernel
theorem dX12_story_73 : decode cX12_story 73 = .ok (.iload 4, 2) := by decide +kernel
theorem dX12_story_75 : decode cX12_story 75 = .ok (.iadd, 1) := by decide +kernel
theorem dX12_story_76 : decode cX12_story 76 = .ok (.iconst 0, 1) := by decide +kernel
theorem dX12_story_77 : decode cX12_story 77 = .ok (.iastore, 1) := by decide +kernel
theorem dX12_story_78 : decode cX12_story 78 = .ok (.goto 48, 3) := by decide +kernel
theorem dX12_story_81 : decode cX12_story 81 = .ok (.aload_n 0, 1) := by decide +kernel
theorem dX12_story_82 : decode cX12_story 82 = .ok (.iload_n 3, 1) := by decide +kernel
theorem dX12_story_83 : decode cX12_story 83 = .ok (.iload 4, 2) := by decide +kernel
theorem dX12_story_85 : decode cX12_story 85 = .ok (.iload_n 1, 1) := by decide +kernel
theorem dX12_story_86 : decode cX12_story 86 = .ok (.invokevirtual 478, 3) := by decide +kernel
theorem dX12_story_89 : decode cX12_story 89 = .ok (.istore 5, 2) := by decide +kernel
theorem dX12_story_91 : decode cX12_story 91 = .ok (.aload_n 0, 1) := by decide +kernel
theorem dX12_story_92 : decode cX12_story 92 = .ok (.iload_n 3, 1) := by decide +kernel
theorem dX12_story_93 : decode cX12_story 93 = .ok (.iload 4, 2) := by decide +kernel
theorem dX12_story_95 : decode cX12_story 95 = .ok (.invokevirtual 482, 3) := by decide +kernel
theorem dX12_story_98 : decode cX12_story 98 = .ok (.istore 6, 2) := by decide +kernel
theorem dX12_story_100 : decode cX12_story 100 = .ok (.aload_n 0, 1) := by decide +kernel
theorem dX12_story_101 : decode cX12_story 101 = .ok (.getfield 93, 3) := by decide +kernel
theorem dX12_story_104 : decode cX12_story 104 = .ok (.bipush 21, 2) := by decide +kernel
theorem dX12_story_106 : decode cX12_story 106 = .ok (.iload_n 3, 1) := by decide +kernel
theorem dX12_story_107 : decode cX12_story 107 = .ok (.imul, 1) := by decide +kernel
theorem dX12_story_108 : decode cX12_story 108 = .ok (.iload 4, 2) := by decide +kernel
theorem dX12_story_110 : decode cX12_story 110 = .ok (.iadd, 1) := by decide +kernel
theorem dX12_story_111 : decode cX12_story 111 = .ok (.iload 5, 2) := by decide +kernel
theorem dX12_story_113 : decode cX12_story 113 = .ok (.iload 6, 2) := by decide +kernel
theorem dX12_story_115 : decode cX12_story 115 = .ok (.if_icmp .ge 8, 3) := by decide +kernel
theorem dX12_story_118 : decode cX12_story 118 = .ok (.iload 5, 2) := by decide +kernel
theorem dX12_story_120 : decode cX12_story 120 = .ok (.goto 5, 3) := by decide +kernel
theorem dX12_story_123 : decode cX12_story 123 = .ok (.iload 6, 2) := by decide +kernel
theorem dX12_story_125 : decode cX12_story 125 = .ok (.iastore, 1) := by decide +kernel
theorem dX12_story_126 : decode cX12_story 126 = .ok (.iinc 4 1, 3) := by decide +kernel
theorem dX12_story_129 : decode cX12_story 129 = .ok (.goto (-79), 3) := by decide +kernel
theorem dX12_story_132 : decode cX12_story 132 = .ok (.iinc 3 (-1), 3) := by decide +kernel
theorem dX12_story_135 : decode cX12_story 135 = .ok (.goto (-92), 3) := by decide +kernel
theorem dX12_story_138 : decode cX12_story 138 = .ok (.iload_n 2, 1) := by decide +kernel
theorem dX12_story_139 : decode cX12_story 139 = .ok (.iconst (-1), 1) := by decide +kernel
theorem dX12_story_140 : decode cX12_story 140 = .ok (.if_icmp .ne 14, 3) := by decide +kernel
theorem dX12_story_143 : decode cX12_story 143 = .ok (.aload_n 0, 1) := by decide +kernel
theorem dX12_story_144 : decode cX12_story 144 = .ok (.getfield 93, 3) := by decide +kernel
theorem dX12_story_147 : decode cX12_story 147 = .ok (.bipush 20, 2) := by decide +kernel
theorem dX12_story_149 : decode cX12_story 149 = .ok (.iaload, 1) := by decide +kernel
theorem dX12_story_150 : decode cX12_story 150 = .ok (.bipush 100, 2) := by decide +kernel
theorem dX12_story_152 : decode cX12_story 152 = .ok (.idiv, 1) := by decide +kernel
theorem dX12_story_153 : decode cX12_story 153 = .ok (.ireturn, 1) := by decide +kernel
theorem dX12_story_154 : decode cX12_story 154 = .ok (.bipush 20, 2) := by decide +kernel
theorem dX12_story_156 : decode cX12_story 156 = .ok (.istore_n 3, 1) := by decide +kernel
theorem dX12_story_157 : decode cX12_story 157 = .ok (.iconst 0, 1) := by decide +kernel
theorem dX12_story_158 : decode cX12_story 158 = .ok (.istore 4, 2) := by decide +kernel
theorem dX12_story_160 : decode cX12_story 160 = .ok (.iload 4, 2) := by decide +kernel
theorem dX12_story_162 : decode cX12_story 162 = .ok (.iload_n 2, 1) := by decide +kernel
theorem dX12_story_163 : decode cX12_story 163 = .ok (.if_icmp .ge 34, 3) := by decide +kernel
theorem dX12_story_166 : decode cX12_story 166 = .ok (.aload_n 0, 1) := by decide +kernel
theorem dX12_story_167 : decode cX12_story 167 = .ok (.iload 4, 2) := by decide +kernel
theorem dX12_story_169 : decode cX12_story 169 = .ok (.iload_n 3, 1) := by decide +kernel
theorem dX12_story_170 : decode cX12_story 170 = .ok (.iload_n 1, 1) := by decide +kernel
theorem dX12_story_171 : decode cX12_story 171 = .ok (.invokevirtual 478, 3) := by decide +kernel
theorem dX12_story_174 : decode cX12_story 174 = .ok (.aload_n 0, 1) := by decide +kernel
theorem dX12_story_175 : decode cX12_story 175 = .ok (.iload 4, 2) := by decide +kernel
theorem dX12_story_177 : decode cX12_story 177 = .ok (.iload_n 3, 1) := by decide +kernel
theorem dX12_story_178 : decode cX12_story 178 = .ok (.invokevirtual 482, 3) := by decide +kernel
theorem dX12_story_181 : decode cX12_story 181 = .ok (.if_icmp .gt 8, 3) := by decide +kernel
theorem dX12_story_184 : decode cX12_story 184 = .ok (.iload 4, 2) := by decide +kernel
theorem dX12_story_186 : decode cX12_story 186 = .ok (.goto 4, 3) := by decide +kernel
theorem dX12_story_189 : decode cX12_story 189 = .ok (.iload_n 3, 1) := by decide +kernel
theorem dX12_story_190 : decode cX12_story 190 = .ok (.istore_n 3, 1) := by decide +kernel
theorem dX12_story_191 : decode cX12_story 191 = .ok (.iinc 4 1, 3) := by decide +kernel
theorem dX12_story_194 : decode cX12_story 194 = .ok (.goto (-34), 3) := by decide +kernel
theorem dX12_story_197 : decode cX12_story 197 = .ok (.aload_n 0, 1) := by decide +kernel
theorem dX12_story_198 : decode cX12_story 198 = .ok (.iload_n 2, 1) := by decide +kernel
theorem dX12_story_199 : decode cX12_story 199 = .ok (.iload_n 3, 1) := by decide +kernel
theorem dX12_story_200 : decode cX12_story 200 = .ok (.iload_n 1, 1) := by decide +kernel
theorem dX12_story_201 : decode cX12_story 201 = .ok (.invokevirtual 478, 3) := by decide +kernel
theorem dX12_story_204 : decode cX12_story 204 = .ok (.aload_n 0, 1) := by decide +kernel
theorem dX12_story_205 : decode cX12_story 205 = .ok (.iload_n 2, 1) := by decide +kernel
theorem dX12_story_206 : decode cX12_story 206 = .ok (.iload_n 3, 1) := by decide +kernel
theorem dX12_story_207 : decode cX12_story 207 = .ok (.invokevirtual 482, 3) := by decide +kernel
theorem dX12_story_210 : decode cX12_story 210 = .ok (.if_icmp .gt 7, 3) := by decide +kernel
theorem dX12_story_213 : decode cX12_story 213 = .ok (.iconst 1, 1) := by decide +kernel
theorem dX12_story_214 : decode cX12_story 214 = .ok (.goto 4, 3) := by decide +kernel
theorem dX12_story_217 : decode cX12_story 217 = .ok (.iconst 0, 1) := by decide +kernel
theorem dX12_story_218 : decode cX12_story 218 = .ok (.invokestatic 271, 3) := by decide +kernel
theorem dX12_story_221 : decode cX12_story 221 = .ok (.ireturn, 1) := by decide +kernel
theorem dX12_bareSize_0 : decode cX12_bareSize 0 = .ok (.iconst 0, 1) := by decide +kernel
theorem dX12_bareSize_1 : decode cX12_bareSize 1 = .ok (.istore_n 2, 1) := by decide +kernel
theorem dX12_bareSize_2 : decode cX12_bareSize 2 = .ok (.iconst 0, 1) := by decide +kernel
theorem dX12_bareSize_3 : decode cX12_bareSize 3 = .ok (.istore_n 3, 1) := by decide +kernel
theorem dX12_bareSize_4 : decode cX12_bareSize 4 = .ok (.iload_n 3, 1) := by decide +kernel
theorem dX12_bareSize_5 : decode cX12_bareSize 5 = .ok (.aload_n 0, 1) := by decide +kernel
theorem dX12_bareSize_6 : decode cX12_bareSize 6 = .ok (.getfield 13, 3) := by decide +kernel
theorem dX12_bareSize_9 : decode cX12_bareSize 9 = .ok (.iload_n 1, 1) := by decide +kernel
theorem dX12_bareSize_10 : decode cX12_bareSize 10 = .ok (.iaload, 1) := by decide +kernel
theorem dX12_bareSize_11 : decode cX12_bareSize 11 = .ok (.if_icmp .ge 36, 3) := by decide +kernel
theorem dX12_bareSize_14 : decode cX12_bareSize 14 = .ok (.iload_n 2, 1) := by decide +kernel
theorem dX12_bareSize_15 : decode cX12_bareSize 15 = .ok (.aload_n 0, 1) := by decide +kernel
theorem dX12_bareSize_16 : decode cX12_bareSize 16 = .ok (.getfield 16, 3) := by decide +kernel
theorem dX12_bareSize_19 : decode cX12_bareSize 19 = .ok (.bipush 12, 2) := by decide +kernel
theorem dX12_bareSize_21 : decode cX12_bareSize 21 = .ok (.iload_n 1, 1) := by decide +kernel
theorem dX12_bareSize_22 : decode cX12_bareSize 22 = .ok (.imul, 1) := by decide +kernel
theorem dX12_bareSize_23 : decode cX12_bareSize 23 = .ok (.iload_n 3, 1) := by decide +kernel
theorem dX12_bareSize_24 : decode cX12_bareSize 24 = .ok (.iadd, 1) := by decide +kernel
theorem dX12_bareSize_25 : decode cX12_bareSize 25 = .ok (.iaload, 1) := by decide +kernel
theorem dX12_bareSize_26 : decode cX12_bareSize 26 = .ok (.bipush 95, 2) := by decide +kernel
theorem dX12_bareSize_28 : decode cX12_bareSize 28 = .ok (.if_icmp .eq 7, 3) := by decide +kernel
theorem dX12_bareSize_31 : decode cX12_bareSize 31 = .ok (.iconst 1, 1) := by decide +kernel
theorem dX12_bareSize_32 : decode cX12_bareSize 32 = .ok (.goto 4, 3) := by decide +kernel
theorem dX12_bareSize_35 : decode cX12_bareSize 35 = .ok (.iconst 0, 1) := by decide +kernel
theorem dX12_bareSize_36 : decode cX12_bareSize 36 = .ok (.invokestatic 271, 3) := by decide +kernel
theorem dX12_bareSize_39 : decode cX12_bareSize 39 = .ok (.iadd, 1) := by decide +kernel
theorem dX12_bareSize_40 : decode cX12_bareSize 40 = .ok (.istore_n 2, 1) := by decide +kernel
theorem dX12_bareSize_41 : decode cX12_bareSize 41 = .ok (.iinc 3 1, 3) := by decide +kernel
theorem dX12_bareSize_44 : decode cX12_bareSize 44 = .ok (.goto (-40), 3) := by decide +kernel
theorem dX12_bareSize_47 : decode cX12_bareSize 47 = .ok (.iload_n 2, 1) := by decide +kernel
theorem dX12_bareSize_48 : decode cX12_bareSize 48 = .ok (.ireturn, 1) := by decide +kernel
theorem dX12_bareAt_0 : decode cX12_bareAt 0 = .ok (.iconst 0, 1) := by decide +kernel
theorem dX12_bareAt_1 : decode cX12_bareAt 1 = .ok (.istore_n 3, 1) := by decide +kernel
theorem dX12_bareAt_2 : decode cX12_bareAt 2 = .ok (.iconst 0, 1) := by decide +kernel
theorem dX12_bareAt_3 : decode cX12_bareAt 3 = .ok (.istore 4, 2) := by decide +kernel
theorem dX12_bareAt_5 : decode cX12_bareAt 5 = .ok (.iload 4, 2) := by decide +kernel
theorem dX12_bareAt_7 : decode cX12_bareAt 7 = .ok (.aload_n 0, 1) := by decide +kernel
theorem dX12_bareAt_8 : decode cX12_bareAt 8 = .ok (.getfield 13, 3) := by decide +kernel
theorem dX12_bareAt_11 : decode cX12_bareAt 11 = .ok (.iload_n 1, 1) := by decide +kernel
theorem dX12_bareAt_12 : decode cX12_bareAt 12 = .ok (.iaload, 1) := by decide +kernel
theorem dX12_bareAt_13 : decode cX12_bareAt 13 = .ok (.if_icmp .ge 56, 3) := by decide +kernel
theorem dX12_bareAt_16 : decode cX12_bareAt 16 = .ok (.aload_n 0, 1) := by decide +kernel
theorem dX12_bareAt_17 : decode cX12_bareAt 17 = .ok (.getfield 16, 3) := by decide +kernel
theorem dX12_bareAt_20 : decode cX12_bareAt 20 = .ok (.bipush 12, 2) := by decide +kernel
theorem dX12_bareAt_22 : decode cX12_bareAt 22 = .ok (.iload_n 1, 1) := by decide +kernel
theorem dX12_bareAt_23 : decode cX12_bareAt 23 = .ok (.imul, 1) := by decide +kernel
theorem dX12_bareAt_24 : decode cX12_bareAt 24 = .ok (.iload 4, 2) := by decide +kernel
theorem dX12_bareAt_26 : decode cX12_bareAt 26 = .ok (.iadd, 1) := by decide +kernel
theorem dX12_bareAt_27 : decode cX12_bareAt 27 = .ok (.iaload, 1) := by decide +kernel
theorem dX12_bareAt_28 : decode cX12_bareAt 28 = .ok (.istore 5, 2) := by decide +kernel
theorem dX12_bareAt_30 : decode cX12_bareAt 30 = .ok (.iload 5, 2) := by decide +kernel
theorem dX12_bareAt_32 : decode cX12_bareAt 32 = .ok (.bipush 95, 2) := by decide +kernel
theorem dX12_bareAt_34 : decode cX12_bareAt 34 = .ok (.if_icmp .eq 11, 3) := by decide +kernel
theorem dX12_bareAt_37 : decode cX12_bareAt 37 = .ok (.iload_n 3, 1) := by decide +kernel
theorem dX12_bareAt_38 : decode cX12_bareAt 38 = .ok (.iload_n 2, 1) := by decide +kernel
theorem dX12_bareAt_39 : decode cX12_bareAt 39 = .ok (.if_icmp .ne 6, 3) := by decide +kernel
theorem dX12_bareAt_42 : decode cX12_bareAt 42 = .ok (.iload 5, 2) := by decide +kernel
theorem dX12_bareAt_44 : decode cX12_bareAt 44 = .ok (.ireturn, 1) := by decide +kernel
theorem dX12_bareAt_45 : decode cX12_bareAt 45 = .ok (.iload_n 3, 1) := by decide +kernel
theorem dX12_bareAt_46 : decode cX12_bareAt 46 = .ok (.iload 5, 2) := by decide +kernel
theorem dX12_bareAt_48 : decode cX12_bareAt 48 = .ok (.bipush 95, 2) := by decide +kernel
theorem dX12_bareAt_50 : decode cX12_bareAt 50 = .ok (.if_icmp .eq 7, 3) := by decide +kernel
theorem dX12_bareAt_53 : decode cX12_bareAt 53 = .ok (.iconst 1, 1) := by decide +kernel
theorem dX12_bareAt_54 : decode cX12_bareAt 54 = .ok (.goto 4, 3) := by decide +kernel
theorem dX12_bareAt_57 : decode cX12_bareAt 57 = .ok (.iconst 0, 1) := by decide +kernel
theorem dX12_bareAt_58 : decode cX12_bareAt 58 = .ok (.invokestatic 271, 3) := by decide +kernel
theorem dX12_bareAt_61 : decode cX12_bareAt 61 = .ok (.iadd, 1) := by decide +kernel
theorem dX12_bareAt_62 : decode cX12_bareAt 62 = .ok (.istore_n 3, 1) := by decide +kernel
theorem dX12_bareAt_63 : decode cX12_bareAt 63 = .ok (.iinc 4 1, 3) := by decide +kernel
theorem dX12_bareAt_66 : decode cX12_bareAt 66 = .ok (.goto (-61), 3) := by decide +kernel
theorem dX12_bareAt_69 : decode cX12_bareAt 69 = .ok (.iconst 0, 1) := by decide +kernel
theorem dX12_bareAt_70 : decode cX12_bareAt 70 = .ok (.ireturn, 1) := by decide +kernel
theorem dX12_headAlike_0 : decode cX12_headAlike 0 = .ok (.iconst 0, 1) := by decide +kernel
theorem dX12_headAlike_1 : decode cX12_headAlike 1 = .ok (.istore_n 3, 1) := by decide +kernel
theorem dX12_headAlike_2 : decode cX12_headAlike 2 = .ok (.iload_n 3, 1) := by decide +kernel
theorem dX12_headAlike_3 : decode cX12_headAlike 3 = .ok (.aload_n 0, 1) := by decide +kernel
theorem dX12_headAlike_4 : decode cX12_headAlike 4 = .ok (.iload_n 1, 1) := by decide +kernel
theorem dX12_headAlike_5 : decode cX12_headAlike 5 = .ok (.invokevirtual 485, 3) := by decide +kernel
theorem dX12_headAlike_8 : decode cX12_headAlike 8 = .ok (.if_icmp .ge 33, 3) := by decide +kernel
theorem dX12_headAlike_11 : decode cX12_headAlike 11 = .ok (.iload_n 3, 1) := by decide +kernel
